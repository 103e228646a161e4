section
-- ===== PART A: goes FIRST, ahead of the names: the tables' words, and 'selects' of the private methods out of them =====
/-- a private method of a class that the tables say can be made, by its rows of tables_1 -/
def lw_okq (q : MethodName × Nat) : Prop := (q.1.cls ≠ "java/lang/invoke/MethodHandle" ∧ q.1.cls ≠ "java/lang/invoke/VarHandle") ∧ Cond.instantiable q.1.cls q.2 ∈ tables_1 ∧ Cond.privateMethod q.1 ∈ tables_1 ∧ Cond.instanceMethod q.1 ∈ tables_1
theorem lw_p0 : lw_okq (⟨"TiedViews", "sheetAt", "(I)LTiedViews$Sheet;"⟩, 10) := ⟨⟨by decide +kernel, by decide +kernel⟩, List.mem_of_getElem? (i := 23) (by decide +kernel), List.mem_of_getElem? (i := 493) (by decide +kernel), List.mem_of_getElem? (i := 494) (by decide +kernel)⟩
theorem lw_p1 : lw_okq (⟨"TiedViews", "found", "(I)I"⟩, 10) := ⟨⟨by decide +kernel, by decide +kernel⟩, List.mem_of_getElem? (i := 23) (by decide +kernel), List.mem_of_getElem? (i := 498) (by decide +kernel), List.mem_of_getElem? (i := 499) (by decide +kernel)⟩
theorem lw_p2 : lw_okq (⟨"TiedViews", "passed", "(I)I"⟩, 10) := ⟨⟨by decide +kernel, by decide +kernel⟩, List.mem_of_getElem? (i := 23) (by decide +kernel), List.mem_of_getElem? (i := 508) (by decide +kernel), List.mem_of_getElem? (i := 509) (by decide +kernel)⟩
theorem lw_p3 : lw_okq (⟨"TiedViews$Sheet", "cut", "(I)I"⟩, 3) := ⟨⟨by decide +kernel, by decide +kernel⟩, List.mem_of_getElem? (i := 35) (by decide +kernel), List.mem_of_getElem? (i := 530) (by decide +kernel), List.mem_of_getElem? (i := 531) (by decide +kernel)⟩
theorem lw_p4 : lw_okq (⟨"TiedViews$Reader", "goOn", "()V"⟩, 9) := ⟨⟨by decide +kernel, by decide +kernel⟩, List.mem_of_getElem? (i := 221) (by decide +kernel), List.mem_of_getElem? (i := 570) (by decide +kernel), List.mem_of_getElem? (i := 571) (by decide +kernel)⟩
theorem lw_p5 : lw_okq (⟨"TiedViews$Reader", "passRun", "(CC)Z"⟩, 9) := ⟨⟨by decide +kernel, by decide +kernel⟩, List.mem_of_getElem? (i := 221) (by decide +kernel), List.mem_of_getElem? (i := 574) (by decide +kernel), List.mem_of_getElem? (i := 575) (by decide +kernel)⟩
theorem lw_p6 : lw_okq (⟨"TiedViews$Reader", "figuresValue", "()I"⟩, 9) := ⟨⟨by decide +kernel, by decide +kernel⟩, List.mem_of_getElem? (i := 221) (by decide +kernel), List.mem_of_getElem? (i := 578) (by decide +kernel), List.mem_of_getElem? (i := 579) (by decide +kernel)⟩
theorem lw_p7 : lw_okq (⟨"TiedViews$Reader", "takeSentence", "()Z"⟩, 9) := ⟨⟨by decide +kernel, by decide +kernel⟩, List.mem_of_getElem? (i := 221) (by decide +kernel), List.mem_of_getElem? (i := 582) (by decide +kernel), List.mem_of_getElem? (i := 583) (by decide +kernel)⟩
theorem lw_p8 : lw_okq (⟨"TiedViews$Reader", "isWord", "(Ljava/lang/String;)Z"⟩, 9) := ⟨⟨by decide +kernel, by decide +kernel⟩, List.mem_of_getElem? (i := 221) (by decide +kernel), List.mem_of_getElem? (i := 587) (by decide +kernel), List.mem_of_getElem? (i := 588) (by decide +kernel)⟩
theorem lw_p9 : lw_okq (⟨"TiedViews$Reader", "takeEyeSentence", "()Z"⟩, 9) := ⟨⟨by decide +kernel, by decide +kernel⟩, List.mem_of_getElem? (i := 221) (by decide +kernel), List.mem_of_getElem? (i := 639) (by decide +kernel), List.mem_of_getElem? (i := 640) (by decide +kernel)⟩
theorem lw_p10 : lw_okq (⟨"TiedViews$Reader", "fails", "(I)Z"⟩, 9) := ⟨⟨by decide +kernel, by decide +kernel⟩, List.mem_of_getElem? (i := 221) (by decide +kernel), List.mem_of_getElem? (i := 643) (by decide +kernel), List.mem_of_getElem? (i := 644) (by decide +kernel)⟩
theorem lw_p11 : lw_okq (⟨"TiedViews$Reader", "takeSort", "()Z"⟩, 9) := ⟨⟨by decide +kernel, by decide +kernel⟩, List.mem_of_getElem? (i := 221) (by decide +kernel), List.mem_of_getElem? (i := 647) (by decide +kernel), List.mem_of_getElem? (i := 648) (by decide +kernel)⟩
theorem lw_p12 : lw_okq (⟨"TiedViews$Reader", "takeNumber", "(II)Z"⟩, 9) := ⟨⟨by decide +kernel, by decide +kernel⟩, List.mem_of_getElem? (i := 221) (by decide +kernel), List.mem_of_getElem? (i := 655) (by decide +kernel), List.mem_of_getElem? (i := 656) (by decide +kernel)⟩
theorem lw_p13 : lw_okq (⟨"TiedViews$Reader", "takeSign", "(C)Z"⟩, 9) := ⟨⟨by decide +kernel, by decide +kernel⟩, List.mem_of_getElem? (i := 221) (by decide +kernel), List.mem_of_getElem? (i := 659) (by decide +kernel), List.mem_of_getElem? (i := 660) (by decide +kernel)⟩
theorem lw_p14 : lw_okq (⟨"TiedViews$Reader", "takeTieSentence", "()Z"⟩, 9) := ⟨⟨by decide +kernel, by decide +kernel⟩, List.mem_of_getElem? (i := 221) (by decide +kernel), List.mem_of_getElem? (i := 676) (by decide +kernel), List.mem_of_getElem? (i := 677) (by decide +kernel)⟩
theorem lw_p15 : lw_okq (⟨"TiedViews$Reader", "takeEyes", "(LTiedViews$Tie;)Z"⟩, 9) := ⟨⟨by decide +kernel, by decide +kernel⟩, List.mem_of_getElem? (i := 221) (by decide +kernel), List.mem_of_getElem? (i := 684) (by decide +kernel), List.mem_of_getElem? (i := 685) (by decide +kernel)⟩
def lw_privs_1 : List (MethodName × Nat) := [(⟨"TiedViews", "sheetAt", "(I)LTiedViews$Sheet;"⟩, 10), (⟨"TiedViews", "found", "(I)I"⟩, 10), (⟨"TiedViews", "passed", "(I)I"⟩, 10), (⟨"TiedViews$Sheet", "cut", "(I)I"⟩, 3), (⟨"TiedViews$Reader", "goOn", "()V"⟩, 9), (⟨"TiedViews$Reader", "passRun", "(CC)Z"⟩, 9), (⟨"TiedViews$Reader", "figuresValue", "()I"⟩, 9), (⟨"TiedViews$Reader", "takeSentence", "()Z"⟩, 9), (⟨"TiedViews$Reader", "isWord", "(Ljava/lang/String;)Z"⟩, 9), (⟨"TiedViews$Reader", "takeEyeSentence", "()Z"⟩, 9), (⟨"TiedViews$Reader", "fails", "(I)Z"⟩, 9), (⟨"TiedViews$Reader", "takeSort", "()Z"⟩, 9), (⟨"TiedViews$Reader", "takeNumber", "(II)Z"⟩, 9), (⟨"TiedViews$Reader", "takeSign", "(C)Z"⟩, 9), (⟨"TiedViews$Reader", "takeTieSentence", "()Z"⟩, 9), (⟨"TiedViews$Reader", "takeEyes", "(LTiedViews$Tie;)Z"⟩, 9)]
theorem lw_r1 : ∀ q ∈ lw_privs_1, lw_okq q := List.forall_mem_cons.mpr ⟨lw_p0, List.forall_mem_cons.mpr ⟨lw_p1, List.forall_mem_cons.mpr ⟨lw_p2, List.forall_mem_cons.mpr ⟨lw_p3, List.forall_mem_cons.mpr ⟨lw_p4, List.forall_mem_cons.mpr ⟨lw_p5, List.forall_mem_cons.mpr ⟨lw_p6, List.forall_mem_cons.mpr ⟨lw_p7, List.forall_mem_cons.mpr ⟨lw_p8, List.forall_mem_cons.mpr ⟨lw_p9, List.forall_mem_cons.mpr ⟨lw_p10, List.forall_mem_cons.mpr ⟨lw_p11, List.forall_mem_cons.mpr ⟨lw_p12, List.forall_mem_cons.mpr ⟨lw_p13, List.forall_mem_cons.mpr ⟨lw_p14, List.forall_mem_cons.mpr ⟨lw_p15, fun _ h => absurd h List.not_mem_nil⟩⟩⟩⟩⟩⟩⟩⟩⟩⟩⟩⟩⟩⟩⟩⟩
theorem lw_p16 : lw_okq (⟨"TiedViews$Reader", "takeEye", "(ZI)Z"⟩, 9) := ⟨⟨by decide +kernel, by decide +kernel⟩, List.mem_of_getElem? (i := 221) (by decide +kernel), List.mem_of_getElem? (i := 689) (by decide +kernel), List.mem_of_getElem? (i := 690) (by decide +kernel)⟩
theorem lw_p17 : lw_okq (⟨"TiedViews$Reader", "takeWord", "(Ljava/lang/String;)Z"⟩, 9) := ⟨⟨by decide +kernel, by decide +kernel⟩, List.mem_of_getElem? (i := 221) (by decide +kernel), List.mem_of_getElem? (i := 702) (by decide +kernel), List.mem_of_getElem? (i := 703) (by decide +kernel)⟩
theorem lw_p18 : lw_okq (⟨"TiedViews$Reader", "takeTable", "(LTiedViews$Tie;I)Z"⟩, 9) := ⟨⟨by decide +kernel, by decide +kernel⟩, List.mem_of_getElem? (i := 221) (by decide +kernel), List.mem_of_getElem? (i := 706) (by decide +kernel), List.mem_of_getElem? (i := 707) (by decide +kernel)⟩
theorem lw_p19 : lw_okq (⟨"TiedViews$Reader", "takeBarSentence", "()Z"⟩, 9) := ⟨⟨by decide +kernel, by decide +kernel⟩, List.mem_of_getElem? (i := 221) (by decide +kernel), List.mem_of_getElem? (i := 726) (by decide +kernel), List.mem_of_getElem? (i := 727) (by decide +kernel)⟩
theorem lw_p20 : lw_okq (⟨"TiedViews$Reader", "takeValueOf", "(I)Z"⟩, 9) := ⟨⟨by decide +kernel, by decide +kernel⟩, List.mem_of_getElem? (i := 221) (by decide +kernel), List.mem_of_getElem? (i := 730) (by decide +kernel), List.mem_of_getElem? (i := 731) (by decide +kernel)⟩
theorem lw_p21 : lw_okq (⟨"TiedViews$Agreement", "addLines", "(LTiedViews$Steps;IZ)V"⟩, 5) := ⟨⟨by decide +kernel, by decide +kernel⟩, List.mem_of_getElem? (i := 258) (by decide +kernel), List.mem_of_getElem? (i := 758) (by decide +kernel), List.mem_of_getElem? (i := 759) (by decide +kernel)⟩
theorem lw_p22 : lw_okq (⟨"TiedViews$Steps", "leastLineAt", "(I)I"⟩, 11) := ⟨⟨by decide +kernel, by decide +kernel⟩, List.mem_of_getElem? (i := 264) (by decide +kernel), List.mem_of_getElem? (i := 779) (by decide +kernel), List.mem_of_getElem? (i := 780) (by decide +kernel)⟩
theorem lw_p23 : lw_okq (⟨"TiedViews$Steps", "makeOneAt", "(II)V"⟩, 11) := ⟨⟨by decide +kernel, by decide +kernel⟩, List.mem_of_getElem? (i := 264) (by decide +kernel), List.mem_of_getElem? (i := 783) (by decide +kernel), List.mem_of_getElem? (i := 784) (by decide +kernel)⟩
theorem lw_p24 : lw_okq (⟨"TiedViews$Steps", "takeOffOthers", "(II)V"⟩, 11) := ⟨⟨by decide +kernel, by decide +kernel⟩, List.mem_of_getElem? (i := 264) (by decide +kernel), List.mem_of_getElem? (i := 792) (by decide +kernel), List.mem_of_getElem? (i := 793) (by decide +kernel)⟩
theorem lw_p25 : lw_okq (⟨"TiedViews$Choices", "bar", "(IIII)V"⟩, 7) := ⟨⟨by decide +kernel, by decide +kernel⟩, List.mem_of_getElem? (i := 412) (by decide +kernel), List.mem_of_getElem? (i := 808) (by decide +kernel), List.mem_of_getElem? (i := 809) (by decide +kernel)⟩
theorem lw_p26 : lw_okq (⟨"TiedViews", "forgetReadings", "()V"⟩, 10) := ⟨⟨by decide +kernel, by decide +kernel⟩, List.mem_of_getElem? (i := 23) (by decide +kernel), List.mem_of_getElem? (i := 885) (by decide +kernel), List.mem_of_getElem? (i := 886) (by decide +kernel)⟩
theorem lw_p27 : lw_okq (⟨"TiedViews$Agreement", "learnFill", "()V"⟩, 5) := ⟨⟨by decide +kernel, by decide +kernel⟩, List.mem_of_getElem? (i := 258) (by decide +kernel), List.mem_of_getElem? (i := 905) (by decide +kernel), List.mem_of_getElem? (i := 906) (by decide +kernel)⟩
theorem lw_p28 : lw_okq (⟨"TiedViews$Agreement", "addReadings", "()V"⟩, 5) := ⟨⟨by decide +kernel, by decide +kernel⟩, List.mem_of_getElem? (i := 258) (by decide +kernel), List.mem_of_getElem? (i := 909) (by decide +kernel), List.mem_of_getElem? (i := 910) (by decide +kernel)⟩
theorem lw_p29 : lw_okq (⟨"TiedViews$Agreement", "noLineWantsTheImpossible", "()Z"⟩, 5) := ⟨⟨by decide +kernel, by decide +kernel⟩, List.mem_of_getElem? (i := 258) (by decide +kernel), List.mem_of_getElem? (i := 913) (by decide +kernel), List.mem_of_getElem? (i := 914) (by decide +kernel)⟩
theorem lw_p30 : lw_okq (⟨"TiedViews$Dropping", "searchFrom", "(II)V"⟩, 9) := ⟨⟨by decide +kernel, by decide +kernel⟩, List.mem_of_getElem? (i := 324) (by decide +kernel), List.mem_of_getElem? (i := 948) (by decide +kernel), List.mem_of_getElem? (i := 949) (by decide +kernel)⟩
theorem lw_p31 : lw_okq (⟨"TiedViews$Dropping", "addReading", "(LTiedViews$Eye;)Z"⟩, 9) := ⟨⟨by decide +kernel, by decide +kernel⟩, List.mem_of_getElem? (i := 324) (by decide +kernel), List.mem_of_getElem? (i := 959) (by decide +kernel), List.mem_of_getElem? (i := 960) (by decide +kernel)⟩
def lw_privs_2 : List (MethodName × Nat) := [(⟨"TiedViews$Reader", "takeEye", "(ZI)Z"⟩, 9), (⟨"TiedViews$Reader", "takeWord", "(Ljava/lang/String;)Z"⟩, 9), (⟨"TiedViews$Reader", "takeTable", "(LTiedViews$Tie;I)Z"⟩, 9), (⟨"TiedViews$Reader", "takeBarSentence", "()Z"⟩, 9), (⟨"TiedViews$Reader", "takeValueOf", "(I)Z"⟩, 9), (⟨"TiedViews$Agreement", "addLines", "(LTiedViews$Steps;IZ)V"⟩, 5), (⟨"TiedViews$Steps", "leastLineAt", "(I)I"⟩, 11), (⟨"TiedViews$Steps", "makeOneAt", "(II)V"⟩, 11), (⟨"TiedViews$Steps", "takeOffOthers", "(II)V"⟩, 11), (⟨"TiedViews$Choices", "bar", "(IIII)V"⟩, 7), (⟨"TiedViews", "forgetReadings", "()V"⟩, 10), (⟨"TiedViews$Agreement", "learnFill", "()V"⟩, 5), (⟨"TiedViews$Agreement", "addReadings", "()V"⟩, 5), (⟨"TiedViews$Agreement", "noLineWantsTheImpossible", "()Z"⟩, 5), (⟨"TiedViews$Dropping", "searchFrom", "(II)V"⟩, 9), (⟨"TiedViews$Dropping", "addReading", "(LTiedViews$Eye;)Z"⟩, 9)]
theorem lw_r2 : ∀ q ∈ lw_privs_2, lw_okq q := List.forall_mem_cons.mpr ⟨lw_p16, List.forall_mem_cons.mpr ⟨lw_p17, List.forall_mem_cons.mpr ⟨lw_p18, List.forall_mem_cons.mpr ⟨lw_p19, List.forall_mem_cons.mpr ⟨lw_p20, List.forall_mem_cons.mpr ⟨lw_p21, List.forall_mem_cons.mpr ⟨lw_p22, List.forall_mem_cons.mpr ⟨lw_p23, List.forall_mem_cons.mpr ⟨lw_p24, List.forall_mem_cons.mpr ⟨lw_p25, List.forall_mem_cons.mpr ⟨lw_p26, List.forall_mem_cons.mpr ⟨lw_p27, List.forall_mem_cons.mpr ⟨lw_p28, List.forall_mem_cons.mpr ⟨lw_p29, List.forall_mem_cons.mpr ⟨lw_p30, List.forall_mem_cons.mpr ⟨lw_p31, fun _ h => absurd h List.not_mem_nil⟩⟩⟩⟩⟩⟩⟩⟩⟩⟩⟩⟩⟩⟩⟩⟩
theorem lw_p32 : lw_okq (⟨"TiedViews$Dropping", "addEquation", "(II)Z"⟩, 9) := ⟨⟨by decide +kernel, by decide +kernel⟩, List.mem_of_getElem? (i := 324) (by decide +kernel), List.mem_of_getElem? (i := 963) (by decide +kernel), List.mem_of_getElem? (i := 964) (by decide +kernel)⟩
theorem lw_p33 : lw_okq (⟨"TiedViews$Dropping", "takeOffOthers", "([I)V"⟩, 9) := ⟨⟨by decide +kernel, by decide +kernel⟩, List.mem_of_getElem? (i := 324) (by decide +kernel), List.mem_of_getElem? (i := 968) (by decide +kernel), List.mem_of_getElem? (i := 969) (by decide +kernel)⟩
theorem lw_p34 : lw_okq (⟨"TiedViews$Dropping", "firstNotNought", "([I)I"⟩, 9) := ⟨⟨by decide +kernel, by decide +kernel⟩, List.mem_of_getElem? (i := 324) (by decide +kernel), List.mem_of_getElem? (i := 973) (by decide +kernel), List.mem_of_getElem? (i := 974) (by decide +kernel)⟩
theorem lw_p35 : lw_okq (⟨"TiedViews$Agreement", "wantOf", "(ILTiedViews$Sheet;I)I"⟩, 5) := ⟨⟨by decide +kernel, by decide +kernel⟩, List.mem_of_getElem? (i := 258) (by decide +kernel), List.mem_of_getElem? (i := 988) (by decide +kernel), List.mem_of_getElem? (i := 989) (by decide +kernel)⟩
theorem lw_p36 : lw_okq (⟨"TiedViews$Hearsay", "hearAll", "([I)V"⟩, 13) := ⟨⟨by decide +kernel, by decide +kernel⟩, List.mem_of_getElem? (i := 359) (by decide +kernel), List.mem_of_getElem? (i := 1041) (by decide +kernel), List.mem_of_getElem? (i := 1042) (by decide +kernel)⟩
theorem lw_p37 : lw_okq (⟨"TiedViews$Hearsay", "hearOne", "(LTiedViews$Eye;[I)V"⟩, 13) := ⟨⟨by decide +kernel, by decide +kernel⟩, List.mem_of_getElem? (i := 359) (by decide +kernel), List.mem_of_getElem? (i := 1046) (by decide +kernel), List.mem_of_getElem? (i := 1047) (by decide +kernel)⟩
theorem lw_p38 : lw_okq (⟨"TiedViews$Hearsay", "settle", "()V"⟩, 13) := ⟨⟨by decide +kernel, by decide +kernel⟩, List.mem_of_getElem? (i := 359) (by decide +kernel), List.mem_of_getElem? (i := 1070) (by decide +kernel), List.mem_of_getElem? (i := 1071) (by decide +kernel)⟩
theorem lw_p39 : lw_okq (⟨"TiedViews$Hearsay", "packed", "(I)J"⟩, 13) := ⟨⟨by decide +kernel, by decide +kernel⟩, List.mem_of_getElem? (i := 359) (by decide +kernel), List.mem_of_getElem? (i := 1074) (by decide +kernel), List.mem_of_getElem? (i := 1075) (by decide +kernel)⟩
theorem lw_p40 : lw_okq (⟨"TiedViews$Hearsay", "firstLike", "(I)I"⟩, 13) := ⟨⟨by decide +kernel, by decide +kernel⟩, List.mem_of_getElem? (i := 359) (by decide +kernel), List.mem_of_getElem? (i := 1078) (by decide +kernel), List.mem_of_getElem? (i := 1079) (by decide +kernel)⟩
theorem lw_p41 : lw_okq (⟨"TiedViews$Choices", "narrowOne", "(I)I"⟩, 7) := ⟨⟨by decide +kernel, by decide +kernel⟩, List.mem_of_getElem? (i := 412) (by decide +kernel), List.mem_of_getElem? (i := 1100) (by decide +kernel), List.mem_of_getElem? (i := 1101) (by decide +kernel)⟩
theorem lw_p42 : lw_okq (⟨"TiedViews$Choices", "goesWithAll", "(II)Z"⟩, 7) := ⟨⟨by decide +kernel, by decide +kernel⟩, List.mem_of_getElem? (i := 412) (by decide +kernel), List.mem_of_getElem? (i := 1105) (by decide +kernel), List.mem_of_getElem? (i := 1106) (by decide +kernel)⟩
theorem lw_p43 : lw_okq (⟨"TiedViews$Choices", "waysFrom", "(I)I"⟩, 7) := ⟨⟨by decide +kernel, by decide +kernel⟩, List.mem_of_getElem? (i := 412) (by decide +kernel), List.mem_of_getElem? (i := 1118) (by decide +kernel), List.mem_of_getElem? (i := 1119) (by decide +kernel)⟩
theorem lw_p44 : lw_okq (⟨"TiedViews$Choices", "leavesLaterOpen", "(II)Z"⟩, 7) := ⟨⟨by decide +kernel, by decide +kernel⟩, List.mem_of_getElem? (i := 412) (by decide +kernel), List.mem_of_getElem? (i := 1125) (by decide +kernel), List.mem_of_getElem? (i := 1126) (by decide +kernel)⟩
theorem lw_p45 : lw_okq (⟨"TiedViews$Choices", "findFirst", "(I)Z"⟩, 7) := ⟨⟨by decide +kernel, by decide +kernel⟩, List.mem_of_getElem? (i := 412) (by decide +kernel), List.mem_of_getElem? (i := 1129) (by decide +kernel), List.mem_of_getElem? (i := 1130) (by decide +kernel)⟩
theorem lw_p46 : lw_okq (⟨"TiedViews$Bodies", "answerAnew", "(LTiedViews$Eye;II)I"⟩, 3) := ⟨⟨by decide +kernel, by decide +kernel⟩, List.mem_of_getElem? (i := 442) (by decide +kernel), List.mem_of_getElem? (i := 1165) (by decide +kernel), List.mem_of_getElem? (i := 1166) (by decide +kernel)⟩
theorem lw_p47 : lw_okq (⟨"TiedViews$Bodies", "give", "(LTiedViews$Eye;II)I"⟩, 3) := ⟨⟨by decide +kernel, by decide +kernel⟩, List.mem_of_getElem? (i := 442) (by decide +kernel), List.mem_of_getElem? (i := 1176) (by decide +kernel), List.mem_of_getElem? (i := 1177) (by decide +kernel)⟩
def lw_privs_3 : List (MethodName × Nat) := [(⟨"TiedViews$Dropping", "addEquation", "(II)Z"⟩, 9), (⟨"TiedViews$Dropping", "takeOffOthers", "([I)V"⟩, 9), (⟨"TiedViews$Dropping", "firstNotNought", "([I)I"⟩, 9), (⟨"TiedViews$Agreement", "wantOf", "(ILTiedViews$Sheet;I)I"⟩, 5), (⟨"TiedViews$Hearsay", "hearAll", "([I)V"⟩, 13), (⟨"TiedViews$Hearsay", "hearOne", "(LTiedViews$Eye;[I)V"⟩, 13), (⟨"TiedViews$Hearsay", "settle", "()V"⟩, 13), (⟨"TiedViews$Hearsay", "packed", "(I)J"⟩, 13), (⟨"TiedViews$Hearsay", "firstLike", "(I)I"⟩, 13), (⟨"TiedViews$Choices", "narrowOne", "(I)I"⟩, 7), (⟨"TiedViews$Choices", "goesWithAll", "(II)Z"⟩, 7), (⟨"TiedViews$Choices", "waysFrom", "(I)I"⟩, 7), (⟨"TiedViews$Choices", "leavesLaterOpen", "(II)Z"⟩, 7), (⟨"TiedViews$Choices", "findFirst", "(I)Z"⟩, 7), (⟨"TiedViews$Bodies", "answerAnew", "(LTiedViews$Eye;II)I"⟩, 3), (⟨"TiedViews$Bodies", "give", "(LTiedViews$Eye;II)I"⟩, 3)]
theorem lw_r3 : ∀ q ∈ lw_privs_3, lw_okq q := List.forall_mem_cons.mpr ⟨lw_p32, List.forall_mem_cons.mpr ⟨lw_p33, List.forall_mem_cons.mpr ⟨lw_p34, List.forall_mem_cons.mpr ⟨lw_p35, List.forall_mem_cons.mpr ⟨lw_p36, List.forall_mem_cons.mpr ⟨lw_p37, List.forall_mem_cons.mpr ⟨lw_p38, List.forall_mem_cons.mpr ⟨lw_p39, List.forall_mem_cons.mpr ⟨lw_p40, List.forall_mem_cons.mpr ⟨lw_p41, List.forall_mem_cons.mpr ⟨lw_p42, List.forall_mem_cons.mpr ⟨lw_p43, List.forall_mem_cons.mpr ⟨lw_p44, List.forall_mem_cons.mpr ⟨lw_p45, List.forall_mem_cons.mpr ⟨lw_p46, List.forall_mem_cons.mpr ⟨lw_p47, fun _ h => absurd h List.not_mem_nil⟩⟩⟩⟩⟩⟩⟩⟩⟩⟩⟩⟩⟩⟩⟩⟩
theorem lw_p48 : lw_okq (⟨"TiedViews$Bodies", "leaveTrace", "(I)V"⟩, 3) := ⟨⟨by decide +kernel, by decide +kernel⟩, List.mem_of_getElem? (i := 442) (by decide +kernel), List.mem_of_getElem? (i := 1180) (by decide +kernel), List.mem_of_getElem? (i := 1181) (by decide +kernel)⟩
theorem lw_p49 : lw_okq (⟨"TiedViews", "sheetsThere", "()I"⟩, 10) := ⟨⟨by decide +kernel, by decide +kernel⟩, List.mem_of_getElem? (i := 23) (by decide +kernel), List.mem_of_getElem? (i := 1199) (by decide +kernel), List.mem_of_getElem? (i := 1200) (by decide +kernel)⟩
theorem lw_p50 : lw_okq (⟨"TiedViewsModel", "finding", "(I)I"⟩, 55) := ⟨⟨by decide +kernel, by decide +kernel⟩, List.mem_of_getElem? (i := 1218) (by decide +kernel), List.mem_of_getElem? (i := 1403) (by decide +kernel), List.mem_of_getElem? (i := 1404) (by decide +kernel)⟩
theorem lw_p51 : lw_okq (⟨"TiedViewsModel", "step", "()V"⟩, 55) := ⟨⟨by decide +kernel, by decide +kernel⟩, List.mem_of_getElem? (i := 1218) (by decide +kernel), List.mem_of_getElem? (i := 1431) (by decide +kernel), List.mem_of_getElem? (i := 1432) (by decide +kernel)⟩
theorem lw_p52 : lw_okq (⟨"TiedViewsModel", "byteAt", "(I)I"⟩, 55) := ⟨⟨by decide +kernel, by decide +kernel⟩, List.mem_of_getElem? (i := 1218) (by decide +kernel), List.mem_of_getElem? (i := 1435) (by decide +kernel), List.mem_of_getElem? (i := 1436) (by decide +kernel)⟩
theorem lw_p53 : lw_okq (⟨"TiedViewsModel", "word", "()J"⟩, 55) := ⟨⟨by decide +kernel, by decide +kernel⟩, List.mem_of_getElem? (i := 1218) (by decide +kernel), List.mem_of_getElem? (i := 1446) (by decide +kernel), List.mem_of_getElem? (i := 1447) (by decide +kernel)⟩
theorem lw_p54 : lw_okq (⟨"TiedViewsModel", "bad", "(I)V"⟩, 55) := ⟨⟨by decide +kernel, by decide +kernel⟩, List.mem_of_getElem? (i := 1218) (by decide +kernel), List.mem_of_getElem? (i := 1453) (by decide +kernel), List.mem_of_getElem? (i := 1454) (by decide +kernel)⟩
theorem lw_p55 : lw_okq (⟨"TiedViewsModel", "must", "(Z)V"⟩, 55) := ⟨⟨by decide +kernel, by decide +kernel⟩, List.mem_of_getElem? (i := 1218) (by decide +kernel), List.mem_of_getElem? (i := 1457) (by decide +kernel), List.mem_of_getElem? (i := 1458) (by decide +kernel)⟩
theorem lw_p56 : lw_okq (⟨"TiedViewsModel", "readEye", "()V"⟩, 55) := ⟨⟨by decide +kernel, by decide +kernel⟩, List.mem_of_getElem? (i := 1218) (by decide +kernel), List.mem_of_getElem? (i := 1461) (by decide +kernel), List.mem_of_getElem? (i := 1462) (by decide +kernel)⟩
theorem lw_p57 : lw_okq (⟨"TiedViewsModel", "numberIn", "(II)I"⟩, 55) := ⟨⟨by decide +kernel, by decide +kernel⟩, List.mem_of_getElem? (i := 1218) (by decide +kernel), List.mem_of_getElem? (i := 1469) (by decide +kernel), List.mem_of_getElem? (i := 1470) (by decide +kernel)⟩
theorem lw_p58 : lw_okq (⟨"TiedViewsModel", "numberHere", "()I"⟩, 55) := ⟨⟨by decide +kernel, by decide +kernel⟩, List.mem_of_getElem? (i := 1218) (by decide +kernel), List.mem_of_getElem? (i := 1473) (by decide +kernel), List.mem_of_getElem? (i := 1474) (by decide +kernel)⟩
theorem lw_p59 : lw_okq (⟨"TiedViewsModel", "readTie", "()V"⟩, 55) := ⟨⟨by decide +kernel, by decide +kernel⟩, List.mem_of_getElem? (i := 1218) (by decide +kernel), List.mem_of_getElem? (i := 1477) (by decide +kernel), List.mem_of_getElem? (i := 1478) (by decide +kernel)⟩
theorem lw_p60 : lw_okq (⟨"TiedViewsModel", "eyeHere", "(ZI)I"⟩, 55) := ⟨⟨by decide +kernel, by decide +kernel⟩, List.mem_of_getElem? (i := 1218) (by decide +kernel), List.mem_of_getElem? (i := 1481) (by decide +kernel), List.mem_of_getElem? (i := 1482) (by decide +kernel)⟩
theorem lw_p61 : lw_okq (⟨"TiedViewsModel", "readTable", "(III)V"⟩, 55) := ⟨⟨by decide +kernel, by decide +kernel⟩, List.mem_of_getElem? (i := 1218) (by decide +kernel), List.mem_of_getElem? (i := 1486) (by decide +kernel), List.mem_of_getElem? (i := 1487) (by decide +kernel)⟩
theorem lw_p62 : lw_okq (⟨"TiedViewsModel", "is", "(I)Z"⟩, 55) := ⟨⟨by decide +kernel, by decide +kernel⟩, List.mem_of_getElem? (i := 1218) (by decide +kernel), List.mem_of_getElem? (i := 1490) (by decide +kernel), List.mem_of_getElem? (i := 1491) (by decide +kernel)⟩
theorem lw_p63 : lw_okq (⟨"TiedViewsModel", "readBar", "()V"⟩, 55) := ⟨⟨by decide +kernel, by decide +kernel⟩, List.mem_of_getElem? (i := 1218) (by decide +kernel), List.mem_of_getElem? (i := 1495) (by decide +kernel), List.mem_of_getElem? (i := 1496) (by decide +kernel)⟩
def lw_privs_4 : List (MethodName × Nat) := [(⟨"TiedViews$Bodies", "leaveTrace", "(I)V"⟩, 3), (⟨"TiedViews", "sheetsThere", "()I"⟩, 10), (⟨"TiedViewsModel", "finding", "(I)I"⟩, 55), (⟨"TiedViewsModel", "step", "()V"⟩, 55), (⟨"TiedViewsModel", "byteAt", "(I)I"⟩, 55), (⟨"TiedViewsModel", "word", "()J"⟩, 55), (⟨"TiedViewsModel", "bad", "(I)V"⟩, 55), (⟨"TiedViewsModel", "must", "(Z)V"⟩, 55), (⟨"TiedViewsModel", "readEye", "()V"⟩, 55), (⟨"TiedViewsModel", "numberIn", "(II)I"⟩, 55), (⟨"TiedViewsModel", "numberHere", "()I"⟩, 55), (⟨"TiedViewsModel", "readTie", "()V"⟩, 55), (⟨"TiedViewsModel", "eyeHere", "(ZI)I"⟩, 55), (⟨"TiedViewsModel", "readTable", "(III)V"⟩, 55), (⟨"TiedViewsModel", "is", "(I)Z"⟩, 55), (⟨"TiedViewsModel", "readBar", "()V"⟩, 55)]
theorem lw_r4 : ∀ q ∈ lw_privs_4, lw_okq q := List.forall_mem_cons.mpr ⟨lw_p48, List.forall_mem_cons.mpr ⟨lw_p49, List.forall_mem_cons.mpr ⟨lw_p50, List.forall_mem_cons.mpr ⟨lw_p51, List.forall_mem_cons.mpr ⟨lw_p52, List.forall_mem_cons.mpr ⟨lw_p53, List.forall_mem_cons.mpr ⟨lw_p54, List.forall_mem_cons.mpr ⟨lw_p55, List.forall_mem_cons.mpr ⟨lw_p56, List.forall_mem_cons.mpr ⟨lw_p57, List.forall_mem_cons.mpr ⟨lw_p58, List.forall_mem_cons.mpr ⟨lw_p59, List.forall_mem_cons.mpr ⟨lw_p60, List.forall_mem_cons.mpr ⟨lw_p61, List.forall_mem_cons.mpr ⟨lw_p62, List.forall_mem_cons.mpr ⟨lw_p63, fun _ h => absurd h List.not_mem_nil⟩⟩⟩⟩⟩⟩⟩⟩⟩⟩⟩⟩⟩⟩⟩⟩
theorem lw_p64 : lw_okq (⟨"TiedViewsModel", "isEye", "(I)Z"⟩, 55) := ⟨⟨by decide +kernel, by decide +kernel⟩, List.mem_of_getElem? (i := 1218) (by decide +kernel), List.mem_of_getElem? (i := 1508) (by decide +kernel), List.mem_of_getElem? (i := 1509) (by decide +kernel)⟩
theorem lw_p65 : lw_okq (⟨"TiedViewsModel", "tiesOf", "(I)I"⟩, 55) := ⟨⟨by decide +kernel, by decide +kernel⟩, List.mem_of_getElem? (i := 1218) (by decide +kernel), List.mem_of_getElem? (i := 1513) (by decide +kernel), List.mem_of_getElem? (i := 1514) (by decide +kernel)⟩
theorem lw_p66 : lw_okq (⟨"TiedViewsModel", "layTies", "(I)V"⟩, 55) := ⟨⟨by decide +kernel, by decide +kernel⟩, List.mem_of_getElem? (i := 1218) (by decide +kernel), List.mem_of_getElem? (i := 1522) (by decide +kernel), List.mem_of_getElem? (i := 1523) (by decide +kernel)⟩
theorem lw_p67 : lw_okq (⟨"TiedViewsModel", "addLine", "()V"⟩, 55) := ⟨⟨by decide +kernel, by decide +kernel⟩, List.mem_of_getElem? (i := 1218) (by decide +kernel), List.mem_of_getElem? (i := 1526) (by decide +kernel), List.mem_of_getElem? (i := 1527) (by decide +kernel)⟩
theorem lw_p68 : lw_okq (⟨"TiedViewsModel", "takeSteps", "()V"⟩, 55) := ⟨⟨by decide +kernel, by decide +kernel⟩, List.mem_of_getElem? (i := 1218) (by decide +kernel), List.mem_of_getElem? (i := 1530) (by decide +kernel), List.mem_of_getElem? (i := 1531) (by decide +kernel)⟩
theorem lw_p69 : lw_okq (⟨"TiedViewsModel", "turned", "(I)I"⟩, 55) := ⟨⟨by decide +kernel, by decide +kernel⟩, List.mem_of_getElem? (i := 1218) (by decide +kernel), List.mem_of_getElem? (i := 1534) (by decide +kernel), List.mem_of_getElem? (i := 1535) (by decide +kernel)⟩
theorem lw_p70 : lw_okq (⟨"TiedViewsModel", "leaders", "()I"⟩, 55) := ⟨⟨by decide +kernel, by decide +kernel⟩, List.mem_of_getElem? (i := 1218) (by decide +kernel), List.mem_of_getElem? (i := 1538) (by decide +kernel), List.mem_of_getElem? (i := 1539) (by decide +kernel)⟩
theorem lw_p71 : lw_okq (⟨"TiedViewsModel", "isColumn", "(I)Z"⟩, 55) := ⟨⟨by decide +kernel, by decide +kernel⟩, List.mem_of_getElem? (i := 1218) (by decide +kernel), List.mem_of_getElem? (i := 1546) (by decide +kernel), List.mem_of_getElem? (i := 1547) (by decide +kernel)⟩
theorem lw_p72 : lw_okq (⟨"TiedViewsModel", "isLinear", "(I)Z"⟩, 55) := ⟨⟨by decide +kernel, by decide +kernel⟩, List.mem_of_getElem? (i := 1218) (by decide +kernel), List.mem_of_getElem? (i := 1554) (by decide +kernel), List.mem_of_getElem? (i := 1555) (by decide +kernel)⟩
theorem lw_p73 : lw_okq (⟨"TiedViewsModel", "lookRests", "(III)I"⟩, 55) := ⟨⟨by decide +kernel, by decide +kernel⟩, List.mem_of_getElem? (i := 1218) (by decide +kernel), List.mem_of_getElem? (i := 1558) (by decide +kernel), List.mem_of_getElem? (i := 1559) (by decide +kernel)⟩
theorem lw_p74 : lw_okq (⟨"TiedViewsModel", "isRest", "(I)Z"⟩, 55) := ⟨⟨by decide +kernel, by decide +kernel⟩, List.mem_of_getElem? (i := 1218) (by decide +kernel), List.mem_of_getElem? (i := 1562) (by decide +kernel), List.mem_of_getElem? (i := 1563) (by decide +kernel)⟩
theorem lw_p75 : lw_okq (⟨"TiedViewsModel", "readingSet", "()I"⟩, 55) := ⟨⟨by decide +kernel, by decide +kernel⟩, List.mem_of_getElem? (i := 1218) (by decide +kernel), List.mem_of_getElem? (i := 1574) (by decide +kernel), List.mem_of_getElem? (i := 1575) (by decide +kernel)⟩
theorem lw_p76 : lw_okq (⟨"TiedViewsModel", "areFit", "(I)Z"⟩, 55) := ⟨⟨by decide +kernel, by decide +kernel⟩, List.mem_of_getElem? (i := 1218) (by decide +kernel), List.mem_of_getElem? (i := 1578) (by decide +kernel), List.mem_of_getElem? (i := 1579) (by decide +kernel)⟩
theorem lw_p77 : lw_okq (⟨"TiedViewsModel", "wantsInVain", "()I"⟩, 55) := ⟨⟨by decide +kernel, by decide +kernel⟩, List.mem_of_getElem? (i := 1218) (by decide +kernel), List.mem_of_getElem? (i := 1582) (by decide +kernel), List.mem_of_getElem? (i := 1583) (by decide +kernel)⟩
theorem lw_p78 : lw_okq (⟨"TiedViewsModel", "isNumberOf", "(II)Z"⟩, 55) := ⟨⟨by decide +kernel, by decide +kernel⟩, List.mem_of_getElem? (i := 1218) (by decide +kernel), List.mem_of_getElem? (i := 1614) (by decide +kernel), List.mem_of_getElem? (i := 1615) (by decide +kernel)⟩
theorem lw_p79 : lw_okq (⟨"TiedViewsModel", "tickOnce", "()V"⟩, 55) := ⟨⟨by decide +kernel, by decide +kernel⟩, List.mem_of_getElem? (i := 1218) (by decide +kernel), List.mem_of_getElem? (i := 1623) (by decide +kernel), List.mem_of_getElem? (i := 1624) (by decide +kernel)⟩
def lw_privs_5 : List (MethodName × Nat) := [(⟨"TiedViewsModel", "isEye", "(I)Z"⟩, 55), (⟨"TiedViewsModel", "tiesOf", "(I)I"⟩, 55), (⟨"TiedViewsModel", "layTies", "(I)V"⟩, 55), (⟨"TiedViewsModel", "addLine", "()V"⟩, 55), (⟨"TiedViewsModel", "takeSteps", "()V"⟩, 55), (⟨"TiedViewsModel", "turned", "(I)I"⟩, 55), (⟨"TiedViewsModel", "leaders", "()I"⟩, 55), (⟨"TiedViewsModel", "isColumn", "(I)Z"⟩, 55), (⟨"TiedViewsModel", "isLinear", "(I)Z"⟩, 55), (⟨"TiedViewsModel", "lookRests", "(III)I"⟩, 55), (⟨"TiedViewsModel", "isRest", "(I)Z"⟩, 55), (⟨"TiedViewsModel", "readingSet", "()I"⟩, 55), (⟨"TiedViewsModel", "areFit", "(I)Z"⟩, 55), (⟨"TiedViewsModel", "wantsInVain", "()I"⟩, 55), (⟨"TiedViewsModel", "isNumberOf", "(II)Z"⟩, 55), (⟨"TiedViewsModel", "tickOnce", "()V"⟩, 55)]
theorem lw_r5 : ∀ q ∈ lw_privs_5, lw_okq q := List.forall_mem_cons.mpr ⟨lw_p64, List.forall_mem_cons.mpr ⟨lw_p65, List.forall_mem_cons.mpr ⟨lw_p66, List.forall_mem_cons.mpr ⟨lw_p67, List.forall_mem_cons.mpr ⟨lw_p68, List.forall_mem_cons.mpr ⟨lw_p69, List.forall_mem_cons.mpr ⟨lw_p70, List.forall_mem_cons.mpr ⟨lw_p71, List.forall_mem_cons.mpr ⟨lw_p72, List.forall_mem_cons.mpr ⟨lw_p73, List.forall_mem_cons.mpr ⟨lw_p74, List.forall_mem_cons.mpr ⟨lw_p75, List.forall_mem_cons.mpr ⟨lw_p76, List.forall_mem_cons.mpr ⟨lw_p77, List.forall_mem_cons.mpr ⟨lw_p78, List.forall_mem_cons.mpr ⟨lw_p79, fun _ h => absurd h List.not_mem_nil⟩⟩⟩⟩⟩⟩⟩⟩⟩⟩⟩⟩⟩⟩⟩⟩
theorem lw_p80 : lw_okq (⟨"TiedViewsModel", "isRow", "(I)Z"⟩, 55) := ⟨⟨by decide +kernel, by decide +kernel⟩, List.mem_of_getElem? (i := 1218) (by decide +kernel), List.mem_of_getElem? (i := 1635) (by decide +kernel), List.mem_of_getElem? (i := 1636) (by decide +kernel)⟩
theorem lw_p81 : lw_okq (⟨"TiedViewsModel", "isChoice", "(I)Z"⟩, 55) := ⟨⟨by decide +kernel, by decide +kernel⟩, List.mem_of_getElem? (i := 1218) (by decide +kernel), List.mem_of_getElem? (i := 1643) (by decide +kernel), List.mem_of_getElem? (i := 1644) (by decide +kernel)⟩
theorem lw_p82 : lw_okq (⟨"TiedViewsModel", "hasAll", "(II)Z"⟩, 55) := ⟨⟨by decide +kernel, by decide +kernel⟩, List.mem_of_getElem? (i := 1218) (by decide +kernel), List.mem_of_getElem? (i := 1651) (by decide +kernel), List.mem_of_getElem? (i := 1652) (by decide +kernel)⟩
theorem lw_p83 : lw_okq (⟨"TiedViewsModel", "isBarred", "(IIII)Z"⟩, 55) := ⟨⟨by decide +kernel, by decide +kernel⟩, List.mem_of_getElem? (i := 1218) (by decide +kernel), List.mem_of_getElem? (i := 1655) (by decide +kernel), List.mem_of_getElem? (i := 1656) (by decide +kernel)⟩
theorem lw_p84 : lw_okq (⟨"TiedViewsModel", "ways", "()I"⟩, 55) := ⟨⟨by decide +kernel, by decide +kernel⟩, List.mem_of_getElem? (i := 1218) (by decide +kernel), List.mem_of_getElem? (i := 1663) (by decide +kernel), List.mem_of_getElem? (i := 1664) (by decide +kernel)⟩
theorem lw_p85 : lw_okq (⟨"TiedViewsModel", "mayStand", "(I)Z"⟩, 55) := ⟨⟨by decide +kernel, by decide +kernel⟩, List.mem_of_getElem? (i := 1218) (by decide +kernel), List.mem_of_getElem? (i := 1667) (by decide +kernel), List.mem_of_getElem? (i := 1668) (by decide +kernel)⟩
theorem lw_p86 : lw_okq (⟨"TiedViewsModel", "kindOf", "(I)I"⟩, 55) := ⟨⟨by decide +kernel, by decide +kernel⟩, List.mem_of_getElem? (i := 1218) (by decide +kernel), List.mem_of_getElem? (i := 1675) (by decide +kernel), List.mem_of_getElem? (i := 1676) (by decide +kernel)⟩
theorem lw_p87 : lw_okq (⟨"TiedViewsModel", "sizeOf", "(I)I"⟩, 55) := ⟨⟨by decide +kernel, by decide +kernel⟩, List.mem_of_getElem? (i := 1218) (by decide +kernel), List.mem_of_getElem? (i := 1690) (by decide +kernel), List.mem_of_getElem? (i := 1691) (by decide +kernel)⟩
theorem lw_p88 : lw_okq (⟨"TiedViewsModel", "modSize", "(I)I"⟩, 55) := ⟨⟨by decide +kernel, by decide +kernel⟩, List.mem_of_getElem? (i := 1218) (by decide +kernel), List.mem_of_getElem? (i := 1694) (by decide +kernel), List.mem_of_getElem? (i := 1695) (by decide +kernel)⟩
theorem lw_p89 : lw_okq (⟨"TiedViewsModel", "began", "(I)V"⟩, 55) := ⟨⟨by decide +kernel, by decide +kernel⟩, List.mem_of_getElem? (i := 1218) (by decide +kernel), List.mem_of_getElem? (i := 1698) (by decide +kernel), List.mem_of_getElem? (i := 1699) (by decide +kernel)⟩
theorem lw_p90 : lw_okq (⟨"TiedViewsModel", "linearSize", "(I)I"⟩, 55) := ⟨⟨by decide +kernel, by decide +kernel⟩, List.mem_of_getElem? (i := 1218) (by decide +kernel), List.mem_of_getElem? (i := 1702) (by decide +kernel), List.mem_of_getElem? (i := 1703) (by decide +kernel)⟩
theorem lw_p91 : lw_okq (⟨"TiedViewsModel", "markOf", "(I)I"⟩, 55) := ⟨⟨by decide +kernel, by decide +kernel⟩, List.mem_of_getElem? (i := 1218) (by decide +kernel), List.mem_of_getElem? (i := 1706) (by decide +kernel), List.mem_of_getElem? (i := 1707) (by decide +kernel)⟩
def lw_privs_6 : List (MethodName × Nat) := [(⟨"TiedViewsModel", "isRow", "(I)Z"⟩, 55), (⟨"TiedViewsModel", "isChoice", "(I)Z"⟩, 55), (⟨"TiedViewsModel", "hasAll", "(II)Z"⟩, 55), (⟨"TiedViewsModel", "isBarred", "(IIII)Z"⟩, 55), (⟨"TiedViewsModel", "ways", "()I"⟩, 55), (⟨"TiedViewsModel", "mayStand", "(I)Z"⟩, 55), (⟨"TiedViewsModel", "kindOf", "(I)I"⟩, 55), (⟨"TiedViewsModel", "sizeOf", "(I)I"⟩, 55), (⟨"TiedViewsModel", "modSize", "(I)I"⟩, 55), (⟨"TiedViewsModel", "began", "(I)V"⟩, 55), (⟨"TiedViewsModel", "linearSize", "(I)I"⟩, 55), (⟨"TiedViewsModel", "markOf", "(I)I"⟩, 55)]
theorem lw_r6 : ∀ q ∈ lw_privs_6, lw_okq q := List.forall_mem_cons.mpr ⟨lw_p80, List.forall_mem_cons.mpr ⟨lw_p81, List.forall_mem_cons.mpr ⟨lw_p82, List.forall_mem_cons.mpr ⟨lw_p83, List.forall_mem_cons.mpr ⟨lw_p84, List.forall_mem_cons.mpr ⟨lw_p85, List.forall_mem_cons.mpr ⟨lw_p86, List.forall_mem_cons.mpr ⟨lw_p87, List.forall_mem_cons.mpr ⟨lw_p88, List.forall_mem_cons.mpr ⟨lw_p89, List.forall_mem_cons.mpr ⟨lw_p90, List.forall_mem_cons.mpr ⟨lw_p91, fun _ h => absurd h List.not_mem_nil⟩⟩⟩⟩⟩⟩⟩⟩⟩⟩⟩⟩
def lw_privs : List (MethodName × Nat) := lw_privs_1 ++ (lw_privs_2 ++ (lw_privs_3 ++ (lw_privs_4 ++ (lw_privs_5 ++ (lw_privs_6)))))
def lw_tbl : List Cond := k2_sels lw_privs ++ tables_1
theorem lw_privs_ok : ∀ q ∈ lw_privs, lw_okq q := by
  show ∀ q ∈ lw_privs_1 ++ (lw_privs_2 ++ (lw_privs_3 ++ (lw_privs_4 ++ (lw_privs_5 ++ (lw_privs_6))))), lw_okq q
  exact List.forall_mem_append.mpr ⟨lw_r1, List.forall_mem_append.mpr ⟨lw_r2, List.forall_mem_append.mpr ⟨lw_r3, List.forall_mem_append.mpr ⟨lw_r4, List.forall_mem_append.mpr ⟨lw_r5, lw_r6⟩⟩⟩⟩⟩
end
section
def tv_R0 : String := "TiedViews"
def tv_T0 : u_T := fun k => match k with
  | 0 => ("TiedViews", "prime", "I", true)
  | 1 => ("TiedViews", "sheets", "[LTiedViews$Sheet;", true)
  | 2 => ("TiedViews", "told", "LTiedViews$Told;", true)
  | 3 => ("TiedViews", "reader", "LTiedViews$Reader;", true)
  | 4 => ("TiedViews", "agreement", "LTiedViews$Agreement;", true)
  | 5 => ("TiedViews", "dropping", "LTiedViews$Dropping;", true)
  | 6 => ("TiedViews", "hearsay", "LTiedViews$Hearsay;", true)
  | 7 => ("TiedViews", "choices", "LTiedViews$Choices;", true)
  | 8 => ("TiedViews", "bodies", "LTiedViews$Bodies;", true)
  | _ => ("TiedViews", "latestFinding", "I", false)
def tv_ty0 : Nat → FieldType := fun k => match k with
  | 0 => .int
  | 1 => .array (.object "TiedViews$Sheet")
  | 2 => .object "TiedViews$Told"
  | 3 => .object "TiedViews$Reader"
  | 4 => .object "TiedViews$Agreement"
  | 5 => .object "TiedViews$Dropping"
  | 6 => .object "TiedViews$Hearsay"
  | 7 => .object "TiedViews$Choices"
  | 8 => .object "TiedViews$Bodies"
  | _ => .int
def tv_R1 : String := "TiedViews$Sheet"
def tv_T1 : u_T := fun k => match k with
  | 0 => ("TiedViews$Sheet", "lane", "I", false)
  | 1 => ("TiedViews$Sheet", "length", "I", false)
  | _ => ("TiedViews$Sheet", "items", "[I", true)
def tv_ty1 : Nat → FieldType := fun k => match k with
  | 0 => .int
  | 1 => .int
  | _ => .array .int
def tv_R2 : String := "TiedViews$Told"
def tv_T2 : u_T := fun k => match k with
  | 0 => ("TiedViews$Told", "prime", "I", true)
  | 1 => ("TiedViews$Told", "eyes", "[LTiedViews$Eye;", true)
  | 2 => ("TiedViews$Told", "ties", "[LTiedViews$Tie;", true)
  | 3 => ("TiedViews$Told", "bars", "[I", true)
  | 4 => ("TiedViews$Told", "eyeCount", "I", false)
  | 5 => ("TiedViews$Told", "tieCount", "I", false)
  | 6 => ("TiedViews$Told", "barCount", "I", false)
  | 7 => ("TiedViews$Told", "columns", "I", false)
  | 8 => ("TiedViews$Told", "lines", "I", false)
  | 9 => ("TiedViews$Told", "keptEyes", "I", false)
  | 10 => ("TiedViews$Told", "keptTies", "I", false)
  | 11 => ("TiedViews$Told", "keptBars", "I", false)
  | 12 => ("TiedViews$Told", "keptColumns", "I", false)
  | _ => ("TiedViews$Told", "keptLines", "I", false)
def tv_ty2 : Nat → FieldType := fun k => match k with
  | 0 => .int
  | 1 => .array (.object "TiedViews$Eye")
  | 2 => .array (.object "TiedViews$Tie")
  | 3 => .array .int
  | 4 => .int
  | 5 => .int
  | 6 => .int
  | 7 => .int
  | 8 => .int
  | 9 => .int
  | 10 => .int
  | 11 => .int
  | 12 => .int
  | _ => .int
def tv_R3 : String := "TiedViews$Eye"
def tv_T3 : u_T := fun k => match k with
  | 0 => ("TiedViews$Eye", "number", "I", true)
  | 1 => ("TiedViews$Eye", "sort", "I", false)
  | 2 => ("TiedViews$Eye", "size", "I", false)
  | 3 => ("TiedViews$Eye", "column", "I", false)
  | 4 => ("TiedViews$Eye", "choiceSet", "I", false)
  | 5 => ("TiedViews$Eye", "hasReading", "Z", false)
  | _ => ("TiedViews$Eye", "numbers", "[I", true)
def tv_ty3 : Nat → FieldType := fun k => match k with
  | 0 => .int
  | 1 => .int
  | 2 => .int
  | 3 => .int
  | 4 => .int
  | 5 => .boolean
  | _ => .array .int
def tv_R4 : String := "TiedViews$Tie"
def tv_T4 : u_T := fun k => match k with
  | 0 => ("TiedViews$Tie", "firstEye", "I", false)
  | 1 => ("TiedViews$Tie", "secondEye", "I", false)
  | 2 => ("TiedViews$Tie", "rows", "I", false)
  | 3 => ("TiedViews$Tie", "firstTable", "[I", true)
  | _ => ("TiedViews$Tie", "secondTable", "[I", true)
def tv_ty4 : Nat → FieldType := fun k => match k with
  | 0 => .int
  | 1 => .int
  | 2 => .int
  | 3 => .array .int
  | _ => .array .int
def tv_R5 : String := "TiedViews$Reader"
def tv_T5 : u_T := fun k => match k with
  | 0 => ("TiedViews$Reader", "told", "LTiedViews$Told;", true)
  | 1 => ("TiedViews$Reader", "tape", "[B", true)
  | 2 => ("TiedViews$Reader", "length", "I", false)
  | 3 => ("TiedViews$Reader", "latestFault", "I", false)
  | 4 => ("TiedViews$Reader", "token", "I", false)
  | 5 => ("TiedViews$Reader", "begin", "I", false)
  | 6 => ("TiedViews$Reader", "behind", "I", false)
  | 7 => ("TiedViews$Reader", "value", "I", false)
  | _ => ("TiedViews$Reader", "taken", "I", false)
def tv_ty5 : Nat → FieldType := fun k => match k with
  | 0 => .object "TiedViews$Told"
  | 1 => .array .byte
  | 2 => .int
  | 3 => .int
  | 4 => .int
  | 5 => .int
  | 6 => .int
  | 7 => .int
  | _ => .int
def tv_R6 : String := "TiedViews$Agreement"
def tv_T6 : u_T := fun k => match k with
  | 0 => ("TiedViews$Agreement", "told", "LTiedViews$Told;", true)
  | 1 => ("TiedViews$Agreement", "lines", "LTiedViews$Steps;", true)
  | 2 => ("TiedViews$Agreement", "wanting", "LTiedViews$Steps;", true)
  | 3 => ("TiedViews$Agreement", "fillKnown", "Z", false)
  | _ => ("TiedViews$Agreement", "fit", "Z", false)
def tv_ty6 : Nat → FieldType := fun k => match k with
  | 0 => .object "TiedViews$Told"
  | 1 => .object "TiedViews$Steps"
  | 2 => .object "TiedViews$Steps"
  | 3 => .boolean
  | _ => .boolean
def tv_R7 : String := "TiedViews$Steps"
def tv_T7 : u_T := fun k => match k with
  | 0 => ("TiedViews$Steps", "prime", "I", true)
  | 1 => ("TiedViews$Steps", "mostExtras", "I", true)
  | 2 => ("TiedViews$Steps", "rows", "[[I", true)
  | 3 => ("TiedViews$Steps", "leaderOf", "[I", true)
  | 4 => ("TiedViews$Steps", "freeAt", "[I", true)
  | 5 => ("TiedViews$Steps", "leads", "[I", true)
  | 6 => ("TiedViews$Steps", "lineCount", "I", false)
  | 7 => ("TiedViews$Steps", "columnCount", "I", false)
  | 8 => ("TiedViews$Steps", "leaderCount", "I", false)
  | 9 => ("TiedViews$Steps", "freeCount", "I", false)
  | _ => ("TiedViews$Steps", "width", "I", false)
def tv_ty7 : Nat → FieldType := fun k => match k with
  | 0 => .int
  | 1 => .int
  | 2 => .array (.array .int)
  | 3 => .array .int
  | 4 => .array .int
  | 5 => .array .int
  | 6 => .int
  | 7 => .int
  | 8 => .int
  | 9 => .int
  | _ => .int
def tv_R8 : String := "TiedViews$Dropping"
def tv_T8 : u_T := fun k => match k with
  | 0 => ("TiedViews$Dropping", "told", "LTiedViews$Told;", true)
  | 1 => ("TiedViews$Dropping", "agreement", "LTiedViews$Agreement;", true)
  | 2 => ("TiedViews$Dropping", "equations", "[[I", true)
  | 3 => ("TiedViews$Dropping", "ledBy", "[I", true)
  | 4 => ("TiedViews$Dropping", "equationCount", "I", false)
  | 5 => ("TiedViews$Dropping", "unknowns", "I", false)
  | 6 => ("TiedViews$Dropping", "best", "I", false)
  | 7 => ("TiedViews$Dropping", "bestCount", "I", false)
  | _ => ("TiedViews$Dropping", "known", "Z", false)
def tv_ty8 : Nat → FieldType := fun k => match k with
  | 0 => .object "TiedViews$Told"
  | 1 => .object "TiedViews$Agreement"
  | 2 => .array (.array .int)
  | 3 => .array .int
  | 4 => .int
  | 5 => .int
  | 6 => .int
  | 7 => .int
  | _ => .boolean
def tv_R9 : String := "TiedViews$Hearsay"
def tv_T9 : u_T := fun k => match k with
  | 0 => ("TiedViews$Hearsay", "told", "LTiedViews$Told;", true)
  | 1 => ("TiedViews$Hearsay", "takesOf", "[I", true)
  | 2 => ("TiedViews$Hearsay", "takesBy", "[I", true)
  | 3 => ("TiedViews$Hearsay", "ruleCount", "I", false)
  | 4 => ("TiedViews$Hearsay", "row", "[I", true)
  | 5 => ("TiedViews$Hearsay", "walker", "[I", true)
  | 6 => ("TiedViews$Hearsay", "heard", "[I", true)
  | 7 => ("TiedViews$Hearsay", "lowSeen", "[J", true)
  | 8 => ("TiedViews$Hearsay", "highSeen", "[J", true)
  | 9 => ("TiedViews$Hearsay", "settledBehind", "I", false)
  | 10 => ("TiedViews$Hearsay", "settledLater", "I", false)
  | 11 => ("TiedViews$Hearsay", "spent", "Z", false)
  | _ => ("TiedViews$Hearsay", "known", "Z", false)
def tv_ty9 : Nat → FieldType := fun k => match k with
  | 0 => .object "TiedViews$Told"
  | 1 => .array .int
  | 2 => .array .int
  | 3 => .int
  | 4 => .array .int
  | 5 => .array .int
  | 6 => .array .int
  | 7 => .array .long
  | 8 => .array .long
  | 9 => .int
  | 10 => .int
  | 11 => .boolean
  | _ => .boolean
def tv_R10 : String := "TiedViews$Choices"
def tv_T10 : u_T := fun k => match k with
  | 0 => ("TiedViews$Choices", "told", "LTiedViews$Told;", true)
  | 1 => ("TiedViews$Choices", "goesWith", "[[I", true)
  | 2 => ("TiedViews$Choices", "barsLater", "[Z", true)
  | 3 => ("TiedViews$Choices", "open", "[[I", true)
  | 4 => ("TiedViews$Choices", "first", "[I", true)
  | 5 => ("TiedViews$Choices", "wayCount", "I", false)
  | _ => ("TiedViews$Choices", "known", "Z", false)
def tv_ty10 : Nat → FieldType := fun k => match k with
  | 0 => .object "TiedViews$Told"
  | 1 => .array (.array .int)
  | 2 => .array .boolean
  | 3 => .array (.array .int)
  | 4 => .array .int
  | 5 => .int
  | _ => .boolean
def tv_R11 : String := "TiedViews$Bodies"
def tv_T11 : u_T := fun k => match k with
  | 0 => ("TiedViews$Bodies", "told", "LTiedViews$Told;", true)
  | 1 => ("TiedViews$Bodies", "traced", "[I", true)
  | _ => ("TiedViews$Bodies", "tracedCount", "I", false)
def tv_ty11 : Nat → FieldType := fun k => match k with
  | 0 => .object "TiedViews$Told"
  | 1 => .array .int
  | _ => .int
def tv_R12 : String := "TiedViewsModel"
def tv_T12 : u_T := fun k => match k with
  | 0 => ("TiedViewsModel", "thrown", "I", false)
  | 1 => ("TiedViewsModel", "status", "I", false)
  | 2 => ("TiedViewsModel", "prime", "I", true)
  | 3 => ("TiedViewsModel", "lane", "[I", true)
  | 4 => ("TiedViewsModel", "many", "[I", true)
  | 5 => ("TiedViewsModel", "item", "[I", true)
  | 6 => ("TiedViewsModel", "eyes", "I", false)
  | 7 => ("TiedViewsModel", "sort", "[I", true)
  | 8 => ("TiedViewsModel", "dims", "[I", true)
  | 9 => ("TiedViewsModel", "column", "[I", true)
  | 10 => ("TiedViewsModel", "columns", "I", false)
  | 11 => ("TiedViewsModel", "ties", "I", false)
  | 12 => ("TiedViewsModel", "tieOne", "[I", true)
  | 13 => ("TiedViewsModel", "tieOther", "[I", true)
  | 14 => ("TiedViewsModel", "tieRows", "[I", true)
  | 15 => ("TiedViewsModel", "table", "[I", true)
  | 16 => ("TiedViewsModel", "bars", "I", false)
  | 17 => ("TiedViewsModel", "barOne", "[I", true)
  | 18 => ("TiedViewsModel", "barOther", "[I", true)
  | 19 => ("TiedViewsModel", "barValue", "[I", true)
  | 20 => ("TiedViewsModel", "barWith", "[I", true)
  | 21 => ("TiedViewsModel", "barred", "[I", true)
  | 22 => ("TiedViewsModel", "choice", "[I", true)
  | 23 => ("TiedViewsModel", "tape", "[I", true)
  | 24 => ("TiedViewsModel", "taped", "I", false)
  | 25 => ("TiedViewsModel", "latest", "I", false)
  | 26 => ("TiedViewsModel", "size", "I", false)
  | 27 => ("TiedViewsModel", "cursor", "I", false)
  | 28 => ("TiedViewsModel", "token", "I", false)
  | 29 => ("TiedViewsModel", "from", "I", false)
  | 30 => ("TiedViewsModel", "till", "I", false)
  | 31 => ("TiedViewsModel", "fault", "I", false)
  | 32 => ("TiedViewsModel", "faultAt", "I", false)
  | 33 => ("TiedViewsModel", "newEyes", "I", false)
  | 34 => ("TiedViewsModel", "newColumns", "I", false)
  | 35 => ("TiedViewsModel", "newTies", "I", false)
  | 36 => ("TiedViewsModel", "newBars", "I", false)
  | 37 => ("TiedViewsModel", "lines", "I", false)
  | 38 => ("TiedViewsModel", "line", "[I", true)
  | 39 => ("TiedViewsModel", "isLeader", "[Z", true)
  | 40 => ("TiedViewsModel", "leader", "[I", true)
  | 41 => ("TiedViewsModel", "hasReading", "[Z", true)
  | 42 => ("TiedViewsModel", "reads", "[I", true)
  | 43 => ("TiedViewsModel", "rules", "I", false)
  | 44 => ("TiedViewsModel", "ruleTie", "[I", true)
  | 45 => ("TiedViewsModel", "ruleFrom", "[I", true)
  | 46 => ("TiedViewsModel", "now", "[I", true)
  | 47 => ("TiedViewsModel", "then", "[I", true)
  | 48 => ("TiedViewsModel", "rows", "[I", true)
  | 49 => ("TiedViewsModel", "choices", "I", false)
  | 50 => ("TiedViewsModel", "whose", "[I", true)
  | 51 => ("TiedViewsModel", "given", "[I", true)
  | 52 => ("TiedViewsModel", "first", "[I", true)
  | 53 => ("TiedViewsModel", "trace", "[I", true)
  | _ => ("TiedViewsModel", "traced", "I", false)
def tv_ty12 : Nat → FieldType := fun k => match k with
  | 0 => .int
  | 1 => .int
  | 2 => .int
  | 3 => .array .int
  | 4 => .array .int
  | 5 => .array .int
  | 6 => .int
  | 7 => .array .int
  | 8 => .array .int
  | 9 => .array .int
  | 10 => .int
  | 11 => .int
  | 12 => .array .int
  | 13 => .array .int
  | 14 => .array .int
  | 15 => .array .int
  | 16 => .int
  | 17 => .array .int
  | 18 => .array .int
  | 19 => .array .int
  | 20 => .array .int
  | 21 => .array .int
  | 22 => .array .int
  | 23 => .array .int
  | 24 => .int
  | 25 => .int
  | 26 => .int
  | 27 => .int
  | 28 => .int
  | 29 => .int
  | 30 => .int
  | 31 => .int
  | 32 => .int
  | 33 => .int
  | 34 => .int
  | 35 => .int
  | 36 => .int
  | 37 => .int
  | 38 => .array .int
  | 39 => .array .boolean
  | 40 => .array .int
  | 41 => .array .boolean
  | 42 => .array .int
  | 43 => .int
  | 44 => .array .int
  | 45 => .array .int
  | 46 => .array .int
  | 47 => .array .int
  | 48 => .array .int
  | 49 => .int
  | 50 => .array .int
  | 51 => .array .int
  | 52 => .array .int
  | 53 => .array .int
  | _ => .int
abbrev tv_cl : List vw_C := [(tv_R0, tv_T0, 10), (tv_R1, tv_T1, 3), (tv_R2, tv_T2, 14), (tv_R3, tv_T3, 7), (tv_R4, tv_T4, 5), (tv_R5, tv_T5, 9), (tv_R6, tv_T6, 5), (tv_R7, tv_T7, 11), (tv_R8, tv_T8, 9), (tv_R9, tv_T9, 13), (tv_R10, tv_T10, 7), (tv_R11, tv_T11, 3), (tv_R12, tv_T12, 55)]
/-- number of fields; which of them are references -/
def tv_nf : List Nat := [10, 3, 14, 7, 5, 9, 5, 11, 9, 13, 7, 3, 55]
def tv_rf : List (List Bool) := [[false, true, true, true, true, true, true, true, true, false], [false, false, true], [false, true, true, true, false, false, false, false, false, false, false, false, false, false], [false, false, false, false, false, false, true], [false, false, false, true, true], [true, true, false, false, false, false, false, false, false], [true, true, true, false, false], [false, false, true, true, true, true, false, false, false, false, false], [true, true, true, true, false, false, false, false, false], [true, true, true, false, true, true, true, true, true, false, false, false, false], [true, true, true, true, true, false, false], [true, true, false], [false, false, false, true, true, true, false, true, true, true, false, false, true, true, true, true, false, true, true, true, true, true, true, true, false, false, false, false, false, false, false, false, false, false, false, false, false, false, true, true, true, true, true, false, true, true, true, true, true, false, true, true, true, true, false]]
/-- the cells in the order in which they are made: class number, or 20 + the array's type; length -/
def tv_lay : List (Nat × Nat) := [(0, 10), (24, 8), (1, 3), (20, 40), (1, 3), (20, 40), (1, 3), (20, 40), (1, 3), (20, 40), (1, 3), (20, 40), (1, 3), (20, 40), (1, 3), (20, 40), (1, 3), (20, 40), (2, 14), (25, 8), (26, 10), (20, 120), (3, 7), (20, 3), (3, 7), (20, 3), (3, 7), (20, 3), (3, 7), (20, 3), (3, 7), (20, 3), (3, 7), (20, 3), (3, 7), (20, 3), (3, 7), (20, 3), (4, 5), (20, 9), (20, 9), (4, 5), (20, 9), (20, 9), (4, 5), (20, 9), (20, 9), (4, 5), (20, 9), (20, 9), (4, 5), (20, 9), (20, 9), (4, 5), (20, 9), (20, 9), (4, 5), (20, 9), (20, 9), (4, 5), (20, 9), (20, 9), (4, 5), (20, 9), (20, 9), (4, 5), (20, 9), (20, 9), (5, 9), (21, 500), (6, 5), (7, 11), (20, 24), (20, 24), (27, 30), (20, 54), (20, 54), (20, 54), (20, 54), (20, 54), (20, 54), (20, 54), (20, 54), (20, 54), (20, 54), (20, 54), (20, 54), (20, 54), (20, 54), (20, 54), (20, 54), (20, 54), (20, 54), (20, 54), (20, 54), (20, 54), (20, 54), (20, 54), (20, 54), (20, 54), (20, 54), (20, 54), (20, 54), (20, 54), (20, 54), (20, 30), (7, 11), (20, 24), (20, 24), (27, 54), (20, 25), (20, 25), (20, 25), (20, 25), (20, 25), (20, 25), (20, 25), (20, 25), (20, 25), (20, 25), (20, 25), (20, 25), (20, 25), (20, 25), (20, 25), (20, 25), (20, 25), (20, 25), (20, 25), (20, 25), (20, 25), (20, 25), (20, 25), (20, 25), (20, 25), (20, 25), (20, 25), (20, 25), (20, 25), (20, 25), (20, 25), (20, 25), (20, 25), (20, 25), (20, 25), (20, 25), (20, 25), (20, 25), (20, 25), (20, 25), (20, 25), (20, 25), (20, 25), (20, 25), (20, 25), (20, 25), (20, 25), (20, 25), (20, 25), (20, 25), (20, 25), (20, 25), (20, 25), (20, 25), (20, 54), (8, 9), (27, 25), (20, 25), (20, 25), (20, 25), (20, 25), (20, 25), (20, 25), (20, 25), (20, 25), (20, 25), (20, 25), (20, 25), (20, 25), (20, 25), (20, 25), (20, 25), (20, 25), (20, 25), (20, 25), (20, 25), (20, 25), (20, 25), (20, 25), (20, 25), (20, 25), (20, 25), (20, 25), (9, 13), (20, 8), (20, 8), (20, 24), (20, 24), (20, 24), (23, 301), (23, 301), (10, 7), (27, 32), (20, 8), (20, 8), (20, 8), (20, 8), (20, 8), (20, 8), (20, 8), (20, 8), (20, 8), (20, 8), (20, 8), (20, 8), (20, 8), (20, 8), (20, 8), (20, 8), (20, 8), (20, 8), (20, 8), (20, 8), (20, 8), (20, 8), (20, 8), (20, 8), (20, 8), (20, 8), (20, 8), (20, 8), (20, 8), (20, 8), (20, 8), (20, 8), (22, 8), (27, 9), (20, 8), (20, 8), (20, 8), (20, 8), (20, 8), (20, 8), (20, 8), (20, 8), (20, 8), (20, 8), (11, 3), (20, 16), (12, 55), (20, 8), (20, 8), (20, 320), (20, 8), (20, 8), (20, 8), (20, 10), (20, 10), (20, 10), (20, 180), (20, 30), (20, 30), (20, 30), (20, 30), (20, 256), (20, 8), (20, 500), (20, 2970), (22, 54), (20, 24), (22, 8), (20, 24), (20, 8), (20, 8), (20, 24), (20, 24), (20, 7224), (20, 8), (20, 8), (20, 8), (20, 16)]
def tv_n : Nat := 281
def tv_pt : List (List (Option Nat)) := [[none, some 1, some 18, some 68, some 70, some 165, some 193, some 201, some 247, none], [some 2, some 4, some 6, some 8, some 10, some 12, some 14, some 16], [none, none, some 3], [], [none, none, some 5], [], [none, none, some 7], [], [none, none, some 9], [], [none, none, some 11], [], [none, none, some 13], [], [none, none, some 15], [], [none, none, some 17], [], [none, some 19, some 20, some 21, none, none, none, none, none, none, none, none, none, none], [some 22, some 24, some 26, some 28, some 30, some 32, some 34, some 36], [some 38, some 41, some 44, some 47, some 50, some 53, some 56, some 59, some 62, some 65], [], [none, none, none, none, none, none, some 23], [], [none, none, none, none, none, none, some 25], [], [none, none, none, none, none, none, some 27], [], [none, none, none, none, none, none, some 29], [], [none, none, none, none, none, none, some 31], [], [none, none, none, none, none, none, some 33], [], [none, none, none, none, none, none, some 35], [], [none, none, none, none, none, none, some 37], [], [none, none, none, some 39, some 40], [], [], [none, none, none, some 42, some 43], [], [], [none, none, none, some 45, some 46], [], [], [none, none, none, some 48, some 49], [], [], [none, none, none, some 51, some 52], [], [], [none, none, none, some 54, some 55], [], [], [none, none, none, some 57, some 58], [], [], [none, none, none, some 60, some 61], [], [], [none, none, none, some 63, some 64], [], [], [none, none, none, some 66, some 67], [], [], [some 18, some 69, none, none, none, none, none, none, none], [], [some 18, some 71, some 106, none, none], [none, none, some 74, some 72, some 73, some 105, none, none, none, none, none], [], [], [some 75, some 76, some 77, some 78, some 79, some 80, some 81, some 82, some 83, some 84, some 85, some 86, some 87, some 88, some 89, some 90, some 91, some 92, some 93, some 94, some 95, some 96, some 97, some 98, some 99, some 100, some 101, some 102, some 103, some 104], [], [], [], [], [], [], [], [], [], [], [], [], [], [], [], [], [], [], [], [], [], [], [], [], [], [], [], [], [], [], [], [none, none, some 109, some 107, some 108, some 164, none, none, none, none, none], [], [], [some 110, some 111, some 112, some 113, some 114, some 115, some 116, some 117, some 118, some 119, some 120, some 121, some 122, some 123, some 124, some 125, some 126, some 127, some 128, some 129, some 130, some 131, some 132, some 133, some 134, some 135, some 136, some 137, some 138, some 139, some 140, some 141, some 142, some 143, some 144, some 145, some 146, some 147, some 148, some 149, some 150, some 151, some 152, some 153, some 154, some 155, some 156, some 157, some 158, some 159, some 160, some 161, some 162, some 163], [], [], [], [], [], [], [], [], [], [], [], [], [], [], [], [], [], [], [], [], [], [], [], [], [], [], [], [], [], [], [], [], [], [], [], [], [], [], [], [], [], [], [], [], [], [], [], [], [], [], [], [], [], [], [], [some 18, some 70, some 166, some 192, none, none, none, none, none], [some 167, some 168, some 169, some 170, some 171, some 172, some 173, some 174, some 175, some 176, some 177, some 178, some 179, some 180, some 181, some 182, some 183, some 184, some 185, some 186, some 187, some 188, some 189, some 190, some 191], [], [], [], [], [], [], [], [], [], [], [], [], [], [], [], [], [], [], [], [], [], [], [], [], [], [], [some 18, some 194, some 195, none, some 196, some 197, some 198, some 199, some 200, none, none, none, none], [], [], [], [], [], [], [], [some 18, some 202, some 235, some 236, some 246, none, none], [some 203, some 204, some 205, some 206, some 207, some 208, some 209, some 210, some 211, some 212, some 213, some 214, some 215, some 216, some 217, some 218, some 219, some 220, some 221, some 222, some 223, some 224, some 225, some 226, some 227, some 228, some 229, some 230, some 231, some 232, some 233, some 234], [], [], [], [], [], [], [], [], [], [], [], [], [], [], [], [], [], [], [], [], [], [], [], [], [], [], [], [], [], [], [], [], [], [some 237, some 238, some 239, some 240, some 241, some 242, some 243, some 244, some 245], [], [], [], [], [], [], [], [], [], [], [some 18, some 248, none], [], [none, none, none, some 250, some 251, some 252, none, some 253, some 254, some 255, none, none, some 256, some 257, some 258, some 259, none, some 260, some 261, some 262, some 263, some 264, some 265, some 266, none, none, none, none, none, none, none, none, none, none, none, none, none, none, some 267, some 268, some 269, some 270, some 271, none, some 272, some 273, some 274, some 275, some 276, none, some 277, some 278, some 279, some 280, none], [], [], [], [], [], [], [], [], [], [], [], [], [], [], [], [], [], [], [], [], [], [], [], [], [], [], [], [], [], [], []]
def tv_P0 (k j : Nat) : Option Nat := (tv_pt.getD k []).getD j none
theorem tv_nm0 : ∀ a, a < 10 → ∀ b, b < 10 → a ≠ b → (tv_T0 a).2.1 ≠ (tv_T0 b).2.1 := by decide +kernel
theorem tv_tk0 : ∀ k, k < 10 → parseFieldDescriptor (tv_T0 k).2.2.1 = some (tv_ty0 k) := by decide +kernel
theorem tv_nm1 : ∀ a, a < 3 → ∀ b, b < 3 → a ≠ b → (tv_T1 a).2.1 ≠ (tv_T1 b).2.1 := by decide +kernel
theorem tv_tk1 : ∀ k, k < 3 → parseFieldDescriptor (tv_T1 k).2.2.1 = some (tv_ty1 k) := by decide +kernel
theorem tv_nm2 : ∀ a, a < 14 → ∀ b, b < 14 → a ≠ b → (tv_T2 a).2.1 ≠ (tv_T2 b).2.1 := by decide +kernel
theorem tv_tk2 : ∀ k, k < 14 → parseFieldDescriptor (tv_T2 k).2.2.1 = some (tv_ty2 k) := by decide +kernel
theorem tv_nm3 : ∀ a, a < 7 → ∀ b, b < 7 → a ≠ b → (tv_T3 a).2.1 ≠ (tv_T3 b).2.1 := by decide +kernel
theorem tv_tk3 : ∀ k, k < 7 → parseFieldDescriptor (tv_T3 k).2.2.1 = some (tv_ty3 k) := by decide +kernel
theorem tv_nm4 : ∀ a, a < 5 → ∀ b, b < 5 → a ≠ b → (tv_T4 a).2.1 ≠ (tv_T4 b).2.1 := by decide +kernel
theorem tv_tk4 : ∀ k, k < 5 → parseFieldDescriptor (tv_T4 k).2.2.1 = some (tv_ty4 k) := by decide +kernel
theorem tv_nm5 : ∀ a, a < 9 → ∀ b, b < 9 → a ≠ b → (tv_T5 a).2.1 ≠ (tv_T5 b).2.1 := by decide +kernel
theorem tv_tk5 : ∀ k, k < 9 → parseFieldDescriptor (tv_T5 k).2.2.1 = some (tv_ty5 k) := by decide +kernel
theorem tv_nm6 : ∀ a, a < 5 → ∀ b, b < 5 → a ≠ b → (tv_T6 a).2.1 ≠ (tv_T6 b).2.1 := by decide +kernel
theorem tv_tk6 : ∀ k, k < 5 → parseFieldDescriptor (tv_T6 k).2.2.1 = some (tv_ty6 k) := by decide +kernel
theorem tv_nm7 : ∀ a, a < 11 → ∀ b, b < 11 → a ≠ b → (tv_T7 a).2.1 ≠ (tv_T7 b).2.1 := by decide +kernel
theorem tv_tk7 : ∀ k, k < 11 → parseFieldDescriptor (tv_T7 k).2.2.1 = some (tv_ty7 k) := by decide +kernel
theorem tv_nm8 : ∀ a, a < 9 → ∀ b, b < 9 → a ≠ b → (tv_T8 a).2.1 ≠ (tv_T8 b).2.1 := by decide +kernel
theorem tv_tk8 : ∀ k, k < 9 → parseFieldDescriptor (tv_T8 k).2.2.1 = some (tv_ty8 k) := by decide +kernel
theorem tv_nm9 : ∀ a, a < 13 → ∀ b, b < 13 → a ≠ b → (tv_T9 a).2.1 ≠ (tv_T9 b).2.1 := by decide +kernel
theorem tv_tk9 : ∀ k, k < 13 → parseFieldDescriptor (tv_T9 k).2.2.1 = some (tv_ty9 k) := by decide +kernel
theorem tv_nm10 : ∀ a, a < 7 → ∀ b, b < 7 → a ≠ b → (tv_T10 a).2.1 ≠ (tv_T10 b).2.1 := by decide +kernel
theorem tv_tk10 : ∀ k, k < 7 → parseFieldDescriptor (tv_T10 k).2.2.1 = some (tv_ty10 k) := by decide +kernel
theorem tv_nm11 : ∀ a, a < 3 → ∀ b, b < 3 → a ≠ b → (tv_T11 a).2.1 ≠ (tv_T11 b).2.1 := by decide +kernel
theorem tv_tk11 : ∀ k, k < 3 → parseFieldDescriptor (tv_T11 k).2.2.1 = some (tv_ty11 k) := by decide +kernel
theorem tv_nm12 : ∀ a, a < 55 → ∀ b, b < 55 → a ≠ b → (tv_T12 a).2.1 ≠ (tv_T12 b).2.1 := by decide +kernel
theorem tv_tk12 : ∀ k, k < 55 → parseFieldDescriptor (tv_T12 k).2.2.1 = some (tv_ty12 k) := by decide +kernel
theorem tv_in0 : ∀ w ∈ u_ws tv_R0 tv_T0 10, w ∈ tables_1 := by
  have h : u_ws tv_R0 tv_T0 10 = ([467, 469, 471, 473, 475, 477, 479, 481, 483, 485] : List Nat).filterMap (fun i => tables_1[i]?) := by decide +kernel
  intro w hw
  rw [h] at hw
  obtain ⟨i, -, hi⟩ := List.mem_filterMap.mp hw
  exact List.mem_of_getElem? hi
theorem tv_in1 : ∀ w ∈ u_ws tv_R1 tv_T1 3, w ∈ tables_1 := by
  have h : u_ws tv_R1 tv_T1 3 = ([48, 50, 52] : List Nat).filterMap (fun i => tables_1[i]?) := by decide +kernel
  intro w hw
  rw [h] at hw
  obtain ⟨i, -, hi⟩ := List.mem_filterMap.mp hw
  exact List.mem_of_getElem? hi
theorem tv_in2 : ∀ w ∈ u_ws tv_R2 tv_T2 14, w ∈ tables_1 := by
  have h : u_ws tv_R2 tv_T2 14 = ([191, 193, 195, 197, 199, 201, 203, 205, 207, 209, 211, 213, 215, 217] : List Nat).filterMap (fun i => tables_1[i]?) := by decide +kernel
  intro w hw
  rw [h] at hw
  obtain ⟨i, -, hi⟩ := List.mem_filterMap.mp hw
  exact List.mem_of_getElem? hi
theorem tv_in3 : ∀ w ∈ u_ws tv_R3 tv_T3 7, w ∈ tables_1 := by
  have h : u_ws tv_R3 tv_T3 7 = ([106, 108, 110, 112, 114, 116, 118] : List Nat).filterMap (fun i => tables_1[i]?) := by decide +kernel
  intro w hw
  rw [h] at hw
  obtain ⟨i, -, hi⟩ := List.mem_filterMap.mp hw
  exact List.mem_of_getElem? hi
theorem tv_in4 : ∀ w ∈ u_ws tv_R4 tv_T4 5, w ∈ tables_1 := by
  have h : u_ws tv_R4 tv_T4 5 = ([140, 142, 144, 146, 148] : List Nat).filterMap (fun i => tables_1[i]?) := by decide +kernel
  intro w hw
  rw [h] at hw
  obtain ⟨i, -, hi⟩ := List.mem_filterMap.mp hw
  exact List.mem_of_getElem? hi
theorem tv_in5 : ∀ w ∈ u_ws tv_R5 tv_T5 9, w ∈ tables_1 := by
  have h : u_ws tv_R5 tv_T5 9 = ([237, 239, 241, 243, 245, 247, 249, 251, 253] : List Nat).filterMap (fun i => tables_1[i]?) := by decide +kernel
  intro w hw
  rw [h] at hw
  obtain ⟨i, -, hi⟩ := List.mem_filterMap.mp hw
  exact List.mem_of_getElem? hi
theorem tv_in6 : ∀ w ∈ u_ws tv_R6 tv_T6 5, w ∈ tables_1 := by
  have h : u_ws tv_R6 tv_T6 5 = ([312, 314, 316, 318, 320] : List Nat).filterMap (fun i => tables_1[i]?) := by decide +kernel
  intro w hw
  rw [h] at hw
  obtain ⟨i, -, hi⟩ := List.mem_filterMap.mp hw
  exact List.mem_of_getElem? hi
theorem tv_in7 : ∀ w ∈ u_ws tv_R7 tv_T7 11, w ∈ tables_1 := by
  have h : u_ws tv_R7 tv_T7 11 = ([284, 286, 288, 290, 292, 294, 296, 298, 300, 302, 304] : List Nat).filterMap (fun i => tables_1[i]?) := by decide +kernel
  intro w hw
  rw [h] at hw
  obtain ⟨i, -, hi⟩ := List.mem_filterMap.mp hw
  exact List.mem_of_getElem? hi
theorem tv_in8 : ∀ w ∈ u_ws tv_R8 tv_T8 9, w ∈ tables_1 := by
  have h : u_ws tv_R8 tv_T8 9 = ([339, 341, 343, 345, 347, 349, 351, 353, 355] : List Nat).filterMap (fun i => tables_1[i]?) := by decide +kernel
  intro w hw
  rw [h] at hw
  obtain ⟨i, -, hi⟩ := List.mem_filterMap.mp hw
  exact List.mem_of_getElem? hi
theorem tv_in9 : ∀ w ∈ u_ws tv_R9 tv_T9 13, w ∈ tables_1 := by
  have h : u_ws tv_R9 tv_T9 13 = ([383, 385, 387, 389, 391, 393, 395, 397, 399, 401, 403, 405, 407] : List Nat).filterMap (fun i => tables_1[i]?) := by decide +kernel
  intro w hw
  rw [h] at hw
  obtain ⟨i, -, hi⟩ := List.mem_filterMap.mp hw
  exact List.mem_of_getElem? hi
theorem tv_in10 : ∀ w ∈ u_ws tv_R10 tv_T10 7, w ∈ tables_1 := by
  have h : u_ws tv_R10 tv_T10 7 = ([425, 427, 429, 431, 433, 435, 437] : List Nat).filterMap (fun i => tables_1[i]?) := by decide +kernel
  intro w hw
  rw [h] at hw
  obtain ⟨i, -, hi⟩ := List.mem_filterMap.mp hw
  exact List.mem_of_getElem? hi
theorem tv_in11 : ∀ w ∈ u_ws tv_R11 tv_T11 3, w ∈ tables_1 := by
  have h : u_ws tv_R11 tv_T11 3 = ([450, 452, 454] : List Nat).filterMap (fun i => tables_1[i]?) := by decide +kernel
  intro w hw
  rw [h] at hw
  obtain ⟨i, -, hi⟩ := List.mem_filterMap.mp hw
  exact List.mem_of_getElem? hi
theorem tv_in12 : ∀ w ∈ u_ws tv_R12 tv_T12 55, w ∈ tables_1 := by
  have h : u_ws tv_R12 tv_T12 55 = ([1278, 1280, 1282, 1284, 1286, 1288, 1290, 1292, 1294, 1296, 1298, 1300, 1302, 1304, 1306, 1308, 1310, 1312, 1314, 1316, 1318, 1320, 1322, 1324, 1326, 1328, 1330, 1332, 1334, 1336, 1338, 1340, 1342, 1344, 1346, 1348, 1350, 1352, 1354, 1356, 1358, 1360, 1362, 1364, 1366, 1368, 1370, 1372, 1374, 1376, 1378, 1380, 1382, 1384, 1386] : List Nat).filterMap (fun i => tables_1[i]?) := by decide +kernel
  intro w hw
  rw [h] at hw
  obtain ⟨i, -, hi⟩ := List.mem_filterMap.mp hw
  exact List.mem_of_getElem? hi
end
section
/-! THE MEMORY: ints and longs by cell and place; the references between the cells never change once all is made: tv_P0 -/
abbrev tv_M : Type := (Nat → Nat → Int32) × (Nat → Nat → Int64)
def tv_w (M : tv_M) (k j : Nat) (x : Int32) : tv_M := (fun a i => if a = k ∧ i = j then x else M.1 a i, M.2)
def tv_wl (M : tv_M) (k j : Nat) (x : Int64) : tv_M := (M.1, fun a i => if a = k ∧ i = j then x else M.2 a i)
/-- a stretch of a row written -/
def tv_wc (M : tv_M) (k : Nat) (f : Nat → Int32) : tv_M := (fun a i => if a = k then f i else M.1 a i, M.2)
def tv_re (b : Nat) (r : Option Nat) : Value := va_rf (r.map (fun x => b + x))
def tv_ob (b ci N : Nat) (I : Nat → Nat → Int32) (P : Nat → Nat → Option Nat) (k : Nat) : List Value := (List.range N).map (fun j => if (tv_rf.getD ci []).getD j false then tv_re b (P k j) else .int (I k j))
def tv_E (b : Nat) (cA : Nat → ClassId) (I : Nat → Nat → Int32) (J : Nat → Nat → Int64) (P : Nat → Nat → Option Nat) (k : Nat) (q : Nat × Nat) : va_E :=
  if q.1 < 13 then .inr (q.1, tv_ob b q.1 (tv_nf.getD q.1 0) I P k)
  else if q.1 < 23 then .inl (cA (q.1 - 20), q.2, .inl (I k))
  else if q.1 = 23 then .inl (cA 3, q.2, .inr (.inl (J k)))
  else .inl (cA (q.1 - 20), q.2, .inr (.inr (.inr (.inr (fun j => (P k j).map (fun x => b + x))))))
def tv_ws (b : Nat) (cA : Nat → ClassId) (n : Nat) (I : Nat → Nat → Int32) (J : Nat → Nat → Int64) (P : Nat → Nat → Option Nat) : va_W := (List.range n).map (fun k => (b + k, tv_E b cA I J P k (tv_lay.getD k (99, 0))))
def tv_tys (cA : Nat → ClassId) : List (ClassId × FieldType) := [(cA 0, .int), (cA 1, .byte), (cA 2, .boolean), (cA 3, .long), (cA 4, .object "TiedViews$Sheet"), (cA 5, .object "TiedViews$Eye"), (cA 6, .object "TiedViews$Tie"), (cA 7, .array .int)]
section TVW
variable {b n k m ci : Nat} {cA : Nat → ClassId} {I I' : Nat → Nat → Int32} {J J' : Nat → Nat → Int64} {P P' : Nat → Nat → Option Nat}
theorem tv_get {q : Nat × Nat} (hk : k < n) (hq : tv_lay[k]? = some q) : (tv_ws b cA n I J P)[k]? = some (b + k, tv_E b cA I J P k q) := by
  unfold tv_ws
  rw [List.getElem?_map, List.getElem?_range hk]
  simp [List.getD_eq_getElem?_getD, hq]
theorem tv_len : (tv_ws b cA n I J P).length = n := by simp [tv_ws]
theorem tv_ws_at {i : Nat} {q : Nat × va_E} (h : (tv_ws b cA n I J P)[i]? = some q) : i < n ∧ q.1 = b + i := by
  have hl := (List.getElem?_eq_some_iff.mp h).1
  rw [tv_len] at hl
  unfold tv_ws at h
  rw [List.getElem?_map, List.getElem?_range hl] at h
  cases h
  exact ⟨hl, rfl⟩
def tv_A (b : Nat) : Nat → Prop := fun q => b ≤ q
theorem tv_D : va_D (tv_A b) (tv_ws b cA n I J P) := by
  refine ⟨fun i j x y hi hj hxy => ?_, fun i x hi => ?_⟩
  · have h1 := (tv_ws_at hi).2
    have h2 := (tv_ws_at hj).2
    omega
  · have h1 := (tv_ws_at hi).2
    rw [h1]
    exact Nat.le_add_right b i
theorem tv_E_eq (q : Nat × Nat) (h1 : I' k = I k) (h2 : J' k = J k) (h3 : P' k = P k) : tv_E b cA I' J' P' k q = tv_E b cA I J P k q := by
  unfold tv_E tv_ob
  simp only [h1, h2, h3]
theorem tv_set {q : Nat × Nat} {E : va_E} (hq : tv_lay[k]? = some q) (hE : tv_E b cA I' J' P' k q = E) (ho : ∀ a, a ≠ k → I' a = I a ∧ J' a = J a ∧ P' a = P a) : (tv_ws b cA n I J P).set k (b + k, E) = tv_ws b cA n I' J' P' := by
  apply List.ext_getElem?
  intro i
  by_cases hi : i < n
  · by_cases hik : i = k
    · subst hik
      rw [List.getElem?_set_self (by rw [tv_len]; exact hi), tv_get hi hq, hE]
    · rw [List.getElem?_set_ne (Ne.symm hik)]
      unfold tv_ws
      rw [List.getElem?_map, List.getElem?_map, List.getElem?_range hi]
      obtain ⟨h1, h2, h3⟩ := ho i hik
      simp only [Option.map_some]
      rw [tv_E_eq _ h1 h2 h3]
  · rw [List.getElem?_eq_none (by rw [List.length_set, tv_len]; omega), List.getElem?_eq_none (by rw [tv_len]; omega)]
theorem tv_E_ob (h : ci < 13) : tv_E b cA I J P k (ci, m) = .inr (ci, tv_ob b ci (tv_nf.getD ci 0) I P k) := by simp [tv_E, h]
theorem tv_E_i : tv_E b cA I J P k (20, m) = .inl (cA 0, m, .inl (I k)) := rfl
theorem tv_E_b : tv_E b cA I J P k (21, m) = .inl (cA 1, m, .inl (I k)) := rfl
theorem tv_E_z : tv_E b cA I J P k (22, m) = .inl (cA 2, m, .inl (I k)) := rfl
theorem tv_E_l : tv_E b cA I J P k (23, m) = .inl (cA 3, m, .inr (.inl (J k))) := rfl
theorem tv_E_q (t : Nat) : tv_E b cA I J P k (24 + t, m) = .inl (cA (4 + t), m, .inr (.inr (.inr (.inr (fun j => (P k j).map (fun x => b + x)))))) := by
  unfold tv_E
  rw [if_neg (by omega), if_neg (by omega), if_neg (by omega)]
  simp [show 24 + t - 20 = 4 + t by omega]
theorem tv_ob_i {j N : Nat} (hj : j < N) (hr : (tv_rf.getD ci []).getD j false = false) : (tv_ob b ci N I P k)[j]? = some (.int (I k j)) := by
  unfold tv_ob
  rw [List.getElem?_map, List.getElem?_range hj]
  simp only [Option.map_some, hr]
  rfl
theorem tv_ob_r {j N : Nat} (hj : j < N) (hr : (tv_rf.getD ci []).getD j false = true) : (tv_ob b ci N I P k)[j]? = some (tv_re b (P k j)) := by
  unfold tv_ob
  rw [List.getElem?_map, List.getElem?_range hj]
  simp only [Option.map_some, hr]
  rfl
theorem tv_ob_set {j N : Nat} {x : Int32} (hj : j < N) (hr : (tv_rf.getD ci []).getD j false = false) (h1 : ∀ i, i ≠ j → I' k i = I k i) (h2 : I' k j = x) : tv_ob b ci N I' P k = (tv_ob b ci N I P k).set j (.int x) := by
  apply List.ext_getElem?
  intro i
  by_cases hi : i < N
  · by_cases hij : i = j
    · subst hij
      rw [List.getElem?_set_self (by simp [tv_ob]; exact hi), tv_ob_i hi hr, h2]
    · rw [List.getElem?_set_ne (Ne.symm hij)]
      unfold tv_ob
      rw [List.getElem?_map, List.getElem?_map, List.getElem?_range hi]
      simp only [Option.map_some, h1 i hij]
  · rw [List.getElem?_eq_none (by simp [tv_ob]; omega), List.getElem?_eq_none (by simp [tv_ob]; omega)]
end TVW
theorem tv_w_ne {M : tv_M} {k j : Nat} {x : Int32} : ∀ a, a ≠ k → (tv_w M k j x).1 a = M.1 a ∧ (tv_w M k j x).2 a = M.2 a ∧ tv_P0 a = tv_P0 a := fun a h => ⟨funext fun i => by simp [tv_w, h], rfl, rfl⟩
theorem tv_w_row {M : tv_M} {k j : Nat} {x : Int32} : (tv_w M k j x).1 k = upd (M.1 k) j x := funext fun i => by simp [tv_w, upd]
theorem tv_wc_ne {M : tv_M} {k : Nat} {f : Nat → Int32} : ∀ a, a ≠ k → (tv_wc M k f).1 a = M.1 a ∧ (tv_wc M k f).2 a = M.2 a ∧ tv_P0 a = tv_P0 a := fun a h => ⟨funext fun i => by simp [tv_wc, h], rfl, rfl⟩
theorem tv_wc_row {M : tv_M} {k : Nat} {f : Nat → Int32} : (tv_wc M k f).1 k = f := funext fun i => by simp [tv_wc]
theorem tv_wl_ne {M : tv_M} {k j : Nat} {x : Int64} : ∀ a, a ≠ k → (tv_wl M k j x).1 a = M.1 a ∧ (tv_wl M k j x).2 a = M.2 a ∧ tv_P0 a = tv_P0 a := fun a h => ⟨rfl, funext fun i => by simp [tv_wl, h], rfl⟩
theorem tv_wl_row {M : tv_M} {k j : Nat} {x : Int64} : (tv_wl M k j x).2 k = vp_updL (M.2 k) j x := funext fun i => by simp [tv_wl, vp_updL]
/-! THE LOCALS, place by place -/
def tv_lo (sl : Array Slot) (nL : Nat) (ls : List (Option Value)) : Prop := sl.size = nL ∧ lv_wf sl ∧ ∀ (i : Nat) (v : Value), ls[i]? = some (some v) → sl[i]? = some (.val v)
def tv_as : Nat → List (Option Value) → List (Nat × Value)
  | _, [] => []
  | i, none :: r => tv_as (i + 1) r
  | i, some v :: r => (i, v) :: tv_as (i + 1) r
theorem tv_as_mem : ∀ (ls : List (Option Value)) (n : Nat) (q : Nat × Value), q ∈ tv_as n ls ↔ ∃ i, ls[i]? = some (some q.2) ∧ q.1 = n + i := by
  intro ls
  induction ls with
  | nil => intro n q; simp [tv_as]
  | cons a r ih =>
    intro n q
    cases a with
    | none =>
      rw [tv_as, ih (n + 1) q]
      constructor
      · rintro ⟨i, h1, h2⟩
        exact ⟨i + 1, by simpa using h1, by omega⟩
      · rintro ⟨i, h1, h2⟩
        cases i with
        | zero => simp at h1
        | succ i => exact ⟨i, by simpa using h1, by omega⟩
    | some v =>
      rw [tv_as, List.mem_cons, ih (n + 1) q]
      constructor
      · rintro (h | ⟨i, h1, h2⟩)
        · subst h
          exact ⟨0, by simp, by simp⟩
        · exact ⟨i + 1, by simpa using h1, by omega⟩
      · rintro ⟨i, h1, h2⟩
        cases i with
        | zero =>
          left
          simp at h1
          obtain ⟨a, w⟩ := q
          simp at h1 h2
          rw [h1, h2]
        | succ i => exact Or.inr ⟨i, by simpa using h1, by omega⟩
theorem tv_lo_has {sl : Array Slot} {nL : Nat} {ls : List (Option Value)} : tv_lo sl nL ls ↔ lv_has sl nL (tv_as 0 ls) := by
  constructor
  · rintro ⟨h1, h2, h3⟩
    refine ⟨h1, h2, fun q hq => ?_⟩
    obtain ⟨i, h4, h5⟩ := (tv_as_mem ls 0 q).mp hq
    rw [show q.1 = i by omega]
    exact h3 i q.2 h4
  · rintro ⟨h1, h2, h3⟩
    refine ⟨h1, h2, fun i v h => ?_⟩
    exact h3 (i, v) ((tv_as_mem ls 0 (i, v)).mpr ⟨i, h, by simp⟩)
def tv_clr (a : Option Value) : Option Value := match a with
  | some w => if w.category = 2 then none else some w
  | none => none
def tv_sto : List (Option Value) → Nat → Value → List (Option Value)
  | [], _, _ => []
  | _ :: r, 0, v => some v :: r
  | a :: r, 1, v => tv_clr a :: tv_sto r 0 v
  | a :: r, i + 2, v => a :: tv_sto r (i + 1) v
theorem tv_sto_at (v w : Value) : ∀ (ls : List (Option Value)) (i j : Nat), (tv_sto ls i v)[j]? = some (some w) → (j = i ∧ w = v) ∨ (j ≠ i ∧ ¬ (j + 1 = i ∧ w.category = 2) ∧ ls[j]? = some (some w))
  | [], i, j, h => by simp [tv_sto] at h
  | a :: r, 0, 0, h => by simp [tv_sto] at h; exact Or.inl ⟨rfl, h.symm⟩
  | a :: r, 0, j + 1, h => by simp [tv_sto] at h; exact Or.inr ⟨by omega, by omega, by simpa using h⟩
  | a :: r, 1, 0, h => by
    rw [tv_sto] at h
    simp only [List.getElem?_cons_zero, Option.some.injEq] at h
    refine Or.inr ⟨by omega, fun hc => ?_, ?_⟩
    · cases a with
      | none => simp [tv_clr] at h
      | some u =>
        by_cases hu : u.category = 2
        · simp [tv_clr, hu] at h
        · simp [tv_clr, hu] at h
          exact hu (h ▸ hc.2)
    · cases a with
      | none => simp [tv_clr] at h
      | some u =>
        by_cases hu : u.category = 2
        · simp [tv_clr, hu] at h
        · simp [tv_clr, hu] at h
          simp [h]
  | a :: r, 1, j + 1, h => by
    rw [tv_sto] at h
    rcases tv_sto_at v w r 0 j (by simpa using h) with ⟨h1, h2⟩ | ⟨h1, h2, h3⟩
    · exact Or.inl ⟨by omega, h2⟩
    · exact Or.inr ⟨by omega, by omega, by simpa using h3⟩
  | a :: r, i + 2, 0, h => by
    rw [tv_sto] at h
    exact Or.inr ⟨by omega, by omega, by simpa using h⟩
  | a :: r, i + 2, j + 1, h => by
    rw [tv_sto] at h
    rcases tv_sto_at v w r (i + 1) j (by simpa using h) with ⟨h1, h2⟩ | ⟨h1, h2, h3⟩
    · exact Or.inl ⟨by omega, h2⟩
    · exact Or.inr ⟨by omega, fun hc => h2 ⟨by omega, hc.2⟩, by simpa using h3⟩
theorem tv_store1 {sl : Array Slot} {nL : Nat} {ls : List (Option Value)} {i : Nat} {v : Value} (h : tv_lo sl nL ls) (hi : i < nL) (hc : v.category = 1) : ∃ sl', storeLocals sl i v = some sl' ∧ tv_lo sl' nL (tv_sto ls i v) := by
  obtain ⟨sl', h1, h2, h3, h4⟩ := lv_store1 (tv_lo_has.mp h) hi hc
  refine ⟨sl', h1, h2, h3, fun j w hw => ?_⟩
  rcases tv_sto_at v w ls i j hw with ⟨g1, g2⟩ | ⟨g1, g2, g3⟩
  · subst g1; subst g2
    exact h4 (j, w) List.mem_cons_self
  · refine h4 (j, w) (List.mem_cons_of_mem _ (List.mem_filter.mpr ⟨(tv_as_mem ls 0 (j, w)).mpr ⟨j, g3, by simp⟩, ?_⟩))
    simp only [Bool.and_eq_true, Bool.not_eq_true', beq_eq_false_iff_ne, Bool.and_eq_false_iff]
    refine ⟨g1, ?_⟩
    by_cases hj : j + 1 = i
    · right
      exact fun hc => g2 ⟨hj, hc⟩
    · left
      exact hj
/-- a long: its second half goes too -/
def tv_sto2 (ls : List (Option Value)) (i : Nat) (v : Value) : List (Option Value) := (tv_sto ls i v).set (i + 1) none
theorem tv_store2 {sl : Array Slot} {nL : Nat} {ls : List (Option Value)} {i : Nat} {v : Value} (h : tv_lo sl nL ls) (hi : i + 1 < nL) (hc : v.category = 2) : ∃ sl', storeLocals sl i v = some sl' ∧ tv_lo sl' nL (tv_sto2 ls i v) := by
  obtain ⟨sl', h1, h2, h3, h4⟩ := lv_store2 (tv_lo_has.mp h) hi hc
  refine ⟨sl', h1, h2, h3, fun j w hw => ?_⟩
  unfold tv_sto2 at hw
  have hj1 : j ≠ i + 1 := by
    intro e
    subst e
    rw [List.getElem?_set] at hw
    simp at hw
  rw [List.getElem?_set_ne (Ne.symm hj1)] at hw
  rcases tv_sto_at v w ls i j hw with ⟨g1, g2⟩ | ⟨g1, g2, g3⟩
  · subst g1; subst g2
    exact h4 (j, w) List.mem_cons_self
  · refine h4 (j, w) (List.mem_cons_of_mem _ (List.mem_filter.mpr ⟨(tv_as_mem ls 0 (j, w)).mpr ⟨j, g3, by simp⟩, ?_⟩))
    simp only [Bool.and_eq_true, Bool.not_eq_true', beq_eq_false_iff_ne, Bool.and_eq_false_iff]
    refine ⟨g1, hj1, ?_⟩
    by_cases hj : j + 1 = i
    · right
      exact fun hc => g2 ⟨hj, hc⟩
    · left
      exact hj
/-- fewer known locals -/
def tv_mask : List Bool → List (Option Value) → List (Option Value)
  | [], _ => []
  | _, [] => []
  | true :: m, a :: r => a :: tv_mask m r
  | false :: m, _ :: r => none :: tv_mask m r
theorem tv_mask_at (w : Value) : ∀ (m : List Bool) (ls : List (Option Value)) (j : Nat), (tv_mask m ls)[j]? = some (some w) → ls[j]? = some (some w)
  | [], ls, j, h => by simp [tv_mask] at h
  | true :: m, [], j, h => by simp [tv_mask] at h
  | false :: m, [], j, h => by simp [tv_mask] at h
  | true :: m, a :: r, 0, h => by simpa [tv_mask] using h
  | false :: m, a :: r, 0, h => by simp [tv_mask] at h
  | true :: m, a :: r, j + 1, h => by simpa using tv_mask_at w m r j (by simpa [tv_mask] using h)
  | false :: m, a :: r, j + 1, h => by simpa using tv_mask_at w m r j (by simpa [tv_mask] using h)
theorem tv_lo_mask {sl : Array Slot} {nL : Nat} {ls : List (Option Value)} (m : List Bool) (h : tv_lo sl nL ls) : tv_lo sl nL (tv_mask m ls) := ⟨h.1, h.2.1, fun i v hv => h.2.2 i v (tv_mask_at v m ls i hv)⟩
end
section
/-! WHAT STANDS OUTSIDE: nest links, String constants, the static tables -/
def tv_nests : List (String × Nat × MethodName × String) := [("TiedViews", 23, ⟨"TiedViews$Sheet", "<init>", "()V"⟩, "TiedViews"), ("TiedViews$Agreement", 58, ⟨"TiedViews", "restOf", "(II)I"⟩, "TiedViews"), ("TiedViews$Dropping", 112, ⟨"TiedViews", "inverseOf", "(II)I"⟩, "TiedViews"), ("TiedViews$Dropping", 115, ⟨"TiedViews", "restOf", "(II)I"⟩, "TiedViews"), ("TiedViews$Dropping", 118, ⟨"TiedViews", "addTimes", "([I[IIII)V"⟩, "TiedViews"), ("TiedViews$Hearsay", 119, ⟨"TiedViews", "restOf", "(II)I"⟩, "TiedViews"), ("TiedViews$Steps", 71, ⟨"TiedViews", "inverseOf", "(II)I"⟩, "TiedViews"), ("TiedViews$Steps", 74, ⟨"TiedViews", "restOf", "(II)I"⟩, "TiedViews"), ("TiedViews$Steps", 77, ⟨"TiedViews", "addTimes", "([I[IIII)V"⟩, "TiedViews"), ("TiedViews$Told", 34, ⟨"TiedViews$Tie", "<init>", "()V"⟩, "TiedViews"), ("TiedViews$Told", 109, ⟨"TiedViews", "restOf", "(II)I"⟩, "TiedViews")]
def tv_strs : List (String × Nat × String) := [("TiedViews$Reader", 69, "eye"), ("TiedViews$Reader", 177, "view"), ("TiedViews$Reader", 179, "mod"), ("TiedViews$Reader", 181, "held"), ("TiedViews$Reader", 183, "choice"), ("TiedViews$Reader", 78, "tie"), ("TiedViews$Reader", 126, "by"), ("TiedViews$Reader", 138, "and"), ("TiedViews$Reader", 83, "bar")]
def tv_slen : List Nat := [3, 4, 3, 4, 6, 3, 2, 3, 3]
def tv_sbyt : List (List Int32) := [[101, 121, 101], [118, 105, 101, 119], [109, 111, 100], [104, 101, 108, 100], [99, 104, 111, 105, 99, 101], [116, 105, 101], [98, 121], [97, 110, 100], [98, 97, 114]]
def tv_stat : List (String × List Int32) := [("KIND_OF_SORT", [1, 2, 3, 4]), ("KIND_ABOVE", [-1, 0, 1, 1, 0]), ("SIZE_BODY", [10, 11, 12, 13, 14]), ("MARK_BODY", [20, 21, 22, 0, 23])]
def tv_tb : List Cond := lw_tbl.filter goodWord
def tv_X (b : Nat) (adK adV tS : Nat → Nat) (U : State) (H : Heap) : Prop :=
  (∀ q ∈ tv_nests, va_Nw (.methodLinkNest q.1 q.2.1 q.2.2.1 q.2.2.2) U) ∧ (∀ (i : Nat) (q : String × Nat × String), tv_strs[i]? = some q → vk_R q.1 q.2.1 q.2.2 (adK i) U) ∧ vk_S 9 tv_slen tv_sbyt adK adV (tv_A b) U H ∧ va_Z "java/lang/String" "COMPACT_STRINGS" "Z" (.int 1) (tv_A b) U H ∧
  (∀ (i : Nat) (q : String × List Int32), tv_stat[i]? = some q → va_Z "TiedViews$Bodies" q.1 "[I" (.ref (tS i)) (tv_A b) U H ∧ va_T .int (tS i) q.2.length (fun j => .int (q.2.getD j 0)) (tv_A b) U H) ∧ va_Zq "jdk/internal/util/Preconditions" "SIOOBE_FORMATTER" "Ljava/util/function/BiFunction;" (tv_A b) U H
theorem tv_X.warm {b : Nat} {adK adV tS : Nat → Nat} {s U : State} {H : Heap} (hW : s.WarmedH U.vm) (h : tv_X b adK adV tS s H) : tv_X b adK adV tS U H :=
  ⟨fun q hq => va_Nw.warmM hW (h.1 q hq), fun i q hq => vk_R.warm hW (h.2.1 i q hq), h.2.2.1.moved hW.alike, h.2.2.2.1.moved hW.alike, fun i q hq => ⟨(h.2.2.2.2.1 i q hq).1.moved hW.alike, (h.2.2.2.2.1 i q hq).2.moved hW.alike⟩, h.2.2.2.2.2.moved hW.alike⟩
theorem tv_X.same {b : Nat} {adK adV tS : Nat → Nat} {s U : State} {H : Heap} (hv : U.vm = s.vm) (h : tv_X b adK adV tS s H) : tv_X b adK adV tS U H := by
  have ha : s.vm.Alike U.vm := by rw [hv]; exact Vm.Alike.refl _
  exact ⟨fun q hq => va_Nw.same rfl hv.symm (h.1 q hq), fun i q hq => vk_R.same hv (h.2.1 i q hq), h.2.2.1.moved ha, h.2.2.2.1.moved ha, fun i q hq => ⟨(h.2.2.2.2.1 i q hq).1.moved ha, (h.2.2.2.2.1 i q hq).2.moved ha⟩, h.2.2.2.2.2.moved ha⟩
theorem tv_X.kept {b : Nat} {adK adV tS : Nat → Nat} {U : State} {H H1 : Heap} (h : tv_X b adK adV tS U H) (hq : ∀ a : Nat, a < H.size → ¬ tv_A b a → H1[a]? = H[a]?) : tv_X b adK adV tS U H1 :=
  ⟨h.1, h.2.1, h.2.2.1.kept hq, h.2.2.2.1.kept hq, fun i q hi => ⟨(h.2.2.2.2.1 i q hi).1.kept hq, (h.2.2.2.2.1 i q hi).2.kept hq⟩, h.2.2.2.2.2.kept hq⟩
/-- what all methods share: the first cell, class numbers, array classes, addresses of what stands outside -/
abbrev tv_Th : Type := Nat × va_G × (Nat → ClassId) × (Nat → Nat) × (Nat → Nat) × (Nat → Nat)
def tv_V (θ : tv_Th) (M : tv_M) (H : Heap) : Prop := va_P θ.2.1 tv_cl (tv_ws θ.1 θ.2.2.1 tv_n M.1 M.2 tv_P0) H
def tv_St (θ : tv_Th) (M : tv_M) (U : State) : Prop := tv_V θ M U.heap ∧ va_K θ.2.1 tv_cl (tv_tys θ.2.2.1) U ∧ tv_X θ.1 θ.2.2.2.1 θ.2.2.2.2.1 θ.2.2.2.2.2 U U.heap
/-- a walk's surroundings -/
abbrev tv_Kt : Type := Program × Launch × Env × Room × State × MethodId × Array Value × List Frame × Method × Code × tv_Th
abbrev tv_Kt.l (κ : tv_Kt) : Launch := κ.2.1
abbrev tv_Kt.s (κ : tv_Kt) : State := κ.2.2.2.2.1
abbrev tv_Kt.th (κ : tv_Kt) : tv_Th := κ.2.2.2.2.2.2.2.2.2.2
abbrev tv_Kt.b (κ : tv_Kt) : Nat := κ.th.1
abbrev tv_W (κ : tv_Kt) (H : Heap) (locs : List Loc) (Q : State → Prop) (pc : Nat) (sl : Array Slot) (st : List Value) : Prop := W κ.1 κ.2.1 κ.2.2.1 κ.2.2.2.1 κ.2.2.2.2.1 κ.2.2.2.2.2.1 κ.2.2.2.2.2.2.1 κ.2.2.2.2.2.2.2.1 κ.2.2.2.2.2.2.2.2.1 κ.2.2.2.2.2.2.2.2.2.1 H locs 0 0 Q (F0 κ.2.2.2.2.2.1 pc sl st)
def tv_Cx (κ : tv_Kt) (own : String) (cc : ByteArray) (nL d : Nat) : Prop :=
  (κ.1.tables.exec = Jvm.exec ∧ κ.2.2.2.2.2.2.2.2.2.1.code = cc ∧ κ.2.2.2.2.2.2.2.2.2.1.maxLocals = nL ∧ κ.s.vm.findClass own = some κ.2.2.2.2.2.1.cls ∧ ∀ w ∈ tv_tb, w.before κ.2.2.2.2.2.2.1 κ.s = true) ∧ va_K κ.th.2.1 tv_cl (tv_tys κ.th.2.2.1) κ.s ∧ tv_X κ.th.1 κ.th.2.2.2.1 κ.th.2.2.2.2.1 κ.th.2.2.2.2.2 κ.s κ.s.heap ∧ d ≤ κ.2.2.2.1.frames ∧ 40 * d ≤ κ.2.2.2.1.locals
/-- THE JUDGEMENT: if the function's outcome o is (r, M'), the machine goes from here to Q r M' -/
def tv_G {β : Type} (κ : tv_Kt) (nL : Nat) (Q : β → tv_M → State → Prop) (pc : Nat) (ls : List (Option Value)) (st : List Value) (M : tv_M) (o : Option (β × tv_M)) : Prop :=
  ∀ (r : β) (M' : tv_M), o = some (r, M') → ∀ (H : Heap) (locs : List Loc) (sl : Array Slot), tv_V κ.th M H → va_S (tv_A κ.b) κ.s.heap H locs → tv_lo sl nL ls → tv_W κ H locs (Q r M') pc sl st
/-! the functions' words -/
def tv_inb (i : Int32) (n : Nat) : Bool := decide (¬ (i < 0 ∨ n ≤ i.toNatClampNeg))
def tv_rd {α : Type} (M : tv_M) (k n : Nat) (i : Int32) (f : Int32 → Option α) : Option α := if tv_inb i n then f (M.1 k i.toNatClampNeg) else none
def tv_rdl {α : Type} (M : tv_M) (k n : Nat) (i : Int32) (f : Int64 → Option α) : Option α := if tv_inb i n then f (M.2 k i.toNatClampNeg) else none
def tv_wr {α : Type} (M : tv_M) (k n : Nat) (i x : Int32) (f : tv_M → Option α) : Option α := if tv_inb i n then f (tv_w M k i.toNatClampNeg x) else none
def tv_wrl {α : Type} (M : tv_M) (k n : Nat) (i : Int32) (x : Int64) (f : tv_M → Option α) : Option α := if tv_inb i n then f (tv_wl M k i.toNatClampNeg x) else none
def tv_nn {α : Type} (r : Option Nat) (f : Nat → Option α) : Option α := match r with
  | none => none
  | some k => f k
def tv_ap {α : Type} (a n : Nat) (i : Int32) (f : Nat → Option α) : Option α := if tv_inb i n then tv_nn (tv_P0 a i.toNatClampNeg) f else none
def tv_gl {α : Type} (k ci : Nat) (o : Option α) : Option α := if (tv_lay[k]?).map Prod.fst = some ci then o else none
def tv_gn {α : Type} (k t : Nat) (f : Nat → Option α) : Option α := match tv_lay[k]? with
  | some q => if q.1 = t then f q.2 else none
  | none => none
def tv_nz {α : Type} (y : Int32) (o : Option α) : Option α := if y = 0 then none else o
def tv_zo {α : Type} (x : Int32) (o : Option α) : Option α := if x = 0 ∨ x = 1 then o else none
def tv_cb {α β : Type} (c : Option (β × tv_M)) (f : β → tv_M → Option α) : Option α := match c with
  | none => none
  | some q => f q.1 q.2
def tv_nl {α : Type} (r : Option Nat) (o : Option α) (f : Nat → Option α) : Option α := match r with
  | none => o
  | some k => f k
/-- the remainder as the machine has it -/
abbrev tv_rem (x y : Int32) : Int32 := x - x / y * y
/-- arraycopy between int rows -/
def tv_cpy {α : Type} (M : tv_M) (a n0 : Nat) (sp : Int32) (k n1 : Nat) (dp n : Int32) (f : tv_M → Option α) : Option α :=
  if 0 ≤ sp ∧ 0 ≤ dp ∧ 0 ≤ n ∧ sp.toNatClampNeg + n.toNatClampNeg ≤ n0 ∧ dp.toNatClampNeg + n.toNatClampNeg ≤ n1 then f (tv_wc M k (va_cpy (M.1 a) (M.1 k) sp.toNatClampNeg dp.toNatClampNeg n.toNatClampNeg)) else none
theorem tv_inbP {i : Int32} {n : Nat} (h : tv_inb i n = true) : vp_in i n := by
  unfold tv_inb at h
  exact (of_decide_eq_true h : ¬ (i < 0 ∨ n ≤ i.toNatClampNeg))
section TVR
variable {β : Type} {κ : tv_Kt} {own : String} {cc : ByteArray} {nL d pc : Nat} {Q : β → tv_M → State → Prop} {ls ls' : List (Option Value)} {st : List Value} {M : tv_M} {o o1 o2 : Option (β × tv_M)} {x y : Int32} {u v : Int64}
theorem g_iconst (hC : tv_Cx κ own cc nL d) {n : Int} (hd : decode cc pc = .ok (.iconst n, 1)) (hv : Int32.ofInt n = x) (k : tv_G κ nL Q (pc + 1) ls (.int x :: st) M o) : tv_G κ nL Q pc ls st M o := fun r M' ho H locs sl hP hS hl => lv_iconst hC.1.1 hC.1.2.1 hd hv (k r M' ho H locs sl hP hS hl)
theorem g_bipush (hC : tv_Cx κ own cc nL d) {n : Int} (hd : decode cc pc = .ok (.bipush n, 2)) (hv : (Int8.ofInt n).toInt32 = x) (k : tv_G κ nL Q (pc + 2) ls (.int x :: st) M o) : tv_G κ nL Q pc ls st M o := fun r M' ho H locs sl hP hS hl => lv_bipush hC.1.1 hC.1.2.1 hd hv (k r M' ho H locs sl hP hS hl)
theorem g_sipush (hC : tv_Cx κ own cc nL d) {n : Int} (hd : decode cc pc = .ok (.sipush n, 3)) (hv : (Int16.ofInt n).toInt32 = x) (k : tv_G κ nL Q (pc + 3) ls (.int x :: st) M o) : tv_G κ nL Q pc ls st M o := fun r M' ho H locs sl hP hS hl => lv_sipush hC.1.1 hC.1.2.1 hd hv (k r M' ho H locs sl hP hS hl)
theorem g_lconst (hC : tv_Cx κ own cc nL d) {n : Fin 2} (hd : decode cc pc = .ok (.lconst n, 1)) (hv : Int64.ofNat (n : Nat) = u) (k : tv_G κ nL Q (pc + 1) ls (.long u :: st) M o) : tv_G κ nL Q pc ls st M o := fun r M' ho H locs sl hP hS hl => lv_lconst hC.1.1 hC.1.2.1 hd hv (k r M' ho H locs sl hP hS hl)
theorem g_ldc (hC : tv_Cx κ own cc nL d) {i : Nat} (hd : decode cc pc = .ok (.ldc i, 2)) (hw : Cond.constant own i x ∈ tv_tb) (k : tv_G κ nL Q (pc + 2) ls (.int x :: st) M o) : tv_G κ nL Q pc ls st M o := fun r M' ho H locs sl hP hS hl => lv_ldc hC.1.1 hC.1.2.1 hC.1.2.2.2.1 (hC.1.2.2.2.2 _ hw) hd (k r M' ho H locs sl hP hS hl)
theorem g_ldcw (hC : tv_Cx κ own cc nL d) {i : Nat} (hd : decode cc pc = .ok (.ldc_w i, 3)) (hw : Cond.constant own i x ∈ tv_tb) (k : tv_G κ nL Q (pc + 3) ls (.int x :: st) M o) : tv_G κ nL Q pc ls st M o := fun r M' ho H locs sl hP hS hl => lv_ldcw hC.1.1 hC.1.2.1 hC.1.2.2.2.1 (hC.1.2.2.2.2 _ hw) hd (k r M' ho H locs sl hP hS hl)
theorem g_ldc2 (hC : tv_Cx κ own cc nL d) {i : Nat} (hd : decode cc pc = .ok (.ldc2_w i, 3)) (hw : Cond.constantLong own i u ∈ tv_tb) (k : tv_G κ nL Q (pc + 3) ls (.long u :: st) M o) : tv_G κ nL Q pc ls st M o := fun r M' ho H locs sl hP hS hl => lv_ldc2 hC.1.1 hC.1.2.1 hC.1.2.2.2.1 (hC.1.2.2.2.2 _ hw) hd (k r M' ho H locs sl hP hS hl)
theorem g_null (hC : tv_Cx κ own cc nL d) (hd : decode cc pc = .ok (.aconst_null, 1)) (k : tv_G κ nL Q (pc + 1) ls (.null :: st) M o) : tv_G κ nL Q pc ls st M o := fun r M' ho H locs sl hP hS hl => lv_null hC.1.1 hC.1.2.1 hd (k r M' ho H locs sl hP hS hl)
theorem g_iload_n (hC : tv_Cx κ own cc nL d) {i : Fin 4} (hd : decode cc pc = .ok (.iload_n i, 1)) (hv : ls[(i : Nat)]? = some (some (.int x))) (k : tv_G κ nL Q (pc + 1) ls (.int x :: st) M o) : tv_G κ nL Q pc ls st M o := fun r M' ho H locs sl hP hS hl => lv_iload_n hC.1.1 hC.1.2.1 hd rfl (hl.2.2 _ _ hv) (k r M' ho H locs sl hP hS hl)
theorem g_iload (hC : tv_Cx κ own cc nL d) {i : Nat} (hd : decode cc pc = .ok (.iload i, 2)) (hv : ls[i]? = some (some (.int x))) (k : tv_G κ nL Q (pc + 2) ls (.int x :: st) M o) : tv_G κ nL Q pc ls st M o := fun r M' ho H locs sl hP hS hl => lv_iload hC.1.1 hC.1.2.1 hd (hl.2.2 _ _ hv) (k r M' ho H locs sl hP hS hl)
theorem g_lload_n (hC : tv_Cx κ own cc nL d) {i : Fin 4} (hd : decode cc pc = .ok (.lload_n i, 1)) (hv : ls[(i : Nat)]? = some (some (.long u))) (k : tv_G κ nL Q (pc + 1) ls (.long u :: st) M o) : tv_G κ nL Q pc ls st M o := fun r M' ho H locs sl hP hS hl => lv_lload_n hC.1.1 hC.1.2.1 hd rfl (hl.2.2 _ _ hv) (k r M' ho H locs sl hP hS hl)
theorem g_lload (hC : tv_Cx κ own cc nL d) {i : Nat} (hd : decode cc pc = .ok (.lload i, 2)) (hv : ls[i]? = some (some (.long u))) (k : tv_G κ nL Q (pc + 2) ls (.long u :: st) M o) : tv_G κ nL Q pc ls st M o := fun r M' ho H locs sl hP hS hl => lv_lload hC.1.1 hC.1.2.1 hd (hl.2.2 _ _ hv) (k r M' ho H locs sl hP hS hl)
theorem g_aload_n (hC : tv_Cx κ own cc nL d) {i : Fin 4} {a : Nat} (hd : decode cc pc = .ok (.aload_n i, 1)) (hv : ls[(i : Nat)]? = some (some (.ref a))) (k : tv_G κ nL Q (pc + 1) ls (.ref a :: st) M o) : tv_G κ nL Q pc ls st M o := fun r M' ho H locs sl hP hS hl => lv_aload_n hC.1.1 hC.1.2.1 hd rfl (hl.2.2 _ _ hv) (k r M' ho H locs sl hP hS hl)
theorem g_aload (hC : tv_Cx κ own cc nL d) {i a : Nat} (hd : decode cc pc = .ok (.aload i, 2)) (hv : ls[i]? = some (some (.ref a))) (k : tv_G κ nL Q (pc + 2) ls (.ref a :: st) M o) : tv_G κ nL Q pc ls st M o := fun r M' ho H locs sl hP hS hl => lv_aload hC.1.1 hC.1.2.1 hd (hl.2.2 _ _ hv) (k r M' ho H locs sl hP hS hl)
theorem g_aload_nQ (hC : tv_Cx κ own cc nL d) {i : Fin 4} {b : Nat} {a : Option Nat} (hd : decode cc pc = .ok (.aload_n i, 1)) (hv : ls[(i : Nat)]? = some (some (tv_re b a))) (k : tv_G κ nL Q (pc + 1) ls (tv_re b a :: st) M o) : tv_G κ nL Q pc ls st M o := by
  cases a with
  | none => exact fun r M' ho H locs sl hP hS hl => lv_aload_nN hC.1.1 hC.1.2.1 hd rfl (hl.2.2 _ _ hv) (k r M' ho H locs sl hP hS hl)
  | some a => exact g_aload_n hC hd hv k
theorem g_aloadQ (hC : tv_Cx κ own cc nL d) {i b : Nat} {a : Option Nat} (hd : decode cc pc = .ok (.aload i, 2)) (hv : ls[i]? = some (some (tv_re b a))) (k : tv_G κ nL Q (pc + 2) ls (tv_re b a :: st) M o) : tv_G κ nL Q pc ls st M o := by
  cases a with
  | none => exact fun r M' ho H locs sl hP hS hl => lv_aloadN hC.1.1 hC.1.2.1 hd (hl.2.2 _ _ hv) (k r M' ho H locs sl hP hS hl)
  | some a => exact g_aload hC hd hv k
theorem g_istore_n (hC : tv_Cx κ own cc nL d) {i : Fin 4} (hd : decode cc pc = .ok (.istore_n i, 1)) (hs : tv_sto ls (i : Nat) (.int x) = ls') (hn : Nat.blt (i : Nat) nL = true) (k : tv_G κ nL Q (pc + 1) ls' st M o) : tv_G κ nL Q pc ls (.int x :: st) M o := by
  intro r M' ho H locs sl hP hS hl
  obtain ⟨sl', e', h'⟩ := tv_store1 (v := .int x) hl (by simpa using hn) rfl
  intro T hT X
  obtain ⟨t, a, b⟩ := k r M' ho H locs sl' hP hS (hs ▸ h') T hT X
  refine ⟨t, ?_, b⟩
  have hx := hC.1.1
  have hb := hC.1.2.1
  jvm_step X.here [X.here.top, ↓top_set X.here.top, hx, hb, hd, e']
  exact a
theorem g_istore (hC : tv_Cx κ own cc nL d) {i : Nat} (hd : decode cc pc = .ok (.istore i, 2)) (hs : tv_sto ls i (.int x) = ls') (hn : Nat.blt i nL = true) (k : tv_G κ nL Q (pc + 2) ls' st M o) : tv_G κ nL Q pc ls (.int x :: st) M o := by
  intro r M' ho H locs sl hP hS hl
  obtain ⟨sl', e', h'⟩ := tv_store1 (v := .int x) hl (by simpa using hn) rfl
  intro T hT X
  obtain ⟨t, a, b⟩ := k r M' ho H locs sl' hP hS (hs ▸ h') T hT X
  refine ⟨t, ?_, b⟩
  have hx := hC.1.1
  have hb := hC.1.2.1
  jvm_step X.here [X.here.top, ↓top_set X.here.top, hx, hb, hd, e']
  exact a
theorem g_astore_n (hC : tv_Cx κ own cc nL d) {i : Fin 4} {a : Nat} (hd : decode cc pc = .ok (.astore_n i, 1)) (hs : tv_sto ls (i : Nat) (.ref a) = ls') (hn : Nat.blt (i : Nat) nL = true) (k : tv_G κ nL Q (pc + 1) ls' st M o) : tv_G κ nL Q pc ls (.ref a :: st) M o := by
  intro r M' ho H locs sl hP hS hl
  obtain ⟨sl', e', h'⟩ := tv_store1 (v := .ref a) hl (by simpa using hn) rfl
  intro T hT X
  obtain ⟨t, a, b⟩ := k r M' ho H locs sl' hP hS (hs ▸ h') T hT X
  refine ⟨t, ?_, b⟩
  have hx := hC.1.1
  have hb := hC.1.2.1
  jvm_step X.here [X.here.top, ↓top_set X.here.top, hx, hb, hd, e']
  exact ⟨rfl, a⟩
theorem g_astore (hC : tv_Cx κ own cc nL d) {i a : Nat} (hd : decode cc pc = .ok (.astore i, 2)) (hs : tv_sto ls i (.ref a) = ls') (hn : Nat.blt i nL = true) (k : tv_G κ nL Q (pc + 2) ls' st M o) : tv_G κ nL Q pc ls (.ref a :: st) M o := by
  intro r M' ho H locs sl hP hS hl
  obtain ⟨sl', e', h'⟩ := tv_store1 (v := .ref a) hl (by simpa using hn) rfl
  intro T hT X
  obtain ⟨t, a, b⟩ := k r M' ho H locs sl' hP hS (hs ▸ h') T hT X
  refine ⟨t, ?_, b⟩
  have hx := hC.1.1
  have hb := hC.1.2.1
  jvm_step X.here [X.here.top, ↓top_set X.here.top, hx, hb, hd, e']
  exact ⟨rfl, a⟩
theorem g_astore_nQ (hC : tv_Cx κ own cc nL d) {i : Fin 4} {b : Nat} {a : Option Nat} (hd : decode cc pc = .ok (.astore_n i, 1)) (hs : tv_sto ls (i : Nat) (tv_re b a) = ls') (hn : Nat.blt (i : Nat) nL = true) (k : tv_G κ nL Q (pc + 1) ls' st M o) : tv_G κ nL Q pc ls (tv_re b a :: st) M o := by
  cases a with
  | some a => exact g_astore_n hC hd hs hn k
  | none =>
    intro r M' ho H locs sl hP hS hl
    obtain ⟨sl', e', h'⟩ := tv_store1 (v := .null) hl (by simpa using hn) rfl
    intro T hT X
    obtain ⟨t, a, b⟩ := k r M' ho H locs sl' hP hS (hs ▸ h') T hT X
    refine ⟨t, ?_, b⟩
    have hx := hC.1.1
    have hb := hC.1.2.1
    show Steps _ _ _ (T.setTop (F0 _ pc sl (.null :: st))) t
    jvm_step X.here [X.here.top, ↓top_set X.here.top, hx, hb, hd, e']
    exact ⟨rfl, a⟩
theorem g_astoreQ (hC : tv_Cx κ own cc nL d) {i b : Nat} {a : Option Nat} (hd : decode cc pc = .ok (.astore i, 2)) (hs : tv_sto ls i (tv_re b a) = ls') (hn : Nat.blt i nL = true) (k : tv_G κ nL Q (pc + 2) ls' st M o) : tv_G κ nL Q pc ls (tv_re b a :: st) M o := by
  cases a with
  | some a => exact g_astore hC hd hs hn k
  | none =>
    intro r M' ho H locs sl hP hS hl
    obtain ⟨sl', e', h'⟩ := tv_store1 (v := .null) hl (by simpa using hn) rfl
    intro T hT X
    obtain ⟨t, a, b⟩ := k r M' ho H locs sl' hP hS (hs ▸ h') T hT X
    refine ⟨t, ?_, b⟩
    have hx := hC.1.1
    have hb := hC.1.2.1
    show Steps _ _ _ (T.setTop (F0 _ pc sl (.null :: st))) t
    jvm_step X.here [X.here.top, ↓top_set X.here.top, hx, hb, hd, e']
    exact ⟨rfl, a⟩
theorem g_lstore_n (hC : tv_Cx κ own cc nL d) {i : Fin 4} (hd : decode cc pc = .ok (.lstore_n i, 1)) (hs : tv_sto2 ls (i : Nat) (.long u) = ls') (hn : Nat.blt ((i : Nat) + 1) nL = true) (k : tv_G κ nL Q (pc + 1) ls' st M o) : tv_G κ nL Q pc ls (.long u :: st) M o := by
  intro r M' ho H locs sl hP hS hl
  obtain ⟨sl', e', h'⟩ := tv_store2 (v := .long u) hl (by simpa using hn) rfl
  intro T hT X
  obtain ⟨t, a, b⟩ := k r M' ho H locs sl' hP hS (hs ▸ h') T hT X
  refine ⟨t, ?_, b⟩
  have hx := hC.1.1
  have hb := hC.1.2.1
  jvm_step X.here [X.here.top, ↓top_set X.here.top, hx, hb, hd, e']
  exact a
theorem g_lstore (hC : tv_Cx κ own cc nL d) {i : Nat} (hd : decode cc pc = .ok (.lstore i, 2)) (hs : tv_sto2 ls i (.long u) = ls') (hn : Nat.blt (i + 1) nL = true) (k : tv_G κ nL Q (pc + 2) ls' st M o) : tv_G κ nL Q pc ls (.long u :: st) M o := by
  intro r M' ho H locs sl hP hS hl
  obtain ⟨sl', e', h'⟩ := tv_store2 (v := .long u) hl (by simpa using hn) rfl
  intro T hT X
  obtain ⟨t, a, b⟩ := k r M' ho H locs sl' hP hS (hs ▸ h') T hT X
  refine ⟨t, ?_, b⟩
  have hx := hC.1.1
  have hb := hC.1.2.1
  jvm_step X.here [X.here.top, ↓top_set X.here.top, hx, hb, hd, e']
  exact a
theorem g_iinc (hC : tv_Cx κ own cc nL d) {i : Nat} {n : Int} (hd : decode cc pc = .ok (.iinc i n, 3)) (hv : ls[i]? = some (some (.int x))) (hi : Int32.ofInt n = y) (hs : tv_sto ls i (.int (x + y)) = ls') (hn : Nat.blt i nL = true) (k : tv_G κ nL Q (pc + 3) ls' st M o) : tv_G κ nL Q pc ls st M o := by
  intro r M' ho H locs sl hP hS hl
  subst hi
  have hg := hl.2.2 _ _ hv
  obtain ⟨sl', e', h'⟩ := tv_store1 (v := .int (x + Int32.ofInt n)) hl (by simpa using hn) rfl
  intro T hT X
  obtain ⟨t, a, b⟩ := k r M' ho H locs sl' hP hS (hs ▸ h') T hT X
  refine ⟨t, ?_, b⟩
  have hx := hC.1.1
  have hb := hC.1.2.1
  jvm_step X.here [X.here.top, ↓top_set X.here.top, hx, hb, hd, hg, e']
  exact a
theorem g_iadd (hC : tv_Cx κ own cc nL d) (hd : decode cc pc = .ok (.iadd, 1)) (k : tv_G κ nL Q (pc + 1) ls (.int (x + y) :: st) M o) : tv_G κ nL Q pc ls (.int y :: .int x :: st) M o := fun r M' ho H locs sl hP hS hl => lv_iadd hC.1.1 hC.1.2.1 hd (k r M' ho H locs sl hP hS hl)
theorem g_isub (hC : tv_Cx κ own cc nL d) (hd : decode cc pc = .ok (.isub, 1)) (k : tv_G κ nL Q (pc + 1) ls (.int (x - y) :: st) M o) : tv_G κ nL Q pc ls (.int y :: .int x :: st) M o := fun r M' ho H locs sl hP hS hl => lv_isub hC.1.1 hC.1.2.1 hd (k r M' ho H locs sl hP hS hl)
theorem g_imul (hC : tv_Cx κ own cc nL d) (hd : decode cc pc = .ok (.imul, 1)) (k : tv_G κ nL Q (pc + 1) ls (.int (x * y) :: st) M o) : tv_G κ nL Q pc ls (.int y :: .int x :: st) M o := fun r M' ho H locs sl hP hS hl => lv_imul hC.1.1 hC.1.2.1 hd (k r M' ho H locs sl hP hS hl)
theorem g_iand (hC : tv_Cx κ own cc nL d) (hd : decode cc pc = .ok (.iand, 1)) (k : tv_G κ nL Q (pc + 1) ls (.int (x &&& y) :: st) M o) : tv_G κ nL Q pc ls (.int y :: .int x :: st) M o := fun r M' ho H locs sl hP hS hl => lv_iand hC.1.1 hC.1.2.1 hd (k r M' ho H locs sl hP hS hl)
theorem g_ior (hC : tv_Cx κ own cc nL d) (hd : decode cc pc = .ok (.ior, 1)) (k : tv_G κ nL Q (pc + 1) ls (.int (x ||| y) :: st) M o) : tv_G κ nL Q pc ls (.int y :: .int x :: st) M o := fun r M' ho H locs sl hP hS hl => lv_ior hC.1.1 hC.1.2.1 hd (k r M' ho H locs sl hP hS hl)
theorem g_ixor (hC : tv_Cx κ own cc nL d) (hd : decode cc pc = .ok (.ixor, 1)) (k : tv_G κ nL Q (pc + 1) ls (.int (x ^^^ y) :: st) M o) : tv_G κ nL Q pc ls (.int y :: .int x :: st) M o := fun r M' ho H locs sl hP hS hl => lv_ixor hC.1.1 hC.1.2.1 hd (k r M' ho H locs sl hP hS hl)
theorem g_ishl (hC : tv_Cx κ own cc nL d) (hd : decode cc pc = .ok (.ishl, 1)) (k : tv_G κ nL Q (pc + 1) ls (.int (x <<< (y &&& 31)) :: st) M o) : tv_G κ nL Q pc ls (.int y :: .int x :: st) M o := fun r M' ho H locs sl hP hS hl => lv_ishl hC.1.1 hC.1.2.1 hd (k r M' ho H locs sl hP hS hl)
theorem g_ishr (hC : tv_Cx κ own cc nL d) (hd : decode cc pc = .ok (.ishr, 1)) (k : tv_G κ nL Q (pc + 1) ls (.int (x >>> (y &&& 31)) :: st) M o) : tv_G κ nL Q pc ls (.int y :: .int x :: st) M o := fun r M' ho H locs sl hP hS hl => lv_ishr hC.1.1 hC.1.2.1 hd (k r M' ho H locs sl hP hS hl)
theorem g_iushr (hC : tv_Cx κ own cc nL d) (hd : decode cc pc = .ok (.iushr, 1)) (k : tv_G κ nL Q (pc + 1) ls (.int ((x.toUInt32 >>> (y.toUInt32 &&& Int32.toUInt32 31)).toInt32) :: st) M o) : tv_G κ nL Q pc ls (.int y :: .int x :: st) M o := fun r M' ho H locs sl hP hS hl => lv_iushr hC.1.1 hC.1.2.1 hd rfl (k r M' ho H locs sl hP hS hl)
theorem g_irem (hC : tv_Cx κ own cc nL d) (hd : decode cc pc = .ok (.irem, 1)) (k : tv_G κ nL Q (pc + 1) ls (.int (tv_rem x y) :: st) M o) : tv_G κ nL Q pc ls (.int y :: .int x :: st) M (tv_nz y o) := by
  intro r M' ho H locs sl hP hS hl
  unfold tv_nz at ho
  by_cases hy : y = 0
  · rw [if_pos hy] at ho; cases ho
  · rw [if_neg hy] at ho
    exact lv_irem hC.1.1 hC.1.2.1 hd hy (k r M' ho H locs sl hP hS hl)
theorem g_ladd (hC : tv_Cx κ own cc nL d) (hd : decode cc pc = .ok (.ladd, 1)) (k : tv_G κ nL Q (pc + 1) ls (.long (u + v) :: st) M o) : tv_G κ nL Q pc ls (.long v :: .long u :: st) M o := fun r M' ho H locs sl hP hS hl => lv_ladd hC.1.1 hC.1.2.1 hd (k r M' ho H locs sl hP hS hl)
theorem g_lsub (hC : tv_Cx κ own cc nL d) (hd : decode cc pc = .ok (.lsub, 1)) (k : tv_G κ nL Q (pc + 1) ls (.long (u - v) :: st) M o) : tv_G κ nL Q pc ls (.long v :: .long u :: st) M o := fun r M' ho H locs sl hP hS hl => lv_lsub hC.1.1 hC.1.2.1 hd (k r M' ho H locs sl hP hS hl)
theorem g_land (hC : tv_Cx κ own cc nL d) (hd : decode cc pc = .ok (.land, 1)) (k : tv_G κ nL Q (pc + 1) ls (.long (u &&& v) :: st) M o) : tv_G κ nL Q pc ls (.long v :: .long u :: st) M o := fun r M' ho H locs sl hP hS hl => lv_land hC.1.1 hC.1.2.1 hd (k r M' ho H locs sl hP hS hl)
theorem g_lor (hC : tv_Cx κ own cc nL d) (hd : decode cc pc = .ok (.lor, 1)) (k : tv_G κ nL Q (pc + 1) ls (.long (u ||| v) :: st) M o) : tv_G κ nL Q pc ls (.long v :: .long u :: st) M o := fun r M' ho H locs sl hP hS hl => lv_lor hC.1.1 hC.1.2.1 hd (k r M' ho H locs sl hP hS hl)
theorem g_lshl (hC : tv_Cx κ own cc nL d) (hd : decode cc pc = .ok (.lshl, 1)) (k : tv_G κ nL Q (pc + 1) ls (.long (u <<< (y.toInt64 &&& 63)) :: st) M o) : tv_G κ nL Q pc ls (.int y :: .long u :: st) M o := fun r M' ho H locs sl hP hS hl => lv_lshl hC.1.1 hC.1.2.1 hd rfl (k r M' ho H locs sl hP hS hl)
theorem g_lshr (hC : tv_Cx κ own cc nL d) (hd : decode cc pc = .ok (.lshr, 1)) (k : tv_G κ nL Q (pc + 1) ls (.long (u >>> (y.toInt64 &&& 63)) :: st) M o) : tv_G κ nL Q pc ls (.int y :: .long u :: st) M o := fun r M' ho H locs sl hP hS hl => lv_lshr hC.1.1 hC.1.2.1 hd rfl (k r M' ho H locs sl hP hS hl)
theorem g_lcmp (hC : tv_Cx κ own cc nL d) (hd : decode cc pc = .ok (.lcmp, 1)) (k : tv_G κ nL Q (pc + 1) ls (.int (lg_cmp u v) :: st) M o) : tv_G κ nL Q pc ls (.long v :: .long u :: st) M o := fun r M' ho H locs sl hP hS hl => W.lcmp hC.1.1 hC.1.2.1 hd (k r M' ho H locs sl hP hS hl)
theorem g_i2l (hC : tv_Cx κ own cc nL d) (hd : decode cc pc = .ok (.i2l, 1)) (k : tv_G κ nL Q (pc + 1) ls (.long (x.toInt64) :: st) M o) : tv_G κ nL Q pc ls (.int x :: st) M o := fun r M' ho H locs sl hP hS hl => lv_i2l hC.1.1 hC.1.2.1 hd rfl (k r M' ho H locs sl hP hS hl)
theorem g_l2i (hC : tv_Cx κ own cc nL d) (hd : decode cc pc = .ok (.l2i, 1)) (k : tv_G κ nL Q (pc + 1) ls (.int (u.toInt32) :: st) M o) : tv_G κ nL Q pc ls (.long u :: st) M o := fun r M' ho H locs sl hP hS hl => lv_l2i hC.1.1 hC.1.2.1 hd rfl (k r M' ho H locs sl hP hS hl)
theorem g_i2b (hC : tv_Cx κ own cc nL d) (hd : decode cc pc = .ok (.i2b, 1)) (k : tv_G κ nL Q (pc + 1) ls (.int (x.toInt8.toInt32) :: st) M o) : tv_G κ nL Q pc ls (.int x :: st) M o := fun r M' ho H locs sl hP hS hl => lv_i2b hC.1.1 hC.1.2.1 hd rfl (k r M' ho H locs sl hP hS hl)
theorem g_i2s (hC : tv_Cx κ own cc nL d) (hd : decode cc pc = .ok (.i2s, 1)) (k : tv_G κ nL Q (pc + 1) ls (.int (x.toInt16.toInt32) :: st) M o) : tv_G κ nL Q pc ls (.int x :: st) M o := fun r M' ho H locs sl hP hS hl => lv_i2s hC.1.1 hC.1.2.1 hd rfl (k r M' ho H locs sl hP hS hl)
theorem g_i2c (hC : tv_Cx κ own cc nL d) (hd : decode cc pc = .ok (.i2c, 1)) (k : tv_G κ nL Q (pc + 1) ls (.int ((x.toUInt32 % 65536).toInt32) :: st) M o) : tv_G κ nL Q pc ls (.int x :: st) M o := fun r M' ho H locs sl hP hS hl => lv_i2c hC.1.1 hC.1.2.1 hd rfl (k r M' ho H locs sl hP hS hl)
theorem g_dup (hC : tv_Cx κ own cc nL d) {w : Value} (hd : decode cc pc = .ok (.dup, 1)) (hw : w.category = 1) (k : tv_G κ nL Q (pc + 1) ls (w :: w :: st) M o) : tv_G κ nL Q pc ls (w :: st) M o := fun r M' ho H locs sl hP hS hl => lv_dup hC.1.1 hC.1.2.1 hd hw (k r M' ho H locs sl hP hS hl)
theorem g_dup2 (hC : tv_Cx κ own cc nL d) {w w2 : Value} (hd : decode cc pc = .ok (.dup2, 1)) (hw : w.category = 1) (hw2 : w2.category = 1) (k : tv_G κ nL Q (pc + 1) ls (w :: w2 :: w :: w2 :: st) M o) : tv_G κ nL Q pc ls (w :: w2 :: st) M o := fun r M' ho H locs sl hP hS hl => lv_dup2_11 hC.1.1 hC.1.2.1 hd hw hw2 (k r M' ho H locs sl hP hS hl)
theorem g_dup_x1 (hC : tv_Cx κ own cc nL d) {w w2 : Value} (hd : decode cc pc = .ok (.dup_x1, 1)) (hw : w.category = 1) (hw2 : w2.category = 1) (k : tv_G κ nL Q (pc + 1) ls (w :: w2 :: w :: st) M o) : tv_G κ nL Q pc ls (w :: w2 :: st) M o := fun r M' ho H locs sl hP hS hl => lv_dup_x1 hC.1.1 hC.1.2.1 hd hw hw2 (k r M' ho H locs sl hP hS hl)
theorem g_pop (hC : tv_Cx κ own cc nL d) {w : Value} (hd : decode cc pc = .ok (.pop, 1)) (hw : w.category = 1) (k : tv_G κ nL Q (pc + 1) ls st M o) : tv_G κ nL Q pc ls (w :: st) M o := fun r M' ho H locs sl hP hS hl => lv_pop hC.1.1 hC.1.2.1 hd hw (k r M' ho H locs sl hP hS hl)
theorem g_goto (hC : tv_Cx κ own cc nL d) {off : Int} {tgt : Nat} (hd : decode cc pc = .ok (.goto off, 3)) (ht : (pc : Int) + off = (tgt : Int)) (k : tv_G κ nL Q tgt ls st M o) : tv_G κ nL Q pc ls st M o := fun r M' ho H locs sl hP hS hl => lv_goto hC.1.1 hC.1.2.1 hd ht (k r M' ho H locs sl hP hS hl)
theorem g_icmp_eq (hC : tv_Cx κ own cc nL d) {off : Int} {tgt : Nat} (hd : decode cc pc = .ok (.if_icmp .eq off, 3)) (ht : (pc : Int) + off = (tgt : Int)) (k1 : x = y → tv_G κ nL Q tgt ls st M o1) (k2 : ¬ x = y → tv_G κ nL Q (pc + 3) ls st M o2) : tv_G κ nL Q pc ls (.int y :: .int x :: st) M (if x = y then o1 else o2) := by
  intro r M' ho H locs sl hP hS hl
  refine lv_icmp_eq hC.1.1 hC.1.2.1 hd ht (fun hc => k1 hc r M' ?_ H locs sl hP hS hl) (fun hc => k2 hc r M' ?_ H locs sl hP hS hl)
  · rw [if_pos hc] at ho; exact ho
  · rw [if_neg hc] at ho; exact ho
theorem g_icmp_ne (hC : tv_Cx κ own cc nL d) {off : Int} {tgt : Nat} (hd : decode cc pc = .ok (.if_icmp .ne off, 3)) (ht : (pc : Int) + off = (tgt : Int)) (k1 : ¬ x = y → tv_G κ nL Q tgt ls st M o1) (k2 : x = y → tv_G κ nL Q (pc + 3) ls st M o2) : tv_G κ nL Q pc ls (.int y :: .int x :: st) M (if x = y then o2 else o1) := by
  intro r M' ho H locs sl hP hS hl
  refine lv_icmp_ne hC.1.1 hC.1.2.1 hd ht (fun hc => k1 hc r M' ?_ H locs sl hP hS hl) (fun hc => k2 hc r M' ?_ H locs sl hP hS hl)
  · rw [if_neg hc] at ho; exact ho
  · rw [if_pos hc] at ho; exact ho
theorem g_icmp_lt (hC : tv_Cx κ own cc nL d) {off : Int} {tgt : Nat} (hd : decode cc pc = .ok (.if_icmp .lt off, 3)) (ht : (pc : Int) + off = (tgt : Int)) (k1 : x < y → tv_G κ nL Q tgt ls st M o1) (k2 : ¬ x < y → tv_G κ nL Q (pc + 3) ls st M o2) : tv_G κ nL Q pc ls (.int y :: .int x :: st) M (if x < y then o1 else o2) := by
  intro r M' ho H locs sl hP hS hl
  refine lv_icmp_lt hC.1.1 hC.1.2.1 hd ht (fun hc => k1 hc r M' ?_ H locs sl hP hS hl) (fun hc => k2 hc r M' ?_ H locs sl hP hS hl)
  · rw [if_pos hc] at ho; exact ho
  · rw [if_neg hc] at ho; exact ho
theorem g_icmp_ge (hC : tv_Cx κ own cc nL d) {off : Int} {tgt : Nat} (hd : decode cc pc = .ok (.if_icmp .ge off, 3)) (ht : (pc : Int) + off = (tgt : Int)) (k1 : y ≤ x → tv_G κ nL Q tgt ls st M o1) (k2 : ¬ y ≤ x → tv_G κ nL Q (pc + 3) ls st M o2) : tv_G κ nL Q pc ls (.int y :: .int x :: st) M (if y ≤ x then o1 else o2) := by
  intro r M' ho H locs sl hP hS hl
  refine lv_icmp_ge hC.1.1 hC.1.2.1 hd ht (fun hc => k1 hc r M' ?_ H locs sl hP hS hl) (fun hc => k2 hc r M' ?_ H locs sl hP hS hl)
  · rw [if_pos hc] at ho; exact ho
  · rw [if_neg hc] at ho; exact ho
theorem g_icmp_gt (hC : tv_Cx κ own cc nL d) {off : Int} {tgt : Nat} (hd : decode cc pc = .ok (.if_icmp .gt off, 3)) (ht : (pc : Int) + off = (tgt : Int)) (k1 : y < x → tv_G κ nL Q tgt ls st M o1) (k2 : ¬ y < x → tv_G κ nL Q (pc + 3) ls st M o2) : tv_G κ nL Q pc ls (.int y :: .int x :: st) M (if y < x then o1 else o2) := by
  intro r M' ho H locs sl hP hS hl
  refine lv_icmp_gt hC.1.1 hC.1.2.1 hd ht (fun hc => k1 hc r M' ?_ H locs sl hP hS hl) (fun hc => k2 hc r M' ?_ H locs sl hP hS hl)
  · rw [if_pos hc] at ho; exact ho
  · rw [if_neg hc] at ho; exact ho
theorem g_icmp_le (hC : tv_Cx κ own cc nL d) {off : Int} {tgt : Nat} (hd : decode cc pc = .ok (.if_icmp .le off, 3)) (ht : (pc : Int) + off = (tgt : Int)) (k1 : x ≤ y → tv_G κ nL Q tgt ls st M o1) (k2 : ¬ x ≤ y → tv_G κ nL Q (pc + 3) ls st M o2) : tv_G κ nL Q pc ls (.int y :: .int x :: st) M (if x ≤ y then o1 else o2) := by
  intro r M' ho H locs sl hP hS hl
  refine lv_icmp_le hC.1.1 hC.1.2.1 hd ht (fun hc => k1 hc r M' ?_ H locs sl hP hS hl) (fun hc => k2 hc r M' ?_ H locs sl hP hS hl)
  · rw [if_pos hc] at ho; exact ho
  · rw [if_neg hc] at ho; exact ho
theorem g_if_eq (hC : tv_Cx κ own cc nL d) {off : Int} {tgt : Nat} (hd : decode cc pc = .ok (.ifCond .eq off, 3)) (ht : (pc : Int) + off = (tgt : Int)) (k1 : x = 0 → tv_G κ nL Q tgt ls st M o1) (k2 : ¬ x = 0 → tv_G κ nL Q (pc + 3) ls st M o2) : tv_G κ nL Q pc ls (.int x :: st) M (if x = 0 then o1 else o2) := by
  intro r M' ho H locs sl hP hS hl
  refine lv_if_eq hC.1.1 hC.1.2.1 hd ht (fun hc => k1 hc r M' ?_ H locs sl hP hS hl) (fun hc => k2 hc r M' ?_ H locs sl hP hS hl)
  · rw [if_pos hc] at ho; exact ho
  · rw [if_neg hc] at ho; exact ho
theorem g_if_ne (hC : tv_Cx κ own cc nL d) {off : Int} {tgt : Nat} (hd : decode cc pc = .ok (.ifCond .ne off, 3)) (ht : (pc : Int) + off = (tgt : Int)) (k1 : ¬ x = 0 → tv_G κ nL Q tgt ls st M o1) (k2 : x = 0 → tv_G κ nL Q (pc + 3) ls st M o2) : tv_G κ nL Q pc ls (.int x :: st) M (if x = 0 then o2 else o1) := by
  intro r M' ho H locs sl hP hS hl
  refine lv_if_ne hC.1.1 hC.1.2.1 hd ht (fun hc => k1 hc r M' ?_ H locs sl hP hS hl) (fun hc => k2 hc r M' ?_ H locs sl hP hS hl)
  · rw [if_neg hc] at ho; exact ho
  · rw [if_pos hc] at ho; exact ho
theorem g_if_lt (hC : tv_Cx κ own cc nL d) {off : Int} {tgt : Nat} (hd : decode cc pc = .ok (.ifCond .lt off, 3)) (ht : (pc : Int) + off = (tgt : Int)) (k1 : x < 0 → tv_G κ nL Q tgt ls st M o1) (k2 : ¬ x < 0 → tv_G κ nL Q (pc + 3) ls st M o2) : tv_G κ nL Q pc ls (.int x :: st) M (if x < 0 then o1 else o2) := by
  intro r M' ho H locs sl hP hS hl
  refine lv_if_lt hC.1.1 hC.1.2.1 hd ht (fun hc => k1 hc r M' ?_ H locs sl hP hS hl) (fun hc => k2 hc r M' ?_ H locs sl hP hS hl)
  · rw [if_pos hc] at ho; exact ho
  · rw [if_neg hc] at ho; exact ho
theorem g_if_ge (hC : tv_Cx κ own cc nL d) {off : Int} {tgt : Nat} (hd : decode cc pc = .ok (.ifCond .ge off, 3)) (ht : (pc : Int) + off = (tgt : Int)) (k1 : 0 ≤ x → tv_G κ nL Q tgt ls st M o1) (k2 : ¬ 0 ≤ x → tv_G κ nL Q (pc + 3) ls st M o2) : tv_G κ nL Q pc ls (.int x :: st) M (if 0 ≤ x then o1 else o2) := by
  intro r M' ho H locs sl hP hS hl
  refine lv_if_ge hC.1.1 hC.1.2.1 hd ht (fun hc => k1 hc r M' ?_ H locs sl hP hS hl) (fun hc => k2 hc r M' ?_ H locs sl hP hS hl)
  · rw [if_pos hc] at ho; exact ho
  · rw [if_neg hc] at ho; exact ho
theorem g_if_gt (hC : tv_Cx κ own cc nL d) {off : Int} {tgt : Nat} (hd : decode cc pc = .ok (.ifCond .gt off, 3)) (ht : (pc : Int) + off = (tgt : Int)) (k1 : 0 < x → tv_G κ nL Q tgt ls st M o1) (k2 : ¬ 0 < x → tv_G κ nL Q (pc + 3) ls st M o2) : tv_G κ nL Q pc ls (.int x :: st) M (if 0 < x then o1 else o2) := by
  intro r M' ho H locs sl hP hS hl
  refine lv_if_gt hC.1.1 hC.1.2.1 hd ht (fun hc => k1 hc r M' ?_ H locs sl hP hS hl) (fun hc => k2 hc r M' ?_ H locs sl hP hS hl)
  · rw [if_pos hc] at ho; exact ho
  · rw [if_neg hc] at ho; exact ho
theorem g_if_le (hC : tv_Cx κ own cc nL d) {off : Int} {tgt : Nat} (hd : decode cc pc = .ok (.ifCond .le off, 3)) (ht : (pc : Int) + off = (tgt : Int)) (k1 : x ≤ 0 → tv_G κ nL Q tgt ls st M o1) (k2 : ¬ x ≤ 0 → tv_G κ nL Q (pc + 3) ls st M o2) : tv_G κ nL Q pc ls (.int x :: st) M (if x ≤ 0 then o1 else o2) := by
  intro r M' ho H locs sl hP hS hl
  refine lv_if_le hC.1.1 hC.1.2.1 hd ht (fun hc => k1 hc r M' ?_ H locs sl hP hS hl) (fun hc => k2 hc r M' ?_ H locs sl hP hS hl)
  · rw [if_pos hc] at ho; exact ho
  · rw [if_neg hc] at ho; exact ho
theorem g_ifnullR (hC : tv_Cx κ own cc nL d) {off : Int} {a : Nat} (hd : decode cc pc = .ok (.ifnull off, 3)) (k : tv_G κ nL Q (pc + 3) ls st M o) : tv_G κ nL Q pc ls (.ref a :: st) M o := fun r M' ho H locs sl hP hS hl => lv_ifnull hC.1.1 hC.1.2.1 hd (k r M' ho H locs sl hP hS hl)
theorem g_ifnullN (hC : tv_Cx κ own cc nL d) {off : Int} {tgt : Nat} (hd : decode cc pc = .ok (.ifnull off, 3)) (ht : (pc : Int) + off = (tgt : Int)) (k : tv_G κ nL Q tgt ls st M o) : tv_G κ nL Q pc ls (.null :: st) M o := fun r M' ho H locs sl hP hS hl => lv_ifnullN hC.1.1 hC.1.2.1 hd ht (k r M' ho H locs sl hP hS hl)
theorem g_ifnonnullR (hC : tv_Cx κ own cc nL d) {off : Int} {a tgt : Nat} (hd : decode cc pc = .ok (.ifnonnull off, 3)) (ht : (pc : Int) + off = (tgt : Int)) (k : tv_G κ nL Q tgt ls st M o) : tv_G κ nL Q pc ls (.ref a :: st) M o := fun r M' ho H locs sl hP hS hl => lv_ifnonnull hC.1.1 hC.1.2.1 hd ht (k r M' ho H locs sl hP hS hl)
theorem g_ifnonnullN (hC : tv_Cx κ own cc nL d) {off : Int} (hd : decode cc pc = .ok (.ifnonnull off, 3)) (k : tv_G κ nL Q (pc + 3) ls st M o) : tv_G κ nL Q pc ls (.null :: st) M o := fun r M' ho H locs sl hP hS hl => lv_ifnonnullN hC.1.1 hC.1.2.1 hd (k r M' ho H locs sl hP hS hl)
theorem g_mask (m : List Bool) (hm : tv_mask m ls = ls') (k : tv_G κ nL Q pc ls' st M o) : tv_G κ nL Q pc ls st M o := fun r M' ho H locs sl hP hS hl => k r M' ho H locs sl hP hS (hm ▸ tv_lo_mask m hl)
theorem g_none : tv_G κ nL Q pc ls st M none := fun r M' ho => by cases ho
theorem g_gl {k ci : Nat} (h : (tv_lay[k]?).map Prod.fst = some ci → tv_G κ nL Q pc ls st M o) : tv_G κ nL Q pc ls st M (tv_gl k ci o) := by
  unfold tv_gl
  split
  · exact h (by assumption)
  · exact g_none
theorem g_gn {k t : Nat} {f : Nat → Option (β × tv_M)} (h : ∀ n, tv_lay[k]? = some (t, n) → tv_G κ nL Q pc ls st M (f n)) : tv_G κ nL Q pc ls st M (tv_gn k t f) := by
  unfold tv_gn
  cases hq : tv_lay[k]? with
  | none => exact g_none
  | some q =>
    by_cases ht : q.1 = t
    · simp only [ht, if_true]
      exact h q.2 (by rw [hq, ← ht])
    · simp only [ht, if_false]
      exact g_none
theorem g_nn {r : Option Nat} {f : Nat → Option (β × tv_M)} (h : ∀ k, r = some k → tv_G κ nL Q pc ls st M (f k)) : tv_G κ nL Q pc ls st M (tv_nn r f) := by
  cases r with
  | none => exact g_none
  | some k => exact h k rfl
theorem g_zo (h : x = 0 ∨ x = 1 → tv_G κ nL Q pc ls st M o) : tv_G κ nL Q pc ls st M (tv_zo x o) := by
  unfold tv_zo
  split
  · exact h (by assumption)
  · exact g_none
end TVR
end
section
theorem tv_lay_n : tv_lay.length = tv_n := by decide +kernel
theorem tv_lay_lt {k : Nat} {q : Nat × Nat} (h : tv_lay[k]? = some q) : k < tv_n := by
  rw [← tv_lay_n]
  exact (List.getElem?_eq_some_iff.mp h).1
theorem tv_lay_of {k ci : Nat} (h : (tv_lay[k]?).map Prod.fst = some ci) : ∃ n, tv_lay[k]? = some (ci, n) := by
  cases hq : tv_lay[k]? with
  | none => rw [hq] at h; cases h
  | some q =>
    rw [hq] at h
    cases h
    exact ⟨q.2, rfl⟩
theorem tv_mem_tb {w : Cond} (h : w ∈ tables_1) (hg : goodWord w = true) : w ∈ tv_tb := List.mem_filter.mpr ⟨List.mem_append_right _ h, hg⟩
theorem tv_at {w : Cond} (i : Nat) (h : tables_1[i]? = some w) (hg : goodWord w = true) : w ∈ tv_tb := tv_mem_tb (List.mem_of_getElem? h) hg
def tv_tyf (ci : Nat) : Nat → FieldType := match ci with
  | 0 => tv_ty0
  | 1 => tv_ty1
  | 2 => tv_ty2
  | 3 => tv_ty3
  | 4 => tv_ty4
  | 5 => tv_ty5
  | 6 => tv_ty6
  | 7 => tv_ty7
  | 8 => tv_ty8
  | 9 => tv_ty9
  | 10 => tv_ty10
  | 11 => tv_ty11
  | _ => tv_ty12
def tv_okc (ci : Nat) (r : vw_C) : Prop := ci < 13 ∧ tv_nf.getD ci 0 = r.2.2 ∧ (∀ w ∈ u_ws r.1 r.2.1 r.2.2, w ∈ tv_tb) ∧ (∀ a, a < r.2.2 → ∀ b, b < r.2.2 → a ≠ b → (r.2.1 a).2.1 ≠ (r.2.1 b).2.1) ∧ ∀ k, k < r.2.2 → parseFieldDescriptor (r.2.1 k).2.2.1 = some (tv_tyf ci k)
theorem tv_good_lay {C : String} {T : u_T} {N : Nat} (h : ∀ w ∈ u_ws C T N, w ∈ tables_1) : ∀ w ∈ u_ws C T N, w ∈ tv_tb := by
  intro w hw
  refine tv_mem_tb (h w hw) ?_
  obtain ⟨k, -, rfl⟩ := List.mem_map.mp hw
  unfold u_lay
  split <;> rfl
theorem tv_okc_all {ci : Nat} {r : vw_C} (h : tv_cl[ci]? = some r) : tv_okc ci r := by
  match ci, h with
  | 0, h => cases h; exact ⟨by decide, by decide, tv_good_lay tv_in0, tv_nm0, tv_tk0⟩
  | 1, h => cases h; exact ⟨by decide, by decide, tv_good_lay tv_in1, tv_nm1, tv_tk1⟩
  | 2, h => cases h; exact ⟨by decide, by decide, tv_good_lay tv_in2, tv_nm2, tv_tk2⟩
  | 3, h => cases h; exact ⟨by decide, by decide, tv_good_lay tv_in3, tv_nm3, tv_tk3⟩
  | 4, h => cases h; exact ⟨by decide, by decide, tv_good_lay tv_in4, tv_nm4, tv_tk4⟩
  | 5, h => cases h; exact ⟨by decide, by decide, tv_good_lay tv_in5, tv_nm5, tv_tk5⟩
  | 6, h => cases h; exact ⟨by decide, by decide, tv_good_lay tv_in6, tv_nm6, tv_tk6⟩
  | 7, h => cases h; exact ⟨by decide, by decide, tv_good_lay tv_in7, tv_nm7, tv_tk7⟩
  | 8, h => cases h; exact ⟨by decide, by decide, tv_good_lay tv_in8, tv_nm8, tv_tk8⟩
  | 9, h => cases h; exact ⟨by decide, by decide, tv_good_lay tv_in9, tv_nm9, tv_tk9⟩
  | 10, h => cases h; exact ⟨by decide, by decide, tv_good_lay tv_in10, tv_nm10, tv_tk10⟩
  | 11, h => cases h; exact ⟨by decide, by decide, tv_good_lay tv_in11, tv_nm11, tv_tk11⟩
  | 12, h => cases h; exact ⟨by decide, by decide, tv_good_lay tv_in12, tv_nm12, tv_tk12⟩
  | _ + 13, h => simp [tv_cl] at h
theorem tv_nar0 : narrow .boolean (.int 0) = .int 0 := by decide
theorem tv_nar1 : narrow .boolean (.int 1) = .int 1 := by decide
theorem tv_narZ {x : Int32} (h : x = 0 ∨ x = 1) : narrow .boolean (.int x) = .int x := by
  rcases h with h | h <;> subst h
  · exact tv_nar0
  · exact tv_nar1
section TVF
variable {β : Type} {κ : tv_Kt} {own : String} {cc : ByteArray} {nL d pc : Nat} {Q : β → tv_M → State → Prop} {ls ls' : List (Option Value)} {st : List Value} {M : tv_M} {o o1 o2 : Option (β × tv_M)} {x y : Int32} {u v : Int64}
theorem g_getI (hC : tv_Cx κ own cc nL d) {idx k : Nat} (ci j : Nat) {r : vw_C} (hk : (tv_lay[k]?).map Prod.fst = some ci) (hr : tv_cl[ci]? = some r) (hj : Nat.blt j r.2.2 = true) (hf : (tv_rf.getD ci []).getD j false = false) (hw : Cond.fieldLink own idx (r.2.1 j).1 (r.2.1 j).2.1 (r.2.1 j).2.2.1 ∈ tv_tb) (hd : decode cc pc = .ok (.getfield idx, 3)) (kk : tv_G κ nL Q (pc + 3) ls (.int (M.1 k j) :: st) M o) : tv_G κ nL Q pc ls (.ref (κ.b + k) :: st) M o := by
  obtain ⟨n, hn⟩ := tv_lay_of hk
  obtain ⟨h1, h2, h3, h4, h5⟩ := tv_okc_all hr
  have hj' : j < r.2.2 := by simpa using hj
  intro r0 M' ho H locs sl hP hS hl
  have he := tv_get (b := κ.b) (cA := κ.th.2.2.1) (I := M.1) (J := M.2) (P := tv_P0) (tv_lay_lt hn) hn
  rw [tv_E_ob h1, h2] at he
  exact va_get hC.1.1 hC.1.2.1 hC.1.2.2.2.2 h3 hC.1.2.2.2.1 hC.2.1 hP k he hr j hj' (hC.1.2.2.2.2 _ hw) (fun _ h => h) (tv_ob_i hj' hf) hd (kk r0 M' ho H locs sl hP hS hl)
theorem g_getP (hC : tv_Cx κ own cc nL d) {idx k : Nat} (ci j : Nat) {r : vw_C} {p : Option Nat} (hk : (tv_lay[k]?).map Prod.fst = some ci) (hr : tv_cl[ci]? = some r) (hj : Nat.blt j r.2.2 = true) (hf : (tv_rf.getD ci []).getD j false = true) (hw : Cond.fieldLink own idx (r.2.1 j).1 (r.2.1 j).2.1 (r.2.1 j).2.2.1 ∈ tv_tb) (hd : decode cc pc = .ok (.getfield idx, 3)) (hp : tv_P0 k j = p) (kk : tv_G κ nL Q (pc + 3) ls (tv_re κ.b p :: st) M o) : tv_G κ nL Q pc ls (.ref (κ.b + k) :: st) M o := by
  obtain ⟨n, hn⟩ := tv_lay_of hk
  obtain ⟨h1, h2, h3, h4, h5⟩ := tv_okc_all hr
  have hj' : j < r.2.2 := by simpa using hj
  subst hp
  intro r0 M' ho H locs sl hP hS hl
  have he := tv_get (b := κ.b) (cA := κ.th.2.2.1) (I := M.1) (J := M.2) (P := tv_P0) (tv_lay_lt hn) hn
  rw [tv_E_ob h1, h2] at he
  exact va_get hC.1.1 hC.1.2.1 hC.1.2.2.2.2 h3 hC.1.2.2.2.1 hC.2.1 hP k he hr j hj' (hC.1.2.2.2.2 _ hw) (fun _ h => h) (tv_ob_r hj' hf) hd (kk r0 M' ho H locs sl hP hS hl)
theorem g_putT (hC : tv_Cx κ own cc nL d) {idx k : Nat} (ci j : Nat) {r : vw_C} {ty : FieldType} (hk : (tv_lay[k]?).map Prod.fst = some ci) (hr : tv_cl[ci]? = some r) (hj : Nat.blt j r.2.2 = true) (hf : (tv_rf.getD ci []).getD j false = false) (hw : Cond.fieldLink own idx (r.2.1 j).1 (r.2.1 j).2.1 (r.2.1 j).2.2.1 ∈ tv_tb) (hfin : (r.2.1 j).2.2.2 = false) (hty : tv_tyf ci j = ty) (hnr : narrow ty (.int x) = .int x) (hft : fits ty (.int x) = true) (hd : decode cc pc = .ok (.putfield idx, 3)) (kk : tv_G κ nL Q (pc + 3) ls st (tv_w M k j x) o) : tv_G κ nL Q pc ls (.int x :: .ref (κ.b + k) :: st) M o := by
  obtain ⟨n, hn⟩ := tv_lay_of hk
  obtain ⟨h1, h2, h3, h4, h5⟩ := tv_okc_all hr
  have hj' : j < r.2.2 := by simpa using hj
  intro r0 M' ho H locs sl hP hS hl
  have he := tv_get (b := κ.b) (cA := κ.th.2.2.1) (I := M.1) (J := M.2) (P := tv_P0) (tv_lay_lt hn) hn
  rw [tv_E_ob h1, h2] at he
  refine va_put hC.1.1 hC.1.2.1 hC.1.2.2.2.2 h3 (tv_tyf ci) h5 h4 hC.1.2.2.2.1 hC.2.1 hP tv_D hS k he hr j hj' (hC.1.2.2.2.2 _ hw) (fun _ h => h) hfin (by rw [h5 j hj', hty]) hnr hft (by simp [tv_ob]; exact hj') hd (fun H1 locs1 hP1 hD1 hS1 => ?_)
  refine kk r0 M' ho H1 locs1 sl ?_ hS1 hl
  have e := tv_set (b := κ.b) (cA := κ.th.2.2.1) (n := tv_n) (I := M.1) (J := M.2) (P := tv_P0) (I' := (tv_w M k j x).1) (J' := (tv_w M k j x).2) (P' := tv_P0) (E := .inr (ci, (tv_ob κ.b ci r.2.2 M.1 tv_P0 k).set j (.int x))) hn (by rw [tv_E_ob h1, h2, tv_ob_set (I := M.1) (x := x) hj' hf (fun i hi => by simp [tv_w, hi]) (by simp [tv_w])]) tv_w_ne
  rw [e] at hP1
  exact hP1
theorem g_putI (hC : tv_Cx κ own cc nL d) {idx k : Nat} (ci j : Nat) {r : vw_C} (hk : (tv_lay[k]?).map Prod.fst = some ci) (hr : tv_cl[ci]? = some r) (hj : Nat.blt j r.2.2 = true) (hf : (tv_rf.getD ci []).getD j false = false) (hw : Cond.fieldLink own idx (r.2.1 j).1 (r.2.1 j).2.1 (r.2.1 j).2.2.1 ∈ tv_tb) (hfin : (r.2.1 j).2.2.2 = false) (hty : tv_tyf ci j = .int) (hd : decode cc pc = .ok (.putfield idx, 3)) (kk : tv_G κ nL Q (pc + 3) ls st (tv_w M k j x) o) : tv_G κ nL Q pc ls (.int x :: .ref (κ.b + k) :: st) M o := g_putT hC ci j hk hr hj hf hw hfin hty rfl rfl hd kk
theorem g_putZ (hC : tv_Cx κ own cc nL d) {idx k : Nat} (ci j : Nat) {r : vw_C} (hk : (tv_lay[k]?).map Prod.fst = some ci) (hr : tv_cl[ci]? = some r) (hj : Nat.blt j r.2.2 = true) (hf : (tv_rf.getD ci []).getD j false = false) (hw : Cond.fieldLink own idx (r.2.1 j).1 (r.2.1 j).2.1 (r.2.1 j).2.2.1 ∈ tv_tb) (hfin : (r.2.1 j).2.2.2 = false) (hty : tv_tyf ci j = .boolean) (hx : x = 0 ∨ x = 1) (hd : decode cc pc = .ok (.putfield idx, 3)) (kk : tv_G κ nL Q (pc + 3) ls st (tv_w M k j x) o) : tv_G κ nL Q pc ls (.int x :: .ref (κ.b + k) :: st) M o := g_putT hC ci j hk hr hj hf hw hfin hty (tv_narZ hx) (by rcases hx with h | h <;> subst h <;> decide) hd kk
theorem g_iald (hC : tv_Cx κ own cc nL d) {k n : Nat} {i : Int32} {f : Int32 → Option (β × tv_M)} (hk : tv_lay[k]? = some (20, n)) (hd : decode cc pc = .ok (.iaload, 1)) (kk : tv_inb i n = true → tv_G κ nL Q (pc + 1) ls (.int (M.1 k i.toNatClampNeg) :: st) M (f (M.1 k i.toNatClampNeg))) : tv_G κ nL Q pc ls (.int i :: .ref (κ.b + k) :: st) M (tv_rd M k n i f) := by
  intro r0 M' ho H locs sl hP hS hl
  unfold tv_rd at ho
  by_cases hi : tv_inb i n = true
  · rw [if_pos hi] at ho
    have he := tv_get (b := κ.b) (cA := κ.th.2.2.1) (I := M.1) (J := M.2) (P := tv_P0) (tv_lay_lt hk) hk
    rw [tv_E_i] at he
    exact va_iald hC.1.1 hC.1.2.1 hC.2.1 hP k 0 he rfl (tv_inbP hi) hd (kk hi r0 M' ho H locs sl hP hS hl)
  · rw [if_neg hi] at ho
    cases ho
theorem g_bald (hC : tv_Cx κ own cc nL d) {k n : Nat} {i : Int32} {f : Int32 → Option (β × tv_M)} (hk : tv_lay[k]? = some (21, n)) (hd : decode cc pc = .ok (.baload, 1)) (kk : tv_inb i n = true → tv_G κ nL Q (pc + 1) ls (.int (M.1 k i.toNatClampNeg) :: st) M (f (M.1 k i.toNatClampNeg))) : tv_G κ nL Q pc ls (.int i :: .ref (κ.b + k) :: st) M (tv_rd M k n i f) := by
  intro r0 M' ho H locs sl hP hS hl
  unfold tv_rd at ho
  by_cases hi : tv_inb i n = true
  · rw [if_pos hi] at ho
    have he := tv_get (b := κ.b) (cA := κ.th.2.2.1) (I := M.1) (J := M.2) (P := tv_P0) (tv_lay_lt hk) hk
    rw [tv_E_b] at he
    exact va_bald hC.1.1 hC.1.2.1 hC.2.1 hP k 1 he rfl (tv_inbP hi) hd (kk hi r0 M' ho H locs sl hP hS hl)
  · rw [if_neg hi] at ho
    cases ho
theorem g_zald (hC : tv_Cx κ own cc nL d) {k n : Nat} {i : Int32} {f : Int32 → Option (β × tv_M)} (hk : tv_lay[k]? = some (22, n)) (hd : decode cc pc = .ok (.baload, 1)) (kk : tv_inb i n = true → tv_G κ nL Q (pc + 1) ls (.int (M.1 k i.toNatClampNeg) :: st) M (f (M.1 k i.toNatClampNeg))) : tv_G κ nL Q pc ls (.int i :: .ref (κ.b + k) :: st) M (tv_rd M k n i f) := by
  intro r0 M' ho H locs sl hP hS hl
  unfold tv_rd at ho
  by_cases hi : tv_inb i n = true
  · rw [if_pos hi] at ho
    have he := tv_get (b := κ.b) (cA := κ.th.2.2.1) (I := M.1) (J := M.2) (P := tv_P0) (tv_lay_lt hk) hk
    rw [tv_E_z] at he
    exact va_zald hC.1.1 hC.1.2.1 hC.2.1 hP k 2 he rfl (tv_inbP hi) hd (kk hi r0 M' ho H locs sl hP hS hl)
  · rw [if_neg hi] at ho
    cases ho
theorem g_lald (hC : tv_Cx κ own cc nL d) {k n : Nat} {i : Int32} {f : Int64 → Option (β × tv_M)} (hk : tv_lay[k]? = some (23, n)) (hd : decode cc pc = .ok (.laload, 1)) (kk : tv_inb i n = true → tv_G κ nL Q (pc + 1) ls (.long (M.2 k i.toNatClampNeg) :: st) M (f (M.2 k i.toNatClampNeg))) : tv_G κ nL Q pc ls (.int i :: .ref (κ.b + k) :: st) M (tv_rdl M k n i f) := by
  intro r0 M' ho H locs sl hP hS hl
  unfold tv_rdl at ho
  by_cases hi : tv_inb i n = true
  · rw [if_pos hi] at ho
    have he := tv_get (b := κ.b) (cA := κ.th.2.2.1) (I := M.1) (J := M.2) (P := tv_P0) (tv_lay_lt hk) hk
    rw [tv_E_l] at he
    exact va_lald hC.1.1 hC.1.2.1 hC.2.1 hP k 3 he rfl (tv_inbP hi) hd (kk hi r0 M' ho H locs sl hP hS hl)
  · rw [if_neg hi] at ho
    cases ho
theorem g_iast (hC : tv_Cx κ own cc nL d) {k n : Nat} {i : Int32} {f : tv_M → Option (β × tv_M)} (hk : tv_lay[k]? = some (20, n)) (hd : decode cc pc = .ok (.iastore, 1)) (kk : tv_inb i n = true → tv_G κ nL Q (pc + 1) ls st (tv_w M k i.toNatClampNeg x) (f (tv_w M k i.toNatClampNeg x))) : tv_G κ nL Q pc ls (.int x :: .int i :: .ref (κ.b + k) :: st) M (tv_wr M k n i x f) := by
  intro r0 M' ho H locs sl hP hS hl
  unfold tv_wr at ho
  by_cases hi : tv_inb i n = true
  · rw [if_pos hi] at ho
    have he := tv_get (b := κ.b) (cA := κ.th.2.2.1) (I := M.1) (J := M.2) (P := tv_P0) (tv_lay_lt hk) hk
    rw [tv_E_i] at he
    refine va_iast hC.1.1 hC.1.2.1 hC.2.1 hP tv_D hS k 0 he rfl (tv_inbP hi) hd (fun H1 locs1 hP1 hD1 hS1 => ?_)
    refine kk hi r0 M' ho H1 locs1 sl ?_ hS1 hl
    rw [tv_set (I' := (tv_w M k i.toNatClampNeg x).1) (J' := (tv_w M k i.toNatClampNeg x).2) (P' := tv_P0) hk (by rw [tv_E_i, tv_w_row]) tv_w_ne] at hP1
    exact hP1
  · rw [if_neg hi] at ho
    cases ho
theorem g_bast (hC : tv_Cx κ own cc nL d) {k n : Nat} {i : Int32} {f : tv_M → Option (β × tv_M)} (hk : tv_lay[k]? = some (21, n)) (hd : decode cc pc = .ok (.bastore, 1)) (kk : tv_inb i n = true → tv_G κ nL Q (pc + 1) ls st (tv_w M k i.toNatClampNeg (vp_nar .byte x)) (f (tv_w M k i.toNatClampNeg (vp_nar .byte x)))) : tv_G κ nL Q pc ls (.int x :: .int i :: .ref (κ.b + k) :: st) M (tv_wr M k n i (vp_nar .byte x) f) := by
  intro r0 M' ho H locs sl hP hS hl
  unfold tv_wr at ho
  by_cases hi : tv_inb i n = true
  · rw [if_pos hi] at ho
    have he := tv_get (b := κ.b) (cA := κ.th.2.2.1) (I := M.1) (J := M.2) (P := tv_P0) (tv_lay_lt hk) hk
    rw [tv_E_b] at he
    refine va_bast hC.1.1 hC.1.2.1 hC.2.1 hP tv_D hS k 1 he rfl (tv_inbP hi) hd (fun H1 locs1 hP1 hD1 hS1 => ?_)
    refine kk hi r0 M' ho H1 locs1 sl ?_ hS1 hl
    rw [tv_set (I' := (tv_w M k i.toNatClampNeg (vp_nar .byte x)).1) (J' := (tv_w M k i.toNatClampNeg (vp_nar .byte x)).2) (P' := tv_P0) hk (by rw [tv_E_b, tv_w_row]) tv_w_ne] at hP1
    exact hP1
  · rw [if_neg hi] at ho
    cases ho
theorem g_zast (hC : tv_Cx κ own cc nL d) {k n : Nat} {i : Int32} {f : tv_M → Option (β × tv_M)} (hk : tv_lay[k]? = some (22, n)) (hd : decode cc pc = .ok (.bastore, 1)) (kk : tv_inb i n = true → tv_G κ nL Q (pc + 1) ls st (tv_w M k i.toNatClampNeg (vp_nar .boolean x)) (f (tv_w M k i.toNatClampNeg (vp_nar .boolean x)))) : tv_G κ nL Q pc ls (.int x :: .int i :: .ref (κ.b + k) :: st) M (tv_wr M k n i (vp_nar .boolean x) f) := by
  intro r0 M' ho H locs sl hP hS hl
  unfold tv_wr at ho
  by_cases hi : tv_inb i n = true
  · rw [if_pos hi] at ho
    have he := tv_get (b := κ.b) (cA := κ.th.2.2.1) (I := M.1) (J := M.2) (P := tv_P0) (tv_lay_lt hk) hk
    rw [tv_E_z] at he
    refine va_zast hC.1.1 hC.1.2.1 hC.2.1 hP tv_D hS k 2 he rfl (tv_inbP hi) hd (fun H1 locs1 hP1 hD1 hS1 => ?_)
    refine kk hi r0 M' ho H1 locs1 sl ?_ hS1 hl
    rw [tv_set (I' := (tv_w M k i.toNatClampNeg (vp_nar .boolean x)).1) (J' := (tv_w M k i.toNatClampNeg (vp_nar .boolean x)).2) (P' := tv_P0) hk (by rw [tv_E_z, tv_w_row]) tv_w_ne] at hP1
    exact hP1
  · rw [if_neg hi] at ho
    cases ho
theorem g_last (hC : tv_Cx κ own cc nL d) {k n : Nat} {i : Int32} {f : tv_M → Option (β × tv_M)} (hk : tv_lay[k]? = some (23, n)) (hd : decode cc pc = .ok (.lastore, 1)) (kk : tv_inb i n = true → tv_G κ nL Q (pc + 1) ls st (tv_wl M k i.toNatClampNeg u) (f (tv_wl M k i.toNatClampNeg u))) : tv_G κ nL Q pc ls (.long u :: .int i :: .ref (κ.b + k) :: st) M (tv_wrl M k n i u f) := by
  intro r0 M' ho H locs sl hP hS hl
  unfold tv_wrl at ho
  by_cases hi : tv_inb i n = true
  · rw [if_pos hi] at ho
    have he := tv_get (b := κ.b) (cA := κ.th.2.2.1) (I := M.1) (J := M.2) (P := tv_P0) (tv_lay_lt hk) hk
    rw [tv_E_l] at he
    refine va_last hC.1.1 hC.1.2.1 hC.2.1 hP tv_D hS k 3 he rfl (tv_inbP hi) hd (fun H1 locs1 hP1 hD1 hS1 => ?_)
    refine kk hi r0 M' ho H1 locs1 sl ?_ hS1 hl
    rw [tv_set (I' := (tv_wl M k i.toNatClampNeg u).1) (J' := (tv_wl M k i.toNatClampNeg u).2) (P' := tv_P0) hk (by rw [tv_E_l, tv_wl_row]) tv_wl_ne] at hP1
    exact hP1
  · rw [if_neg hi] at ho
    cases ho
theorem tv_tys_q {cA : Nat → ClassId} {t : Nat} (ht : t < 4) : ∃ ty : FieldType, (tv_tys cA)[4 + t]? = some (cA (4 + t), ty) ∧ ty.isReference = true := by
  match t, ht with
  | 0, _ => exact ⟨_, rfl, rfl⟩
  | 1, _ => exact ⟨_, rfl, rfl⟩
  | 2, _ => exact ⟨_, rfl, rfl⟩
  | 3, _ => exact ⟨_, rfl, rfl⟩
theorem g_aald (hC : tv_Cx κ own cc nL d) {k n : Nat} (t : Nat) {i : Int32} {f : Nat → Option (β × tv_M)} (hk : tv_lay[k]? = some (24 + t, n)) (ht : Nat.blt t 4 = true) (hd : decode cc pc = .ok (.aaload, 1)) (kk : ∀ a : Nat, tv_inb i n = true → tv_P0 k i.toNatClampNeg = some a → tv_G κ nL Q (pc + 1) ls (.ref (κ.b + a) :: st) M (f a)) : tv_G κ nL Q pc ls (.int i :: .ref (κ.b + k) :: st) M (tv_ap k n i f) := by
  intro r0 M' ho H locs sl hP hS hl
  unfold tv_ap at ho
  by_cases hi : tv_inb i n = true
  · rw [if_pos hi] at ho
    cases hq : tv_P0 k i.toNatClampNeg with
    | none => rw [hq] at ho; cases ho
    | some a =>
      rw [hq] at ho
      have he := tv_get (b := κ.b) (cA := κ.th.2.2.1) (I := M.1) (J := M.2) (P := tv_P0) (tv_lay_lt hk) hk
      rw [tv_E_q] at he
      obtain ⟨ty, ht1, ht2⟩ := tv_tys_q (cA := κ.th.2.2.1) (t := t) (by simpa using ht)
      have hin := tv_inbP hi
      have hlt : i.toNatClampNeg < n := Nat.not_le.mp fun q => hin (Or.inr q)
      have w := kk a hi hq r0 M' ho H locs sl hP hS hl
      exact W.aald (v := .ref (κ.b + a)) (ty := ty) hC.1.1 hC.1.2.1 (hP k _ he) ((hC.2.1.2 (4 + t) _ ht1).1 n (fun j => va_rf ((tv_P0 k j).map (fun x => κ.b + x)))) ht2 (fun q => by cases q) (by show ¬ (i < 0 ∨ (arrV _ _ _).slots.size ≤ _); rw [arrV_size]; exact hin) (by show (arrV _ _ _).slots[_]? = _; rw [arrV_read _ _ hlt]; show some (va_rf (Option.map _ (tv_P0 k i.toNatClampNeg))) = _; rw [hq]; rfl) rfl rfl hd w
  · rw [if_neg hi] at ho
    cases ho
theorem g_alen (hC : tv_Cx κ own cc nL d) {k n : Nat} (t : Nat) (hk : tv_lay[k]? = some (t, n)) (ht : t = 20 ∨ t = 27) (hd : decode cc pc = .ok (.arraylength, 1)) (hx : Int32.ofNat n = x) (kk : tv_G κ nL Q (pc + 1) ls (.int x :: st) M o) : tv_G κ nL Q pc ls (.ref (κ.b + k) :: st) M o := by
  subst hx
  intro r0 M' ho H locs sl hP hS hl
  have he := tv_get (b := κ.b) (cA := κ.th.2.2.1) (I := M.1) (J := M.2) (P := tv_P0) (tv_lay_lt hk) hk
  rcases ht with rfl | rfl
  · rw [tv_E_i] at he
    exact va_alen hC.1.1 hC.1.2.1 hC.2.1 hP k 0 he rfl rfl hd (kk r0 M' ho H locs sl hP hS hl)
  · rw [show (27 : Nat) = 24 + 3 from rfl, tv_E_q] at he
    exact va_alen hC.1.1 hC.1.2.1 hC.2.1 hP k 7 he rfl rfl hd (kk r0 M' ho H locs sl hP hS hl)
/-- a static table of Bodies: its reference, a place of it, its length -/
theorem g_gets (hC : tv_Cx κ own cc nL d) {idx : Nat} (i : Nat) {q : String × List Int32} (hq : tv_stat[i]? = some q) (hw : Cond.fieldLink own idx "TiedViews$Bodies" q.1 "[I" ∈ tv_tb) (hd : decode cc pc = .ok (.getstatic idx, 3)) (kk : tv_G κ nL Q (pc + 3) ls (.ref (κ.th.2.2.2.2.2 i) :: st) M o) : tv_G κ nL Q pc ls st M o := fun r0 M' ho H locs sl hP hS hl => va_gets hC.1.1 hC.1.2.1 (hC.2.2.1.2.2.2.2.1 i q hq).1 hS hC.1.2.2.2.1 (hC.1.2.2.2.2 _ hw) (fun _ h => h) hd (kk r0 M' ho H locs sl hP hS hl)
def tv_rds {α : Type} (q : List Int32) (i : Int32) (f : Int32 → Option α) : Option α := if tv_inb i q.length then f (q.getD i.toNatClampNeg 0) else none
theorem g_sald (hC : tv_Cx κ own cc nL d) (a : Nat) {q : String × List Int32} {i : Int32} {f : Int32 → Option (β × tv_M)} (hq : tv_stat[a]? = some q) (hd : decode cc pc = .ok (.iaload, 1)) (kk : tv_inb i q.2.length = true → tv_G κ nL Q (pc + 1) ls (.int (q.2.getD i.toNatClampNeg 0) :: st) M (f (q.2.getD i.toNatClampNeg 0))) : tv_G κ nL Q pc ls (.int i :: .ref (κ.th.2.2.2.2.2 a) :: st) M (tv_rds q.2 i f) := by
  intro r0 M' ho H locs sl hP hS hl
  unfold tv_rds at ho
  by_cases hi : tv_inb i q.2.length = true
  · rw [if_pos hi] at ho
    exact va_ti hC.1.1 hC.1.2.1 (hC.2.2.1.2.2.2.2.1 a q hq).2 hS (tv_inbP hi) rfl hd (kk hi r0 M' ho H locs sl hP hS hl)
  · rw [if_neg hi] at ho
    cases ho
theorem g_slen (hC : tv_Cx κ own cc nL d) (a : Nat) {q : String × List Int32} (hq : tv_stat[a]? = some q) (hd : decode cc pc = .ok (.arraylength, 1)) (hx : Int32.ofNat q.2.length = x) (kk : tv_G κ nL Q (pc + 1) ls (.int x :: st) M o) : tv_G κ nL Q pc ls (.ref (κ.th.2.2.2.2.2 a) :: st) M o := fun r0 M' ho H locs sl hP hS hl => va_tlen hC.1.1 hC.1.2.1 (hC.2.2.1.2.2.2.2.1 a q hq).2 hS hx hd (kk r0 M' ho H locs sl hP hS hl)
end TVF
end
section
/-! RETURNS, CALLS, the way from a walk to a contract -/
def tv_Qc {β : Type} (θ : tv_Th) (emb : β → Option Value) (r : β) (M' : tv_M) : Array Value → State → Outcome → State → Prop := fun _ st oc t => oc = .returned (emb r) ∧ tv_V θ M' t.heap ∧ va_F (tv_A θ.1) st t
def tv_Qm {β : Type} (κ : tv_Kt) (emb : β → Option Value) (r : β) (M' : tv_M) : State → Prop := MQ κ.2.2.2.2.2.2.2.1 (tv_Qc κ.th emb r M') κ.2.2.2.2.2.2.1 κ.s 0 0 (tv_A κ.b)
def tv_Re (κ : tv_Kt) (ret : Option FieldType) : Prop := κ.2.2.2.2.2.2.2.2.1.sig.returnType = ret ∧ κ.2.2.2.2.2.2.2.2.1.locks = false
def tv_ei : Int32 → Option Value := fun x => some (.int x)
def tv_el : Int64 → Option Value := fun x => some (.long x)
def tv_ev : Unit → Option Value := fun _ => none
def tv_er (b : Nat) : Option Nat → Option Value := fun x => some (tv_re b x)
def tv_rm (d : Nat) : Room := { frames := d, cells := 0, slots := 0, locals := 40 * d }
/-- the contract: a function's outcome is the method's -/
def tv_Ct {β : Type} (l : Launch) (θ : tv_Th) (y : MethodName) (cc : ByteArray) (maxL : Nat) (ret : Option FieldType) (d : Nat) (emb : β → Option Value) (av : List Value) (M : tv_M) (o : Option (β × tv_M)) : Prop :=
  ∀ (r : β) (M' : tv_M), o = some (r, M') → Met l y (Cond.code y cc maxL ret :: tv_tb) (tv_rm d) (va_Pc av (tv_St θ M)) (tv_Qc θ emb r M') 0 0 (tv_A θ.1)
theorem tv_St.blind {θ : tv_Th} {M : tv_M} {av : List Value} : FrameBlind (va_Pc av (tv_St θ M)) := fun a U g mk h => ⟨h.1, h.2.1, va_K.moved (u := U) (U := U.calling g mk a) (Vm.Alike.refl U.vm) h.2.2.1, tv_X.same (s := U) (U := U.calling g mk a) rfl h.2.2.2⟩
theorem tv_tb_good {w : Cond} (h : w ∈ tv_tb) : w ∈ tv_tb ∧ ((w.onTables && w.keeps) = true ∨ ∃ ty, w = .arrayClass ty) := ⟨h, good_of_word (List.mem_filter.mp h).2⟩
theorem tv_atl {w : Cond} (i : Nat) (h : lw_tbl[i]? = some w) (hg : goodWord w = true) : w ∈ tv_tb := List.mem_filter.mpr ⟨List.mem_of_getElem? h, hg⟩
section TVC
variable {β β' : Type} {κ : tv_Kt} {own : String} {cc : ByteArray} {nL d pc : Nat} {Q : β → tv_M → State → Prop} {ls ls' : List (Option Value)} {st stk : List Value} {M : tv_M} {o o1 o2 : Option (β × tv_M)} {x y : Int32} {u v : Int64}
theorem g_iret (hC : tv_Cx κ own cc nL d) (hR : tv_Re κ (some .int)) (hd : decode cc pc = .ok (.ireturn, 1)) : tv_G κ nL (tv_Qm κ tv_ei) pc ls [.int x] M (some (x, M)) := by
  intro r M' ho H locs sl hP hS hl
  cases ho
  exact W.iret hC.1.1 hC.1.2.1 hR.1 (fun t ht hW => ⟨rfl, by rw [ht]; exact hP, hS.F ht⟩) hS.2.2 hd hR.2
theorem g_zret (hC : tv_Cx κ own cc nL d) (hR : tv_Re κ (some .boolean)) (hx : x = 0 ∨ x = 1) (hd : decode cc pc = .ok (.ireturn, 1)) : tv_G κ nL (tv_Qm κ tv_ei) pc ls [.int x] M (some (x, M)) := by
  intro r M' ho H locs sl hP hS hl
  cases ho
  exact W.zret hC.1.1 hC.1.2.1 hR.1 (tv_narZ hx) (fun t ht hW => ⟨rfl, by rw [ht]; exact hP, hS.F ht⟩) hS.2.2 hd hR.2
theorem g_lret (hC : tv_Cx κ own cc nL d) (hR : tv_Re κ (some .long)) (hd : decode cc pc = .ok (.lreturn, 1)) : tv_G κ nL (tv_Qm κ tv_el) pc ls [.long u] M (some (u, M)) := by
  intro r M' ho H locs sl hP hS hl
  cases ho
  exact W.lret hC.1.1 hC.1.2.1 hR.1 (fun t ht hW => ⟨rfl, by rw [ht]; exact hP, hS.F ht⟩) hS.2.2 hd hR.2
theorem g_vret (hC : tv_Cx κ own cc nL d) (hR : tv_Re κ none) (hd : decode cc pc = .ok (.return_, 1)) : tv_G κ nL (tv_Qm κ tv_ev) pc ls [] M (some ((), M)) := by
  intro r M' ho H locs sl hP hS hl
  cases ho
  exact W.vret hC.1.1 hC.1.2.1 hR.1 (fun t ht hW => ⟨rfl, by rw [ht]; exact hP, hS.F ht⟩) hS.2.2 hd hR.2
theorem g_aret (hC : tv_Cx κ own cc nL d) {rt : FieldType} (hR : tv_Re κ (some rt)) (hrt : (∃ n, rt = .object n) ∨ ∃ t, rt = .array t) (r0 : Option Nat) (hd : decode cc pc = .ok (.areturn, 1)) : tv_G κ nL (tv_Qm κ (tv_er κ.b)) pc ls [tv_re κ.b r0] M (some (r0, M)) := by
  intro r M' ho H locs sl hP hS hl
  cases ho
  exact W.aret hC.1.1 hC.1.2.1 hR.1 hrt (by cases r0 with | none => exact Or.inl rfl | some a => exact Or.inr ⟨_, rfl⟩) (fun t ht hW => ⟨rfl, by rw [ht]; exact hP, hS.F ht⟩) hS.2.2 hd hR.2
theorem tv_cont {emb : β' → Option Value} {oc : Option (β' × tv_M)} {f : β' → tv_M → Option (β × tv_M)} {rest : List Value} {a : Array Value}
    (hrun : ∀ (r1 : β') (M1 : tv_M), oc = some (r1, M1) → ∀ (H : Heap) (locs : List Loc) (sl : Array Slot), tv_V κ.th M H → va_S (tv_A κ.b) κ.s.heap H locs → tv_lo sl nL ls → va_Run κ.1 κ.2.1 κ.2.2.1 κ.2.2.2.1 κ.2.2.2.2.1 κ.2.2.2.2.2.1 κ.2.2.2.2.2.2.1 κ.2.2.2.2.2.2.2.1 κ.2.2.2.2.2.2.2.2.1 κ.2.2.2.2.2.2.2.2.2.1 H locs 0 0 0 0 (F0 κ.2.2.2.2.2.1 pc sl stk) rest (tv_Qc κ.th emb r1 M1 a) (tv_A κ.b))
    (kk : ∀ (r1 : β') (M1 : tv_M), tv_G κ nL Q (pc + 3) ls ((emb r1).toList ++ rest) M1 (f r1 M1)) : tv_G κ nL Q pc ls stk M (tv_cb oc f) := by
  intro r M' ho H locs sl hP hS hl
  cases hoc : oc with
  | none => rw [hoc] at ho; cases ho
  | some q =>
    obtain ⟨r1, M1⟩ := q
    rw [hoc] at ho
    have ho : f r1 M1 = some (r, M') := ho
    intro T hT X
    obtain ⟨w, st₀, t, T', L, h0, X', hL, e1, e2, ⟨hv, hV, hz, hk⟩, stp⟩ := hrun r1 M1 hoc H locs sl hP hS hl T hT X
    cases hv
    rw [h0] at hz hk
    obtain ⟨t2, a1, b1⟩ := kk r1 M1 r M' ho T'.heap (locs ++ L) sl (by rw [e1]; exact hV) ⟨Nat.le_trans hS.1 (by rw [e1]; exact hz), fun q h1 h2 => by rw [e1, hk q (Nat.lt_of_lt_of_le h1 hS.1) h2]; exact hS.2.1 q h1 h2, fun q hq => by
      rcases List.mem_append.mp hq with h | h
      · exact hS.2.2 q h
      · exact hL q h⟩ hl T' rfl X'
    exact ⟨t2, stp t2 a1, b1⟩
/-- the state in which a callee begins -/
theorem tv_begin (hC : tv_Cx κ own cc nL d) {H : Heap} {locs : List Loc} (hP : tv_V κ.th M H) (hS : va_S (tv_A κ.b) κ.s.heap H locs) (av : List Value) : ∀ U : State, U.heap = H → κ.s.WarmedH U.vm → va_Pc av (tv_St κ.th M) av.toArray U := fun U hU hW => ⟨rfl, by rw [hU]; exact hP, va_K.moved hW.alike hC.2.1, by
  rw [hU]
  exact (hC.2.2.1.warm hW).kept hS.2.1⟩
def tv_Vw (own : String) (idx : Nat) (y : MethodName) (bytes : ByteArray) (maxL : Nat) (ret : Option FieldType) (n : Nat) : Prop := Cond.methodLink own idx y ∈ tv_tb ∧ Cond.instanceMethod y ∈ tv_tb ∧ Cond.selects y.cls y y ∈ tv_tb ∧ Cond.initialized y.cls ∈ tv_tb ∧ Cond.code y bytes maxL ret ∈ tv_tb ∧ (y.cls ≠ "java/lang/invoke/MethodHandle" ∧ y.cls ≠ "java/lang/invoke/VarHandle" ∧ (parseMethodDescriptor y.desc).map (fun d => d.parameters.length) = some n)
def tv_Sw (own : String) (idx : Nat) (y : MethodName) (bytes : ByteArray) (maxL : Nat) (ret : Option FieldType) (n : Nat) : Prop := Cond.methodLink own idx y ∈ tv_tb ∧ Cond.static y ∈ tv_tb ∧ Cond.initialized y.cls ∈ tv_tb ∧ Cond.code y bytes maxL ret ∈ tv_tb ∧ (y.cls ≠ "java/lang/invoke/MethodHandle" ∧ y.cls ≠ "java/lang/invoke/VarHandle" ∧ (parseMethodDescriptor y.desc).map (fun d => d.parameters.length) = some n)
def tv_Nw (own : String) (idx : Nat) (y : MethodName) (host : String) (bytes : ByteArray) (maxL : Nat) (ret : Option FieldType) (n : Nat) : Prop := (own, idx, y, host) ∈ tv_nests ∧ Cond.static y ∈ tv_tb ∧ Cond.initialized y.cls ∈ tv_tb ∧ Cond.code y bytes maxL ret ∈ tv_tb ∧ (y.cls ≠ "java/lang/invoke/MethodHandle" ∧ y.cls ≠ "java/lang/invoke/VarHandle" ∧ (parseMethodDescriptor y.desc).map (fun d => d.parameters.length) = some n)
theorem tv_good_ws {w0 : Cond} (h0 : w0 ∈ tv_tb) : GoodIn tv_tb (w0 :: tv_tb) := fun w hw => by
  rcases List.mem_cons.mp hw with h | h
  · subst h; exact tv_tb_good h0
  · exact tv_tb_good h
theorem tv_goodV {own : String} {idx : Nat} {y : MethodName} {bytes : ByteArray} {maxL : Nat} {ret : Option FieldType} {n : Nat} (h : tv_Vw own idx y bytes maxL ret n) : GoodIn tv_tb (wsV own idx y.cls y (Cond.code y bytes maxL ret :: tv_tb)) := fun w hw => by
  rcases List.mem_append.mp hw with g | g
  · have : w ∈ tv_tb := by
      simp only [List.mem_cons, List.not_mem_nil, or_false] at g
      rcases g with g | g | g | g <;> subst g
      · exact h.1
      · exact h.2.1
      · exact h.2.2.1
      · exact h.2.2.2.1
    exact tv_tb_good this
  · exact tv_good_ws h.2.2.2.2.1 w g
theorem tv_goodS {own : String} {idx : Nat} {y : MethodName} {bytes : ByteArray} {maxL : Nat} {ret : Option FieldType} {n : Nat} (h : tv_Sw own idx y bytes maxL ret n) : GoodIn tv_tb (va_wsS own idx y (Cond.code y bytes maxL ret :: tv_tb)) := fun w hw => by
  rcases List.mem_append.mp hw with g | g
  · have : w ∈ tv_tb := by
      simp only [List.mem_cons, List.not_mem_nil, or_false] at g
      rcases g with g | g | g <;> subst g
      · exact h.1
      · exact h.2.1
      · exact h.2.2.1
    exact tv_tb_good this
  · exact tv_good_ws h.2.2.2.1 w g
theorem tv_rmfit {R : Room} {d d' maxL : Nat} (h1 : d ≤ R.frames) (h2 : 40 * d ≤ R.locals) (hd : Nat.ble (d' + 1) d = true) (hm : Nat.ble maxL 21 = true) : (tv_rm d').frames + 1 ≤ R.frames ∧ 8 + (maxL + 11) + (tv_rm d').locals ≤ R.locals := by
  have a := Nat.le_of_ble_eq_true hd
  have b := Nat.le_of_ble_eq_true hm
  show d' + 1 ≤ R.frames ∧ 8 + (maxL + 11) + 40 * d' ≤ R.locals
  omega
theorem g_callV (hC : tv_Cx κ own cc nL d) {idx k ci n maxL d' : Nat} {y : MethodName} {bytes : ByteArray} {ret : Option FieldType} {emb : β' → Option Value} {oc : Option (β' × tv_M)} {f : β' → tv_M → Option (β × tv_M)} {r : vw_C} (As : List Value) {rest : List Value}
    (hw : tv_Vw own idx y bytes maxL ret n) (hM : tv_Ct κ.l κ.th y bytes maxL ret d' emb (.ref (κ.b + k) :: As) M oc) (hk : (tv_lay[k]?).map Prod.fst = some ci) (hr : tv_cl[ci]? = some r) (hy : y.cls = r.1) (hn : As.length = n) (hst : stk = As.reverse ++ .ref (κ.b + k) :: rest) (hsum : Nat.ble ((rest.map fun v => v.category).sum) 8 = true) (hdep : Nat.ble (d' + 1) d = true) (hml : Nat.ble maxL 21 = true) (hd : decode cc pc = .ok (.invokevirtual idx, 3))
    (kk : ∀ (r1 : β') (M1 : tv_M), tv_G κ nL Q (pc + 3) ls ((emb r1).toList ++ rest) M1 (f r1 M1)) : tv_G κ nL Q pc ls stk M (tv_cb oc f) := by
  refine tv_cont (a := (.ref (κ.b + k) :: As).toArray) (rest := rest) ?_ kk
  intro r1 M1 hoc H locs sl hP hS hl
  obtain ⟨n0, hn0⟩ := tv_lay_of hk
  obtain ⟨h1, h2, -⟩ := tv_okc_all hr
  have he := tv_get (b := κ.b) (cA := κ.th.2.2.1) (I := M.1) (J := M.2) (P := tv_P0) (tv_lay_lt hn0) hn0
  rw [tv_E_ob h1, h2] at he
  have hrc := va_recv hC.2.1 hP hr he
  rw [← hy] at hrc
  exact va_runV (g := F0 κ.2.2.2.2.2.1 pc sl stk) (As := As) (rest := rest) hC.1 (hM r1 M1 hoc) (cwV n hC.1.2.2.2.2 (tv_goodV hw) rfl rfl rfl ⟨rfl, hw.2.2.2.2.2⟩ (tv_rmfit hC.2.2.2.1 hC.2.2.2.2 hdep hml)) ⟨tv_St.blind, hrc, tv_begin hC hP hS _⟩ rfl hn hl.1 hst (lv_room (Nat.le_of_ble_eq_true hsum)) hd ⟨Nat.zero_le _, Nat.zero_le _⟩
theorem g_callS (hC : tv_Cx κ own cc nL d) {idx n maxL d' : Nat} {y : MethodName} {bytes : ByteArray} {ret : Option FieldType} {emb : β' → Option Value} {oc : Option (β' × tv_M)} {f : β' → tv_M → Option (β × tv_M)} (As : List Value) {rest : List Value}
    (hw : tv_Sw own idx y bytes maxL ret n) (hM : tv_Ct κ.l κ.th y bytes maxL ret d' emb As M oc) (hn : As.length = n) (hst : stk = As.reverse ++ rest) (hsum : Nat.ble ((rest.map fun v => v.category).sum) 8 = true) (hdep : Nat.ble (d' + 1) d = true) (hml : Nat.ble maxL 21 = true) (hd : decode cc pc = .ok (.invokestatic idx, 3))
    (kk : ∀ (r1 : β') (M1 : tv_M), tv_G κ nL Q (pc + 3) ls ((emb r1).toList ++ rest) M1 (f r1 M1)) : tv_G κ nL Q pc ls stk M (tv_cb oc f) := by
  refine tv_cont (a := As.toArray) (rest := rest) ?_ kk
  intro r1 M1 hoc H locs sl hP hS hl
  exact va_runS (g := F0 κ.2.2.2.2.2.1 pc sl stk) (As := As) (rest := rest) hC.1 (hM r1 M1 hoc) (va_cwS n hC.1.2.2.2.2 (tv_goodS hw) rfl rfl rfl hw.2.2.2.2 (tv_rmfit hC.2.2.2.1 hC.2.2.2.2 hdep hml)) ⟨tv_St.blind, tv_begin hC hP hS _⟩ rfl hn hl.1 hst (lv_room (Nat.le_of_ble_eq_true hsum)) hd ⟨Nat.zero_le _, Nat.zero_le _⟩
theorem g_callN (hC : tv_Cx κ own cc nL d) {idx n maxL d' : Nat} {y : MethodName} {host : String} {bytes : ByteArray} {ret : Option FieldType} {emb : β' → Option Value} {oc : Option (β' × tv_M)} {f : β' → tv_M → Option (β × tv_M)} (As : List Value) {rest : List Value}
    (hw : tv_Nw own idx y host bytes maxL ret n) (hM : tv_Ct κ.l κ.th y bytes maxL ret d' emb As M oc) (hn : As.length = n) (hst : stk = As.reverse ++ rest) (hsum : Nat.ble ((rest.map fun v => v.category).sum) 8 = true) (hdep : Nat.ble (d' + 1) d = true) (hml : Nat.ble maxL 21 = true) (hd : decode cc pc = .ok (.invokestatic idx, 3))
    (kk : ∀ (r1 : β') (M1 : tv_M), tv_G κ nL Q (pc + 3) ls ((emb r1).toList ++ rest) M1 (f r1 M1)) : tv_G κ nL Q pc ls stk M (tv_cb oc f) := by
  refine tv_cont (a := As.toArray) (rest := rest) ?_ kk
  intro r1 M1 hoc H locs sl hP hS hl
  exact va_runSN (g := F0 κ.2.2.2.2.2.1 pc sl stk) (As := As) (rest := rest) hC.1 (hM r1 M1 hoc) ⟨va_cnB n hC.1.2.2.2.2 (tv_good_ws hw.2.2.2.1) rfl rfl rfl (hC.2.2.1.1 _ hw.1) (hC.1.2.2.2.2 _ hw.2.2.1) hw.2.2.2.2 (tv_rmfit hC.2.2.2.1 hC.2.2.2.2 hdep hml), hC.1.2.2.2.2 _ hw.2.1, trivial⟩ ⟨tv_St.blind, tv_begin hC hP hS _⟩ rfl hn hl.1 hst (lv_room (Nat.le_of_ble_eq_true hsum)) hd ⟨Nat.zero_le _, Nat.zero_le _⟩
/-- System.arraycopy between int rows -/
theorem g_copy (hC : tv_Cx κ own cc nL d) {idx a k n0 n1 : Nat} {sp dp n : Int32} {f : tv_M → Option (β × tv_M)} (ha : tv_lay[a]? = some (20, n0)) (hk : tv_lay[k]? = some (20, n1)) (hw : Cond.methodLink own idx arraycopyName ∈ tv_tb ∧ Cond.native arraycopyName ∈ tv_tb ∧ Cond.static arraycopyName ∈ tv_tb ∧ Cond.initialized "java/lang/System" ∈ tv_tb) (hsum : Nat.ble ((st.map fun v => v.category).sum) 8 = true) (hdep : Nat.ble 1 d = true) (hd : decode cc pc = .ok (.invokestatic idx, 3))
    (kk : tv_G κ nL Q (pc + 3) ls st (tv_wc M k (va_cpy (M.1 a) (M.1 k) sp.toNatClampNeg dp.toNatClampNeg n.toNatClampNeg)) (f (tv_wc M k (va_cpy (M.1 a) (M.1 k) sp.toNatClampNeg dp.toNatClampNeg n.toNatClampNeg)))) : tv_G κ nL Q pc ls (.int n :: .int dp :: .ref (κ.b + k) :: .int sp :: .ref (κ.b + a) :: st) M (tv_cpy M a n0 sp k n1 dp n f) := by
  intro r M' ho H locs sl hP hS hl
  unfold tv_cpy at ho
  by_cases hc : 0 ≤ sp ∧ 0 ≤ dp ∧ 0 ≤ n ∧ sp.toNatClampNeg + n.toNatClampNeg ≤ n0 ∧ dp.toNatClampNeg + n.toNatClampNeg ≤ n1
  · rw [if_pos hc] at ho
    obtain ⟨c1, c2, c3, c4, c5⟩ := hc
    have hea := tv_get (b := κ.b) (cA := κ.th.2.2.1) (I := M.1) (J := M.2) (P := tv_P0) (tv_lay_lt ha) ha
    have hek := tv_get (b := κ.b) (cA := κ.th.2.2.1) (I := M.1) (J := M.2) (P := tv_P0) (tv_lay_lt hk) hk
    rw [tv_E_i] at hea hek
    have h1 := Nat.le_of_ble_eq_true hdep
    have h2 := hC.2.2.2.1
    have h3 := hC.2.2.2.2
    have h4 := Nat.le_of_ble_eq_true hsum
    refine va_copyi hC.1.1 hC.1.2.1 (hC.1.2.2.1.trans hl.1.symm) hC.1.2.2.2.1 (hC.1.2.2.2.2 _ hw.1) (hC.1.2.2.2.2 _ hw.2.1) (hC.1.2.2.2.2 _ hw.2.2.1) (hC.1.2.2.2.2 _ hw.2.2.2) hC.2.1 hP tv_D hS a k 0 0 hea hek rfl rfl rfl (Int32.not_lt.mpr c1) (Int32.not_lt.mpr c2) (Int32.not_lt.mpr c3) c4 c5 (fun i _ => rfl) (by omega) ?_ hd (fun H1 locs1 hP1 hD1 hS1 => ?_)
    · have e : nativeFrameWords "java/lang/System" "arraycopy" 5 ≤ 20 := by decide
      omega
    · refine kk r M' ho H1 locs1 sl ?_ hS1 hl
      rw [tv_set (I' := (tv_wc M k (va_cpy (M.1 a) (M.1 k) sp.toNatClampNeg dp.toNatClampNeg n.toNatClampNeg)).1) (J' := M.2) (P' := tv_P0) hk (by rw [tv_E_i, tv_wc_row]) tv_wc_ne] at hP1
      exact hP1
  · rw [if_neg hc] at ho
    cases ho
end TVC
/-- a walk from a method's entry is its contract -/
theorem tv_ofG {β : Type} {l : Launch} {θ : tv_Th} {y : MethodName} {cc : ByteArray} {maxL : Nat} {ret : Option FieldType} {d : Nat} {emb : β → Option Value} {av : List Value} {M : tv_M} {o : Option (β × tv_M)} (ls : List (Option Value)) (hy : plainName y.cls = true) (hlen : Nat.ble (lg_sl av).length maxL = true) (hent : ∀ (i : Nat) (v : Value), ls[i]? = some (some v) → (i, v) ∈ lv_args 0 av)
    (h : ∀ κ : tv_Kt, κ.l = l → κ.th = θ → tv_Cx κ y.cls cc maxL d → tv_Re κ ret → tv_G κ maxL (tv_Qm κ emb) 0 ls [] M o) : tv_Ct l θ y cc maxL ret d emb av M o := by
  intro r M' ho
  refine Met.ofW (cc := cc) (maxL := maxL) (ret := ret) hy rfl ?_
  intro p e s m args below meth c s₁ B hml hv
  obtain ⟨rfl, hP, hK, hX⟩ := hv
  have hts := atoms_spec (ws := Cond.code y cc maxL ret :: tv_tb) B.pre
  have hl := lv_entry av (n := maxL) (Nat.le_of_ble_eq_true hlen)
  rw [lg_entry_eq]
  generalize (lg_sl av ++ List.replicate (maxL - (lg_sl av).length) Slot.unset).toArray = sl at hl ⊢
  have hlo : tv_lo sl maxL ls := ⟨hl.1, hl.2.1, fun i v hv => hl.2.2 (i, v) (hent i v hv)⟩
  have k := h (p, l, e, (headSpec (Cond.code y cc maxL ret :: tv_tb) (tv_rm d)).room, s, m, av.toArray, below, meth, c, θ) rfl rfl ⟨⟨B.exec, B.bytes, hml, findClass_of_methodNamed B.named, fun w hw => hts w (List.mem_cons_of_mem _ hw)⟩, hK, hX, Nat.le_refl d, Nat.le_refl (40 * d)⟩ ⟨B.returns, B.notSynchronized⟩ r M' ho s.heap [] sl hP va_S.rf hlo
  exact k
end
section
/-! the rows as the programs use them: what is read or made is a new name -/
def tv_pf {α : Type} (M : tv_M) (k j : Nat) (x : Int32) (f : tv_M → Option α) : Option α := f (tv_w M k j x)
theorem tv_z0 : (0 : Int32) = 0 ∨ (0 : Int32) = 1 := Or.inl rfl
theorem tv_z1 : (1 : Int32) = 0 ∨ (1 : Int32) = 1 := Or.inr rfl
def tv_argl : List Value → List (Option Value)
  | [] => []
  | v :: r => if v.category = 2 then some v :: none :: tv_argl r else some v :: tv_argl r
theorem tv_argl_at (v : Value) (k : Nat) : ∀ (av : List Value) (i j : Nat), (tv_argl av ++ List.replicate k none)[j]? = some (some v) → (i + j, v) ∈ lv_args i av
  | [], i, j, h => by
    simp only [tv_argl, List.nil_append] at h
    have := List.eq_of_mem_replicate (List.mem_of_getElem? h)
    cases this
  | w :: r, i, j, h => by
    rw [lv_args]
    by_cases hw : w.category = 2
    · simp only [tv_argl, hw, if_true, List.cons_append] at h
      simp only [hw, if_true]
      match j, h with
      | 0, h =>
        simp at h
        exact List.mem_cons.mpr (Or.inl (by rw [h]; simp))
      | 1, h => simp at h
      | j + 2, h =>
        have g := tv_argl_at v k r (i + 2) j (by simpa using h)
        exact List.mem_cons_of_mem _ (by rw [show i + (j + 2) = i + 2 + j by omega]; exact g)
    · simp only [tv_argl, hw, if_false, List.cons_append] at h
      simp only [hw, if_false]
      match j, h with
      | 0, h =>
        simp at h
        exact List.mem_cons.mpr (Or.inl (by rw [h]; simp))
      | j + 1, h =>
        have g := tv_argl_at v k r (i + 1) j (by simpa using h)
        exact List.mem_cons_of_mem _ (by rw [show i + (j + 1) = i + 1 + j by omega]; exact g)
theorem tv_ent (k : Nat) {av : List Value} {ls : List (Option Value)} (h : tv_argl av ++ List.replicate k none = ls) : ∀ (i : Nat) (v : Value), ls[i]? = some (some v) → (i, v) ∈ lv_args 0 av := fun i v hv => by
  have g := tv_argl_at v k av 0 i (by rw [h]; exact hv)
  rwa [Nat.zero_add] at g
section TVV
variable {β β' : Type} {κ : tv_Kt} {own : String} {cc : ByteArray} {nL d pc : Nat} {Q : β → tv_M → State → Prop} {ls ls' : List (Option Value)} {st stk : List Value} {M : tv_M} {o o1 o2 : Option (β × tv_M)} {x y : Int32} {u v : Int64}
theorem g_ite {c : Prop} [Decidable c] (k1 : c → tv_G κ nL Q pc ls st M o1) (k2 : ¬ c → tv_G κ nL Q pc ls st M o2) : tv_G κ nL Q pc ls st M (if c then o1 else o2) := by
  split
  · exact k1 (by assumption)
  · exact k2 (by assumption)
theorem g_tabIn (hC : tv_Cx κ own cc nL d) {dflt lo hi off : Int} {offs : Array Int} {len tgt : Nat} {c : Int32} (hd : decode cc pc = .ok (.tableswitch dflt lo hi offs, len)) (hx : x = c) (h1 : ¬ c.toInt < lo) (h2 : ¬ hi < c.toInt) (ho : offs[(c.toInt - lo).toNat]? = some off) (ht : (pc : Int) + off = (tgt : Int)) (k : tv_G κ nL Q tgt ls st M o) : tv_G κ nL Q pc ls (.int x :: st) M o := by
  subst hx
  exact fun r M' ho' H locs sl hP hS hl => lv_tableIn hC.1.1 hC.1.2.1 hd h1 h2 ho ht (k r M' ho' H locs sl hP hS hl)
theorem g_tabOut (hC : tv_Cx κ own cc nL d) {dflt lo hi : Int} {offs : Array Int} {len tgt : Nat} (hd : decode cc pc = .ok (.tableswitch dflt lo hi offs, len)) (h : x.toInt < lo ∨ hi < x.toInt) (ht : (pc : Int) + dflt = (tgt : Int)) (k : tv_G κ nL Q tgt ls st M o) : tv_G κ nL Q pc ls (.int x :: st) M o := fun r M' ho' H locs sl hP hS hl => lv_tableOut hC.1.1 hC.1.2.1 hd h ht (k r M' ho' H locs sl hP hS hl)
theorem gv_iald (hC : tv_Cx κ own cc nL d) {k n : Nat} {i : Int32} {f : Int32 → Option (β × tv_M)} (hk : tv_lay[k]? = some (20, n)) (hd : decode cc pc = .ok (.iaload, 1)) (kk : ∀ x, tv_G κ nL Q (pc + 1) ls (.int x :: st) M (f x)) : tv_G κ nL Q pc ls (.int i :: .ref (κ.b + k) :: st) M (tv_rd M k n i f) := g_iald hC hk hd (fun _ => kk _)
theorem gv_bald (hC : tv_Cx κ own cc nL d) {k n : Nat} {i : Int32} {f : Int32 → Option (β × tv_M)} (hk : tv_lay[k]? = some (21, n)) (hd : decode cc pc = .ok (.baload, 1)) (kk : ∀ x, tv_G κ nL Q (pc + 1) ls (.int x :: st) M (f x)) : tv_G κ nL Q pc ls (.int i :: .ref (κ.b + k) :: st) M (tv_rd M k n i f) := g_bald hC hk hd (fun _ => kk _)
theorem gv_zald (hC : tv_Cx κ own cc nL d) {k n : Nat} {i : Int32} {f : Int32 → Option (β × tv_M)} (hk : tv_lay[k]? = some (22, n)) (hd : decode cc pc = .ok (.baload, 1)) (kk : ∀ x, tv_G κ nL Q (pc + 1) ls (.int x :: st) M (f x)) : tv_G κ nL Q pc ls (.int i :: .ref (κ.b + k) :: st) M (tv_rd M k n i f) := g_zald hC hk hd (fun _ => kk _)
theorem gv_lald (hC : tv_Cx κ own cc nL d) {k n : Nat} {i : Int32} {f : Int64 → Option (β × tv_M)} (hk : tv_lay[k]? = some (23, n)) (hd : decode cc pc = .ok (.laload, 1)) (kk : ∀ x, tv_G κ nL Q (pc + 1) ls (.long x :: st) M (f x)) : tv_G κ nL Q pc ls (.int i :: .ref (κ.b + k) :: st) M (tv_rdl M k n i f) := g_lald hC hk hd (fun _ => kk _)
theorem gv_sald (hC : tv_Cx κ own cc nL d) (a : Nat) {q : String × List Int32} {i : Int32} {f : Int32 → Option (β × tv_M)} (hq : tv_stat[a]? = some q) (hd : decode cc pc = .ok (.iaload, 1)) (kk : ∀ x, tv_G κ nL Q (pc + 1) ls (.int x :: st) M (f x)) : tv_G κ nL Q pc ls (.int i :: .ref (κ.th.2.2.2.2.2 a) :: st) M (tv_rds q.2 i f) := g_sald hC a hq hd (fun _ => kk _)
theorem gv_iast (hC : tv_Cx κ own cc nL d) {k n : Nat} {i : Int32} {f : tv_M → Option (β × tv_M)} (hk : tv_lay[k]? = some (20, n)) (hd : decode cc pc = .ok (.iastore, 1)) (kk : ∀ M1, tv_G κ nL Q (pc + 1) ls st M1 (f M1)) : tv_G κ nL Q pc ls (.int x :: .int i :: .ref (κ.b + k) :: st) M (tv_wr M k n i x f) := g_iast hC hk hd (fun _ => kk _)
theorem gv_bast (hC : tv_Cx κ own cc nL d) {k n : Nat} {i : Int32} {f : tv_M → Option (β × tv_M)} (hk : tv_lay[k]? = some (21, n)) (hd : decode cc pc = .ok (.bastore, 1)) (kk : ∀ M1, tv_G κ nL Q (pc + 1) ls st M1 (f M1)) : tv_G κ nL Q pc ls (.int x :: .int i :: .ref (κ.b + k) :: st) M (tv_wr M k n i (vp_nar .byte x) f) := g_bast hC hk hd (fun _ => kk _)
theorem gv_zast (hC : tv_Cx κ own cc nL d) {k n : Nat} {i : Int32} {f : tv_M → Option (β × tv_M)} (hk : tv_lay[k]? = some (22, n)) (hd : decode cc pc = .ok (.bastore, 1)) (kk : ∀ M1, tv_G κ nL Q (pc + 1) ls st M1 (f M1)) : tv_G κ nL Q pc ls (.int x :: .int i :: .ref (κ.b + k) :: st) M (tv_wr M k n i (vp_nar .boolean x) f) := g_zast hC hk hd (fun _ => kk _)
theorem gv_last (hC : tv_Cx κ own cc nL d) {k n : Nat} {i : Int32} {f : tv_M → Option (β × tv_M)} (hk : tv_lay[k]? = some (23, n)) (hd : decode cc pc = .ok (.lastore, 1)) (kk : ∀ M1, tv_G κ nL Q (pc + 1) ls st M1 (f M1)) : tv_G κ nL Q pc ls (.long u :: .int i :: .ref (κ.b + k) :: st) M (tv_wrl M k n i u f) := g_last hC hk hd (fun _ => kk _)
theorem gv_aald (hC : tv_Cx κ own cc nL d) {k n : Nat} (t : Nat) {i : Int32} {f : Nat → Option (β × tv_M)} (hk : tv_lay[k]? = some (24 + t, n)) (ht : Nat.blt t 4 = true) (hd : decode cc pc = .ok (.aaload, 1)) (kk : ∀ a : Nat, tv_G κ nL Q (pc + 1) ls (.ref (κ.b + a) :: st) M (f a)) : tv_G κ nL Q pc ls (.int i :: .ref (κ.b + k) :: st) M (tv_ap k n i f) := g_aald hC t hk ht hd (fun a _ _ => kk a)
theorem gv_copy (hC : tv_Cx κ own cc nL d) {idx a k n0 n1 : Nat} {sp dp n : Int32} {f : tv_M → Option (β × tv_M)} (ha : tv_lay[a]? = some (20, n0)) (hk : tv_lay[k]? = some (20, n1)) (hw : Cond.methodLink own idx arraycopyName ∈ tv_tb ∧ Cond.native arraycopyName ∈ tv_tb ∧ Cond.static arraycopyName ∈ tv_tb ∧ Cond.initialized "java/lang/System" ∈ tv_tb) (hsum : Nat.ble ((st.map fun v => v.category).sum) 8 = true) (hdep : Nat.ble 1 d = true) (hd : decode cc pc = .ok (.invokestatic idx, 3))
    (kk : ∀ M1, tv_G κ nL Q (pc + 3) ls st M1 (f M1)) : tv_G κ nL Q pc ls (.int n :: .int dp :: .ref (κ.b + k) :: .int sp :: .ref (κ.b + a) :: st) M (tv_cpy M a n0 sp k n1 dp n f) := g_copy hC ha hk hw hsum hdep hd (kk _)
theorem gv_putI (hC : tv_Cx κ own cc nL d) {idx k : Nat} {f : tv_M → Option (β × tv_M)} (ci j : Nat) {r : vw_C} (hk : (tv_lay[k]?).map Prod.fst = some ci) (hr : tv_cl[ci]? = some r) (hj : Nat.blt j r.2.2 = true) (hf : (tv_rf.getD ci []).getD j false = false) (hw : Cond.fieldLink own idx (r.2.1 j).1 (r.2.1 j).2.1 (r.2.1 j).2.2.1 ∈ tv_tb) (hfin : (r.2.1 j).2.2.2 = false) (hty : tv_tyf ci j = .int) (hd : decode cc pc = .ok (.putfield idx, 3)) (kk : ∀ M1, tv_G κ nL Q (pc + 3) ls st M1 (f M1)) : tv_G κ nL Q pc ls (.int x :: .ref (κ.b + k) :: st) M (tv_pf M k j x f) := g_putI hC ci j hk hr hj hf hw hfin hty hd (kk _)
theorem gv_putZ (hC : tv_Cx κ own cc nL d) {idx k : Nat} {f : tv_M → Option (β × tv_M)} (ci j : Nat) {r : vw_C} (hk : (tv_lay[k]?).map Prod.fst = some ci) (hr : tv_cl[ci]? = some r) (hj : Nat.blt j r.2.2 = true) (hf : (tv_rf.getD ci []).getD j false = false) (hw : Cond.fieldLink own idx (r.2.1 j).1 (r.2.1 j).2.1 (r.2.1 j).2.2.1 ∈ tv_tb) (hfin : (r.2.1 j).2.2.2 = false) (hty : tv_tyf ci j = .boolean) (hx : x = 0 ∨ x = 1) (hd : decode cc pc = .ok (.putfield idx, 3)) (kk : ∀ M1, tv_G κ nL Q (pc + 3) ls st M1 (f M1)) : tv_G κ nL Q pc ls (.int x :: .ref (κ.b + k) :: st) M (tv_pf M k j x f) := g_putZ hC ci j hk hr hj hf hw hfin hty hx hd (kk _)
theorem gv_callVi (hC : tv_Cx κ own cc nL d) {idx k ci n maxL d' : Nat} {y : MethodName} {bytes : ByteArray} {ret : Option FieldType} {oc : Option (Int32 × tv_M)} {f : Int32 → tv_M → Option (β × tv_M)} {r : vw_C} (As : List Value) {rest : List Value} (hw : tv_Vw own idx y bytes maxL ret n) (hM : tv_Ct κ.l κ.th y bytes maxL ret d' tv_ei (.ref (κ.b + k) :: As) M oc) (hk : (tv_lay[k]?).map Prod.fst = some ci) (hr : tv_cl[ci]? = some r) (hy : y.cls = r.1) (hn : As.length = n) (hst : stk = As.reverse ++ .ref (κ.b + k) :: rest) (hsum : Nat.ble ((rest.map fun v => v.category).sum) 8 = true) (hdep : Nat.ble (d' + 1) d = true) (hml : Nat.ble maxL 21 = true) (hd : decode cc pc = .ok (.invokevirtual idx, 3))
    (kk : ∀ (r1 : Int32) (M1 : tv_M), tv_G κ nL Q (pc + 3) ls (.int r1 :: rest) M1 (f r1 M1)) : tv_G κ nL Q pc ls stk M (tv_cb oc f) := g_callV hC As hw hM hk hr hy hn hst hsum hdep hml hd kk
theorem gv_callVj (hC : tv_Cx κ own cc nL d) {idx k ci n maxL d' : Nat} {y : MethodName} {bytes : ByteArray} {ret : Option FieldType} {oc : Option (Int64 × tv_M)} {f : Int64 → tv_M → Option (β × tv_M)} {r : vw_C} (As : List Value) {rest : List Value} (hw : tv_Vw own idx y bytes maxL ret n) (hM : tv_Ct κ.l κ.th y bytes maxL ret d' tv_el (.ref (κ.b + k) :: As) M oc) (hk : (tv_lay[k]?).map Prod.fst = some ci) (hr : tv_cl[ci]? = some r) (hy : y.cls = r.1) (hn : As.length = n) (hst : stk = As.reverse ++ .ref (κ.b + k) :: rest) (hsum : Nat.ble ((rest.map fun v => v.category).sum) 8 = true) (hdep : Nat.ble (d' + 1) d = true) (hml : Nat.ble maxL 21 = true) (hd : decode cc pc = .ok (.invokevirtual idx, 3))
    (kk : ∀ (r1 : Int64) (M1 : tv_M), tv_G κ nL Q (pc + 3) ls (.long r1 :: rest) M1 (f r1 M1)) : tv_G κ nL Q pc ls stk M (tv_cb oc f) := g_callV hC As hw hM hk hr hy hn hst hsum hdep hml hd kk
theorem gv_callVv (hC : tv_Cx κ own cc nL d) {idx k ci n maxL d' : Nat} {y : MethodName} {bytes : ByteArray} {ret : Option FieldType} {oc : Option (Unit × tv_M)} {f : Unit → tv_M → Option (β × tv_M)} {r : vw_C} (As : List Value) {rest : List Value} (hw : tv_Vw own idx y bytes maxL ret n) (hM : tv_Ct κ.l κ.th y bytes maxL ret d' tv_ev (.ref (κ.b + k) :: As) M oc) (hk : (tv_lay[k]?).map Prod.fst = some ci) (hr : tv_cl[ci]? = some r) (hy : y.cls = r.1) (hn : As.length = n) (hst : stk = As.reverse ++ .ref (κ.b + k) :: rest) (hsum : Nat.ble ((rest.map fun v => v.category).sum) 8 = true) (hdep : Nat.ble (d' + 1) d = true) (hml : Nat.ble maxL 21 = true) (hd : decode cc pc = .ok (.invokevirtual idx, 3))
    (kk : ∀ (r1 : Unit) (M1 : tv_M), tv_G κ nL Q (pc + 3) ls (rest) M1 (f r1 M1)) : tv_G κ nL Q pc ls stk M (tv_cb oc f) := g_callV hC As hw hM hk hr hy hn hst hsum hdep hml hd kk
theorem gv_callVr (hC : tv_Cx κ own cc nL d) {idx k ci n maxL d' : Nat} {y : MethodName} {bytes : ByteArray} {ret : Option FieldType} {oc : Option (Option Nat × tv_M)} {f : Option Nat → tv_M → Option (β × tv_M)} {r : vw_C} (As : List Value) {rest : List Value} (hw : tv_Vw own idx y bytes maxL ret n) (hM : tv_Ct κ.l κ.th y bytes maxL ret d' (tv_er κ.b) (.ref (κ.b + k) :: As) M oc) (hk : (tv_lay[k]?).map Prod.fst = some ci) (hr : tv_cl[ci]? = some r) (hy : y.cls = r.1) (hn : As.length = n) (hst : stk = As.reverse ++ .ref (κ.b + k) :: rest) (hsum : Nat.ble ((rest.map fun v => v.category).sum) 8 = true) (hdep : Nat.ble (d' + 1) d = true) (hml : Nat.ble maxL 21 = true) (hd : decode cc pc = .ok (.invokevirtual idx, 3))
    (kk : ∀ (r1 : Option Nat) (M1 : tv_M), tv_G κ nL Q (pc + 3) ls (tv_re κ.b r1 :: rest) M1 (f r1 M1)) : tv_G κ nL Q pc ls stk M (tv_cb oc f) := g_callV hC As hw hM hk hr hy hn hst hsum hdep hml hd kk
theorem gv_callSi (hC : tv_Cx κ own cc nL d) {idx n maxL d' : Nat} {y : MethodName} {bytes : ByteArray} {ret : Option FieldType} {oc : Option (Int32 × tv_M)} {f : Int32 → tv_M → Option (β × tv_M)} (As : List Value) {rest : List Value} (hw : tv_Sw own idx y bytes maxL ret n) (hM : tv_Ct κ.l κ.th y bytes maxL ret d' tv_ei As M oc) (hn : As.length = n) (hst : stk = As.reverse ++ rest) (hsum : Nat.ble ((rest.map fun v => v.category).sum) 8 = true) (hdep : Nat.ble (d' + 1) d = true) (hml : Nat.ble maxL 21 = true) (hd : decode cc pc = .ok (.invokestatic idx, 3))
    (kk : ∀ (r1 : Int32) (M1 : tv_M), tv_G κ nL Q (pc + 3) ls (.int r1 :: rest) M1 (f r1 M1)) : tv_G κ nL Q pc ls stk M (tv_cb oc f) := g_callS hC As hw hM hn hst hsum hdep hml hd kk
theorem gv_callSj (hC : tv_Cx κ own cc nL d) {idx n maxL d' : Nat} {y : MethodName} {bytes : ByteArray} {ret : Option FieldType} {oc : Option (Int64 × tv_M)} {f : Int64 → tv_M → Option (β × tv_M)} (As : List Value) {rest : List Value} (hw : tv_Sw own idx y bytes maxL ret n) (hM : tv_Ct κ.l κ.th y bytes maxL ret d' tv_el As M oc) (hn : As.length = n) (hst : stk = As.reverse ++ rest) (hsum : Nat.ble ((rest.map fun v => v.category).sum) 8 = true) (hdep : Nat.ble (d' + 1) d = true) (hml : Nat.ble maxL 21 = true) (hd : decode cc pc = .ok (.invokestatic idx, 3))
    (kk : ∀ (r1 : Int64) (M1 : tv_M), tv_G κ nL Q (pc + 3) ls (.long r1 :: rest) M1 (f r1 M1)) : tv_G κ nL Q pc ls stk M (tv_cb oc f) := g_callS hC As hw hM hn hst hsum hdep hml hd kk
theorem gv_callSv (hC : tv_Cx κ own cc nL d) {idx n maxL d' : Nat} {y : MethodName} {bytes : ByteArray} {ret : Option FieldType} {oc : Option (Unit × tv_M)} {f : Unit → tv_M → Option (β × tv_M)} (As : List Value) {rest : List Value} (hw : tv_Sw own idx y bytes maxL ret n) (hM : tv_Ct κ.l κ.th y bytes maxL ret d' tv_ev As M oc) (hn : As.length = n) (hst : stk = As.reverse ++ rest) (hsum : Nat.ble ((rest.map fun v => v.category).sum) 8 = true) (hdep : Nat.ble (d' + 1) d = true) (hml : Nat.ble maxL 21 = true) (hd : decode cc pc = .ok (.invokestatic idx, 3))
    (kk : ∀ (r1 : Unit) (M1 : tv_M), tv_G κ nL Q (pc + 3) ls (rest) M1 (f r1 M1)) : tv_G κ nL Q pc ls stk M (tv_cb oc f) := g_callS hC As hw hM hn hst hsum hdep hml hd kk
theorem gv_callSr (hC : tv_Cx κ own cc nL d) {idx n maxL d' : Nat} {y : MethodName} {bytes : ByteArray} {ret : Option FieldType} {oc : Option (Option Nat × tv_M)} {f : Option Nat → tv_M → Option (β × tv_M)} (As : List Value) {rest : List Value} (hw : tv_Sw own idx y bytes maxL ret n) (hM : tv_Ct κ.l κ.th y bytes maxL ret d' (tv_er κ.b) As M oc) (hn : As.length = n) (hst : stk = As.reverse ++ rest) (hsum : Nat.ble ((rest.map fun v => v.category).sum) 8 = true) (hdep : Nat.ble (d' + 1) d = true) (hml : Nat.ble maxL 21 = true) (hd : decode cc pc = .ok (.invokestatic idx, 3))
    (kk : ∀ (r1 : Option Nat) (M1 : tv_M), tv_G κ nL Q (pc + 3) ls (tv_re κ.b r1 :: rest) M1 (f r1 M1)) : tv_G κ nL Q pc ls stk M (tv_cb oc f) := g_callS hC As hw hM hn hst hsum hdep hml hd kk
theorem gv_callNi (hC : tv_Cx κ own cc nL d) {idx n maxL d' : Nat} {y : MethodName} {host : String} {bytes : ByteArray} {ret : Option FieldType} {oc : Option (Int32 × tv_M)} {f : Int32 → tv_M → Option (β × tv_M)} (As : List Value) {rest : List Value} (hw : tv_Nw own idx y host bytes maxL ret n) (hM : tv_Ct κ.l κ.th y bytes maxL ret d' tv_ei As M oc) (hn : As.length = n) (hst : stk = As.reverse ++ rest) (hsum : Nat.ble ((rest.map fun v => v.category).sum) 8 = true) (hdep : Nat.ble (d' + 1) d = true) (hml : Nat.ble maxL 21 = true) (hd : decode cc pc = .ok (.invokestatic idx, 3))
    (kk : ∀ (r1 : Int32) (M1 : tv_M), tv_G κ nL Q (pc + 3) ls (.int r1 :: rest) M1 (f r1 M1)) : tv_G κ nL Q pc ls stk M (tv_cb oc f) := g_callN hC As hw hM hn hst hsum hdep hml hd kk
theorem gv_callNj (hC : tv_Cx κ own cc nL d) {idx n maxL d' : Nat} {y : MethodName} {host : String} {bytes : ByteArray} {ret : Option FieldType} {oc : Option (Int64 × tv_M)} {f : Int64 → tv_M → Option (β × tv_M)} (As : List Value) {rest : List Value} (hw : tv_Nw own idx y host bytes maxL ret n) (hM : tv_Ct κ.l κ.th y bytes maxL ret d' tv_el As M oc) (hn : As.length = n) (hst : stk = As.reverse ++ rest) (hsum : Nat.ble ((rest.map fun v => v.category).sum) 8 = true) (hdep : Nat.ble (d' + 1) d = true) (hml : Nat.ble maxL 21 = true) (hd : decode cc pc = .ok (.invokestatic idx, 3))
    (kk : ∀ (r1 : Int64) (M1 : tv_M), tv_G κ nL Q (pc + 3) ls (.long r1 :: rest) M1 (f r1 M1)) : tv_G κ nL Q pc ls stk M (tv_cb oc f) := g_callN hC As hw hM hn hst hsum hdep hml hd kk
theorem gv_callNv (hC : tv_Cx κ own cc nL d) {idx n maxL d' : Nat} {y : MethodName} {host : String} {bytes : ByteArray} {ret : Option FieldType} {oc : Option (Unit × tv_M)} {f : Unit → tv_M → Option (β × tv_M)} (As : List Value) {rest : List Value} (hw : tv_Nw own idx y host bytes maxL ret n) (hM : tv_Ct κ.l κ.th y bytes maxL ret d' tv_ev As M oc) (hn : As.length = n) (hst : stk = As.reverse ++ rest) (hsum : Nat.ble ((rest.map fun v => v.category).sum) 8 = true) (hdep : Nat.ble (d' + 1) d = true) (hml : Nat.ble maxL 21 = true) (hd : decode cc pc = .ok (.invokestatic idx, 3))
    (kk : ∀ (r1 : Unit) (M1 : tv_M), tv_G κ nL Q (pc + 3) ls (rest) M1 (f r1 M1)) : tv_G κ nL Q pc ls stk M (tv_cb oc f) := g_callN hC As hw hM hn hst hsum hdep hml hd kk
theorem gv_callNr (hC : tv_Cx κ own cc nL d) {idx n maxL d' : Nat} {y : MethodName} {host : String} {bytes : ByteArray} {ret : Option FieldType} {oc : Option (Option Nat × tv_M)} {f : Option Nat → tv_M → Option (β × tv_M)} (As : List Value) {rest : List Value} (hw : tv_Nw own idx y host bytes maxL ret n) (hM : tv_Ct κ.l κ.th y bytes maxL ret d' (tv_er κ.b) As M oc) (hn : As.length = n) (hst : stk = As.reverse ++ rest) (hsum : Nat.ble ((rest.map fun v => v.category).sum) 8 = true) (hdep : Nat.ble (d' + 1) d = true) (hml : Nat.ble maxL 21 = true) (hd : decode cc pc = .ok (.invokestatic idx, 3))
    (kk : ∀ (r1 : Option Nat) (M1 : tv_M), tv_G κ nL Q (pc + 3) ls (tv_re κ.b r1 :: rest) M1 (f r1 M1)) : tv_G κ nL Q pc ls stk M (tv_cb oc f) := g_callN hC As hw hM hn hst hsum hdep hml hd kk
end TVV
end
section
/-! words by their places in the printed sublists -/
theorem tv_t1 {w : Cond} (i : Nat) (h : tables_1_1[i]? = some w) (hg : goodWord w = true) : w ∈ tv_tb := tv_mem_tb (show w ∈ tables_1_1 ++ (tables_1_2 ++ (tables_1_3 ++ (tables_1_4 ++ (tables_1_5 ++ (tables_1_6 ++ (tables_1_7 ++ tables_1_8)))))) from List.mem_append_left _ (List.mem_of_getElem? h)) hg
theorem tv_t2 {w : Cond} (i : Nat) (h : tables_1_2[i]? = some w) (hg : goodWord w = true) : w ∈ tv_tb := tv_mem_tb (show w ∈ tables_1_1 ++ (tables_1_2 ++ (tables_1_3 ++ (tables_1_4 ++ (tables_1_5 ++ (tables_1_6 ++ (tables_1_7 ++ tables_1_8)))))) from List.mem_append_right _ (List.mem_append_left _ (List.mem_of_getElem? h))) hg
theorem tv_t3 {w : Cond} (i : Nat) (h : tables_1_3[i]? = some w) (hg : goodWord w = true) : w ∈ tv_tb := tv_mem_tb (show w ∈ tables_1_1 ++ (tables_1_2 ++ (tables_1_3 ++ (tables_1_4 ++ (tables_1_5 ++ (tables_1_6 ++ (tables_1_7 ++ tables_1_8)))))) from List.mem_append_right _ (List.mem_append_right _ (List.mem_append_left _ (List.mem_of_getElem? h)))) hg
theorem tv_t4 {w : Cond} (i : Nat) (h : tables_1_4[i]? = some w) (hg : goodWord w = true) : w ∈ tv_tb := tv_mem_tb (show w ∈ tables_1_1 ++ (tables_1_2 ++ (tables_1_3 ++ (tables_1_4 ++ (tables_1_5 ++ (tables_1_6 ++ (tables_1_7 ++ tables_1_8)))))) from List.mem_append_right _ (List.mem_append_right _ (List.mem_append_right _ (List.mem_append_left _ (List.mem_of_getElem? h))))) hg
theorem tv_t5 {w : Cond} (i : Nat) (h : tables_1_5[i]? = some w) (hg : goodWord w = true) : w ∈ tv_tb := tv_mem_tb (show w ∈ tables_1_1 ++ (tables_1_2 ++ (tables_1_3 ++ (tables_1_4 ++ (tables_1_5 ++ (tables_1_6 ++ (tables_1_7 ++ tables_1_8)))))) from List.mem_append_right _ (List.mem_append_right _ (List.mem_append_right _ (List.mem_append_right _ (List.mem_append_left _ (List.mem_of_getElem? h)))))) hg
theorem tv_t6 {w : Cond} (i : Nat) (h : tables_1_6[i]? = some w) (hg : goodWord w = true) : w ∈ tv_tb := tv_mem_tb (show w ∈ tables_1_1 ++ (tables_1_2 ++ (tables_1_3 ++ (tables_1_4 ++ (tables_1_5 ++ (tables_1_6 ++ (tables_1_7 ++ tables_1_8)))))) from List.mem_append_right _ (List.mem_append_right _ (List.mem_append_right _ (List.mem_append_right _ (List.mem_append_right _ (List.mem_append_left _ (List.mem_of_getElem? h))))))) hg
theorem tv_t7 {w : Cond} (i : Nat) (h : tables_1_7[i]? = some w) (hg : goodWord w = true) : w ∈ tv_tb := tv_mem_tb (show w ∈ tables_1_1 ++ (tables_1_2 ++ (tables_1_3 ++ (tables_1_4 ++ (tables_1_5 ++ (tables_1_6 ++ (tables_1_7 ++ tables_1_8)))))) from List.mem_append_right _ (List.mem_append_right _ (List.mem_append_right _ (List.mem_append_right _ (List.mem_append_right _ (List.mem_append_right _ (List.mem_append_left _ (List.mem_of_getElem? h)))))))) hg
theorem tv_t8 {w : Cond} (i : Nat) (h : tables_1_8[i]? = some w) (hg : goodWord w = true) : w ∈ tv_tb := tv_mem_tb (show w ∈ tables_1_1 ++ (tables_1_2 ++ (tables_1_3 ++ (tables_1_4 ++ (tables_1_5 ++ (tables_1_6 ++ (tables_1_7 ++ tables_1_8)))))) from List.mem_append_right _ (List.mem_append_right _ (List.mem_append_right _ (List.mem_append_right _ (List.mem_append_right _ (List.mem_append_right _ (List.mem_append_right _ (List.mem_of_getElem? h)))))))) hg
theorem tv_pr1 {y : MethodName} {n : Nat} (i : Nat) (h : lw_privs_1[i]? = some (y, n)) : Cond.selects y.cls y y ∈ tv_tb := List.mem_filter.mpr ⟨List.mem_append_left _ (List.mem_map.mpr ⟨(y, n), (show (y, n) ∈ lw_privs_1 ++ (lw_privs_2 ++ (lw_privs_3 ++ (lw_privs_4 ++ (lw_privs_5 ++ lw_privs_6)))) from List.mem_append_left _ (List.mem_of_getElem? h)), rfl⟩), rfl⟩
theorem tv_pr2 {y : MethodName} {n : Nat} (i : Nat) (h : lw_privs_2[i]? = some (y, n)) : Cond.selects y.cls y y ∈ tv_tb := List.mem_filter.mpr ⟨List.mem_append_left _ (List.mem_map.mpr ⟨(y, n), (show (y, n) ∈ lw_privs_1 ++ (lw_privs_2 ++ (lw_privs_3 ++ (lw_privs_4 ++ (lw_privs_5 ++ lw_privs_6)))) from List.mem_append_right _ (List.mem_append_left _ (List.mem_of_getElem? h))), rfl⟩), rfl⟩
theorem tv_pr3 {y : MethodName} {n : Nat} (i : Nat) (h : lw_privs_3[i]? = some (y, n)) : Cond.selects y.cls y y ∈ tv_tb := List.mem_filter.mpr ⟨List.mem_append_left _ (List.mem_map.mpr ⟨(y, n), (show (y, n) ∈ lw_privs_1 ++ (lw_privs_2 ++ (lw_privs_3 ++ (lw_privs_4 ++ (lw_privs_5 ++ lw_privs_6)))) from List.mem_append_right _ (List.mem_append_right _ (List.mem_append_left _ (List.mem_of_getElem? h)))), rfl⟩), rfl⟩
theorem tv_pr4 {y : MethodName} {n : Nat} (i : Nat) (h : lw_privs_4[i]? = some (y, n)) : Cond.selects y.cls y y ∈ tv_tb := List.mem_filter.mpr ⟨List.mem_append_left _ (List.mem_map.mpr ⟨(y, n), (show (y, n) ∈ lw_privs_1 ++ (lw_privs_2 ++ (lw_privs_3 ++ (lw_privs_4 ++ (lw_privs_5 ++ lw_privs_6)))) from List.mem_append_right _ (List.mem_append_right _ (List.mem_append_right _ (List.mem_append_left _ (List.mem_of_getElem? h))))), rfl⟩), rfl⟩
theorem tv_pr5 {y : MethodName} {n : Nat} (i : Nat) (h : lw_privs_5[i]? = some (y, n)) : Cond.selects y.cls y y ∈ tv_tb := List.mem_filter.mpr ⟨List.mem_append_left _ (List.mem_map.mpr ⟨(y, n), (show (y, n) ∈ lw_privs_1 ++ (lw_privs_2 ++ (lw_privs_3 ++ (lw_privs_4 ++ (lw_privs_5 ++ lw_privs_6)))) from List.mem_append_right _ (List.mem_append_right _ (List.mem_append_right _ (List.mem_append_right _ (List.mem_append_left _ (List.mem_of_getElem? h)))))), rfl⟩), rfl⟩
theorem tv_pr6 {y : MethodName} {n : Nat} (i : Nat) (h : lw_privs_6[i]? = some (y, n)) : Cond.selects y.cls y y ∈ tv_tb := List.mem_filter.mpr ⟨List.mem_append_left _ (List.mem_map.mpr ⟨(y, n), (show (y, n) ∈ lw_privs_1 ++ (lw_privs_2 ++ (lw_privs_3 ++ (lw_privs_4 ++ (lw_privs_5 ++ lw_privs_6)))) from List.mem_append_right _ (List.mem_append_right _ (List.mem_append_right _ (List.mem_append_right _ (List.mem_append_right _ (List.mem_of_getElem? h)))))), rfl⟩), rfl⟩
/-! THE STRING CONSTANTS: a constant is its place w < 9 -/
def tv_gs {α : Type} (w : Nat) (o : Option α) : Option α := if w < 9 then o else none
def Js_length (_ : Nat) (w : Nat) (M : tv_M) : Option (Int32 × tv_M) := if w < 9 then some (Int32.ofNat (tv_slen.getD w 0), M) else none
def Js_charAt (_ : Nat) (w : Nat) (i : Int32) (M : tv_M) : Option (Int32 × tv_M) := if w < 9 then (if tv_inb i (tv_slen.getD w 0) then some ((((tv_sbyt.getD w []).getD i.toNatClampNeg 0 &&& 255).toUInt32 % 65536).toInt32, M) else none) else none
section TVS
variable {β β' : Type} {κ : tv_Kt} {own : String} {cc : ByteArray} {nL d pc w : Nat} {Q : β → tv_M → State → Prop} {ls ls' : List (Option Value)} {st stk : List Value} {M : tv_M} {o o1 o2 : Option (β × tv_M)} {x y : Int32} {u v : Int64}
theorem g_gs (h : w < 9 → tv_G κ nL Q pc ls st M o) : tv_G κ nL Q pc ls st M (tv_gs w o) := by
  unfold tv_gs
  split
  · exact h (by assumption)
  · exact g_none
theorem g_lds (hC : tv_Cx κ own cc nL d) (i : Nat) {idx : Nat} {tx : String} (hq : tv_strs[i]? = some (own, idx, tx)) (hd : decode cc pc = .ok (.ldc idx, 2)) (kk : tv_G κ nL Q (pc + 2) ls (.ref (κ.th.2.2.2.1 i) :: st) M o) : tv_G κ nL Q pc ls st M o := fun r M' ho H locs sl hP hS hl => va_ldcS hC.1.1 hC.1.2.1 hC.1.2.2.2.1 (hC.2.2.1.2.1 i _ hq) hd (kk r M' ho H locs sl hP hS hl)
theorem g_getSV (hC : tv_Cx κ own cc nL d) {idx : Nat} (hw : w < 9) (hl : Cond.fieldLink own idx "java/lang/String" "value" "[B" ∈ tv_tb) (hd : decode cc pc = .ok (.getfield idx, 3)) (kk : tv_G κ nL Q (pc + 3) ls (.ref (κ.th.2.2.2.2.1 w) :: st) M o) : tv_G κ nL Q pc ls (.ref (κ.th.2.2.2.1 w) :: st) M o := fun r M' ho H locs sl hP hS hl' => vk_getf hC.1.1 hC.1.2.1 (hC.2.2.1.2.2.1.1 w hw).2.2.1 hS hC.1.2.2.2.1 (hC.1.2.2.2.2 _ hl) (fun _ h => h) hd (kk r M' ho H locs sl hP hS hl')
theorem g_getSC (hC : tv_Cx κ own cc nL d) {idx : Nat} (hw : w < 9) (hl : Cond.fieldLink own idx "java/lang/String" "coder" "B" ∈ tv_tb) (hd : decode cc pc = .ok (.getfield idx, 3)) (kk : tv_G κ nL Q (pc + 3) ls (.int 0 :: st) M o) : tv_G κ nL Q pc ls (.ref (κ.th.2.2.2.1 w) :: st) M o := fun r M' ho H locs sl hP hS hl' => vk_getf hC.1.1 hC.1.2.1 (hC.2.2.1.2.2.1.1 w hw).2.1 hS hC.1.2.2.2.1 (hC.1.2.2.2.2 _ hl) (fun _ h => h) hd (kk r M' ho H locs sl hP hS hl')
theorem g_lenS (hC : tv_Cx κ own cc nL d) (hw : w < 9) (hd : decode cc pc = .ok (.arraylength, 1)) (hx : Int32.ofNat (tv_slen.getD w 0) = x) (kk : tv_G κ nL Q (pc + 1) ls (.int x :: st) M o) : tv_G κ nL Q pc ls (.ref (κ.th.2.2.2.2.1 w) :: st) M o := fun r M' ho H locs sl hP hS hl' => va_tlen hC.1.1 hC.1.2.1 (hC.2.2.1.2.2.1.1 w hw).2.2.2 hS hx hd (kk r M' ho H locs sl hP hS hl')
theorem g_balS (hC : tv_Cx κ own cc nL d) {i : Int32} (hw : w < 9) (hi : tv_inb i (tv_slen.getD w 0) = true) (hd : decode cc pc = .ok (.baload, 1)) (kk : tv_G κ nL Q (pc + 1) ls (.int ((tv_sbyt.getD w []).getD i.toNatClampNeg 0) :: st) M o) : tv_G κ nL Q pc ls (.int i :: .ref (κ.th.2.2.2.2.1 w) :: st) M o := fun r M' ho H locs sl hP hS hl' => va_tb hC.1.1 hC.1.2.1 (hC.2.2.1.2.2.1.1 w hw).2.2.2 hS (tv_inbP hi) rfl hd (kk r M' ho H locs sl hP hS hl')
theorem g_gets1 (hC : tv_Cx κ own cc nL d) {idx : Nat} (hl : Cond.fieldLink own idx "java/lang/String" "COMPACT_STRINGS" "Z" ∈ tv_tb) (hd : decode cc pc = .ok (.getstatic idx, 3)) (kk : tv_G κ nL Q (pc + 3) ls (.int 1 :: st) M o) : tv_G κ nL Q pc ls st M o := fun r M' ho H locs sl hP hS hl' => va_gets hC.1.1 hC.1.2.1 hC.2.2.1.2.2.2.1 hS hC.1.2.2.2.1 (hC.1.2.2.2.2 _ hl) (fun _ h => h) hd (kk r M' ho H locs sl hP hS hl')
theorem g_getsF (hC : tv_Cx κ own cc nL d) {idx : Nat} (hl : Cond.fieldLink own idx "jdk/internal/util/Preconditions" "SIOOBE_FORMATTER" "Ljava/util/function/BiFunction;" ∈ tv_tb) (hd : decode cc pc = .ok (.getstatic idx, 3)) (kk : ∀ a : Value, a.category = 1 → tv_G κ nL Q (pc + 3) ls (a :: st) M o) : tv_G κ nL Q pc ls st M o := fun r M' ho H locs sl hP hS hl' => by
  rcases hC.2.2.1.2.2.2.2.2 with h | ⟨t, h⟩
  · exact va_gets hC.1.1 hC.1.2.1 h hS hC.1.2.2.2.1 (hC.1.2.2.2.2 _ hl) (fun _ h => h) hd (kk _ rfl r M' ho H locs sl hP hS hl')
  · exact va_gets hC.1.1 hC.1.2.1 h hS hC.1.2.2.2.1 (hC.1.2.2.2.2 _ hl) (fun _ h => h) hd (kk _ rfl r M' ho H locs sl hP hS hl')
theorem g_nret (hC : tv_Cx κ own cc nL d) {ty : FieldType} (hR : tv_Re κ (some ty)) (hx : narrow ty (.int x) = .int x) (hd : decode cc pc = .ok (.ireturn, 1)) : tv_G κ nL (tv_Qm κ tv_ei) pc ls [.int x] M (some (x, M)) := by
  intro r M' ho H locs sl hP hS hl
  cases ho
  exact W.zret hC.1.1 hC.1.2.1 hR.1 hx (fun t ht hW => ⟨rfl, by rw [ht]; exact hP, hS.F ht⟩) hS.2.2 hd hR.2
theorem g_eqF (hC : tv_Cx κ own cc nL d) {off : Int} {tgt : Nat} (hd : decode cc pc = .ok (.ifCond .eq off, 3)) (ht : (pc : Int) + off = (tgt : Int)) (hx : ¬ x = 0) (k : tv_G κ nL Q (pc + 3) ls st M o) : tv_G κ nL Q pc ls (.int x :: st) M o := fun r M' ho H locs sl hP hS hl => lv_if_eq hC.1.1 hC.1.2.1 hd ht (fun h => absurd h hx) (fun _ => k r M' ho H locs sl hP hS hl)
theorem g_neF (hC : tv_Cx κ own cc nL d) {off : Int} {tgt : Nat} (hd : decode cc pc = .ok (.ifCond .ne off, 3)) (ht : (pc : Int) + off = (tgt : Int)) (hx : x = 0) (k : tv_G κ nL Q (pc + 3) ls st M o) : tv_G κ nL Q pc ls (.int x :: st) M o := fun r M' ho H locs sl hP hS hl => lv_if_ne hC.1.1 hC.1.2.1 hd ht (fun h => absurd hx h) (fun _ => k r M' ho H locs sl hP hS hl)
theorem g_ltF (hC : tv_Cx κ own cc nL d) {off : Int} {tgt : Nat} (hd : decode cc pc = .ok (.ifCond .lt off, 3)) (ht : (pc : Int) + off = (tgt : Int)) (hx : ¬ x < 0) (k : tv_G κ nL Q (pc + 3) ls st M o) : tv_G κ nL Q pc ls (.int x :: st) M o := fun r M' ho H locs sl hP hS hl => lv_if_lt hC.1.1 hC.1.2.1 hd ht (fun h => absurd h hx) (fun _ => k r M' ho H locs sl hP hS hl)
theorem g_icltT (hC : tv_Cx κ own cc nL d) {off : Int} {tgt : Nat} (hd : decode cc pc = .ok (.if_icmp .lt off, 3)) (ht : (pc : Int) + off = (tgt : Int)) (hx : x < y) (k : tv_G κ nL Q tgt ls st M o) : tv_G κ nL Q pc ls (.int y :: .int x :: st) M o := fun r M' ho H locs sl hP hS hl => lv_icmp_lt hC.1.1 hC.1.2.1 hd ht (fun _ => k r M' ho H locs sl hP hS hl) (fun h => absurd hx h)
/-- a call on a String constant -/
theorem gv_callXi (hC : tv_Cx κ own cc nL d) {idx n maxL d' : Nat} {y : MethodName} {bytes : ByteArray} {ret : Option FieldType} {oc : Option (Int32 × tv_M)} {f : Int32 → tv_M → Option (β × tv_M)} (As : List Value) {rest : List Value}
    (hw : tv_Vw own idx y bytes maxL ret n) (hM : tv_Ct κ.l κ.th y bytes maxL ret d' tv_ei (.ref (κ.th.2.2.2.1 w) :: As) M oc) (hw9 : w < 9) (hy : y.cls = "java/lang/String") (hn : As.length = n) (hst : stk = As.reverse ++ .ref (κ.th.2.2.2.1 w) :: rest) (hsum : Nat.ble ((rest.map fun v => v.category).sum) 8 = true) (hdep : Nat.ble (d' + 1) d = true) (hml : Nat.ble maxL 21 = true) (hd : decode cc pc = .ok (.invokevirtual idx, 3))
    (kk : ∀ (r1 : Int32) (M1 : tv_M), tv_G κ nL Q (pc + 3) ls (.int r1 :: rest) M1 (f r1 M1)) : tv_G κ nL Q pc ls stk M (tv_cb oc f) := by
  refine tv_cont (emb := tv_ei) (a := (.ref (κ.th.2.2.2.1 w) :: As).toArray) (rest := rest) ?_ kk
  intro r1 M1 hoc H locs sl hP hS hl
  have hrc := vk_recv (H := H) (locs := locs) hC.2.2.1.2.2.1 hw9 hS
  rw [← hy] at hrc
  exact va_runV (g := F0 κ.2.2.2.2.2.1 pc sl stk) (As := As) (rest := rest) hC.1 (hM r1 M1 hoc) (cwV n hC.1.2.2.2.2 (tv_goodV hw) rfl rfl rfl ⟨rfl, hw.2.2.2.2.2⟩ (tv_rmfit hC.2.2.2.1 hC.2.2.2.2 hdep hml)) ⟨tv_St.blind, hrc, tv_begin hC hP hS _⟩ rfl hn hl.1 hst (lv_room (Nat.le_of_ble_eq_true hsum)) hd ⟨Nat.zero_le _, Nat.zero_le _⟩
/-- the outcome is known -/
theorem g_eqo (e : o1 = o) (k : tv_G κ nL Q pc ls st M o1) : tv_G κ nL Q pc ls st M o := e ▸ k
end TVS
theorem js_v335 : tv_Vw "java/lang/String" 335 ⟨"java/lang/String", "coder", "()B"⟩ prog_17_method_152_code 1 (some .byte) 0 := ⟨tv_t3 114 rfl rfl, tv_t3 115 rfl rfl, tv_t3 116 rfl rfl, tv_t1 16 rfl rfl, tv_t3 117 rfl rfl, by decide +kernel, by decide +kernel, by decide +kernel⟩
theorem js_v492 : tv_Vw "java/lang/String" 492 ⟨"java/lang/String", "isLatin1", "()Z"⟩ prog_17_method_154_code 1 (some .boolean) 0 := ⟨tv_t3 124 rfl rfl, tv_t3 125 rfl rfl, tv_t3 126 rfl rfl, tv_t1 16 rfl rfl, tv_t3 127 rfl rfl, by decide +kernel, by decide +kernel, by decide +kernel⟩
theorem js_s495 : tv_Sw "java/lang/String" 495 ⟨"java/lang/StringLatin1", "charAt", "([BI)C"⟩ prog_18_method_2_code 2 (some .char) 2 := ⟨tv_t3 128 rfl rfl, tv_t3 129 rfl rfl, tv_t1 17 rfl rfl, tv_t3 130 rfl rfl, by decide +kernel, by decide +kernel, by decide +kernel⟩
theorem js_s9 : tv_Sw "java/lang/StringLatin1" 9 ⟨"java/lang/String", "checkIndex", "(II)V"⟩ prog_17_method_155_code 2 none 2 := ⟨tv_t3 131 rfl rfl, tv_t3 132 rfl rfl, tv_t1 16 rfl rfl, tv_t3 133 rfl rfl, by decide +kernel, by decide +kernel, by decide +kernel⟩
theorem js_s1059 : tv_Sw "java/lang/String" 1059 ⟨"jdk/internal/util/Preconditions", "checkIndex", "(IILjava/util/function/BiFunction;)I"⟩ prog_22_method_11_code 3 (some .int) 3 := ⟨tv_t3 136 rfl rfl, tv_t3 137 rfl rfl, tv_t1 18 rfl rfl, tv_t3 138 rfl rfl, by decide +kernel, by decide +kernel, by decide +kernel⟩
theorem js_f9 : Cond.fieldLink "java/lang/String" 9 "java/lang/String" "value" "[B" ∈ tv_tb := tv_t8 42 rfl rfl
theorem js_f15 : Cond.fieldLink "java/lang/String" 15 "java/lang/String" "coder" "B" ∈ tv_tb := tv_t8 43 rfl rfl
theorem js_f38 : Cond.fieldLink "java/lang/String" 38 "java/lang/String" "COMPACT_STRINGS" "Z" ∈ tv_tb := tv_t3 118 rfl rfl
theorem js_f1053 : Cond.fieldLink "java/lang/String" 1053 "jdk/internal/util/Preconditions" "SIOOBE_FORMATTER" "Ljava/util/function/BiFunction;" ∈ tv_tb := tv_t3 134 rfl rfl
theorem js_cod_0 : decode prog_17_method_152_code 0 = .ok (.getstatic 38, 3) := by decide +kernel
theorem js_cod_3 : decode prog_17_method_152_code 3 = .ok (.ifCond .eq 10, 3) := by decide +kernel
theorem js_cod_6 : decode prog_17_method_152_code 6 = .ok (.aload_n 0, 1) := by decide +kernel
theorem js_cod_7 : decode prog_17_method_152_code 7 = .ok (.getfield 15, 3) := by decide +kernel
theorem js_cod_10 : decode prog_17_method_152_code 10 = .ok (.goto 4, 3) := by decide +kernel
theorem js_cod_13 : decode prog_17_method_152_code 13 = .ok (.iconst 1, 1) := by decide +kernel
theorem js_cod_14 : decode prog_17_method_152_code 14 = .ok (.ireturn, 1) := by decide +kernel
theorem js_len_0 : decode prog_17_method_54_code 0 = .ok (.aload_n 0, 1) := by decide +kernel
theorem js_len_1 : decode prog_17_method_54_code 1 = .ok (.getfield 9, 3) := by decide +kernel
theorem js_len_4 : decode prog_17_method_54_code 4 = .ok (.arraylength, 1) := by decide +kernel
theorem js_len_5 : decode prog_17_method_54_code 5 = .ok (.aload_n 0, 1) := by decide +kernel
theorem js_len_6 : decode prog_17_method_54_code 6 = .ok (.invokevirtual 335, 3) := by decide +kernel
theorem js_len_9 : decode prog_17_method_54_code 9 = .ok (.ishr, 1) := by decide +kernel
theorem js_len_10 : decode prog_17_method_54_code 10 = .ok (.ireturn, 1) := by decide +kernel
theorem js_lat_0 : decode prog_17_method_154_code 0 = .ok (.getstatic 38, 3) := by decide +kernel
theorem js_lat_3 : decode prog_17_method_154_code 3 = .ok (.ifCond .eq 14, 3) := by decide +kernel
theorem js_lat_6 : decode prog_17_method_154_code 6 = .ok (.aload_n 0, 1) := by decide +kernel
theorem js_lat_7 : decode prog_17_method_154_code 7 = .ok (.getfield 15, 3) := by decide +kernel
theorem js_lat_10 : decode prog_17_method_154_code 10 = .ok (.ifCond .ne 7, 3) := by decide +kernel
theorem js_lat_13 : decode prog_17_method_154_code 13 = .ok (.iconst 1, 1) := by decide +kernel
theorem js_lat_14 : decode prog_17_method_154_code 14 = .ok (.goto 4, 3) := by decide +kernel
theorem js_lat_17 : decode prog_17_method_154_code 17 = .ok (.iconst 0, 1) := by decide +kernel
theorem js_lat_18 : decode prog_17_method_154_code 18 = .ok (.ireturn, 1) := by decide +kernel
theorem js_chr_0 : decode prog_17_method_56_code 0 = .ok (.aload_n 0, 1) := by decide +kernel
theorem js_chr_1 : decode prog_17_method_56_code 1 = .ok (.invokevirtual 492, 3) := by decide +kernel
theorem js_chr_4 : decode prog_17_method_56_code 4 = .ok (.ifCond .eq 12, 3) := by decide +kernel
theorem js_chr_7 : decode prog_17_method_56_code 7 = .ok (.aload_n 0, 1) := by decide +kernel
theorem js_chr_8 : decode prog_17_method_56_code 8 = .ok (.getfield 9, 3) := by decide +kernel
theorem js_chr_11 : decode prog_17_method_56_code 11 = .ok (.iload_n 1, 1) := by decide +kernel
theorem js_chr_12 : decode prog_17_method_56_code 12 = .ok (.invokestatic 495, 3) := by decide +kernel
theorem js_chr_15 : decode prog_17_method_56_code 15 = .ok (.ireturn, 1) := by decide +kernel
theorem js_chr_16 : decode prog_17_method_56_code 16 = .ok (.aload_n 0, 1) := by decide +kernel
theorem js_chr_17 : decode prog_17_method_56_code 17 = .ok (.getfield 9, 3) := by decide +kernel
theorem js_chr_20 : decode prog_17_method_56_code 20 = .ok (.iload_n 1, 1) := by decide +kernel
theorem js_chr_21 : decode prog_17_method_56_code 21 = .ok (.invokestatic 498, 3) := by decide +kernel
theorem js_chr_24 : decode prog_17_method_56_code 24 = .ok (.ireturn, 1) := by decide +kernel
theorem js_sck_0 : decode prog_17_method_155_code 0 = .ok (.iload_n 0, 1) := by decide +kernel
theorem js_sck_1 : decode prog_17_method_155_code 1 = .ok (.iload_n 1, 1) := by decide +kernel
theorem js_sck_2 : decode prog_17_method_155_code 2 = .ok (.getstatic 1053, 3) := by decide +kernel
theorem js_sck_5 : decode prog_17_method_155_code 5 = .ok (.invokestatic 1059, 3) := by decide +kernel
theorem js_sck_8 : decode prog_17_method_155_code 8 = .ok (.pop, 1) := by decide +kernel
theorem js_sck_9 : decode prog_17_method_155_code 9 = .ok (.return_, 1) := by decide +kernel
theorem js_lch_0 : decode prog_18_method_2_code 0 = .ok (.iload_n 1, 1) := by decide +kernel
theorem js_lch_1 : decode prog_18_method_2_code 1 = .ok (.aload_n 0, 1) := by decide +kernel
theorem js_lch_2 : decode prog_18_method_2_code 2 = .ok (.arraylength, 1) := by decide +kernel
theorem js_lch_3 : decode prog_18_method_2_code 3 = .ok (.invokestatic 9, 3) := by decide +kernel
theorem js_lch_6 : decode prog_18_method_2_code 6 = .ok (.aload_n 0, 1) := by decide +kernel
theorem js_lch_7 : decode prog_18_method_2_code 7 = .ok (.iload_n 1, 1) := by decide +kernel
theorem js_lch_8 : decode prog_18_method_2_code 8 = .ok (.baload, 1) := by decide +kernel
theorem js_lch_9 : decode prog_18_method_2_code 9 = .ok (.sipush 255, 3) := by decide +kernel
theorem js_lch_12 : decode prog_18_method_2_code 12 = .ok (.iand, 1) := by decide +kernel
theorem js_lch_13 : decode prog_18_method_2_code 13 = .ok (.i2c, 1) := by decide +kernel
theorem js_lch_14 : decode prog_18_method_2_code 14 = .ok (.ireturn, 1) := by decide +kernel
theorem js_pck_0 : decode prog_22_method_11_code 0 = .ok (.iload_n 0, 1) := by decide +kernel
theorem js_pck_1 : decode prog_22_method_11_code 1 = .ok (.ifCond .lt 8, 3) := by decide +kernel
theorem js_pck_4 : decode prog_22_method_11_code 4 = .ok (.iload_n 0, 1) := by decide +kernel
theorem js_pck_5 : decode prog_22_method_11_code 5 = .ok (.iload_n 1, 1) := by decide +kernel
theorem js_pck_6 : decode prog_22_method_11_code 6 = .ok (.if_icmp .lt 10, 3) := by decide +kernel
theorem js_pck_9 : decode prog_22_method_11_code 9 = .ok (.aload_n 2, 1) := by decide +kernel
theorem js_pck_10 : decode prog_22_method_11_code 10 = .ok (.iload_n 0, 1) := by decide +kernel
theorem js_pck_11 : decode prog_22_method_11_code 11 = .ok (.iload_n 1, 1) := by decide +kernel
theorem js_pck_12 : decode prog_22_method_11_code 12 = .ok (.invokestatic 95, 3) := by decide +kernel
theorem js_pck_16 : decode prog_22_method_11_code 16 = .ok (.iload_n 0, 1) := by decide +kernel
theorem js_pck_17 : decode prog_22_method_11_code 17 = .ok (.ireturn, 1) := by decide +kernel
theorem Js_coder_c {l : Launch} {θ : tv_Th} (w : Nat) (hw : w < 9) (M : tv_M) : tv_Ct l θ ⟨"java/lang/String", "coder", "()B"⟩ prog_17_method_152_code 1 (some .byte) 0 tv_ei [.ref (θ.2.2.2.1 w)] M (some (0, M)) := by
  refine tv_ofG [some (.ref (θ.2.2.2.1 w))] rfl rfl (tv_ent 0 rfl) ?_
  intro κ hl ht hC hR
  subst hl; subst ht
  refine g_gets1 hC js_f38 js_cod_0 ?_
  refine g_eqF (tgt := 13) hC js_cod_3 (by decide) (by decide) ?_
  refine g_aload_n hC js_cod_6 rfl ?_
  refine g_getSC hC hw js_f15 js_cod_7 ?_
  refine g_goto (tgt := 14) hC js_cod_10 (by decide) ?_
  exact g_nret hC hR (by decide) js_cod_14
theorem Js_lat_c {l : Launch} {θ : tv_Th} (w : Nat) (hw : w < 9) (M : tv_M) : tv_Ct l θ ⟨"java/lang/String", "isLatin1", "()Z"⟩ prog_17_method_154_code 1 (some .boolean) 0 tv_ei [.ref (θ.2.2.2.1 w)] M (some (1, M)) := by
  refine tv_ofG [some (.ref (θ.2.2.2.1 w))] rfl rfl (tv_ent 0 rfl) ?_
  intro κ hl ht hC hR
  subst hl; subst ht
  refine g_gets1 hC js_f38 js_lat_0 ?_
  refine g_eqF (tgt := 17) hC js_lat_3 (by decide) (by decide) ?_
  refine g_aload_n hC js_lat_6 rfl ?_
  refine g_getSC hC hw js_f15 js_lat_7 ?_
  refine g_neF (tgt := 17) hC js_lat_10 (by decide) rfl ?_
  refine g_iconst (x := 1) hC js_lat_13 (by decide) ?_
  refine g_goto (tgt := 18) hC js_lat_14 (by decide) ?_
  exact g_nret hC hR (by decide) js_lat_18
theorem Js_shr0 : ∀ w, w < 9 → Int32.ofNat (tv_slen.getD w 0) >>> ((0 : Int32) &&& 31) = Int32.ofNat (tv_slen.getD w 0) := by decide +kernel
theorem Js_length_k {l : Launch} {θ : tv_Th} (w : Nat) (hw : w < 9) (M : tv_M) : tv_Ct l θ ⟨"java/lang/String", "length", "()I"⟩ prog_17_method_54_code 1 (some .int) 1 tv_ei [.ref (θ.2.2.2.1 w)] M (some (Int32.ofNat (tv_slen.getD w 0), M)) := by
  refine tv_ofG [some (.ref (θ.2.2.2.1 w))] rfl rfl (tv_ent 0 rfl) ?_
  intro κ hl ht hC hR
  subst hl; subst ht
  refine g_aload_n hC js_len_0 rfl ?_
  refine g_getSV hC hw js_f9 js_len_1 ?_
  refine g_lenS hC hw js_len_4 rfl ?_
  refine g_aload_n hC js_len_5 rfl ?_
  refine g_eqo (o1 := tv_cb (some ((0 : Int32), M)) (fun r M1 => some (Int32.ofNat (tv_slen.getD w 0) >>> (r &&& 31), M1))) (by show some (_, M) = _; rw [Js_shr0 w hw]) ?_
  refine gv_callXi (w := w) hC [] js_v335 (Js_coder_c w hw M) hw rfl rfl rfl rfl rfl rfl js_len_6 (fun r M1 => ?_)
  refine g_ishr hC js_len_9 ?_
  exact g_iret hC hR js_len_10
theorem Js_length_c {l : Launch} {θ : tv_Th} (F : Nat) (w : Nat) (M : tv_M) : tv_Ct l θ ⟨"java/lang/String", "length", "()I"⟩ prog_17_method_54_code 1 (some .int) 1 tv_ei [.ref (θ.2.2.2.1 w)] M (Js_length F w M) := by
  unfold Js_length
  by_cases hw : w < 9
  · rw [if_pos hw]
    exact Js_length_k w hw M
  · rw [if_neg hw]
    intro r M1 ho
    cases ho
theorem Js_pck_c {l : Launch} {θ : tv_Th} (i n : Int32) (f : Value) (hf : f.category = 1) (h1 : ¬ i < 0) (h2 : i < n) (M : tv_M) : tv_Ct l θ ⟨"jdk/internal/util/Preconditions", "checkIndex", "(IILjava/util/function/BiFunction;)I"⟩ prog_22_method_11_code 3 (some .int) 0 tv_ei [.int i, .int n, f] M (some (i, M)) := by
  refine tv_ofG [some (.int i), some (.int n), none] rfl (by simp only [lg_sl, List.flatMap_cons, List.flatMap_nil, hf]; rfl) ?_ ?_
  · intro j v hv
    match j, hv with
    | 0, hv => cases hv; exact List.mem_cons_self
    | 1, hv => cases hv; exact List.mem_cons_of_mem _ List.mem_cons_self
    | 2, hv => simp at hv
    | j + 3, hv => simp at hv
  intro κ hl ht hC hR
  subst hl; subst ht
  refine g_iload_n hC js_pck_0 rfl ?_
  refine g_ltF (tgt := 9) hC js_pck_1 (by decide) h1 ?_
  refine g_iload_n hC js_pck_4 rfl ?_
  refine g_iload_n hC js_pck_5 rfl ?_
  refine g_icltT (tgt := 16) hC js_pck_6 (by decide) h2 ?_
  refine g_iload_n hC js_pck_16 rfl ?_
  exact g_iret hC hR js_pck_17
theorem Js_sck_c {l : Launch} {θ : tv_Th} (i n : Int32) (h1 : ¬ i < 0) (h2 : i < n) (M : tv_M) : tv_Ct l θ ⟨"java/lang/String", "checkIndex", "(II)V"⟩ prog_17_method_155_code 2 none 1 tv_ev [.int i, .int n] M (some ((), M)) := by
  refine tv_ofG [some (.int i), some (.int n)] rfl rfl (tv_ent 0 rfl) ?_
  intro κ hl ht hC hR
  subst hl; subst ht
  refine g_iload_n hC js_sck_0 rfl ?_
  refine g_iload_n hC js_sck_1 rfl ?_
  refine g_getsF hC js_f1053 js_sck_2 (fun f hf => ?_)
  refine g_eqo (o1 := tv_cb (some (i, M)) (fun _ M1 => some ((), M1))) rfl ?_
  refine gv_callSi hC [.int i, .int n, f] js_s1059 (Js_pck_c i n f hf h1 h2 M) rfl rfl rfl rfl rfl js_sck_5 (fun r M1 => ?_)
  refine g_pop hC js_sck_8 rfl ?_
  exact g_vret hC hR js_sck_9
theorem Js_in {i : Int32} {w : Nat} (hw : w < 9) (hi : tv_inb i (tv_slen.getD w 0) = true) : ¬ i < 0 ∧ i < Int32.ofNat (tv_slen.getD w 0) := by
  have h := tv_inbP hi
  have hn : tv_slen.getD w 0 < 2 ^ 31 := by
    have e : ∀ w, w < 9 → tv_slen.getD w 0 < 2 ^ 31 := by decide +kernel
    exact e w hw
  obtain ⟨j, h1, h2⟩ := vp_in_of h hn
  subst h2
  exact ⟨nI_pos (by omega), nI_lt h1 hn⟩
theorem Js_nar (b : Int32) : narrow .char (.int (((b &&& 255).toUInt32 % 65536).toInt32)) = .int (((b &&& 255).toUInt32 % 65536).toInt32) := by
  rw [sc_c2]
  exact sc_nar b
theorem Js_lch_c {l : Launch} {θ : tv_Th} (w : Nat) (i : Int32) (hw : w < 9) (hi : tv_inb i (tv_slen.getD w 0) = true) (M : tv_M) : tv_Ct l θ ⟨"java/lang/StringLatin1", "charAt", "([BI)C"⟩ prog_18_method_2_code 2 (some .char) 2 tv_ei [.ref (θ.2.2.2.2.1 w), .int i] M (some ((((tv_sbyt.getD w []).getD i.toNatClampNeg 0 &&& 255).toUInt32 % 65536).toInt32, M)) := by
  refine tv_ofG [some (.ref (θ.2.2.2.2.1 w)), some (.int i)] rfl rfl (tv_ent 0 rfl) ?_
  intro κ hl ht hC hR
  subst hl; subst ht
  refine g_iload_n hC js_lch_0 rfl ?_
  refine g_aload_n hC js_lch_1 rfl ?_
  refine g_lenS hC hw js_lch_2 rfl ?_
  refine g_eqo (o1 := tv_cb (some ((), M)) (fun _ M1 => some ((((tv_sbyt.getD w []).getD i.toNatClampNeg 0 &&& 255).toUInt32 % 65536).toInt32, M1))) rfl ?_
  refine gv_callSv hC [.int i, .int (Int32.ofNat (tv_slen.getD w 0))] js_s9 (Js_sck_c i _ (Js_in hw hi).1 (Js_in hw hi).2 M) rfl rfl rfl rfl rfl js_lch_3 (fun r M1 => ?_)
  refine g_aload_n hC js_lch_6 rfl ?_
  refine g_iload_n hC js_lch_7 rfl ?_
  refine g_balS hC hw hi js_lch_8 ?_
  refine g_sipush (x := 255) hC js_lch_9 (by decide) ?_
  refine g_iand hC js_lch_12 ?_
  refine g_i2c hC js_lch_13 ?_
  exact g_nret hC hR (Js_nar _) js_lch_14
theorem Js_charAt_k {l : Launch} {θ : tv_Th} (w : Nat) (i : Int32) (hw : w < 9) (hi : tv_inb i (tv_slen.getD w 0) = true) (M : tv_M) : tv_Ct l θ ⟨"java/lang/String", "charAt", "(I)C"⟩ prog_17_method_56_code 2 (some .char) 3 tv_ei [.ref (θ.2.2.2.1 w), .int i] M (some ((((tv_sbyt.getD w []).getD i.toNatClampNeg 0 &&& 255).toUInt32 % 65536).toInt32, M)) := by
  refine tv_ofG [some (.ref (θ.2.2.2.1 w)), some (.int i)] rfl rfl (tv_ent 0 rfl) ?_
  intro κ hl ht hC hR
  subst hl; subst ht
  refine g_aload_n hC js_chr_0 rfl ?_
  refine g_eqo (o1 := tv_cb (some ((1 : Int32), M)) (fun r M1 => if r = 0 then none else tv_cb (some ((((tv_sbyt.getD w []).getD i.toNatClampNeg 0 &&& 255).toUInt32 % 65536).toInt32, M1)) (fun r M2 => if narrow .char (.int r) = .int r then some (r, M2) else none))) (by simp only [tv_cb]; rw [if_neg (by decide), if_pos (Js_nar _)]) ?_
  refine gv_callXi (w := w) hC [] js_v492 (Js_lat_c w hw M) hw rfl rfl rfl rfl rfl rfl js_chr_1 (fun r M1 => ?_)
  refine g_if_eq (tgt := 16) hC js_chr_4 (by decide) (fun _ => g_none) (fun _ => ?_)
  refine g_aload_n hC js_chr_7 rfl ?_
  refine g_getSV hC hw js_f9 js_chr_8 ?_
  refine g_iload_n hC js_chr_11 rfl ?_
  refine gv_callSi hC [.ref (κ.th.2.2.2.2.1 w), .int i] js_s495 (Js_lch_c w i hw hi M1) rfl rfl rfl rfl rfl js_chr_12 (fun r M2 => ?_)
  refine g_ite (fun hn => ?_) (fun _ => g_none)
  exact g_nret hC hR hn js_chr_15
theorem Js_charAt_c {l : Launch} {θ : tv_Th} (F : Nat) (w : Nat) (i : Int32) (M : tv_M) : tv_Ct l θ ⟨"java/lang/String", "charAt", "(I)C"⟩ prog_17_method_56_code 2 (some .char) 3 tv_ei [.ref (θ.2.2.2.1 w), .int i] M (Js_charAt F w i M) := by
  unfold Js_charAt
  by_cases hw : w < 9
  · rw [if_pos hw]
    by_cases hi : tv_inb i (tv_slen.getD w 0) = true
    · rw [if_pos hi]
      exact Js_charAt_k w i hw hi M
    · rw [if_neg hi]
      intro r M1 ho
      cases ho
  · rw [if_neg hw]
    intro r M1 ho
    cases ho
end
section
theorem tv_dtr {a b c : Nat} (h : Nat.ble b c = true) (g : Nat.ble a b = true) : Nat.ble a c = true := by simp only [Nat.ble_eq] at *; omega
theorem tv_dt1 {a c : Nat} (h : Nat.ble (a + 2) c = true) : Nat.ble (a + 1) c = true := by simp only [Nat.ble_eq] at *; omega
theorem tv_dse (a : Nat) : Nat.ble a a = true := by simp only [Nat.ble_eq]; omega
theorem tv_dge (a b c : Nat) : Nat.ble a (a + b * c) = true := by simp only [Nat.ble_eq]; exact Nat.le_add_right _ _
theorem tv_dpm (a b c : Nat) : Nat.ble (a + b * c + b) (a + b * (c + 1)) = true := by simp only [Nat.ble_eq, Nat.mul_succ]; omega
theorem tv_ctn {β : Type} {l : Launch} {θ : tv_Th} {y : MethodName} {cc : ByteArray} {maxL : Nat} {ret : Option FieldType} {d : Nat} {emb : β → Option Value} {av : List Value} {M : tv_M} {o : Option (β × tv_M)} (h : o = none) : tv_Ct l θ y cc maxL ret d emb av M o := fun r M1 ho => by rw [h] at ho; cases ho
theorem k_b7 : (Int8.ofInt 7).toInt32 = 7 := by decide
theorem k_b8 : (Int8.ofInt 8).toInt32 = 8 := by decide
theorem k_b9 : (Int8.ofInt 9).toInt32 = 9 := by decide
theorem k_b10 : (Int8.ofInt 10).toInt32 = 10 := by decide
theorem k_b11 : (Int8.ofInt 11).toInt32 = 11 := by decide
theorem k_b12 : (Int8.ofInt 12).toInt32 = 12 := by decide
theorem k_b13 : (Int8.ofInt 13).toInt32 = 13 := by decide
theorem k_b14 : (Int8.ofInt 14).toInt32 = 14 := by decide
theorem k_b15 : (Int8.ofInt 15).toInt32 = 15 := by decide
theorem k_b16 : (Int8.ofInt 16).toInt32 = 16 := by decide
theorem k_b18 : (Int8.ofInt 18).toInt32 = 18 := by decide
theorem k_b20 : (Int8.ofInt 20).toInt32 = 20 := by decide
theorem k_b21 : (Int8.ofInt 21).toInt32 = 21 := by decide
theorem k_b22 : (Int8.ofInt 22).toInt32 = 22 := by decide
theorem k_b23 : (Int8.ofInt 23).toInt32 = 23 := by decide
theorem k_b24 : (Int8.ofInt 24).toInt32 = 24 := by decide
theorem k_b25 : (Int8.ofInt 25).toInt32 = 25 := by decide
theorem k_b30 : (Int8.ofInt 30).toInt32 = 30 := by decide
theorem k_b32 : (Int8.ofInt 32).toInt32 = 32 := by decide
theorem k_b40 : (Int8.ofInt 40).toInt32 = 40 := by decide
theorem k_b44 : (Int8.ofInt 44).toInt32 = 44 := by decide
theorem k_b48 : (Int8.ofInt 48).toInt32 = 48 := by decide
theorem k_b55 : (Int8.ofInt 55).toInt32 = 55 := by decide
theorem k_b57 : (Int8.ofInt 57).toInt32 = 57 := by decide
theorem k_b59 : (Int8.ofInt 59).toInt32 = 59 := by decide
theorem k_b63 : (Int8.ofInt 63).toInt32 = 63 := by decide
theorem k_b97 : (Int8.ofInt 97).toInt32 = 97 := by decide
theorem k_b100 : (Int8.ofInt 100).toInt32 = 100 := by decide
theorem k_b122 : (Int8.ofInt 122).toInt32 = 122 := by decide
theorem k_im1 : Int32.ofInt (-1) = (-1) := by decide
theorem k_i0 : Int32.ofInt 0 = 0 := by decide
theorem k_i1 : Int32.ofInt 1 = 1 := by decide
theorem k_i2 : Int32.ofInt 2 = 2 := by decide
theorem k_i3 : Int32.ofInt 3 = 3 := by decide
theorem k_i4 : Int32.ofInt 4 = 4 := by decide
theorem k_i5 : Int32.ofInt 5 = 5 := by decide
theorem k_l0 : Int64.ofNat ((0 : Fin 2) : Nat) = 0 := by decide
theorem k_l1 : Int64.ofNat ((1 : Fin 2) : Nat) = 1 := by decide
theorem k_s256 : (Int16.ofInt 256).toInt32 = 256 := by decide
theorem k_s300 : (Int16.ofInt 300).toInt32 = 300 := by decide
theorem k_s500 : (Int16.ofInt 500).toInt32 = 500 := by decide
theorem k_s1000 : (Int16.ofInt 1000).toInt32 = 1000 := by decide
theorem ly_0 : tv_lay[0]? = some (0, 10) := by decide +kernel
theorem lc_0 : (tv_lay[0]?).map Prod.fst = some 0 := by rw [ly_0]; rfl
theorem ly_1 : tv_lay[1]? = some (24, 8) := by decide +kernel
theorem lc_1 : (tv_lay[1]?).map Prod.fst = some 24 := by rw [ly_1]; rfl
theorem ly_18 : tv_lay[18]? = some (2, 14) := by decide +kernel
theorem lc_18 : (tv_lay[18]?).map Prod.fst = some 2 := by rw [ly_18]; rfl
theorem ly_19 : tv_lay[19]? = some (25, 8) := by decide +kernel
theorem lc_19 : (tv_lay[19]?).map Prod.fst = some 25 := by rw [ly_19]; rfl
theorem ly_20 : tv_lay[20]? = some (26, 10) := by decide +kernel
theorem lc_20 : (tv_lay[20]?).map Prod.fst = some 26 := by rw [ly_20]; rfl
theorem ly_21 : tv_lay[21]? = some (20, 120) := by decide +kernel
theorem lc_21 : (tv_lay[21]?).map Prod.fst = some 20 := by rw [ly_21]; rfl
theorem ly_68 : tv_lay[68]? = some (5, 9) := by decide +kernel
theorem lc_68 : (tv_lay[68]?).map Prod.fst = some 5 := by rw [ly_68]; rfl
theorem ly_69 : tv_lay[69]? = some (21, 500) := by decide +kernel
theorem lc_69 : (tv_lay[69]?).map Prod.fst = some 21 := by rw [ly_69]; rfl
theorem ly_70 : tv_lay[70]? = some (6, 5) := by decide +kernel
theorem lc_70 : (tv_lay[70]?).map Prod.fst = some 6 := by rw [ly_70]; rfl
theorem ly_71 : tv_lay[71]? = some (7, 11) := by decide +kernel
theorem lc_71 : (tv_lay[71]?).map Prod.fst = some 7 := by rw [ly_71]; rfl
theorem ly_106 : tv_lay[106]? = some (7, 11) := by decide +kernel
theorem lc_106 : (tv_lay[106]?).map Prod.fst = some 7 := by rw [ly_106]; rfl
theorem ly_165 : tv_lay[165]? = some (8, 9) := by decide +kernel
theorem lc_165 : (tv_lay[165]?).map Prod.fst = some 8 := by rw [ly_165]; rfl
theorem ly_166 : tv_lay[166]? = some (27, 25) := by decide +kernel
theorem lc_166 : (tv_lay[166]?).map Prod.fst = some 27 := by rw [ly_166]; rfl
theorem ly_192 : tv_lay[192]? = some (20, 25) := by decide +kernel
theorem lc_192 : (tv_lay[192]?).map Prod.fst = some 20 := by rw [ly_192]; rfl
theorem ly_193 : tv_lay[193]? = some (9, 13) := by decide +kernel
theorem lc_193 : (tv_lay[193]?).map Prod.fst = some 9 := by rw [ly_193]; rfl
theorem ly_194 : tv_lay[194]? = some (20, 8) := by decide +kernel
theorem lc_194 : (tv_lay[194]?).map Prod.fst = some 20 := by rw [ly_194]; rfl
theorem ly_195 : tv_lay[195]? = some (20, 8) := by decide +kernel
theorem lc_195 : (tv_lay[195]?).map Prod.fst = some 20 := by rw [ly_195]; rfl
theorem ly_196 : tv_lay[196]? = some (20, 24) := by decide +kernel
theorem lc_196 : (tv_lay[196]?).map Prod.fst = some 20 := by rw [ly_196]; rfl
theorem ly_197 : tv_lay[197]? = some (20, 24) := by decide +kernel
theorem lc_197 : (tv_lay[197]?).map Prod.fst = some 20 := by rw [ly_197]; rfl
theorem ly_198 : tv_lay[198]? = some (20, 24) := by decide +kernel
theorem lc_198 : (tv_lay[198]?).map Prod.fst = some 20 := by rw [ly_198]; rfl
theorem ly_199 : tv_lay[199]? = some (23, 301) := by decide +kernel
theorem lc_199 : (tv_lay[199]?).map Prod.fst = some 23 := by rw [ly_199]; rfl
theorem ly_200 : tv_lay[200]? = some (23, 301) := by decide +kernel
theorem lc_200 : (tv_lay[200]?).map Prod.fst = some 23 := by rw [ly_200]; rfl
theorem ly_201 : tv_lay[201]? = some (10, 7) := by decide +kernel
theorem lc_201 : (tv_lay[201]?).map Prod.fst = some 10 := by rw [ly_201]; rfl
theorem ly_202 : tv_lay[202]? = some (27, 32) := by decide +kernel
theorem lc_202 : (tv_lay[202]?).map Prod.fst = some 27 := by rw [ly_202]; rfl
theorem ly_235 : tv_lay[235]? = some (22, 8) := by decide +kernel
theorem lc_235 : (tv_lay[235]?).map Prod.fst = some 22 := by rw [ly_235]; rfl
theorem ly_236 : tv_lay[236]? = some (27, 9) := by decide +kernel
theorem lc_236 : (tv_lay[236]?).map Prod.fst = some 27 := by rw [ly_236]; rfl
theorem ly_246 : tv_lay[246]? = some (20, 8) := by decide +kernel
theorem lc_246 : (tv_lay[246]?).map Prod.fst = some 20 := by rw [ly_246]; rfl
theorem ly_247 : tv_lay[247]? = some (11, 3) := by decide +kernel
theorem lc_247 : (tv_lay[247]?).map Prod.fst = some 11 := by rw [ly_247]; rfl
theorem ly_248 : tv_lay[248]? = some (20, 16) := by decide +kernel
theorem lc_248 : (tv_lay[248]?).map Prod.fst = some 20 := by rw [ly_248]; rfl
theorem ly_249 : tv_lay[249]? = some (12, 55) := by decide +kernel
theorem lc_249 : (tv_lay[249]?).map Prod.fst = some 12 := by rw [ly_249]; rfl
theorem ly_250 : tv_lay[250]? = some (20, 8) := by decide +kernel
theorem lc_250 : (tv_lay[250]?).map Prod.fst = some 20 := by rw [ly_250]; rfl
theorem ly_251 : tv_lay[251]? = some (20, 8) := by decide +kernel
theorem lc_251 : (tv_lay[251]?).map Prod.fst = some 20 := by rw [ly_251]; rfl
theorem ly_252 : tv_lay[252]? = some (20, 320) := by decide +kernel
theorem lc_252 : (tv_lay[252]?).map Prod.fst = some 20 := by rw [ly_252]; rfl
theorem ly_253 : tv_lay[253]? = some (20, 8) := by decide +kernel
theorem lc_253 : (tv_lay[253]?).map Prod.fst = some 20 := by rw [ly_253]; rfl
theorem ly_254 : tv_lay[254]? = some (20, 8) := by decide +kernel
theorem lc_254 : (tv_lay[254]?).map Prod.fst = some 20 := by rw [ly_254]; rfl
theorem ly_255 : tv_lay[255]? = some (20, 8) := by decide +kernel
theorem lc_255 : (tv_lay[255]?).map Prod.fst = some 20 := by rw [ly_255]; rfl
theorem ly_256 : tv_lay[256]? = some (20, 10) := by decide +kernel
theorem lc_256 : (tv_lay[256]?).map Prod.fst = some 20 := by rw [ly_256]; rfl
theorem ly_257 : tv_lay[257]? = some (20, 10) := by decide +kernel
theorem lc_257 : (tv_lay[257]?).map Prod.fst = some 20 := by rw [ly_257]; rfl
theorem ly_258 : tv_lay[258]? = some (20, 10) := by decide +kernel
theorem lc_258 : (tv_lay[258]?).map Prod.fst = some 20 := by rw [ly_258]; rfl
theorem ly_259 : tv_lay[259]? = some (20, 180) := by decide +kernel
theorem lc_259 : (tv_lay[259]?).map Prod.fst = some 20 := by rw [ly_259]; rfl
theorem ly_260 : tv_lay[260]? = some (20, 30) := by decide +kernel
theorem lc_260 : (tv_lay[260]?).map Prod.fst = some 20 := by rw [ly_260]; rfl
theorem ly_261 : tv_lay[261]? = some (20, 30) := by decide +kernel
theorem lc_261 : (tv_lay[261]?).map Prod.fst = some 20 := by rw [ly_261]; rfl
theorem ly_262 : tv_lay[262]? = some (20, 30) := by decide +kernel
theorem lc_262 : (tv_lay[262]?).map Prod.fst = some 20 := by rw [ly_262]; rfl
theorem ly_263 : tv_lay[263]? = some (20, 30) := by decide +kernel
theorem lc_263 : (tv_lay[263]?).map Prod.fst = some 20 := by rw [ly_263]; rfl
theorem ly_264 : tv_lay[264]? = some (20, 256) := by decide +kernel
theorem lc_264 : (tv_lay[264]?).map Prod.fst = some 20 := by rw [ly_264]; rfl
theorem ly_265 : tv_lay[265]? = some (20, 8) := by decide +kernel
theorem lc_265 : (tv_lay[265]?).map Prod.fst = some 20 := by rw [ly_265]; rfl
theorem ly_266 : tv_lay[266]? = some (20, 500) := by decide +kernel
theorem lc_266 : (tv_lay[266]?).map Prod.fst = some 20 := by rw [ly_266]; rfl
theorem ly_267 : tv_lay[267]? = some (20, 2970) := by decide +kernel
theorem lc_267 : (tv_lay[267]?).map Prod.fst = some 20 := by rw [ly_267]; rfl
theorem ly_268 : tv_lay[268]? = some (22, 54) := by decide +kernel
theorem lc_268 : (tv_lay[268]?).map Prod.fst = some 22 := by rw [ly_268]; rfl
theorem ly_269 : tv_lay[269]? = some (20, 24) := by decide +kernel
theorem lc_269 : (tv_lay[269]?).map Prod.fst = some 20 := by rw [ly_269]; rfl
theorem ly_270 : tv_lay[270]? = some (22, 8) := by decide +kernel
theorem lc_270 : (tv_lay[270]?).map Prod.fst = some 22 := by rw [ly_270]; rfl
theorem ly_271 : tv_lay[271]? = some (20, 24) := by decide +kernel
theorem lc_271 : (tv_lay[271]?).map Prod.fst = some 20 := by rw [ly_271]; rfl
theorem ly_272 : tv_lay[272]? = some (20, 8) := by decide +kernel
theorem lc_272 : (tv_lay[272]?).map Prod.fst = some 20 := by rw [ly_272]; rfl
theorem ly_273 : tv_lay[273]? = some (20, 8) := by decide +kernel
theorem lc_273 : (tv_lay[273]?).map Prod.fst = some 20 := by rw [ly_273]; rfl
theorem ly_274 : tv_lay[274]? = some (20, 24) := by decide +kernel
theorem lc_274 : (tv_lay[274]?).map Prod.fst = some 20 := by rw [ly_274]; rfl
theorem ly_275 : tv_lay[275]? = some (20, 24) := by decide +kernel
theorem lc_275 : (tv_lay[275]?).map Prod.fst = some 20 := by rw [ly_275]; rfl
theorem ly_276 : tv_lay[276]? = some (20, 7224) := by decide +kernel
theorem lc_276 : (tv_lay[276]?).map Prod.fst = some 20 := by rw [ly_276]; rfl
theorem ly_277 : tv_lay[277]? = some (20, 8) := by decide +kernel
theorem lc_277 : (tv_lay[277]?).map Prod.fst = some 20 := by rw [ly_277]; rfl
theorem ly_278 : tv_lay[278]? = some (20, 8) := by decide +kernel
theorem lc_278 : (tv_lay[278]?).map Prod.fst = some 20 := by rw [ly_278]; rfl
theorem ly_279 : tv_lay[279]? = some (20, 8) := by decide +kernel
theorem lc_279 : (tv_lay[279]?).map Prod.fst = some 20 := by rw [ly_279]; rfl
theorem ly_280 : tv_lay[280]? = some (20, 16) := by decide +kernel
theorem lc_280 : (tv_lay[280]?).map Prod.fst = some 20 := by rw [ly_280]; rfl
theorem p0_0_1 : tv_P0 0 1 = some 1 := by decide +kernel
theorem p0_0_2 : tv_P0 0 2 = some 18 := by decide +kernel
theorem p0_0_3 : tv_P0 0 3 = some 68 := by decide +kernel
theorem p0_0_4 : tv_P0 0 4 = some 70 := by decide +kernel
theorem p0_0_5 : tv_P0 0 5 = some 165 := by decide +kernel
theorem p0_0_6 : tv_P0 0 6 = some 193 := by decide +kernel
theorem p0_0_7 : tv_P0 0 7 = some 201 := by decide +kernel
theorem p0_0_8 : tv_P0 0 8 = some 247 := by decide +kernel
theorem p0_18_1 : tv_P0 18 1 = some 19 := by decide +kernel
theorem p0_18_2 : tv_P0 18 2 = some 20 := by decide +kernel
theorem p0_18_3 : tv_P0 18 3 = some 21 := by decide +kernel
theorem p0_68_0 : tv_P0 68 0 = some 18 := by decide +kernel
theorem p0_68_1 : tv_P0 68 1 = some 69 := by decide +kernel
theorem p0_70_0 : tv_P0 70 0 = some 18 := by decide +kernel
theorem p0_70_1 : tv_P0 70 1 = some 71 := by decide +kernel
theorem p0_70_2 : tv_P0 70 2 = some 106 := by decide +kernel
theorem p0_165_0 : tv_P0 165 0 = some 18 := by decide +kernel
theorem p0_165_1 : tv_P0 165 1 = some 70 := by decide +kernel
theorem p0_165_2 : tv_P0 165 2 = some 166 := by decide +kernel
theorem p0_165_3 : tv_P0 165 3 = some 192 := by decide +kernel
theorem p0_193_0 : tv_P0 193 0 = some 18 := by decide +kernel
theorem p0_193_1 : tv_P0 193 1 = some 194 := by decide +kernel
theorem p0_193_2 : tv_P0 193 2 = some 195 := by decide +kernel
theorem p0_193_4 : tv_P0 193 4 = some 196 := by decide +kernel
theorem p0_193_5 : tv_P0 193 5 = some 197 := by decide +kernel
theorem p0_193_6 : tv_P0 193 6 = some 198 := by decide +kernel
theorem p0_193_7 : tv_P0 193 7 = some 199 := by decide +kernel
theorem p0_193_8 : tv_P0 193 8 = some 200 := by decide +kernel
theorem p0_201_0 : tv_P0 201 0 = some 18 := by decide +kernel
theorem p0_201_1 : tv_P0 201 1 = some 202 := by decide +kernel
theorem p0_201_2 : tv_P0 201 2 = some 235 := by decide +kernel
theorem p0_201_3 : tv_P0 201 3 = some 236 := by decide +kernel
theorem p0_201_4 : tv_P0 201 4 = some 246 := by decide +kernel
theorem p0_247_0 : tv_P0 247 0 = some 18 := by decide +kernel
theorem p0_247_1 : tv_P0 247 1 = some 248 := by decide +kernel
theorem p0_249_3 : tv_P0 249 3 = some 250 := by decide +kernel
theorem p0_249_4 : tv_P0 249 4 = some 251 := by decide +kernel
theorem p0_249_5 : tv_P0 249 5 = some 252 := by decide +kernel
theorem p0_249_7 : tv_P0 249 7 = some 253 := by decide +kernel
theorem p0_249_8 : tv_P0 249 8 = some 254 := by decide +kernel
theorem p0_249_9 : tv_P0 249 9 = some 255 := by decide +kernel
theorem p0_249_12 : tv_P0 249 12 = some 256 := by decide +kernel
theorem p0_249_13 : tv_P0 249 13 = some 257 := by decide +kernel
theorem p0_249_14 : tv_P0 249 14 = some 258 := by decide +kernel
theorem p0_249_15 : tv_P0 249 15 = some 259 := by decide +kernel
theorem p0_249_17 : tv_P0 249 17 = some 260 := by decide +kernel
theorem p0_249_18 : tv_P0 249 18 = some 261 := by decide +kernel
theorem p0_249_19 : tv_P0 249 19 = some 262 := by decide +kernel
theorem p0_249_20 : tv_P0 249 20 = some 263 := by decide +kernel
theorem p0_249_21 : tv_P0 249 21 = some 264 := by decide +kernel
theorem p0_249_22 : tv_P0 249 22 = some 265 := by decide +kernel
theorem p0_249_23 : tv_P0 249 23 = some 266 := by decide +kernel
theorem p0_249_38 : tv_P0 249 38 = some 267 := by decide +kernel
theorem p0_249_39 : tv_P0 249 39 = some 268 := by decide +kernel
theorem p0_249_40 : tv_P0 249 40 = some 269 := by decide +kernel
theorem p0_249_41 : tv_P0 249 41 = some 270 := by decide +kernel
theorem p0_249_42 : tv_P0 249 42 = some 271 := by decide +kernel
theorem p0_249_44 : tv_P0 249 44 = some 272 := by decide +kernel
theorem p0_249_45 : tv_P0 249 45 = some 273 := by decide +kernel
theorem p0_249_46 : tv_P0 249 46 = some 274 := by decide +kernel
theorem p0_249_47 : tv_P0 249 47 = some 275 := by decide +kernel
theorem p0_249_48 : tv_P0 249 48 = some 276 := by decide +kernel
theorem p0_249_50 : tv_P0 249 50 = some 277 := by decide +kernel
theorem p0_249_51 : tv_P0 249 51 = some 278 := by decide +kernel
theorem p0_249_52 : tv_P0 249 52 = some 279 := by decide +kernel
theorem p0_249_53 : tv_P0 249 53 = some 280 := by decide +kernel
section TVZ
variable {β : Type} {κ : tv_Kt} {cc : ByteArray} {nL d pc k : Nat} {Q : β → tv_M → State → Prop} {ls : List (Option Value)} {st : List Value} {M : tv_M} {o : Option (β × tv_M)} {x : Int32}
theorem fg_Xx_11 (hC : tv_Cx κ "TiedViews" cc nL d) (hk : (tv_lay[k]?).map Prod.fst = some 0) (hd : decode cc pc = .ok (.getfield 11, 3)) {p : Nat} (hp : tv_P0 k 1 = some p) (kk : tv_G κ nL Q (pc + 3) ls (.ref (κ.b + p) :: st) M o) : tv_G κ nL Q pc ls (.ref (κ.b + k) :: st) M o := g_getP hC 0 1 hk rfl rfl rfl (tv_t2 218 rfl rfl) hd hp kk
theorem fg_Xx_19 (hC : tv_Cx κ "TiedViews" cc nL d) (hk : (tv_lay[k]?).map Prod.fst = some 0) (hd : decode cc pc = .ok (.getfield 19, 3)) (kk : tv_G κ nL Q (pc + 3) ls (.int (M.1 k 0) :: st) M o) : tv_G κ nL Q pc ls (.ref (κ.b + k) :: st) M o := g_getI hC 0 0 hk rfl rfl rfl (tv_t2 217 rfl rfl) hd kk
theorem fg_Xx_29 (hC : tv_Cx κ "TiedViews" cc nL d) (hk : (tv_lay[k]?).map Prod.fst = some 0) (hd : decode cc pc = .ok (.getfield 29, 3)) {p : Nat} (hp : tv_P0 k 2 = some p) (kk : tv_G κ nL Q (pc + 3) ls (.ref (κ.b + p) :: st) M o) : tv_G κ nL Q pc ls (.ref (κ.b + k) :: st) M o := g_getP hC 0 2 hk rfl rfl rfl (tv_t2 219 rfl rfl) hd hp kk
theorem fg_Xx_38 (hC : tv_Cx κ "TiedViews" cc nL d) (hk : (tv_lay[k]?).map Prod.fst = some 0) (hd : decode cc pc = .ok (.getfield 38, 3)) {p : Nat} (hp : tv_P0 k 3 = some p) (kk : tv_G κ nL Q (pc + 3) ls (.ref (κ.b + p) :: st) M o) : tv_G κ nL Q pc ls (.ref (κ.b + k) :: st) M o := g_getP hC 0 3 hk rfl rfl rfl (tv_t2 220 rfl rfl) hd hp kk
theorem fg_Xx_45 (hC : tv_Cx κ "TiedViews" cc nL d) (hk : (tv_lay[k]?).map Prod.fst = some 0) (hd : decode cc pc = .ok (.getfield 45, 3)) {p : Nat} (hp : tv_P0 k 4 = some p) (kk : tv_G κ nL Q (pc + 3) ls (.ref (κ.b + p) :: st) M o) : tv_G κ nL Q pc ls (.ref (κ.b + k) :: st) M o := g_getP hC 0 4 hk rfl rfl rfl (tv_t2 221 rfl rfl) hd hp kk
theorem fg_Xx_54 (hC : tv_Cx κ "TiedViews" cc nL d) (hk : (tv_lay[k]?).map Prod.fst = some 0) (hd : decode cc pc = .ok (.getfield 54, 3)) {p : Nat} (hp : tv_P0 k 5 = some p) (kk : tv_G κ nL Q (pc + 3) ls (.ref (κ.b + p) :: st) M o) : tv_G κ nL Q pc ls (.ref (κ.b + k) :: st) M o := g_getP hC 0 5 hk rfl rfl rfl (tv_t2 222 rfl rfl) hd hp kk
theorem fg_Xx_61 (hC : tv_Cx κ "TiedViews" cc nL d) (hk : (tv_lay[k]?).map Prod.fst = some 0) (hd : decode cc pc = .ok (.getfield 61, 3)) {p : Nat} (hp : tv_P0 k 6 = some p) (kk : tv_G κ nL Q (pc + 3) ls (.ref (κ.b + p) :: st) M o) : tv_G κ nL Q pc ls (.ref (κ.b + k) :: st) M o := g_getP hC 0 6 hk rfl rfl rfl (tv_t2 223 rfl rfl) hd hp kk
theorem fg_Xx_68 (hC : tv_Cx κ "TiedViews" cc nL d) (hk : (tv_lay[k]?).map Prod.fst = some 0) (hd : decode cc pc = .ok (.getfield 68, 3)) {p : Nat} (hp : tv_P0 k 7 = some p) (kk : tv_G κ nL Q (pc + 3) ls (.ref (κ.b + p) :: st) M o) : tv_G κ nL Q pc ls (.ref (κ.b + k) :: st) M o := g_getP hC 0 7 hk rfl rfl rfl (tv_t2 224 rfl rfl) hd hp kk
theorem fg_Xx_75 (hC : tv_Cx κ "TiedViews" cc nL d) (hk : (tv_lay[k]?).map Prod.fst = some 0) (hd : decode cc pc = .ok (.getfield 75, 3)) {p : Nat} (hp : tv_P0 k 8 = some p) (kk : tv_G κ nL Q (pc + 3) ls (.ref (κ.b + p) :: st) M o) : tv_G κ nL Q pc ls (.ref (κ.b + k) :: st) M o := g_getP hC 0 8 hk rfl rfl rfl (tv_t2 225 rfl rfl) hd hp kk
theorem fg_Xx_106 (hC : tv_Cx κ "TiedViews" cc nL d) (hk : (tv_lay[k]?).map Prod.fst = some 1) (hd : decode cc pc = .ok (.getfield 106, 3)) (kk : tv_G κ nL Q (pc + 3) ls (.int (M.1 k 0) :: st) M o) : tv_G κ nL Q pc ls (.ref (κ.b + k) :: st) M o := g_getI hC 1 0 hk rfl rfl rfl (tv_t1 41 rfl rfl) hd kk
theorem fg_Xx_109 (hC : tv_Cx κ "TiedViews" cc nL d) (hk : (tv_lay[k]?).map Prod.fst = some 1) (hd : decode cc pc = .ok (.getfield 109, 3)) {p : Nat} (hp : tv_P0 k 2 = some p) (kk : tv_G κ nL Q (pc + 3) ls (.ref (κ.b + p) :: st) M o) : tv_G κ nL Q pc ls (.ref (κ.b + k) :: st) M o := g_getP hC 1 2 hk rfl rfl rfl (tv_t1 45 rfl rfl) hd hp kk
theorem fg_Xx_119 (hC : tv_Cx κ "TiedViews" cc nL d) (hk : (tv_lay[k]?).map Prod.fst = some 1) (hd : decode cc pc = .ok (.getfield 119, 3)) (kk : tv_G κ nL Q (pc + 3) ls (.int (M.1 k 1) :: st) M o) : tv_G κ nL Q pc ls (.ref (κ.b + k) :: st) M o := g_getI hC 1 1 hk rfl rfl rfl (tv_t1 43 rfl rfl) hd kk
theorem fg_Xx_145 (hC : tv_Cx κ "TiedViews" cc nL d) (hk : (tv_lay[k]?).map Prod.fst = some 2) (hd : decode cc pc = .ok (.getfield 145, 3)) (kk : tv_G κ nL Q (pc + 3) ls (.int (M.1 k 4) :: st) M o) : tv_G κ nL Q pc ls (.ref (κ.b + k) :: st) M o := g_getI hC 2 4 hk rfl rfl rfl (tv_t1 169 rfl rfl) hd kk
theorem fg_Xx_148 (hC : tv_Cx κ "TiedViews" cc nL d) (hk : (tv_lay[k]?).map Prod.fst = some 5) (hd : decode cc pc = .ok (.getfield 148, 3)) (kk : tv_G κ nL Q (pc + 3) ls (.int (M.1 k 3) :: st) M o) : tv_G κ nL Q pc ls (.ref (κ.b + k) :: st) M o := g_getI hC 5 3 hk rfl rfl rfl (tv_t1 231 rfl rfl) hd kk
theorem fg_Xx_155 (hC : tv_Cx κ "TiedViews" cc nL d) (hk : (tv_lay[k]?).map Prod.fst = some 3) (hd : decode cc pc = .ok (.getfield 155, 3)) (kk : tv_G κ nL Q (pc + 3) ls (.int (M.1 k 1) :: st) M o) : tv_G κ nL Q pc ls (.ref (κ.b + k) :: st) M o := g_getI hC 3 1 hk rfl rfl rfl (tv_t1 77 rfl rfl) hd kk
theorem fg_Xx_160 (hC : tv_Cx κ "TiedViews" cc nL d) (hk : (tv_lay[k]?).map Prod.fst = some 3) (hd : decode cc pc = .ok (.getfield 160, 3)) (kk : tv_G κ nL Q (pc + 3) ls (.int (M.1 k 2) :: st) M o) : tv_G κ nL Q pc ls (.ref (κ.b + k) :: st) M o := g_getI hC 3 2 hk rfl rfl rfl (tv_t1 83 rfl rfl) hd kk
theorem fg_Xx_167 (hC : tv_Cx κ "TiedViews" cc nL d) (hk : (tv_lay[k]?).map Prod.fst = some 3) (hd : decode cc pc = .ok (.getfield 167, 3)) (kk : tv_G κ nL Q (pc + 3) ls (.int (M.1 k 3) :: st) M o) : tv_G κ nL Q pc ls (.ref (κ.b + k) :: st) M o := g_getI hC 3 3 hk rfl rfl rfl (tv_t1 90 rfl rfl) hd kk
theorem fg_Xx_170 (hC : tv_Cx κ "TiedViews" cc nL d) (hk : (tv_lay[k]?).map Prod.fst = some 3) (hd : decode cc pc = .ok (.getfield 170, 3)) (kk : tv_G κ nL Q (pc + 3) ls (.int (M.1 k 5) :: st) M o) : tv_G κ nL Q pc ls (.ref (κ.b + k) :: st) M o := g_getI hC 3 5 hk rfl rfl rfl (tv_t1 100 rfl rfl) hd kk
theorem fp_Xx_170 {f : tv_M → Option (β × tv_M)} (hC : tv_Cx κ "TiedViews" cc nL d) (hk : (tv_lay[k]?).map Prod.fst = some 3) (hx : x = 0 ∨ x = 1) (hd : decode cc pc = .ok (.putfield 170, 3)) (kk : ∀ M1, tv_G κ nL Q (pc + 3) ls st M1 (f M1)) : tv_G κ nL Q pc ls (.int x :: .ref (κ.b + k) :: st) M (tv_pf M k 5 x f) := gv_putZ hC 3 5 hk rfl rfl rfl (tv_t1 100 rfl rfl) rfl rfl hx hd kk
theorem fg_Xx_177 (hC : tv_Cx κ "TiedViews" cc nL d) (hk : (tv_lay[k]?).map Prod.fst = some 3) (hd : decode cc pc = .ok (.getfield 177, 3)) (kk : tv_G κ nL Q (pc + 3) ls (.int (M.1 k 4) :: st) M o) : tv_G κ nL Q pc ls (.ref (κ.b + k) :: st) M o := g_getI hC 3 4 hk rfl rfl rfl (tv_t1 96 rfl rfl) hd kk
theorem fp_Xx_177 {f : tv_M → Option (β × tv_M)} (hC : tv_Cx κ "TiedViews" cc nL d) (hk : (tv_lay[k]?).map Prod.fst = some 3) (hd : decode cc pc = .ok (.putfield 177, 3)) (kk : ∀ M1, tv_G κ nL Q (pc + 3) ls st M1 (f M1)) : tv_G κ nL Q pc ls (.int x :: .ref (κ.b + k) :: st) M (tv_pf M k 4 x f) := gv_putI hC 3 4 hk rfl rfl rfl (tv_t1 96 rfl rfl) rfl rfl hd kk
theorem fg_Xx_183 (hC : tv_Cx κ "TiedViews" cc nL d) (hk : (tv_lay[k]?).map Prod.fst = some 2) (hd : decode cc pc = .ok (.getfield 183, 3)) (kk : tv_G κ nL Q (pc + 3) ls (.int (M.1 k 7) :: st) M o) : tv_G κ nL Q pc ls (.ref (κ.b + k) :: st) M o := g_getI hC 2 7 hk rfl rfl rfl (tv_t1 182 rfl rfl) hd kk
theorem fg_Xx_186 (hC : tv_Cx κ "TiedViews" cc nL d) (hk : (tv_lay[k]?).map Prod.fst = some 2) (hd : decode cc pc = .ok (.getfield 186, 3)) (kk : tv_G κ nL Q (pc + 3) ls (.int (M.1 k 8) :: st) M o) : tv_G κ nL Q pc ls (.ref (κ.b + k) :: st) M o := g_getI hC 2 8 hk rfl rfl rfl (tv_t1 185 rfl rfl) hd kk
theorem fg_Xx_243 (hC : tv_Cx κ "TiedViews" cc nL d) (hk : (tv_lay[k]?).map Prod.fst = some 4) (hd : decode cc pc = .ok (.getfield 243, 3)) (kk : tv_G κ nL Q (pc + 3) ls (.int (M.1 k 2) :: st) M o) : tv_G κ nL Q pc ls (.ref (κ.b + k) :: st) M o := g_getI hC 4 2 hk rfl rfl rfl (tv_t1 135 rfl rfl) hd kk
theorem fg_Xx_265 (hC : tv_Cx κ "TiedViews" cc nL d) (hk : (tv_lay[k]?).map Prod.fst = some 9) (hd : decode cc pc = .ok (.getfield 265, 3)) (kk : tv_G κ nL Q (pc + 3) ls (.int (M.1 k 9) :: st) M o) : tv_G κ nL Q pc ls (.ref (κ.b + k) :: st) M o := g_getI hC 9 9 hk rfl rfl rfl (tv_t2 138 rfl rfl) hd kk
theorem fg_Xx_268 (hC : tv_Cx κ "TiedViews" cc nL d) (hk : (tv_lay[k]?).map Prod.fst = some 9) (hd : decode cc pc = .ok (.getfield 268, 3)) (kk : tv_G κ nL Q (pc + 3) ls (.int (M.1 k 10) :: st) M o) : tv_G κ nL Q pc ls (.ref (κ.b + k) :: st) M o := g_getI hC 9 10 hk rfl rfl rfl (tv_t2 140 rfl rfl) hd kk
theorem fg_Xx_305 (hC : tv_Cx κ "TiedViews" cc nL d) (hk : (tv_lay[k]?).map Prod.fst = some 2) (hd : decode cc pc = .ok (.getfield 305, 3)) (kk : tv_G κ nL Q (pc + 3) ls (.int (M.1 k 5) :: st) M o) : tv_G κ nL Q pc ls (.ref (κ.b + k) :: st) M o := g_getI hC 2 5 hk rfl rfl rfl (tv_t1 174 rfl rfl) hd kk
theorem fg_Xx_308 (hC : tv_Cx κ "TiedViews" cc nL d) (hk : (tv_lay[k]?).map Prod.fst = some 2) (hd : decode cc pc = .ok (.getfield 308, 3)) (kk : tv_G κ nL Q (pc + 3) ls (.int (M.1 k 6) :: st) M o) : tv_G κ nL Q pc ls (.ref (κ.b + k) :: st) M o := g_getI hC 2 6 hk rfl rfl rfl (tv_t1 178 rfl rfl) hd kk
theorem fg_Xx_314 (hC : tv_Cx κ "TiedViews" cc nL d) (hk : (tv_lay[k]?).map Prod.fst = some 9) (hd : decode cc pc = .ok (.getfield 314, 3)) (kk : tv_G κ nL Q (pc + 3) ls (.int (M.1 k 3) :: st) M o) : tv_G κ nL Q pc ls (.ref (κ.b + k) :: st) M o := g_getI hC 9 3 hk rfl rfl rfl (tv_t2 131 rfl rfl) hd kk
theorem fg_Xx_320 (hC : tv_Cx κ "TiedViews" cc nL d) (hk : (tv_lay[k]?).map Prod.fst = some 5) (hd : decode cc pc = .ok (.getfield 320, 3)) (kk : tv_G κ nL Q (pc + 3) ls (.int (M.1 k 2) :: st) M o) : tv_G κ nL Q pc ls (.ref (κ.b + k) :: st) M o := g_getI hC 5 2 hk rfl rfl rfl (tv_t1 229 rfl rfl) hd kk
theorem fg_Xx_321 (hC : tv_Cx κ "TiedViews" cc nL d) (hk : (tv_lay[k]?).map Prod.fst = some 0) (hd : decode cc pc = .ok (.getfield 321, 3)) (kk : tv_G κ nL Q (pc + 3) ls (.int (M.1 k 9) :: st) M o) : tv_G κ nL Q pc ls (.ref (κ.b + k) :: st) M o := g_getI hC 0 9 hk rfl rfl rfl (tv_t2 226 rfl rfl) hd kk
theorem fp_Xx_321 {f : tv_M → Option (β × tv_M)} (hC : tv_Cx κ "TiedViews" cc nL d) (hk : (tv_lay[k]?).map Prod.fst = some 0) (hd : decode cc pc = .ok (.putfield 321, 3)) (kk : ∀ M1, tv_G κ nL Q (pc + 3) ls st M1 (f M1)) : tv_G κ nL Q pc ls (.int x :: .ref (κ.b + k) :: st) M (tv_pf M k 9 x f) := gv_putI hC 0 9 hk rfl rfl rfl (tv_t2 226 rfl rfl) rfl rfl hd kk
theorem fg_Ag_9 (hC : tv_Cx κ "TiedViews$Agreement" cc nL d) (hk : (tv_lay[k]?).map Prod.fst = some 6) (hd : decode cc pc = .ok (.getfield 9, 3)) {p : Nat} (hp : tv_P0 k 0 = some p) (kk : tv_G κ nL Q (pc + 3) ls (.ref (κ.b + p) :: st) M o) : tv_G κ nL Q pc ls (.ref (κ.b + k) :: st) M o := g_getP hC 6 0 hk rfl rfl rfl (tv_t2 67 rfl rfl) hd hp kk
theorem fg_Ag_17 (hC : tv_Cx κ "TiedViews$Agreement" cc nL d) (hk : (tv_lay[k]?).map Prod.fst = some 2) (hd : decode cc pc = .ok (.getfield 17, 3)) (kk : tv_G κ nL Q (pc + 3) ls (.int (M.1 k 0) :: st) M o) : tv_G κ nL Q pc ls (.ref (κ.b + k) :: st) M o := g_getI hC 2 0 hk rfl rfl rfl (tv_t1 151 rfl rfl) hd kk
theorem fg_Ag_26 (hC : tv_Cx κ "TiedViews$Agreement" cc nL d) (hk : (tv_lay[k]?).map Prod.fst = some 6) (hd : decode cc pc = .ok (.getfield 26, 3)) {p : Nat} (hp : tv_P0 k 1 = some p) (kk : tv_G κ nL Q (pc + 3) ls (.ref (κ.b + p) :: st) M o) : tv_G κ nL Q pc ls (.ref (κ.b + k) :: st) M o := g_getP hC 6 1 hk rfl rfl rfl (tv_t2 68 rfl rfl) hd hp kk
theorem fg_Ag_30 (hC : tv_Cx κ "TiedViews$Agreement" cc nL d) (hk : (tv_lay[k]?).map Prod.fst = some 6) (hd : decode cc pc = .ok (.getfield 30, 3)) {p : Nat} (hp : tv_P0 k 2 = some p) (kk : tv_G κ nL Q (pc + 3) ls (.ref (κ.b + p) :: st) M o) : tv_G κ nL Q pc ls (.ref (κ.b + k) :: st) M o := g_getP hC 6 2 hk rfl rfl rfl (tv_t2 69 rfl rfl) hd hp kk
theorem fg_Ag_33 (hC : tv_Cx κ "TiedViews$Agreement" cc nL d) (hk : (tv_lay[k]?).map Prod.fst = some 6) (hd : decode cc pc = .ok (.getfield 33, 3)) (kk : tv_G κ nL Q (pc + 3) ls (.int (M.1 k 3) :: st) M o) : tv_G κ nL Q pc ls (.ref (κ.b + k) :: st) M o := g_getI hC 6 3 hk rfl rfl rfl (tv_t2 70 rfl rfl) hd kk
theorem fp_Ag_33 {f : tv_M → Option (β × tv_M)} (hC : tv_Cx κ "TiedViews$Agreement" cc nL d) (hk : (tv_lay[k]?).map Prod.fst = some 6) (hx : x = 0 ∨ x = 1) (hd : decode cc pc = .ok (.putfield 33, 3)) (kk : ∀ M1, tv_G κ nL Q (pc + 3) ls st M1 (f M1)) : tv_G κ nL Q pc ls (.int x :: .ref (κ.b + k) :: st) M (tv_pf M k 3 x f) := gv_putZ hC 6 3 hk rfl rfl rfl (tv_t2 70 rfl rfl) rfl rfl hx hd kk
theorem fg_Ag_37 (hC : tv_Cx κ "TiedViews$Agreement" cc nL d) (hk : (tv_lay[k]?).map Prod.fst = some 7) (hd : decode cc pc = .ok (.getfield 37, 3)) (kk : tv_G κ nL Q (pc + 3) ls (.int (M.1 k 8) :: st) M o) : tv_G κ nL Q pc ls (.ref (κ.b + k) :: st) M o := g_getI hC 7 8 hk rfl rfl rfl (tv_t2 41 rfl rfl) hd kk
theorem fg_Ag_40 (hC : tv_Cx κ "TiedViews$Agreement" cc nL d) (hk : (tv_lay[k]?).map Prod.fst = some 2) (hd : decode cc pc = .ok (.getfield 40, 3)) (kk : tv_G κ nL Q (pc + 3) ls (.int (M.1 k 7) :: st) M o) : tv_G κ nL Q pc ls (.ref (κ.b + k) :: st) M o := g_getI hC 2 7 hk rfl rfl rfl (tv_t1 180 rfl rfl) hd kk
theorem fg_Ag_61 (hC : tv_Cx κ "TiedViews$Agreement" cc nL d) (hk : (tv_lay[k]?).map Prod.fst = some 2) (hd : decode cc pc = .ok (.getfield 61, 3)) (kk : tv_G κ nL Q (pc + 3) ls (.int (M.1 k 8) :: st) M o) : tv_G κ nL Q pc ls (.ref (κ.b + k) :: st) M o := g_getI hC 2 8 hk rfl rfl rfl (tv_t1 184 rfl rfl) hd kk
theorem fg_Ag_74 (hC : tv_Cx κ "TiedViews$Agreement" cc nL d) (hk : (tv_lay[k]?).map Prod.fst = some 2) (hd : decode cc pc = .ok (.getfield 74, 3)) (kk : tv_G κ nL Q (pc + 3) ls (.int (M.1 k 5) :: st) M o) : tv_G κ nL Q pc ls (.ref (κ.b + k) :: st) M o := g_getI hC 2 5 hk rfl rfl rfl (tv_t1 173 rfl rfl) hd kk
theorem fg_Ag_77 (hC : tv_Cx κ "TiedViews$Agreement" cc nL d) (hk : (tv_lay[k]?).map Prod.fst = some 2) (hd : decode cc pc = .ok (.getfield 77, 3)) {p : Nat} (hp : tv_P0 k 2 = some p) (kk : tv_G κ nL Q (pc + 3) ls (.ref (κ.b + p) :: st) M o) : tv_G κ nL Q pc ls (.ref (κ.b + k) :: st) M o := g_getP hC 2 2 hk rfl rfl rfl (tv_t1 162 rfl rfl) hd hp kk
theorem fg_Ag_81 (hC : tv_Cx κ "TiedViews$Agreement" cc nL d) (hk : (tv_lay[k]?).map Prod.fst = some 4) (hd : decode cc pc = .ok (.getfield 81, 3)) (kk : tv_G κ nL Q (pc + 3) ls (.int (M.1 k 2) :: st) M o) : tv_G κ nL Q pc ls (.ref (κ.b + k) :: st) M o := g_getI hC 4 2 hk rfl rfl rfl (tv_t1 132 rfl rfl) hd kk
theorem fg_Ag_86 (hC : tv_Cx κ "TiedViews$Agreement" cc nL d) (hk : (tv_lay[k]?).map Prod.fst = some 7) (hd : decode cc pc = .ok (.getfield 86, 3)) (kk : tv_G κ nL Q (pc + 3) ls (.int (M.1 k 6) :: st) M o) : tv_G κ nL Q pc ls (.ref (κ.b + k) :: st) M o := g_getI hC 7 6 hk rfl rfl rfl (tv_t2 38 rfl rfl) hd kk
theorem fg_Ag_100 (hC : tv_Cx κ "TiedViews$Agreement" cc nL d) (hk : (tv_lay[k]?).map Prod.fst = some 6) (hd : decode cc pc = .ok (.getfield 100, 3)) (kk : tv_G κ nL Q (pc + 3) ls (.int (M.1 k 4) :: st) M o) : tv_G κ nL Q pc ls (.ref (κ.b + k) :: st) M o := g_getI hC 6 4 hk rfl rfl rfl (tv_t2 71 rfl rfl) hd kk
theorem fp_Ag_100 {f : tv_M → Option (β × tv_M)} (hC : tv_Cx κ "TiedViews$Agreement" cc nL d) (hk : (tv_lay[k]?).map Prod.fst = some 6) (hx : x = 0 ∨ x = 1) (hd : decode cc pc = .ok (.putfield 100, 3)) (kk : ∀ M1, tv_G κ nL Q (pc + 3) ls st M1 (f M1)) : tv_G κ nL Q pc ls (.int x :: .ref (κ.b + k) :: st) M (tv_pf M k 4 x f) := gv_putZ hC 6 4 hk rfl rfl rfl (tv_t2 71 rfl rfl) rfl rfl hx hd kk
theorem fg_Ag_113 (hC : tv_Cx κ "TiedViews$Agreement" cc nL d) (hk : (tv_lay[k]?).map Prod.fst = some 2) (hd : decode cc pc = .ok (.getfield 113, 3)) (kk : tv_G κ nL Q (pc + 3) ls (.int (M.1 k 4) :: st) M o) : tv_G κ nL Q pc ls (.ref (κ.b + k) :: st) M o := g_getI hC 2 4 hk rfl rfl rfl (tv_t1 171 rfl rfl) hd kk
theorem fg_Ag_116 (hC : tv_Cx κ "TiedViews$Agreement" cc nL d) (hk : (tv_lay[k]?).map Prod.fst = some 2) (hd : decode cc pc = .ok (.getfield 116, 3)) {p : Nat} (hp : tv_P0 k 1 = some p) (kk : tv_G κ nL Q (pc + 3) ls (.ref (κ.b + p) :: st) M o) : tv_G κ nL Q pc ls (.ref (κ.b + k) :: st) M o := g_getP hC 2 1 hk rfl rfl rfl (tv_t1 160 rfl rfl) hd hp kk
theorem fg_Ag_120 (hC : tv_Cx κ "TiedViews$Agreement" cc nL d) (hk : (tv_lay[k]?).map Prod.fst = some 3) (hd : decode cc pc = .ok (.getfield 120, 3)) (kk : tv_G κ nL Q (pc + 3) ls (.int (M.1 k 5) :: st) M o) : tv_G κ nL Q pc ls (.ref (κ.b + k) :: st) M o := g_getI hC 3 5 hk rfl rfl rfl (tv_t1 102 rfl rfl) hd kk
theorem fg_Ag_125 (hC : tv_Cx κ "TiedViews$Agreement" cc nL d) (hk : (tv_lay[k]?).map Prod.fst = some 3) (hd : decode cc pc = .ok (.getfield 125, 3)) (kk : tv_G κ nL Q (pc + 3) ls (.int (M.1 k 2) :: st) M o) : tv_G κ nL Q pc ls (.ref (κ.b + k) :: st) M o := g_getI hC 3 2 hk rfl rfl rfl (tv_t1 84 rfl rfl) hd kk
theorem fg_Ag_128 (hC : tv_Cx κ "TiedViews$Agreement" cc nL d) (hk : (tv_lay[k]?).map Prod.fst = some 3) (hd : decode cc pc = .ok (.getfield 128, 3)) (kk : tv_G κ nL Q (pc + 3) ls (.int (M.1 k 3) :: st) M o) : tv_G κ nL Q pc ls (.ref (κ.b + k) :: st) M o := g_getI hC 3 3 hk rfl rfl rfl (tv_t1 91 rfl rfl) hd kk
theorem fg_Ag_131 (hC : tv_Cx κ "TiedViews$Agreement" cc nL d) (hk : (tv_lay[k]?).map Prod.fst = some 3) (hd : decode cc pc = .ok (.getfield 131, 3)) {p : Nat} (hp : tv_P0 k 6 = some p) (kk : tv_G κ nL Q (pc + 3) ls (.ref (κ.b + p) :: st) M o) : tv_G κ nL Q pc ls (.ref (κ.b + k) :: st) M o := g_getP hC 3 6 hk rfl rfl rfl (tv_t1 105 rfl rfl) hd hp kk
theorem fg_Ag_149 (hC : tv_Cx κ "TiedViews$Agreement" cc nL d) (hk : (tv_lay[k]?).map Prod.fst = some 1) (hd : decode cc pc = .ok (.getfield 149, 3)) {p : Nat} (hp : tv_P0 k 2 = some p) (kk : tv_G κ nL Q (pc + 3) ls (.ref (κ.b + p) :: st) M o) : tv_G κ nL Q pc ls (.ref (κ.b + k) :: st) M o := g_getP hC 1 2 hk rfl rfl rfl (tv_t1 47 rfl rfl) hd hp kk
theorem fg_Bo_11 (hC : tv_Cx κ "TiedViews$Bodies" cc nL d) (hk : (tv_lay[k]?).map Prod.fst = some 11) (hd : decode cc pc = .ok (.getfield 11, 3)) {p : Nat} (hp : tv_P0 k 1 = some p) (kk : tv_G κ nL Q (pc + 3) ls (.ref (κ.b + p) :: st) M o) : tv_G κ nL Q pc ls (.ref (κ.b + k) :: st) M o := g_getP hC 11 1 hk rfl rfl rfl (tv_t2 208 rfl rfl) hd hp kk
theorem fg_Bo_15 (hC : tv_Cx κ "TiedViews$Bodies" cc nL d) (hk : (tv_lay[k]?).map Prod.fst = some 11) (hd : decode cc pc = .ok (.getfield 15, 3)) {p : Nat} (hp : tv_P0 k 0 = some p) (kk : tv_G κ nL Q (pc + 3) ls (.ref (κ.b + p) :: st) M o) : tv_G κ nL Q pc ls (.ref (κ.b + k) :: st) M o := g_getP hC 11 0 hk rfl rfl rfl (tv_t2 207 rfl rfl) hd hp kk
theorem fg_Bo_19 (hC : tv_Cx κ "TiedViews$Bodies" cc nL d) (hk : (tv_lay[k]?).map Prod.fst = some 3) (hd : decode cc pc = .ok (.getfield 19, 3)) (kk : tv_G κ nL Q (pc + 3) ls (.int (M.1 k 1) :: st) M o) : tv_G κ nL Q pc ls (.ref (κ.b + k) :: st) M o := g_getI hC 3 1 hk rfl rfl rfl (tv_t1 74 rfl rfl) hd kk
theorem ws_Bo_25 : Cond.fieldLink "TiedViews$Bodies" 25 "TiedViews$Bodies" "KIND_OF_SORT" "[I" ∈ tv_tb := tv_t5 184 rfl rfl
theorem ws_Bo_32 : Cond.fieldLink "TiedViews$Bodies" 32 "TiedViews$Bodies" "KIND_ABOVE" "[I" ∈ tv_tb := tv_t5 194 rfl rfl
theorem fg_Bo_35 (hC : tv_Cx κ "TiedViews$Bodies" cc nL d) (hk : (tv_lay[k]?).map Prod.fst = some 11) (hd : decode cc pc = .ok (.getfield 35, 3)) (kk : tv_G κ nL Q (pc + 3) ls (.int (M.1 k 2) :: st) M o) : tv_G κ nL Q pc ls (.ref (κ.b + k) :: st) M o := g_getI hC 11 2 hk rfl rfl rfl (tv_t2 209 rfl rfl) hd kk
theorem fp_Bo_35 {f : tv_M → Option (β × tv_M)} (hC : tv_Cx κ "TiedViews$Bodies" cc nL d) (hk : (tv_lay[k]?).map Prod.fst = some 11) (hd : decode cc pc = .ok (.putfield 35, 3)) (kk : ∀ M1, tv_G κ nL Q (pc + 3) ls st M1 (f M1)) : tv_G κ nL Q pc ls (.int x :: .ref (κ.b + k) :: st) M (tv_pf M k 2 x f) := gv_putI hC 11 2 hk rfl rfl rfl (tv_t2 209 rfl rfl) rfl rfl hd kk
theorem ws_Bo_50 : Cond.fieldLink "TiedViews$Bodies" 50 "TiedViews$Bodies" "SIZE_BODY" "[I" ∈ tv_tb := tv_t5 211 rfl rfl
theorem ws_Bo_53 : Cond.fieldLink "TiedViews$Bodies" 53 "TiedViews$Bodies" "MARK_BODY" "[I" ∈ tv_tb := tv_t5 213 rfl rfl
theorem fg_Bo_60 (hC : tv_Cx κ "TiedViews$Bodies" cc nL d) (hk : (tv_lay[k]?).map Prod.fst = some 3) (hd : decode cc pc = .ok (.getfield 60, 3)) (kk : tv_G κ nL Q (pc + 3) ls (.int (M.1 k 2) :: st) M o) : tv_G κ nL Q pc ls (.ref (κ.b + k) :: st) M o := g_getI hC 3 2 hk rfl rfl rfl (tv_t1 82 rfl rfl) hd kk
theorem fg_Bo_63 (hC : tv_Cx κ "TiedViews$Bodies" cc nL d) (hk : (tv_lay[k]?).map Prod.fst = some 3) (hd : decode cc pc = .ok (.getfield 63, 3)) (kk : tv_G κ nL Q (pc + 3) ls (.int (M.1 k 0) :: st) M o) : tv_G κ nL Q pc ls (.ref (κ.b + k) :: st) M o := g_getI hC 3 0 hk rfl rfl rfl (tv_t1 73 rfl rfl) hd kk
theorem fg_Bo_72 (hC : tv_Cx κ "TiedViews$Bodies" cc nL d) (hk : (tv_lay[k]?).map Prod.fst = some 2) (hd : decode cc pc = .ok (.getfield 72, 3)) (kk : tv_G κ nL Q (pc + 3) ls (.int (M.1 k 0) :: st) M o) : tv_G κ nL Q pc ls (.ref (κ.b + k) :: st) M o := g_getI hC 2 0 hk rfl rfl rfl (tv_t1 154 rfl rfl) hd kk
theorem fg_Bo_75 (hC : tv_Cx κ "TiedViews$Bodies" cc nL d) (hk : (tv_lay[k]?).map Prod.fst = some 3) (hd : decode cc pc = .ok (.getfield 75, 3)) (kk : tv_G κ nL Q (pc + 3) ls (.int (M.1 k 4) :: st) M o) : tv_G κ nL Q pc ls (.ref (κ.b + k) :: st) M o := g_getI hC 3 4 hk rfl rfl rfl (tv_t1 95 rfl rfl) hd kk
theorem fg_Bo_83 (hC : tv_Cx κ "TiedViews$Bodies" cc nL d) (hk : (tv_lay[k]?).map Prod.fst = some 3) (hd : decode cc pc = .ok (.getfield 83, 3)) (kk : tv_G κ nL Q (pc + 3) ls (.int (M.1 k 5) :: st) M o) : tv_G κ nL Q pc ls (.ref (κ.b + k) :: st) M o := g_getI hC 3 5 hk rfl rfl rfl (tv_t1 99 rfl rfl) hd kk
theorem fg_Ch_11 (hC : tv_Cx κ "TiedViews$Choices" cc nL d) (hk : (tv_lay[k]?).map Prod.fst = some 10) (hd : decode cc pc = .ok (.getfield 11, 3)) {p : Nat} (hp : tv_P0 k 1 = some p) (kk : tv_G κ nL Q (pc + 3) ls (.ref (κ.b + p) :: st) M o) : tv_G κ nL Q pc ls (.ref (κ.b + k) :: st) M o := g_getP hC 10 1 hk rfl rfl rfl (tv_t2 179 rfl rfl) hd hp kk
theorem fg_Ch_16 (hC : tv_Cx κ "TiedViews$Choices" cc nL d) (hk : (tv_lay[k]?).map Prod.fst = some 10) (hd : decode cc pc = .ok (.getfield 16, 3)) {p : Nat} (hp : tv_P0 k 2 = some p) (kk : tv_G κ nL Q (pc + 3) ls (.ref (κ.b + p) :: st) M o) : tv_G κ nL Q pc ls (.ref (κ.b + k) :: st) M o := g_getP hC 10 2 hk rfl rfl rfl (tv_t2 180 rfl rfl) hd hp kk
theorem fg_Ch_20 (hC : tv_Cx κ "TiedViews$Choices" cc nL d) (hk : (tv_lay[k]?).map Prod.fst = some 10) (hd : decode cc pc = .ok (.getfield 20, 3)) {p : Nat} (hp : tv_P0 k 3 = some p) (kk : tv_G κ nL Q (pc + 3) ls (.ref (κ.b + p) :: st) M o) : tv_G κ nL Q pc ls (.ref (κ.b + k) :: st) M o := g_getP hC 10 3 hk rfl rfl rfl (tv_t2 181 rfl rfl) hd hp kk
theorem fg_Ch_23 (hC : tv_Cx κ "TiedViews$Choices" cc nL d) (hk : (tv_lay[k]?).map Prod.fst = some 10) (hd : decode cc pc = .ok (.getfield 23, 3)) {p : Nat} (hp : tv_P0 k 4 = some p) (kk : tv_G κ nL Q (pc + 3) ls (.ref (κ.b + p) :: st) M o) : tv_G κ nL Q pc ls (.ref (κ.b + k) :: st) M o := g_getP hC 10 4 hk rfl rfl rfl (tv_t2 182 rfl rfl) hd hp kk
theorem fg_Ch_27 (hC : tv_Cx κ "TiedViews$Choices" cc nL d) (hk : (tv_lay[k]?).map Prod.fst = some 10) (hd : decode cc pc = .ok (.getfield 27, 3)) {p : Nat} (hp : tv_P0 k 0 = some p) (kk : tv_G κ nL Q (pc + 3) ls (.ref (κ.b + p) :: st) M o) : tv_G κ nL Q pc ls (.ref (κ.b + k) :: st) M o := g_getP hC 10 0 hk rfl rfl rfl (tv_t2 178 rfl rfl) hd hp kk
theorem fg_Ch_31 (hC : tv_Cx κ "TiedViews$Choices" cc nL d) (hk : (tv_lay[k]?).map Prod.fst = some 10) (hd : decode cc pc = .ok (.getfield 31, 3)) (kk : tv_G κ nL Q (pc + 3) ls (.int (M.1 k 6) :: st) M o) : tv_G κ nL Q pc ls (.ref (κ.b + k) :: st) M o := g_getI hC 10 6 hk rfl rfl rfl (tv_t2 184 rfl rfl) hd kk
theorem fp_Ch_31 {f : tv_M → Option (β × tv_M)} (hC : tv_Cx κ "TiedViews$Choices" cc nL d) (hk : (tv_lay[k]?).map Prod.fst = some 10) (hx : x = 0 ∨ x = 1) (hd : decode cc pc = .ok (.putfield 31, 3)) (kk : ∀ M1, tv_G κ nL Q (pc + 3) ls st M1 (f M1)) : tv_G κ nL Q pc ls (.int x :: .ref (κ.b + k) :: st) M (tv_pf M k 6 x f) := gv_putZ hC 10 6 hk rfl rfl rfl (tv_t2 184 rfl rfl) rfl rfl hx hd kk
theorem fg_Ch_41 (hC : tv_Cx κ "TiedViews$Choices" cc nL d) (hk : (tv_lay[k]?).map Prod.fst = some 2) (hd : decode cc pc = .ok (.getfield 41, 3)) (kk : tv_G κ nL Q (pc + 3) ls (.int (M.1 k 6) :: st) M o) : tv_G κ nL Q pc ls (.ref (κ.b + k) :: st) M o := g_getI hC 2 6 hk rfl rfl rfl (tv_t1 176 rfl rfl) hd kk
theorem fg_Ch_47 (hC : tv_Cx κ "TiedViews$Choices" cc nL d) (hk : (tv_lay[k]?).map Prod.fst = some 2) (hd : decode cc pc = .ok (.getfield 47, 3)) {p : Nat} (hp : tv_P0 k 3 = some p) (kk : tv_G κ nL Q (pc + 3) ls (.ref (κ.b + p) :: st) M o) : tv_G κ nL Q pc ls (.ref (κ.b + k) :: st) M o := g_getP hC 2 3 hk rfl rfl rfl (tv_t1 164 rfl rfl) hd hp kk
theorem fg_Ch_60 (hC : tv_Cx κ "TiedViews$Choices" cc nL d) (hk : (tv_lay[k]?).map Prod.fst = some 2) (hd : decode cc pc = .ok (.getfield 60, 3)) (kk : tv_G κ nL Q (pc + 3) ls (.int (M.1 k 4) :: st) M o) : tv_G κ nL Q pc ls (.ref (κ.b + k) :: st) M o := g_getI hC 2 4 hk rfl rfl rfl (tv_t1 167 rfl rfl) hd kk
theorem fg_Ch_71 (hC : tv_Cx κ "TiedViews$Choices" cc nL d) (hk : (tv_lay[k]?).map Prod.fst = some 3) (hd : decode cc pc = .ok (.getfield 71, 3)) (kk : tv_G κ nL Q (pc + 3) ls (.int (M.1 k 2) :: st) M o) : tv_G κ nL Q pc ls (.ref (κ.b + k) :: st) M o := g_getI hC 3 2 hk rfl rfl rfl (tv_t1 80 rfl rfl) hd kk
theorem fg_Ch_76 (hC : tv_Cx κ "TiedViews$Choices" cc nL d) (hk : (tv_lay[k]?).map Prod.fst = some 3) (hd : decode cc pc = .ok (.getfield 76, 3)) (kk : tv_G κ nL Q (pc + 3) ls (.int (M.1 k 4) :: st) M o) : tv_G κ nL Q pc ls (.ref (κ.b + k) :: st) M o := g_getI hC 3 4 hk rfl rfl rfl (tv_t1 94 rfl rfl) hd kk
theorem fp_Ch_76 {f : tv_M → Option (β × tv_M)} (hC : tv_Cx κ "TiedViews$Choices" cc nL d) (hk : (tv_lay[k]?).map Prod.fst = some 3) (hd : decode cc pc = .ok (.putfield 76, 3)) (kk : ∀ M1, tv_G κ nL Q (pc + 3) ls st M1 (f M1)) : tv_G κ nL Q pc ls (.int x :: .ref (κ.b + k) :: st) M (tv_pf M k 4 x f) := gv_putI hC 3 4 hk rfl rfl rfl (tv_t1 94 rfl rfl) rfl rfl hd kk
theorem fg_Ch_83 (hC : tv_Cx κ "TiedViews$Choices" cc nL d) (hk : (tv_lay[k]?).map Prod.fst = some 2) (hd : decode cc pc = .ok (.getfield 83, 3)) {p : Nat} (hp : tv_P0 k 1 = some p) (kk : tv_G κ nL Q (pc + 3) ls (.ref (κ.b + p) :: st) M o) : tv_G κ nL Q pc ls (.ref (κ.b + k) :: st) M o := g_getP hC 2 1 hk rfl rfl rfl (tv_t1 159 rfl rfl) hd hp kk
theorem fg_Ch_94 (hC : tv_Cx κ "TiedViews$Choices" cc nL d) (hk : (tv_lay[k]?).map Prod.fst = some 10) (hd : decode cc pc = .ok (.getfield 94, 3)) (kk : tv_G κ nL Q (pc + 3) ls (.int (M.1 k 5) :: st) M o) : tv_G κ nL Q pc ls (.ref (κ.b + k) :: st) M o := g_getI hC 10 5 hk rfl rfl rfl (tv_t2 183 rfl rfl) hd kk
theorem fp_Ch_94 {f : tv_M → Option (β × tv_M)} (hC : tv_Cx κ "TiedViews$Choices" cc nL d) (hk : (tv_lay[k]?).map Prod.fst = some 10) (hd : decode cc pc = .ok (.putfield 94, 3)) (kk : ∀ M1, tv_G κ nL Q (pc + 3) ls st M1 (f M1)) : tv_G κ nL Q pc ls (.int x :: .ref (κ.b + k) :: st) M (tv_pf M k 5 x f) := gv_putI hC 10 5 hk rfl rfl rfl (tv_t2 183 rfl rfl) rfl rfl hd kk
theorem fg_Dr_11 (hC : tv_Cx κ "TiedViews$Dropping" cc nL d) (hk : (tv_lay[k]?).map Prod.fst = some 8) (hd : decode cc pc = .ok (.getfield 11, 3)) {p : Nat} (hp : tv_P0 k 2 = some p) (kk : tv_G κ nL Q (pc + 3) ls (.ref (κ.b + p) :: st) M o) : tv_G κ nL Q pc ls (.ref (κ.b + k) :: st) M o := g_getP hC 8 2 hk rfl rfl rfl (tv_t2 92 rfl rfl) hd hp kk
theorem fg_Dr_16 (hC : tv_Cx κ "TiedViews$Dropping" cc nL d) (hk : (tv_lay[k]?).map Prod.fst = some 8) (hd : decode cc pc = .ok (.getfield 16, 3)) {p : Nat} (hp : tv_P0 k 3 = some p) (kk : tv_G κ nL Q (pc + 3) ls (.ref (κ.b + p) :: st) M o) : tv_G κ nL Q pc ls (.ref (κ.b + k) :: st) M o := g_getP hC 8 3 hk rfl rfl rfl (tv_t2 93 rfl rfl) hd hp kk
theorem fg_Dr_20 (hC : tv_Cx κ "TiedViews$Dropping" cc nL d) (hk : (tv_lay[k]?).map Prod.fst = some 8) (hd : decode cc pc = .ok (.getfield 20, 3)) {p : Nat} (hp : tv_P0 k 0 = some p) (kk : tv_G κ nL Q (pc + 3) ls (.ref (κ.b + p) :: st) M o) : tv_G κ nL Q pc ls (.ref (κ.b + k) :: st) M o := g_getP hC 8 0 hk rfl rfl rfl (tv_t2 90 rfl rfl) hd hp kk
theorem fg_Dr_24 (hC : tv_Cx κ "TiedViews$Dropping" cc nL d) (hk : (tv_lay[k]?).map Prod.fst = some 8) (hd : decode cc pc = .ok (.getfield 24, 3)) {p : Nat} (hp : tv_P0 k 1 = some p) (kk : tv_G κ nL Q (pc + 3) ls (.ref (κ.b + p) :: st) M o) : tv_G κ nL Q pc ls (.ref (κ.b + k) :: st) M o := g_getP hC 8 1 hk rfl rfl rfl (tv_t2 91 rfl rfl) hd hp kk
theorem fg_Dr_28 (hC : tv_Cx κ "TiedViews$Dropping" cc nL d) (hk : (tv_lay[k]?).map Prod.fst = some 8) (hd : decode cc pc = .ok (.getfield 28, 3)) (kk : tv_G κ nL Q (pc + 3) ls (.int (M.1 k 8) :: st) M o) : tv_G κ nL Q pc ls (.ref (κ.b + k) :: st) M o := g_getI hC 8 8 hk rfl rfl rfl (tv_t2 98 rfl rfl) hd kk
theorem fp_Dr_28 {f : tv_M → Option (β × tv_M)} (hC : tv_Cx κ "TiedViews$Dropping" cc nL d) (hk : (tv_lay[k]?).map Prod.fst = some 8) (hx : x = 0 ∨ x = 1) (hd : decode cc pc = .ok (.putfield 28, 3)) (kk : ∀ M1, tv_G κ nL Q (pc + 3) ls st M1 (f M1)) : tv_G κ nL Q pc ls (.int x :: .ref (κ.b + k) :: st) M (tv_pf M k 8 x f) := gv_putZ hC 8 8 hk rfl rfl rfl (tv_t2 98 rfl rfl) rfl rfl hx hd kk
theorem fg_Dr_44 (hC : tv_Cx κ "TiedViews$Dropping" cc nL d) (hk : (tv_lay[k]?).map Prod.fst = some 8) (hd : decode cc pc = .ok (.getfield 44, 3)) (kk : tv_G κ nL Q (pc + 3) ls (.int (M.1 k 5) :: st) M o) : tv_G κ nL Q pc ls (.ref (κ.b + k) :: st) M o := g_getI hC 8 5 hk rfl rfl rfl (tv_t2 95 rfl rfl) hd kk
theorem fp_Dr_44 {f : tv_M → Option (β × tv_M)} (hC : tv_Cx κ "TiedViews$Dropping" cc nL d) (hk : (tv_lay[k]?).map Prod.fst = some 8) (hd : decode cc pc = .ok (.putfield 44, 3)) (kk : ∀ M1, tv_G κ nL Q (pc + 3) ls st M1 (f M1)) : tv_G κ nL Q pc ls (.int x :: .ref (κ.b + k) :: st) M (tv_pf M k 5 x f) := gv_putI hC 8 5 hk rfl rfl rfl (tv_t2 95 rfl rfl) rfl rfl hd kk
theorem fg_Dr_48 (hC : tv_Cx κ "TiedViews$Dropping" cc nL d) (hk : (tv_lay[k]?).map Prod.fst = some 8) (hd : decode cc pc = .ok (.getfield 48, 3)) (kk : tv_G κ nL Q (pc + 3) ls (.int (M.1 k 4) :: st) M o) : tv_G κ nL Q pc ls (.ref (κ.b + k) :: st) M o := g_getI hC 8 4 hk rfl rfl rfl (tv_t2 94 rfl rfl) hd kk
theorem fp_Dr_48 {f : tv_M → Option (β × tv_M)} (hC : tv_Cx κ "TiedViews$Dropping" cc nL d) (hk : (tv_lay[k]?).map Prod.fst = some 8) (hd : decode cc pc = .ok (.putfield 48, 3)) (kk : ∀ M1, tv_G κ nL Q (pc + 3) ls st M1 (f M1)) : tv_G κ nL Q pc ls (.int x :: .ref (κ.b + k) :: st) M (tv_pf M k 4 x f) := gv_putI hC 8 4 hk rfl rfl rfl (tv_t2 94 rfl rfl) rfl rfl hd kk
theorem fg_Dr_51 (hC : tv_Cx κ "TiedViews$Dropping" cc nL d) (hk : (tv_lay[k]?).map Prod.fst = some 8) (hd : decode cc pc = .ok (.getfield 51, 3)) (kk : tv_G κ nL Q (pc + 3) ls (.int (M.1 k 6) :: st) M o) : tv_G κ nL Q pc ls (.ref (κ.b + k) :: st) M o := g_getI hC 8 6 hk rfl rfl rfl (tv_t2 96 rfl rfl) hd kk
theorem fp_Dr_51 {f : tv_M → Option (β × tv_M)} (hC : tv_Cx κ "TiedViews$Dropping" cc nL d) (hk : (tv_lay[k]?).map Prod.fst = some 8) (hd : decode cc pc = .ok (.putfield 51, 3)) (kk : ∀ M1, tv_G κ nL Q (pc + 3) ls st M1 (f M1)) : tv_G κ nL Q pc ls (.int x :: .ref (κ.b + k) :: st) M (tv_pf M k 6 x f) := gv_putI hC 8 6 hk rfl rfl rfl (tv_t2 96 rfl rfl) rfl rfl hd kk
theorem fg_Dr_54 (hC : tv_Cx κ "TiedViews$Dropping" cc nL d) (hk : (tv_lay[k]?).map Prod.fst = some 8) (hd : decode cc pc = .ok (.getfield 54, 3)) (kk : tv_G κ nL Q (pc + 3) ls (.int (M.1 k 7) :: st) M o) : tv_G κ nL Q pc ls (.ref (κ.b + k) :: st) M o := g_getI hC 8 7 hk rfl rfl rfl (tv_t2 97 rfl rfl) hd kk
theorem fp_Dr_54 {f : tv_M → Option (β × tv_M)} (hC : tv_Cx κ "TiedViews$Dropping" cc nL d) (hk : (tv_lay[k]?).map Prod.fst = some 8) (hd : decode cc pc = .ok (.putfield 54, 3)) (kk : ∀ M1, tv_G κ nL Q (pc + 3) ls st M1 (f M1)) : tv_G κ nL Q pc ls (.int x :: .ref (κ.b + k) :: st) M (tv_pf M k 7 x f) := gv_putI hC 8 7 hk rfl rfl rfl (tv_t2 97 rfl rfl) rfl rfl hd kk
theorem fg_Dr_57 (hC : tv_Cx κ "TiedViews$Dropping" cc nL d) (hk : (tv_lay[k]?).map Prod.fst = some 2) (hd : decode cc pc = .ok (.getfield 57, 3)) (kk : tv_G κ nL Q (pc + 3) ls (.int (M.1 k 4) :: st) M o) : tv_G κ nL Q pc ls (.ref (κ.b + k) :: st) M o := g_getI hC 2 4 hk rfl rfl rfl (tv_t1 166 rfl rfl) hd kk
theorem fg_Dr_76 (hC : tv_Cx κ "TiedViews$Dropping" cc nL d) (hk : (tv_lay[k]?).map Prod.fst = some 3) (hd : decode cc pc = .ok (.getfield 76, 3)) (kk : tv_G κ nL Q (pc + 3) ls (.int (M.1 k 5) :: st) M o) : tv_G κ nL Q pc ls (.ref (κ.b + k) :: st) M o := g_getI hC 3 5 hk rfl rfl rfl (tv_t1 98 rfl rfl) hd kk
theorem fg_Dr_85 (hC : tv_Cx κ "TiedViews$Dropping" cc nL d) (hk : (tv_lay[k]?).map Prod.fst = some 3) (hd : decode cc pc = .ok (.getfield 85, 3)) (kk : tv_G κ nL Q (pc + 3) ls (.int (M.1 k 2) :: st) M o) : tv_G κ nL Q pc ls (.ref (κ.b + k) :: st) M o := g_getI hC 3 2 hk rfl rfl rfl (tv_t1 79 rfl rfl) hd kk
theorem fg_Dr_88 (hC : tv_Cx κ "TiedViews$Dropping" cc nL d) (hk : (tv_lay[k]?).map Prod.fst = some 3) (hd : decode cc pc = .ok (.getfield 88, 3)) (kk : tv_G κ nL Q (pc + 3) ls (.int (M.1 k 3) :: st) M o) : tv_G κ nL Q pc ls (.ref (κ.b + k) :: st) M o := g_getI hC 3 3 hk rfl rfl rfl (tv_t1 88 rfl rfl) hd kk
theorem fg_Dr_91 (hC : tv_Cx κ "TiedViews$Dropping" cc nL d) (hk : (tv_lay[k]?).map Prod.fst = some 3) (hd : decode cc pc = .ok (.getfield 91, 3)) {p : Nat} (hp : tv_P0 k 6 = some p) (kk : tv_G κ nL Q (pc + 3) ls (.ref (κ.b + p) :: st) M o) : tv_G κ nL Q pc ls (.ref (κ.b + k) :: st) M o := g_getP hC 3 6 hk rfl rfl rfl (tv_t1 104 rfl rfl) hd hp kk
theorem fg_Dr_109 (hC : tv_Cx κ "TiedViews$Dropping" cc nL d) (hk : (tv_lay[k]?).map Prod.fst = some 2) (hd : decode cc pc = .ok (.getfield 109, 3)) (kk : tv_G κ nL Q (pc + 3) ls (.int (M.1 k 0) :: st) M o) : tv_G κ nL Q pc ls (.ref (κ.b + k) :: st) M o := g_getI hC 2 0 hk rfl rfl rfl (tv_t1 153 rfl rfl) hd kk
theorem fg_Ey_9 (hC : tv_Cx κ "TiedViews$Eye" cc nL d) (hk : (tv_lay[k]?).map Prod.fst = some 3) (hd : decode cc pc = .ok (.getfield 9, 3)) {p : Nat} (hp : tv_P0 k 6 = some p) (kk : tv_G κ nL Q (pc + 3) ls (.ref (κ.b + p) :: st) M o) : tv_G κ nL Q pc ls (.ref (κ.b + k) :: st) M o := g_getP hC 3 6 hk rfl rfl rfl (tv_t1 103 rfl rfl) hd hp kk
theorem fg_Ey_19 (hC : tv_Cx κ "TiedViews$Eye" cc nL d) (hk : (tv_lay[k]?).map Prod.fst = some 3) (hd : decode cc pc = .ok (.getfield 19, 3)) (kk : tv_G κ nL Q (pc + 3) ls (.int (M.1 k 1) :: st) M o) : tv_G κ nL Q pc ls (.ref (κ.b + k) :: st) M o := g_getI hC 3 1 hk rfl rfl rfl (tv_t1 75 rfl rfl) hd kk
theorem fp_Ey_19 {f : tv_M → Option (β × tv_M)} (hC : tv_Cx κ "TiedViews$Eye" cc nL d) (hk : (tv_lay[k]?).map Prod.fst = some 3) (hd : decode cc pc = .ok (.putfield 19, 3)) (kk : ∀ M1, tv_G κ nL Q (pc + 3) ls st M1 (f M1)) : tv_G κ nL Q pc ls (.int x :: .ref (κ.b + k) :: st) M (tv_pf M k 1 x f) := gv_putI hC 3 1 hk rfl rfl rfl (tv_t1 75 rfl rfl) rfl rfl hd kk
theorem fg_Ey_22 (hC : tv_Cx κ "TiedViews$Eye" cc nL d) (hk : (tv_lay[k]?).map Prod.fst = some 3) (hd : decode cc pc = .ok (.getfield 22, 3)) (kk : tv_G κ nL Q (pc + 3) ls (.int (M.1 k 2) :: st) M o) : tv_G κ nL Q pc ls (.ref (κ.b + k) :: st) M o := g_getI hC 3 2 hk rfl rfl rfl (tv_t1 78 rfl rfl) hd kk
theorem fp_Ey_22 {f : tv_M → Option (β × tv_M)} (hC : tv_Cx κ "TiedViews$Eye" cc nL d) (hk : (tv_lay[k]?).map Prod.fst = some 3) (hd : decode cc pc = .ok (.putfield 22, 3)) (kk : ∀ M1, tv_G κ nL Q (pc + 3) ls st M1 (f M1)) : tv_G κ nL Q pc ls (.int x :: .ref (κ.b + k) :: st) M (tv_pf M k 2 x f) := gv_putI hC 3 2 hk rfl rfl rfl (tv_t1 78 rfl rfl) rfl rfl hd kk
theorem fp_Ey_25 {f : tv_M → Option (β × tv_M)} (hC : tv_Cx κ "TiedViews$Eye" cc nL d) (hk : (tv_lay[k]?).map Prod.fst = some 3) (hd : decode cc pc = .ok (.putfield 25, 3)) (kk : ∀ M1, tv_G κ nL Q (pc + 3) ls st M1 (f M1)) : tv_G κ nL Q pc ls (.int x :: .ref (κ.b + k) :: st) M (tv_pf M k 3 x f) := gv_putI hC 3 3 hk rfl rfl rfl (tv_t1 87 rfl rfl) rfl rfl hd kk
theorem fp_Ey_32 {f : tv_M → Option (β × tv_M)} (hC : tv_Cx κ "TiedViews$Eye" cc nL d) (hk : (tv_lay[k]?).map Prod.fst = some 3) (hd : decode cc pc = .ok (.putfield 32, 3)) (kk : ∀ M1, tv_G κ nL Q (pc + 3) ls st M1 (f M1)) : tv_G κ nL Q pc ls (.int x :: .ref (κ.b + k) :: st) M (tv_pf M k 4 x f) := gv_putI hC 3 4 hk rfl rfl rfl (tv_t1 93 rfl rfl) rfl rfl hd kk
theorem fp_Ey_35 {f : tv_M → Option (β × tv_M)} (hC : tv_Cx κ "TiedViews$Eye" cc nL d) (hk : (tv_lay[k]?).map Prod.fst = some 3) (hx : x = 0 ∨ x = 1) (hd : decode cc pc = .ok (.putfield 35, 3)) (kk : ∀ M1, tv_G κ nL Q (pc + 3) ls st M1 (f M1)) : tv_G κ nL Q pc ls (.int x :: .ref (κ.b + k) :: st) M (tv_pf M k 5 x f) := gv_putZ hC 3 5 hk rfl rfl rfl (tv_t1 97 rfl rfl) rfl rfl hx hd kk
theorem fg_Ey_45 (hC : tv_Cx κ "TiedViews$Eye" cc nL d) (hk : (tv_lay[k]?).map Prod.fst = some 1) (hd : decode cc pc = .ok (.getfield 45, 3)) {p : Nat} (hp : tv_P0 k 2 = some p) (kk : tv_G κ nL Q (pc + 3) ls (.ref (κ.b + p) :: st) M o) : tv_G κ nL Q pc ls (.ref (κ.b + k) :: st) M o := g_getP hC 1 2 hk rfl rfl rfl (tv_t1 46 rfl rfl) hd hp kk
theorem fg_He_9 (hC : tv_Cx κ "TiedViews$Hearsay" cc nL d) (hk : (tv_lay[k]?).map Prod.fst = some 9) (hd : decode cc pc = .ok (.getfield 9, 3)) {p : Nat} (hp : tv_P0 k 1 = some p) (kk : tv_G κ nL Q (pc + 3) ls (.ref (κ.b + p) :: st) M o) : tv_G κ nL Q pc ls (.ref (κ.b + k) :: st) M o := g_getP hC 9 1 hk rfl rfl rfl (tv_t2 128 rfl rfl) hd hp kk
theorem fg_He_15 (hC : tv_Cx κ "TiedViews$Hearsay" cc nL d) (hk : (tv_lay[k]?).map Prod.fst = some 9) (hd : decode cc pc = .ok (.getfield 15, 3)) {p : Nat} (hp : tv_P0 k 2 = some p) (kk : tv_G κ nL Q (pc + 3) ls (.ref (κ.b + p) :: st) M o) : tv_G κ nL Q pc ls (.ref (κ.b + k) :: st) M o := g_getP hC 9 2 hk rfl rfl rfl (tv_t2 129 rfl rfl) hd hp kk
theorem fg_He_18 (hC : tv_Cx κ "TiedViews$Hearsay" cc nL d) (hk : (tv_lay[k]?).map Prod.fst = some 9) (hd : decode cc pc = .ok (.getfield 18, 3)) {p : Nat} (hp : tv_P0 k 4 = some p) (kk : tv_G κ nL Q (pc + 3) ls (.ref (κ.b + p) :: st) M o) : tv_G κ nL Q pc ls (.ref (κ.b + k) :: st) M o := g_getP hC 9 4 hk rfl rfl rfl (tv_t2 132 rfl rfl) hd hp kk
theorem fg_He_21 (hC : tv_Cx κ "TiedViews$Hearsay" cc nL d) (hk : (tv_lay[k]?).map Prod.fst = some 9) (hd : decode cc pc = .ok (.getfield 21, 3)) {p : Nat} (hp : tv_P0 k 5 = some p) (kk : tv_G κ nL Q (pc + 3) ls (.ref (κ.b + p) :: st) M o) : tv_G κ nL Q pc ls (.ref (κ.b + k) :: st) M o := g_getP hC 9 5 hk rfl rfl rfl (tv_t2 133 rfl rfl) hd hp kk
theorem fg_He_24 (hC : tv_Cx κ "TiedViews$Hearsay" cc nL d) (hk : (tv_lay[k]?).map Prod.fst = some 9) (hd : decode cc pc = .ok (.getfield 24, 3)) {p : Nat} (hp : tv_P0 k 6 = some p) (kk : tv_G κ nL Q (pc + 3) ls (.ref (κ.b + p) :: st) M o) : tv_G κ nL Q pc ls (.ref (κ.b + k) :: st) M o := g_getP hC 9 6 hk rfl rfl rfl (tv_t2 134 rfl rfl) hd hp kk
theorem fg_He_27 (hC : tv_Cx κ "TiedViews$Hearsay" cc nL d) (hk : (tv_lay[k]?).map Prod.fst = some 9) (hd : decode cc pc = .ok (.getfield 27, 3)) {p : Nat} (hp : tv_P0 k 7 = some p) (kk : tv_G κ nL Q (pc + 3) ls (.ref (κ.b + p) :: st) M o) : tv_G κ nL Q pc ls (.ref (κ.b + k) :: st) M o := g_getP hC 9 7 hk rfl rfl rfl (tv_t2 135 rfl rfl) hd hp kk
theorem fg_He_31 (hC : tv_Cx κ "TiedViews$Hearsay" cc nL d) (hk : (tv_lay[k]?).map Prod.fst = some 9) (hd : decode cc pc = .ok (.getfield 31, 3)) {p : Nat} (hp : tv_P0 k 8 = some p) (kk : tv_G κ nL Q (pc + 3) ls (.ref (κ.b + p) :: st) M o) : tv_G κ nL Q pc ls (.ref (κ.b + k) :: st) M o := g_getP hC 9 8 hk rfl rfl rfl (tv_t2 136 rfl rfl) hd hp kk
theorem fg_He_34 (hC : tv_Cx κ "TiedViews$Hearsay" cc nL d) (hk : (tv_lay[k]?).map Prod.fst = some 9) (hd : decode cc pc = .ok (.getfield 34, 3)) {p : Nat} (hp : tv_P0 k 0 = some p) (kk : tv_G κ nL Q (pc + 3) ls (.ref (κ.b + p) :: st) M o) : tv_G κ nL Q pc ls (.ref (κ.b + k) :: st) M o := g_getP hC 9 0 hk rfl rfl rfl (tv_t2 127 rfl rfl) hd hp kk
theorem fg_He_44 (hC : tv_Cx κ "TiedViews$Hearsay" cc nL d) (hk : (tv_lay[k]?).map Prod.fst = some 9) (hd : decode cc pc = .ok (.getfield 44, 3)) (kk : tv_G κ nL Q (pc + 3) ls (.int (M.1 k 3) :: st) M o) : tv_G κ nL Q pc ls (.ref (κ.b + k) :: st) M o := g_getI hC 9 3 hk rfl rfl rfl (tv_t2 130 rfl rfl) hd kk
theorem fp_He_44 {f : tv_M → Option (β × tv_M)} (hC : tv_Cx κ "TiedViews$Hearsay" cc nL d) (hk : (tv_lay[k]?).map Prod.fst = some 9) (hd : decode cc pc = .ok (.putfield 44, 3)) (kk : ∀ M1, tv_G κ nL Q (pc + 3) ls st M1 (f M1)) : tv_G κ nL Q pc ls (.int x :: .ref (κ.b + k) :: st) M (tv_pf M k 3 x f) := gv_putI hC 9 3 hk rfl rfl rfl (tv_t2 130 rfl rfl) rfl rfl hd kk
theorem fg_He_53 (hC : tv_Cx κ "TiedViews$Hearsay" cc nL d) (hk : (tv_lay[k]?).map Prod.fst = some 9) (hd : decode cc pc = .ok (.getfield 53, 3)) (kk : tv_G κ nL Q (pc + 3) ls (.int (M.1 k 12) :: st) M o) : tv_G κ nL Q pc ls (.ref (κ.b + k) :: st) M o := g_getI hC 9 12 hk rfl rfl rfl (tv_t2 142 rfl rfl) hd kk
theorem fp_He_53 {f : tv_M → Option (β × tv_M)} (hC : tv_Cx κ "TiedViews$Hearsay" cc nL d) (hk : (tv_lay[k]?).map Prod.fst = some 9) (hx : x = 0 ∨ x = 1) (hd : decode cc pc = .ok (.putfield 53, 3)) (kk : ∀ M1, tv_G κ nL Q (pc + 3) ls st M1 (f M1)) : tv_G κ nL Q pc ls (.int x :: .ref (κ.b + k) :: st) M (tv_pf M k 12 x f) := gv_putZ hC 9 12 hk rfl rfl rfl (tv_t2 142 rfl rfl) rfl rfl hx hd kk
theorem fg_He_68 (hC : tv_Cx κ "TiedViews$Hearsay" cc nL d) (hk : (tv_lay[k]?).map Prod.fst = some 2) (hd : decode cc pc = .ok (.getfield 68, 3)) (kk : tv_G κ nL Q (pc + 3) ls (.int (M.1 k 7) :: st) M o) : tv_G κ nL Q pc ls (.ref (κ.b + k) :: st) M o := g_getI hC 2 7 hk rfl rfl rfl (tv_t1 181 rfl rfl) hd kk
theorem fg_He_77 (hC : tv_Cx κ "TiedViews$Hearsay" cc nL d) (hk : (tv_lay[k]?).map Prod.fst = some 2) (hd : decode cc pc = .ok (.getfield 77, 3)) (kk : tv_G κ nL Q (pc + 3) ls (.int (M.1 k 4) :: st) M o) : tv_G κ nL Q pc ls (.ref (κ.b + k) :: st) M o := g_getI hC 2 4 hk rfl rfl rfl (tv_t1 168 rfl rfl) hd kk
theorem fg_He_80 (hC : tv_Cx κ "TiedViews$Hearsay" cc nL d) (hk : (tv_lay[k]?).map Prod.fst = some 2) (hd : decode cc pc = .ok (.getfield 80, 3)) {p : Nat} (hp : tv_P0 k 1 = some p) (kk : tv_G κ nL Q (pc + 3) ls (.ref (κ.b + p) :: st) M o) : tv_G κ nL Q pc ls (.ref (κ.b + k) :: st) M o := g_getP hC 2 1 hk rfl rfl rfl (tv_t1 158 rfl rfl) hd hp kk
theorem fg_He_84 (hC : tv_Cx κ "TiedViews$Hearsay" cc nL d) (hk : (tv_lay[k]?).map Prod.fst = some 3) (hd : decode cc pc = .ok (.getfield 84, 3)) (kk : tv_G κ nL Q (pc + 3) ls (.int (M.1 k 1) :: st) M o) : tv_G κ nL Q pc ls (.ref (κ.b + k) :: st) M o := g_getI hC 3 1 hk rfl rfl rfl (tv_t1 76 rfl rfl) hd kk
theorem fg_He_93 (hC : tv_Cx κ "TiedViews$Hearsay" cc nL d) (hk : (tv_lay[k]?).map Prod.fst = some 3) (hd : decode cc pc = .ok (.getfield 93, 3)) (kk : tv_G κ nL Q (pc + 3) ls (.int (M.1 k 0) :: st) M o) : tv_G κ nL Q pc ls (.ref (κ.b + k) :: st) M o := g_getI hC 3 0 hk rfl rfl rfl (tv_t1 72 rfl rfl) hd kk
theorem fg_He_110 (hC : tv_Cx κ "TiedViews$Hearsay" cc nL d) (hk : (tv_lay[k]?).map Prod.fst = some 3) (hd : decode cc pc = .ok (.getfield 110, 3)) (kk : tv_G κ nL Q (pc + 3) ls (.int (M.1 k 2) :: st) M o) : tv_G κ nL Q pc ls (.ref (κ.b + k) :: st) M o := g_getI hC 3 2 hk rfl rfl rfl (tv_t1 81 rfl rfl) hd kk
theorem fg_He_113 (hC : tv_Cx κ "TiedViews$Hearsay" cc nL d) (hk : (tv_lay[k]?).map Prod.fst = some 3) (hd : decode cc pc = .ok (.getfield 113, 3)) (kk : tv_G κ nL Q (pc + 3) ls (.int (M.1 k 3) :: st) M o) : tv_G κ nL Q pc ls (.ref (κ.b + k) :: st) M o := g_getI hC 3 3 hk rfl rfl rfl (tv_t1 89 rfl rfl) hd kk
theorem fg_He_116 (hC : tv_Cx κ "TiedViews$Hearsay" cc nL d) (hk : (tv_lay[k]?).map Prod.fst = some 2) (hd : decode cc pc = .ok (.getfield 116, 3)) (kk : tv_G κ nL Q (pc + 3) ls (.int (M.1 k 0) :: st) M o) : tv_G κ nL Q pc ls (.ref (κ.b + k) :: st) M o := g_getI hC 2 0 hk rfl rfl rfl (tv_t1 155 rfl rfl) hd kk
theorem fg_He_126 (hC : tv_Cx κ "TiedViews$Hearsay" cc nL d) (hk : (tv_lay[k]?).map Prod.fst = some 9) (hd : decode cc pc = .ok (.getfield 126, 3)) (kk : tv_G κ nL Q (pc + 3) ls (.int (M.1 k 11) :: st) M o) : tv_G κ nL Q pc ls (.ref (κ.b + k) :: st) M o := g_getI hC 9 11 hk rfl rfl rfl (tv_t2 141 rfl rfl) hd kk
theorem fp_He_126 {f : tv_M → Option (β × tv_M)} (hC : tv_Cx κ "TiedViews$Hearsay" cc nL d) (hk : (tv_lay[k]?).map Prod.fst = some 9) (hx : x = 0 ∨ x = 1) (hd : decode cc pc = .ok (.putfield 126, 3)) (kk : ∀ M1, tv_G κ nL Q (pc + 3) ls st M1 (f M1)) : tv_G κ nL Q pc ls (.int x :: .ref (κ.b + k) :: st) M (tv_pf M k 11 x f) := gv_putZ hC 9 11 hk rfl rfl rfl (tv_t2 141 rfl rfl) rfl rfl hx hd kk
theorem fp_He_137 {f : tv_M → Option (β × tv_M)} (hC : tv_Cx κ "TiedViews$Hearsay" cc nL d) (hk : (tv_lay[k]?).map Prod.fst = some 9) (hd : decode cc pc = .ok (.putfield 137, 3)) (kk : ∀ M1, tv_G κ nL Q (pc + 3) ls st M1 (f M1)) : tv_G κ nL Q pc ls (.int x :: .ref (κ.b + k) :: st) M (tv_pf M k 9 x f) := gv_putI hC 9 9 hk rfl rfl rfl (tv_t2 137 rfl rfl) rfl rfl hd kk
theorem fp_He_140 {f : tv_M → Option (β × tv_M)} (hC : tv_Cx κ "TiedViews$Hearsay" cc nL d) (hk : (tv_lay[k]?).map Prod.fst = some 9) (hd : decode cc pc = .ok (.putfield 140, 3)) (kk : ∀ M1, tv_G κ nL Q (pc + 3) ls st M1 (f M1)) : tv_G κ nL Q pc ls (.int x :: .ref (κ.b + k) :: st) M (tv_pf M k 10 x f) := gv_putI hC 9 10 hk rfl rfl rfl (tv_t2 139 rfl rfl) rfl rfl hd kk
theorem fg_Re_9 (hC : tv_Cx κ "TiedViews$Reader" cc nL d) (hk : (tv_lay[k]?).map Prod.fst = some 5) (hd : decode cc pc = .ok (.getfield 9, 3)) {p : Nat} (hp : tv_P0 k 1 = some p) (kk : tv_G κ nL Q (pc + 3) ls (.ref (κ.b + p) :: st) M o) : tv_G κ nL Q pc ls (.ref (κ.b + k) :: st) M o := g_getP hC 5 1 hk rfl rfl rfl (tv_t1 227 rfl rfl) hd hp kk
theorem fg_Re_15 (hC : tv_Cx κ "TiedViews$Reader" cc nL d) (hk : (tv_lay[k]?).map Prod.fst = some 5) (hd : decode cc pc = .ok (.getfield 15, 3)) {p : Nat} (hp : tv_P0 k 0 = some p) (kk : tv_G κ nL Q (pc + 3) ls (.ref (κ.b + p) :: st) M o) : tv_G κ nL Q pc ls (.ref (κ.b + k) :: st) M o := g_getP hC 5 0 hk rfl rfl rfl (tv_t1 226 rfl rfl) hd hp kk
theorem fg_Re_19 (hC : tv_Cx κ "TiedViews$Reader" cc nL d) (hk : (tv_lay[k]?).map Prod.fst = some 5) (hd : decode cc pc = .ok (.getfield 19, 3)) (kk : tv_G κ nL Q (pc + 3) ls (.int (M.1 k 2) :: st) M o) : tv_G κ nL Q pc ls (.ref (κ.b + k) :: st) M o := g_getI hC 5 2 hk rfl rfl rfl (tv_t1 228 rfl rfl) hd kk
theorem fp_Re_19 {f : tv_M → Option (β × tv_M)} (hC : tv_Cx κ "TiedViews$Reader" cc nL d) (hk : (tv_lay[k]?).map Prod.fst = some 5) (hd : decode cc pc = .ok (.putfield 19, 3)) (kk : ∀ M1, tv_G κ nL Q (pc + 3) ls st M1 (f M1)) : tv_G κ nL Q pc ls (.int x :: .ref (κ.b + k) :: st) M (tv_pf M k 2 x f) := gv_putI hC 5 2 hk rfl rfl rfl (tv_t1 228 rfl rfl) rfl rfl hd kk
theorem fg_Re_28 (hC : tv_Cx κ "TiedViews$Reader" cc nL d) (hk : (tv_lay[k]?).map Prod.fst = some 5) (hd : decode cc pc = .ok (.getfield 28, 3)) (kk : tv_G κ nL Q (pc + 3) ls (.int (M.1 k 6) :: st) M o) : tv_G κ nL Q pc ls (.ref (κ.b + k) :: st) M o := g_getI hC 5 6 hk rfl rfl rfl (tv_t1 234 rfl rfl) hd kk
theorem fp_Re_28 {f : tv_M → Option (β × tv_M)} (hC : tv_Cx κ "TiedViews$Reader" cc nL d) (hk : (tv_lay[k]?).map Prod.fst = some 5) (hd : decode cc pc = .ok (.putfield 28, 3)) (kk : ∀ M1, tv_G κ nL Q (pc + 3) ls st M1 (f M1)) : tv_G κ nL Q pc ls (.int x :: .ref (κ.b + k) :: st) M (tv_pf M k 6 x f) := gv_putI hC 5 6 hk rfl rfl rfl (tv_t1 234 rfl rfl) rfl rfl hd kk
theorem fg_Re_34 (hC : tv_Cx κ "TiedViews$Reader" cc nL d) (hk : (tv_lay[k]?).map Prod.fst = some 5) (hd : decode cc pc = .ok (.getfield 34, 3)) (kk : tv_G κ nL Q (pc + 3) ls (.int (M.1 k 4) :: st) M o) : tv_G κ nL Q pc ls (.ref (κ.b + k) :: st) M o := g_getI hC 5 4 hk rfl rfl rfl (tv_t1 232 rfl rfl) hd kk
theorem fp_Re_34 {f : tv_M → Option (β × tv_M)} (hC : tv_Cx κ "TiedViews$Reader" cc nL d) (hk : (tv_lay[k]?).map Prod.fst = some 5) (hd : decode cc pc = .ok (.putfield 34, 3)) (kk : ∀ M1, tv_G κ nL Q (pc + 3) ls st M1 (f M1)) : tv_G κ nL Q pc ls (.int x :: .ref (κ.b + k) :: st) M (tv_pf M k 4 x f) := gv_putI hC 5 4 hk rfl rfl rfl (tv_t1 232 rfl rfl) rfl rfl hd kk
theorem fg_Re_44 (hC : tv_Cx κ "TiedViews$Reader" cc nL d) (hk : (tv_lay[k]?).map Prod.fst = some 5) (hd : decode cc pc = .ok (.getfield 44, 3)) (kk : tv_G κ nL Q (pc + 3) ls (.int (M.1 k 5) :: st) M o) : tv_G κ nL Q pc ls (.ref (κ.b + k) :: st) M o := g_getI hC 5 5 hk rfl rfl rfl (tv_t1 233 rfl rfl) hd kk
theorem fp_Re_44 {f : tv_M → Option (β × tv_M)} (hC : tv_Cx κ "TiedViews$Reader" cc nL d) (hk : (tv_lay[k]?).map Prod.fst = some 5) (hd : decode cc pc = .ok (.putfield 44, 3)) (kk : ∀ M1, tv_G κ nL Q (pc + 3) ls st M1 (f M1)) : tv_G κ nL Q pc ls (.int x :: .ref (κ.b + k) :: st) M (tv_pf M k 5 x f) := gv_putI hC 5 5 hk rfl rfl rfl (tv_t1 233 rfl rfl) rfl rfl hd kk
theorem fp_Re_47 {f : tv_M → Option (β × tv_M)} (hC : tv_Cx κ "TiedViews$Reader" cc nL d) (hk : (tv_lay[k]?).map Prod.fst = some 5) (hd : decode cc pc = .ok (.putfield 47, 3)) (kk : ∀ M1, tv_G κ nL Q (pc + 3) ls st M1 (f M1)) : tv_G κ nL Q pc ls (.int x :: .ref (κ.b + k) :: st) M (tv_pf M k 3 x f) := gv_putI hC 5 3 hk rfl rfl rfl (tv_t1 230 rfl rfl) rfl rfl hd kk
theorem fg_Re_58 (hC : tv_Cx κ "TiedViews$Reader" cc nL d) (hk : (tv_lay[k]?).map Prod.fst = some 5) (hd : decode cc pc = .ok (.getfield 58, 3)) (kk : tv_G κ nL Q (pc + 3) ls (.int (M.1 k 7) :: st) M o) : tv_G κ nL Q pc ls (.ref (κ.b + k) :: st) M o := g_getI hC 5 7 hk rfl rfl rfl (tv_t1 235 rfl rfl) hd kk
theorem fp_Re_58 {f : tv_M → Option (β × tv_M)} (hC : tv_Cx κ "TiedViews$Reader" cc nL d) (hk : (tv_lay[k]?).map Prod.fst = some 5) (hd : decode cc pc = .ok (.putfield 58, 3)) (kk : ∀ M1, tv_G κ nL Q (pc + 3) ls st M1 (f M1)) : tv_G κ nL Q pc ls (.int x :: .ref (κ.b + k) :: st) M (tv_pf M k 7 x f) := gv_putI hC 5 7 hk rfl rfl rfl (tv_t1 235 rfl rfl) rfl rfl hd kk
theorem fg_Re_92 (hC : tv_Cx κ "TiedViews$Reader" cc nL d) (hk : (tv_lay[k]?).map Prod.fst = some 2) (hd : decode cc pc = .ok (.getfield 92, 3)) (kk : tv_G κ nL Q (pc + 3) ls (.int (M.1 k 4) :: st) M o) : tv_G κ nL Q pc ls (.ref (κ.b + k) :: st) M o := g_getI hC 2 4 hk rfl rfl rfl (tv_t1 170 rfl rfl) hd kk
theorem fg_Re_98 (hC : tv_Cx κ "TiedViews$Reader" cc nL d) (hk : (tv_lay[k]?).map Prod.fst = some 5) (hd : decode cc pc = .ok (.getfield 98, 3)) (kk : tv_G κ nL Q (pc + 3) ls (.int (M.1 k 8) :: st) M o) : tv_G κ nL Q pc ls (.ref (κ.b + k) :: st) M o := g_getI hC 5 8 hk rfl rfl rfl (tv_t1 236 rfl rfl) hd kk
theorem fp_Re_98 {f : tv_M → Option (β × tv_M)} (hC : tv_Cx κ "TiedViews$Reader" cc nL d) (hk : (tv_lay[k]?).map Prod.fst = some 5) (hd : decode cc pc = .ok (.putfield 98, 3)) (kk : ∀ M1, tv_G κ nL Q (pc + 3) ls st M1 (f M1)) : tv_G κ nL Q pc ls (.int x :: .ref (κ.b + k) :: st) M (tv_pf M k 8 x f) := gv_putI hC 5 8 hk rfl rfl rfl (tv_t1 236 rfl rfl) rfl rfl hd kk
theorem fg_Re_121 (hC : tv_Cx κ "TiedViews$Reader" cc nL d) (hk : (tv_lay[k]?).map Prod.fst = some 4) (hd : decode cc pc = .ok (.getfield 121, 3)) (kk : tv_G κ nL Q (pc + 3) ls (.int (M.1 k 2) :: st) M o) : tv_G κ nL Q pc ls (.ref (κ.b + k) :: st) M o := g_getI hC 4 2 hk rfl rfl rfl (tv_t1 133 rfl rfl) hd kk
theorem fp_Re_121 {f : tv_M → Option (β × tv_M)} (hC : tv_Cx κ "TiedViews$Reader" cc nL d) (hk : (tv_lay[k]?).map Prod.fst = some 4) (hd : decode cc pc = .ok (.putfield 121, 3)) (kk : ∀ M1, tv_G κ nL Q (pc + 3) ls st M1 (f M1)) : tv_G κ nL Q pc ls (.int x :: .ref (κ.b + k) :: st) M (tv_pf M k 2 x f) := gv_putI hC 4 2 hk rfl rfl rfl (tv_t1 133 rfl rfl) rfl rfl hd kk
theorem fg_Re_131 (hC : tv_Cx κ "TiedViews$Reader" cc nL d) (hk : (tv_lay[k]?).map Prod.fst = some 4) (hd : decode cc pc = .ok (.getfield 131, 3)) (kk : tv_G κ nL Q (pc + 3) ls (.int (M.1 k 0) :: st) M o) : tv_G κ nL Q pc ls (.ref (κ.b + k) :: st) M o := g_getI hC 4 0 hk rfl rfl rfl (tv_t1 127 rfl rfl) hd kk
theorem fp_Re_131 {f : tv_M → Option (β × tv_M)} (hC : tv_Cx κ "TiedViews$Reader" cc nL d) (hk : (tv_lay[k]?).map Prod.fst = some 4) (hd : decode cc pc = .ok (.putfield 131, 3)) (kk : ∀ M1, tv_G κ nL Q (pc + 3) ls st M1 (f M1)) : tv_G κ nL Q pc ls (.int x :: .ref (κ.b + k) :: st) M (tv_pf M k 0 x f) := gv_putI hC 4 0 hk rfl rfl rfl (tv_t1 127 rfl rfl) rfl rfl hd kk
theorem fg_Re_140 (hC : tv_Cx κ "TiedViews$Reader" cc nL d) (hk : (tv_lay[k]?).map Prod.fst = some 4) (hd : decode cc pc = .ok (.getfield 140, 3)) (kk : tv_G κ nL Q (pc + 3) ls (.int (M.1 k 1) :: st) M o) : tv_G κ nL Q pc ls (.ref (κ.b + k) :: st) M o := g_getI hC 4 1 hk rfl rfl rfl (tv_t1 130 rfl rfl) hd kk
theorem fp_Re_140 {f : tv_M → Option (β × tv_M)} (hC : tv_Cx κ "TiedViews$Reader" cc nL d) (hk : (tv_lay[k]?).map Prod.fst = some 4) (hd : decode cc pc = .ok (.putfield 140, 3)) (kk : ∀ M1, tv_G κ nL Q (pc + 3) ls st M1 (f M1)) : tv_G κ nL Q pc ls (.int x :: .ref (κ.b + k) :: st) M (tv_pf M k 1 x f) := gv_putI hC 4 1 hk rfl rfl rfl (tv_t1 130 rfl rfl) rfl rfl hd kk
theorem fg_Re_159 (hC : tv_Cx κ "TiedViews$Reader" cc nL d) (hk : (tv_lay[k]?).map Prod.fst = some 3) (hd : decode cc pc = .ok (.getfield 159, 3)) (kk : tv_G κ nL Q (pc + 3) ls (.int (M.1 k 2) :: st) M o) : tv_G κ nL Q pc ls (.ref (κ.b + k) :: st) M o := g_getI hC 3 2 hk rfl rfl rfl (tv_t1 85 rfl rfl) hd kk
theorem fg_Re_164 (hC : tv_Cx κ "TiedViews$Reader" cc nL d) (hk : (tv_lay[k]?).map Prod.fst = some 2) (hd : decode cc pc = .ok (.getfield 164, 3)) (kk : tv_G κ nL Q (pc + 3) ls (.int (M.1 k 0) :: st) M o) : tv_G κ nL Q pc ls (.ref (κ.b + k) :: st) M o := g_getI hC 2 0 hk rfl rfl rfl (tv_t1 156 rfl rfl) hd kk
theorem fg_Re_167 (hC : tv_Cx κ "TiedViews$Reader" cc nL d) (hk : (tv_lay[k]?).map Prod.fst = some 2) (hd : decode cc pc = .ok (.getfield 167, 3)) (kk : tv_G κ nL Q (pc + 3) ls (.int (M.1 k 6) :: st) M o) : tv_G κ nL Q pc ls (.ref (κ.b + k) :: st) M o := g_getI hC 2 6 hk rfl rfl rfl (tv_t1 177 rfl rfl) hd kk
theorem fg_Sh_11 (hC : tv_Cx κ "TiedViews$Sheet" cc nL d) (hk : (tv_lay[k]?).map Prod.fst = some 1) (hd : decode cc pc = .ok (.getfield 11, 3)) (kk : tv_G κ nL Q (pc + 3) ls (.int (M.1 k 0) :: st) M o) : tv_G κ nL Q pc ls (.ref (κ.b + k) :: st) M o := g_getI hC 1 0 hk rfl rfl rfl (tv_t1 40 rfl rfl) hd kk
theorem fp_Sh_11 {f : tv_M → Option (β × tv_M)} (hC : tv_Cx κ "TiedViews$Sheet" cc nL d) (hk : (tv_lay[k]?).map Prod.fst = some 1) (hd : decode cc pc = .ok (.putfield 11, 3)) (kk : ∀ M1, tv_G κ nL Q (pc + 3) ls st M1 (f M1)) : tv_G κ nL Q pc ls (.int x :: .ref (κ.b + k) :: st) M (tv_pf M k 0 x f) := gv_putI hC 1 0 hk rfl rfl rfl (tv_t1 40 rfl rfl) rfl rfl hd kk
theorem fg_Sh_15 (hC : tv_Cx κ "TiedViews$Sheet" cc nL d) (hk : (tv_lay[k]?).map Prod.fst = some 1) (hd : decode cc pc = .ok (.getfield 15, 3)) {p : Nat} (hp : tv_P0 k 2 = some p) (kk : tv_G κ nL Q (pc + 3) ls (.ref (κ.b + p) :: st) M o) : tv_G κ nL Q pc ls (.ref (κ.b + k) :: st) M o := g_getP hC 1 2 hk rfl rfl rfl (tv_t1 44 rfl rfl) hd hp kk
theorem fg_Sh_19 (hC : tv_Cx κ "TiedViews$Sheet" cc nL d) (hk : (tv_lay[k]?).map Prod.fst = some 1) (hd : decode cc pc = .ok (.getfield 19, 3)) (kk : tv_G κ nL Q (pc + 3) ls (.int (M.1 k 1) :: st) M o) : tv_G κ nL Q pc ls (.ref (κ.b + k) :: st) M o := g_getI hC 1 1 hk rfl rfl rfl (tv_t1 42 rfl rfl) hd kk
theorem fp_Sh_19 {f : tv_M → Option (β × tv_M)} (hC : tv_Cx κ "TiedViews$Sheet" cc nL d) (hk : (tv_lay[k]?).map Prod.fst = some 1) (hd : decode cc pc = .ok (.putfield 19, 3)) (kk : ∀ M1, tv_G κ nL Q (pc + 3) ls st M1 (f M1)) : tv_G κ nL Q pc ls (.int x :: .ref (κ.b + k) :: st) M (tv_pf M k 1 x f) := gv_putI hC 1 1 hk rfl rfl rfl (tv_t1 42 rfl rfl) rfl rfl hd kk
theorem fg_St_9 (hC : tv_Cx κ "TiedViews$Steps" cc nL d) (hk : (tv_lay[k]?).map Prod.fst = some 7) (hd : decode cc pc = .ok (.getfield 9, 3)) {p : Nat} (hp : tv_P0 k 3 = some p) (kk : tv_G κ nL Q (pc + 3) ls (.ref (κ.b + p) :: st) M o) : tv_G κ nL Q pc ls (.ref (κ.b + k) :: st) M o := g_getP hC 7 3 hk rfl rfl rfl (tv_t2 34 rfl rfl) hd hp kk
theorem fg_St_15 (hC : tv_Cx κ "TiedViews$Steps" cc nL d) (hk : (tv_lay[k]?).map Prod.fst = some 7) (hd : decode cc pc = .ok (.getfield 15, 3)) {p : Nat} (hp : tv_P0 k 4 = some p) (kk : tv_G κ nL Q (pc + 3) ls (.ref (κ.b + p) :: st) M o) : tv_G κ nL Q pc ls (.ref (κ.b + k) :: st) M o := g_getP hC 7 4 hk rfl rfl rfl (tv_t2 35 rfl rfl) hd hp kk
theorem fg_St_18 (hC : tv_Cx κ "TiedViews$Steps" cc nL d) (hk : (tv_lay[k]?).map Prod.fst = some 7) (hd : decode cc pc = .ok (.getfield 18, 3)) (kk : tv_G κ nL Q (pc + 3) ls (.int (M.1 k 0) :: st) M o) : tv_G κ nL Q pc ls (.ref (κ.b + k) :: st) M o := g_getI hC 7 0 hk rfl rfl rfl (tv_t2 31 rfl rfl) hd kk
theorem fg_St_22 (hC : tv_Cx κ "TiedViews$Steps" cc nL d) (hk : (tv_lay[k]?).map Prod.fst = some 7) (hd : decode cc pc = .ok (.getfield 22, 3)) (kk : tv_G κ nL Q (pc + 3) ls (.int (M.1 k 1) :: st) M o) : tv_G κ nL Q pc ls (.ref (κ.b + k) :: st) M o := g_getI hC 7 1 hk rfl rfl rfl (tv_t2 32 rfl rfl) hd kk
theorem fg_St_27 (hC : tv_Cx κ "TiedViews$Steps" cc nL d) (hk : (tv_lay[k]?).map Prod.fst = some 7) (hd : decode cc pc = .ok (.getfield 27, 3)) {p : Nat} (hp : tv_P0 k 2 = some p) (kk : tv_G κ nL Q (pc + 3) ls (.ref (κ.b + p) :: st) M o) : tv_G κ nL Q pc ls (.ref (κ.b + k) :: st) M o := g_getP hC 7 2 hk rfl rfl rfl (tv_t2 33 rfl rfl) hd hp kk
theorem fg_St_30 (hC : tv_Cx κ "TiedViews$Steps" cc nL d) (hk : (tv_lay[k]?).map Prod.fst = some 7) (hd : decode cc pc = .ok (.getfield 30, 3)) {p : Nat} (hp : tv_P0 k 5 = some p) (kk : tv_G κ nL Q (pc + 3) ls (.ref (κ.b + p) :: st) M o) : tv_G κ nL Q pc ls (.ref (κ.b + k) :: st) M o := g_getP hC 7 5 hk rfl rfl rfl (tv_t2 36 rfl rfl) hd hp kk
theorem fg_St_39 (hC : tv_Cx κ "TiedViews$Steps" cc nL d) (hk : (tv_lay[k]?).map Prod.fst = some 7) (hd : decode cc pc = .ok (.getfield 39, 3)) (kk : tv_G κ nL Q (pc + 3) ls (.int (M.1 k 7) :: st) M o) : tv_G κ nL Q pc ls (.ref (κ.b + k) :: st) M o := g_getI hC 7 7 hk rfl rfl rfl (tv_t2 39 rfl rfl) hd kk
theorem fp_St_39 {f : tv_M → Option (β × tv_M)} (hC : tv_Cx κ "TiedViews$Steps" cc nL d) (hk : (tv_lay[k]?).map Prod.fst = some 7) (hd : decode cc pc = .ok (.putfield 39, 3)) (kk : ∀ M1, tv_G κ nL Q (pc + 3) ls st M1 (f M1)) : tv_G κ nL Q pc ls (.int x :: .ref (κ.b + k) :: st) M (tv_pf M k 7 x f) := gv_putI hC 7 7 hk rfl rfl rfl (tv_t2 39 rfl rfl) rfl rfl hd kk
theorem fg_St_42 (hC : tv_Cx κ "TiedViews$Steps" cc nL d) (hk : (tv_lay[k]?).map Prod.fst = some 7) (hd : decode cc pc = .ok (.getfield 42, 3)) (kk : tv_G κ nL Q (pc + 3) ls (.int (M.1 k 10) :: st) M o) : tv_G κ nL Q pc ls (.ref (κ.b + k) :: st) M o := g_getI hC 7 10 hk rfl rfl rfl (tv_t2 43 rfl rfl) hd kk
theorem fp_St_42 {f : tv_M → Option (β × tv_M)} (hC : tv_Cx κ "TiedViews$Steps" cc nL d) (hk : (tv_lay[k]?).map Prod.fst = some 7) (hd : decode cc pc = .ok (.putfield 42, 3)) (kk : ∀ M1, tv_G κ nL Q (pc + 3) ls st M1 (f M1)) : tv_G κ nL Q pc ls (.int x :: .ref (κ.b + k) :: st) M (tv_pf M k 10 x f) := gv_putI hC 7 10 hk rfl rfl rfl (tv_t2 43 rfl rfl) rfl rfl hd kk
theorem fg_St_45 (hC : tv_Cx κ "TiedViews$Steps" cc nL d) (hk : (tv_lay[k]?).map Prod.fst = some 7) (hd : decode cc pc = .ok (.getfield 45, 3)) (kk : tv_G κ nL Q (pc + 3) ls (.int (M.1 k 6) :: st) M o) : tv_G κ nL Q pc ls (.ref (κ.b + k) :: st) M o := g_getI hC 7 6 hk rfl rfl rfl (tv_t2 37 rfl rfl) hd kk
theorem fp_St_45 {f : tv_M → Option (β × tv_M)} (hC : tv_Cx κ "TiedViews$Steps" cc nL d) (hk : (tv_lay[k]?).map Prod.fst = some 7) (hd : decode cc pc = .ok (.putfield 45, 3)) (kk : ∀ M1, tv_G κ nL Q (pc + 3) ls st M1 (f M1)) : tv_G κ nL Q pc ls (.int x :: .ref (κ.b + k) :: st) M (tv_pf M k 6 x f) := gv_putI hC 7 6 hk rfl rfl rfl (tv_t2 37 rfl rfl) rfl rfl hd kk
theorem fg_St_48 (hC : tv_Cx κ "TiedViews$Steps" cc nL d) (hk : (tv_lay[k]?).map Prod.fst = some 7) (hd : decode cc pc = .ok (.getfield 48, 3)) (kk : tv_G κ nL Q (pc + 3) ls (.int (M.1 k 8) :: st) M o) : tv_G κ nL Q pc ls (.ref (κ.b + k) :: st) M o := g_getI hC 7 8 hk rfl rfl rfl (tv_t2 40 rfl rfl) hd kk
theorem fp_St_48 {f : tv_M → Option (β × tv_M)} (hC : tv_Cx κ "TiedViews$Steps" cc nL d) (hk : (tv_lay[k]?).map Prod.fst = some 7) (hd : decode cc pc = .ok (.putfield 48, 3)) (kk : ∀ M1, tv_G κ nL Q (pc + 3) ls st M1 (f M1)) : tv_G κ nL Q pc ls (.int x :: .ref (κ.b + k) :: st) M (tv_pf M k 8 x f) := gv_putI hC 7 8 hk rfl rfl rfl (tv_t2 40 rfl rfl) rfl rfl hd kk
theorem fg_St_51 (hC : tv_Cx κ "TiedViews$Steps" cc nL d) (hk : (tv_lay[k]?).map Prod.fst = some 7) (hd : decode cc pc = .ok (.getfield 51, 3)) (kk : tv_G κ nL Q (pc + 3) ls (.int (M.1 k 9) :: st) M o) : tv_G κ nL Q pc ls (.ref (κ.b + k) :: st) M o := g_getI hC 7 9 hk rfl rfl rfl (tv_t2 42 rfl rfl) hd kk
theorem fp_St_51 {f : tv_M → Option (β × tv_M)} (hC : tv_Cx κ "TiedViews$Steps" cc nL d) (hk : (tv_lay[k]?).map Prod.fst = some 7) (hd : decode cc pc = .ok (.putfield 51, 3)) (kk : ∀ M1, tv_G κ nL Q (pc + 3) ls st M1 (f M1)) : tv_G κ nL Q pc ls (.int x :: .ref (κ.b + k) :: st) M (tv_pf M k 9 x f) := gv_putI hC 7 9 hk rfl rfl rfl (tv_t2 42 rfl rfl) rfl rfl hd kk
theorem fg_Ti_9 (hC : tv_Cx κ "TiedViews$Tie" cc nL d) (hk : (tv_lay[k]?).map Prod.fst = some 4) (hd : decode cc pc = .ok (.getfield 9, 3)) {p : Nat} (hp : tv_P0 k 3 = some p) (kk : tv_G κ nL Q (pc + 3) ls (.ref (κ.b + p) :: st) M o) : tv_G κ nL Q pc ls (.ref (κ.b + k) :: st) M o := g_getP hC 4 3 hk rfl rfl rfl (tv_t1 136 rfl rfl) hd hp kk
theorem fg_Ti_15 (hC : tv_Cx κ "TiedViews$Tie" cc nL d) (hk : (tv_lay[k]?).map Prod.fst = some 4) (hd : decode cc pc = .ok (.getfield 15, 3)) {p : Nat} (hp : tv_P0 k 4 = some p) (kk : tv_G κ nL Q (pc + 3) ls (.ref (κ.b + p) :: st) M o) : tv_G κ nL Q pc ls (.ref (κ.b + k) :: st) M o := g_getP hC 4 4 hk rfl rfl rfl (tv_t1 138 rfl rfl) hd hp kk
theorem fg_Ti_18 (hC : tv_Cx κ "TiedViews$Tie" cc nL d) (hk : (tv_lay[k]?).map Prod.fst = some 4) (hd : decode cc pc = .ok (.getfield 18, 3)) (kk : tv_G κ nL Q (pc + 3) ls (.int (M.1 k 0) :: st) M o) : tv_G κ nL Q pc ls (.ref (κ.b + k) :: st) M o := g_getI hC 4 0 hk rfl rfl rfl (tv_t1 126 rfl rfl) hd kk
theorem fg_Ti_22 (hC : tv_Cx κ "TiedViews$Tie" cc nL d) (hk : (tv_lay[k]?).map Prod.fst = some 4) (hd : decode cc pc = .ok (.getfield 22, 3)) (kk : tv_G κ nL Q (pc + 3) ls (.int (M.1 k 1) :: st) M o) : tv_G κ nL Q pc ls (.ref (κ.b + k) :: st) M o := g_getI hC 4 1 hk rfl rfl rfl (tv_t1 129 rfl rfl) hd kk
theorem fg_To_11 (hC : tv_Cx κ "TiedViews$Told" cc nL d) (hk : (tv_lay[k]?).map Prod.fst = some 2) (hd : decode cc pc = .ok (.getfield 11, 3)) {p : Nat} (hp : tv_P0 k 1 = some p) (kk : tv_G κ nL Q (pc + 3) ls (.ref (κ.b + p) :: st) M o) : tv_G κ nL Q pc ls (.ref (κ.b + k) :: st) M o := g_getP hC 2 1 hk rfl rfl rfl (tv_t1 157 rfl rfl) hd hp kk
theorem fg_To_19 (hC : tv_Cx κ "TiedViews$Told" cc nL d) (hk : (tv_lay[k]?).map Prod.fst = some 2) (hd : decode cc pc = .ok (.getfield 19, 3)) {p : Nat} (hp : tv_P0 k 2 = some p) (kk : tv_G κ nL Q (pc + 3) ls (.ref (κ.b + p) :: st) M o) : tv_G κ nL Q pc ls (.ref (κ.b + k) :: st) M o := g_getP hC 2 2 hk rfl rfl rfl (tv_t1 161 rfl rfl) hd hp kk
theorem fg_To_23 (hC : tv_Cx κ "TiedViews$Told" cc nL d) (hk : (tv_lay[k]?).map Prod.fst = some 2) (hd : decode cc pc = .ok (.getfield 23, 3)) {p : Nat} (hp : tv_P0 k 3 = some p) (kk : tv_G κ nL Q (pc + 3) ls (.ref (κ.b + p) :: st) M o) : tv_G κ nL Q pc ls (.ref (κ.b + k) :: st) M o := g_getP hC 2 3 hk rfl rfl rfl (tv_t1 163 rfl rfl) hd hp kk
theorem fg_To_27 (hC : tv_Cx κ "TiedViews$Told" cc nL d) (hk : (tv_lay[k]?).map Prod.fst = some 2) (hd : decode cc pc = .ok (.getfield 27, 3)) (kk : tv_G κ nL Q (pc + 3) ls (.int (M.1 k 0) :: st) M o) : tv_G κ nL Q pc ls (.ref (κ.b + k) :: st) M o := g_getI hC 2 0 hk rfl rfl rfl (tv_t1 152 rfl rfl) hd kk
theorem fg_To_35 (hC : tv_Cx κ "TiedViews$Told" cc nL d) (hk : (tv_lay[k]?).map Prod.fst = some 2) (hd : decode cc pc = .ok (.getfield 35, 3)) (kk : tv_G κ nL Q (pc + 3) ls (.int (M.1 k 4) :: st) M o) : tv_G κ nL Q pc ls (.ref (κ.b + k) :: st) M o := g_getI hC 2 4 hk rfl rfl rfl (tv_t1 165 rfl rfl) hd kk
theorem fp_To_35 {f : tv_M → Option (β × tv_M)} (hC : tv_Cx κ "TiedViews$Told" cc nL d) (hk : (tv_lay[k]?).map Prod.fst = some 2) (hd : decode cc pc = .ok (.putfield 35, 3)) (kk : ∀ M1, tv_G κ nL Q (pc + 3) ls st M1 (f M1)) : tv_G κ nL Q pc ls (.int x :: .ref (κ.b + k) :: st) M (tv_pf M k 4 x f) := gv_putI hC 2 4 hk rfl rfl rfl (tv_t1 165 rfl rfl) rfl rfl hd kk
theorem fg_To_38 (hC : tv_Cx κ "TiedViews$Told" cc nL d) (hk : (tv_lay[k]?).map Prod.fst = some 2) (hd : decode cc pc = .ok (.getfield 38, 3)) (kk : tv_G κ nL Q (pc + 3) ls (.int (M.1 k 9) :: st) M o) : tv_G κ nL Q pc ls (.ref (κ.b + k) :: st) M o := g_getI hC 2 9 hk rfl rfl rfl (tv_t1 186 rfl rfl) hd kk
theorem fp_To_38 {f : tv_M → Option (β × tv_M)} (hC : tv_Cx κ "TiedViews$Told" cc nL d) (hk : (tv_lay[k]?).map Prod.fst = some 2) (hd : decode cc pc = .ok (.putfield 38, 3)) (kk : ∀ M1, tv_G κ nL Q (pc + 3) ls st M1 (f M1)) : tv_G κ nL Q pc ls (.int x :: .ref (κ.b + k) :: st) M (tv_pf M k 9 x f) := gv_putI hC 2 9 hk rfl rfl rfl (tv_t1 186 rfl rfl) rfl rfl hd kk
theorem fg_To_41 (hC : tv_Cx κ "TiedViews$Told" cc nL d) (hk : (tv_lay[k]?).map Prod.fst = some 2) (hd : decode cc pc = .ok (.getfield 41, 3)) (kk : tv_G κ nL Q (pc + 3) ls (.int (M.1 k 5) :: st) M o) : tv_G κ nL Q pc ls (.ref (κ.b + k) :: st) M o := g_getI hC 2 5 hk rfl rfl rfl (tv_t1 172 rfl rfl) hd kk
theorem fp_To_41 {f : tv_M → Option (β × tv_M)} (hC : tv_Cx κ "TiedViews$Told" cc nL d) (hk : (tv_lay[k]?).map Prod.fst = some 2) (hd : decode cc pc = .ok (.putfield 41, 3)) (kk : ∀ M1, tv_G κ nL Q (pc + 3) ls st M1 (f M1)) : tv_G κ nL Q pc ls (.int x :: .ref (κ.b + k) :: st) M (tv_pf M k 5 x f) := gv_putI hC 2 5 hk rfl rfl rfl (tv_t1 172 rfl rfl) rfl rfl hd kk
theorem fg_To_44 (hC : tv_Cx κ "TiedViews$Told" cc nL d) (hk : (tv_lay[k]?).map Prod.fst = some 2) (hd : decode cc pc = .ok (.getfield 44, 3)) (kk : tv_G κ nL Q (pc + 3) ls (.int (M.1 k 10) :: st) M o) : tv_G κ nL Q pc ls (.ref (κ.b + k) :: st) M o := g_getI hC 2 10 hk rfl rfl rfl (tv_t1 187 rfl rfl) hd kk
theorem fp_To_44 {f : tv_M → Option (β × tv_M)} (hC : tv_Cx κ "TiedViews$Told" cc nL d) (hk : (tv_lay[k]?).map Prod.fst = some 2) (hd : decode cc pc = .ok (.putfield 44, 3)) (kk : ∀ M1, tv_G κ nL Q (pc + 3) ls st M1 (f M1)) : tv_G κ nL Q pc ls (.int x :: .ref (κ.b + k) :: st) M (tv_pf M k 10 x f) := gv_putI hC 2 10 hk rfl rfl rfl (tv_t1 187 rfl rfl) rfl rfl hd kk
theorem fg_To_47 (hC : tv_Cx κ "TiedViews$Told" cc nL d) (hk : (tv_lay[k]?).map Prod.fst = some 2) (hd : decode cc pc = .ok (.getfield 47, 3)) (kk : tv_G κ nL Q (pc + 3) ls (.int (M.1 k 6) :: st) M o) : tv_G κ nL Q pc ls (.ref (κ.b + k) :: st) M o := g_getI hC 2 6 hk rfl rfl rfl (tv_t1 175 rfl rfl) hd kk
theorem fp_To_47 {f : tv_M → Option (β × tv_M)} (hC : tv_Cx κ "TiedViews$Told" cc nL d) (hk : (tv_lay[k]?).map Prod.fst = some 2) (hd : decode cc pc = .ok (.putfield 47, 3)) (kk : ∀ M1, tv_G κ nL Q (pc + 3) ls st M1 (f M1)) : tv_G κ nL Q pc ls (.int x :: .ref (κ.b + k) :: st) M (tv_pf M k 6 x f) := gv_putI hC 2 6 hk rfl rfl rfl (tv_t1 175 rfl rfl) rfl rfl hd kk
theorem fg_To_50 (hC : tv_Cx κ "TiedViews$Told" cc nL d) (hk : (tv_lay[k]?).map Prod.fst = some 2) (hd : decode cc pc = .ok (.getfield 50, 3)) (kk : tv_G κ nL Q (pc + 3) ls (.int (M.1 k 11) :: st) M o) : tv_G κ nL Q pc ls (.ref (κ.b + k) :: st) M o := g_getI hC 2 11 hk rfl rfl rfl (tv_t1 188 rfl rfl) hd kk
theorem fp_To_50 {f : tv_M → Option (β × tv_M)} (hC : tv_Cx κ "TiedViews$Told" cc nL d) (hk : (tv_lay[k]?).map Prod.fst = some 2) (hd : decode cc pc = .ok (.putfield 50, 3)) (kk : ∀ M1, tv_G κ nL Q (pc + 3) ls st M1 (f M1)) : tv_G κ nL Q pc ls (.int x :: .ref (κ.b + k) :: st) M (tv_pf M k 11 x f) := gv_putI hC 2 11 hk rfl rfl rfl (tv_t1 188 rfl rfl) rfl rfl hd kk
theorem fg_To_53 (hC : tv_Cx κ "TiedViews$Told" cc nL d) (hk : (tv_lay[k]?).map Prod.fst = some 2) (hd : decode cc pc = .ok (.getfield 53, 3)) (kk : tv_G κ nL Q (pc + 3) ls (.int (M.1 k 7) :: st) M o) : tv_G κ nL Q pc ls (.ref (κ.b + k) :: st) M o := g_getI hC 2 7 hk rfl rfl rfl (tv_t1 179 rfl rfl) hd kk
theorem fp_To_53 {f : tv_M → Option (β × tv_M)} (hC : tv_Cx κ "TiedViews$Told" cc nL d) (hk : (tv_lay[k]?).map Prod.fst = some 2) (hd : decode cc pc = .ok (.putfield 53, 3)) (kk : ∀ M1, tv_G κ nL Q (pc + 3) ls st M1 (f M1)) : tv_G κ nL Q pc ls (.int x :: .ref (κ.b + k) :: st) M (tv_pf M k 7 x f) := gv_putI hC 2 7 hk rfl rfl rfl (tv_t1 179 rfl rfl) rfl rfl hd kk
theorem fg_To_56 (hC : tv_Cx κ "TiedViews$Told" cc nL d) (hk : (tv_lay[k]?).map Prod.fst = some 2) (hd : decode cc pc = .ok (.getfield 56, 3)) (kk : tv_G κ nL Q (pc + 3) ls (.int (M.1 k 12) :: st) M o) : tv_G κ nL Q pc ls (.ref (κ.b + k) :: st) M o := g_getI hC 2 12 hk rfl rfl rfl (tv_t1 189 rfl rfl) hd kk
theorem fp_To_56 {f : tv_M → Option (β × tv_M)} (hC : tv_Cx κ "TiedViews$Told" cc nL d) (hk : (tv_lay[k]?).map Prod.fst = some 2) (hd : decode cc pc = .ok (.putfield 56, 3)) (kk : ∀ M1, tv_G κ nL Q (pc + 3) ls st M1 (f M1)) : tv_G κ nL Q pc ls (.int x :: .ref (κ.b + k) :: st) M (tv_pf M k 12 x f) := gv_putI hC 2 12 hk rfl rfl rfl (tv_t1 189 rfl rfl) rfl rfl hd kk
theorem fg_To_59 (hC : tv_Cx κ "TiedViews$Told" cc nL d) (hk : (tv_lay[k]?).map Prod.fst = some 2) (hd : decode cc pc = .ok (.getfield 59, 3)) (kk : tv_G κ nL Q (pc + 3) ls (.int (M.1 k 8) :: st) M o) : tv_G κ nL Q pc ls (.ref (κ.b + k) :: st) M o := g_getI hC 2 8 hk rfl rfl rfl (tv_t1 183 rfl rfl) hd kk
theorem fp_To_59 {f : tv_M → Option (β × tv_M)} (hC : tv_Cx κ "TiedViews$Told" cc nL d) (hk : (tv_lay[k]?).map Prod.fst = some 2) (hd : decode cc pc = .ok (.putfield 59, 3)) (kk : ∀ M1, tv_G κ nL Q (pc + 3) ls st M1 (f M1)) : tv_G κ nL Q pc ls (.int x :: .ref (κ.b + k) :: st) M (tv_pf M k 8 x f) := gv_putI hC 2 8 hk rfl rfl rfl (tv_t1 183 rfl rfl) rfl rfl hd kk
theorem fg_To_62 (hC : tv_Cx κ "TiedViews$Told" cc nL d) (hk : (tv_lay[k]?).map Prod.fst = some 2) (hd : decode cc pc = .ok (.getfield 62, 3)) (kk : tv_G κ nL Q (pc + 3) ls (.int (M.1 k 13) :: st) M o) : tv_G κ nL Q pc ls (.ref (κ.b + k) :: st) M o := g_getI hC 2 13 hk rfl rfl rfl (tv_t1 190 rfl rfl) hd kk
theorem fp_To_62 {f : tv_M → Option (β × tv_M)} (hC : tv_Cx κ "TiedViews$Told" cc nL d) (hk : (tv_lay[k]?).map Prod.fst = some 2) (hd : decode cc pc = .ok (.putfield 62, 3)) (kk : ∀ M1, tv_G κ nL Q (pc + 3) ls st M1 (f M1)) : tv_G κ nL Q pc ls (.int x :: .ref (κ.b + k) :: st) M (tv_pf M k 13 x f) := gv_putI hC 2 13 hk rfl rfl rfl (tv_t1 190 rfl rfl) rfl rfl hd kk
theorem fg_To_77 (hC : tv_Cx κ "TiedViews$Told" cc nL d) (hk : (tv_lay[k]?).map Prod.fst = some 3) (hd : decode cc pc = .ok (.getfield 77, 3)) (kk : tv_G κ nL Q (pc + 3) ls (.int (M.1 k 5) :: st) M o) : tv_G κ nL Q pc ls (.ref (κ.b + k) :: st) M o := g_getI hC 3 5 hk rfl rfl rfl (tv_t1 101 rfl rfl) hd kk
theorem fg_To_85 (hC : tv_Cx κ "TiedViews$Told" cc nL d) (hk : (tv_lay[k]?).map Prod.fst = some 4) (hd : decode cc pc = .ok (.getfield 85, 3)) (kk : tv_G κ nL Q (pc + 3) ls (.int (M.1 k 2) :: st) M o) : tv_G κ nL Q pc ls (.ref (κ.b + k) :: st) M o := g_getI hC 4 2 hk rfl rfl rfl (tv_t1 134 rfl rfl) hd kk
theorem fg_To_88 (hC : tv_Cx κ "TiedViews$Told" cc nL d) (hk : (tv_lay[k]?).map Prod.fst = some 4) (hd : decode cc pc = .ok (.getfield 88, 3)) (kk : tv_G κ nL Q (pc + 3) ls (.int (M.1 k 0) :: st) M o) : tv_G κ nL Q pc ls (.ref (κ.b + k) :: st) M o := g_getI hC 4 0 hk rfl rfl rfl (tv_t1 128 rfl rfl) hd kk
theorem fg_To_94 (hC : tv_Cx κ "TiedViews$Told" cc nL d) (hk : (tv_lay[k]?).map Prod.fst = some 4) (hd : decode cc pc = .ok (.getfield 94, 3)) (kk : tv_G κ nL Q (pc + 3) ls (.int (M.1 k 1) :: st) M o) : tv_G κ nL Q pc ls (.ref (κ.b + k) :: st) M o := g_getI hC 4 1 hk rfl rfl rfl (tv_t1 131 rfl rfl) hd kk
theorem fg_To_97 (hC : tv_Cx κ "TiedViews$Told" cc nL d) (hk : (tv_lay[k]?).map Prod.fst = some 3) (hd : decode cc pc = .ok (.getfield 97, 3)) (kk : tv_G κ nL Q (pc + 3) ls (.int (M.1 k 2) :: st) M o) : tv_G κ nL Q pc ls (.ref (κ.b + k) :: st) M o := g_getI hC 3 2 hk rfl rfl rfl (tv_t1 86 rfl rfl) hd kk
theorem fg_To_100 (hC : tv_Cx κ "TiedViews$Told" cc nL d) (hk : (tv_lay[k]?).map Prod.fst = some 3) (hd : decode cc pc = .ok (.getfield 100, 3)) (kk : tv_G κ nL Q (pc + 3) ls (.int (M.1 k 3) :: st) M o) : tv_G κ nL Q pc ls (.ref (κ.b + k) :: st) M o := g_getI hC 3 3 hk rfl rfl rfl (tv_t1 92 rfl rfl) hd kk
theorem fg_To_103 (hC : tv_Cx κ "TiedViews$Told" cc nL d) (hk : (tv_lay[k]?).map Prod.fst = some 4) (hd : decode cc pc = .ok (.getfield 103, 3)) {p : Nat} (hp : tv_P0 k 3 = some p) (kk : tv_G κ nL Q (pc + 3) ls (.ref (κ.b + p) :: st) M o) : tv_G κ nL Q pc ls (.ref (κ.b + k) :: st) M o := g_getP hC 4 3 hk rfl rfl rfl (tv_t1 137 rfl rfl) hd hp kk
theorem fg_To_106 (hC : tv_Cx κ "TiedViews$Told" cc nL d) (hk : (tv_lay[k]?).map Prod.fst = some 4) (hd : decode cc pc = .ok (.getfield 106, 3)) {p : Nat} (hp : tv_P0 k 4 = some p) (kk : tv_G κ nL Q (pc + 3) ls (.ref (κ.b + p) :: st) M o) : tv_G κ nL Q pc ls (.ref (κ.b + k) :: st) M o := g_getP hC 4 4 hk rfl rfl rfl (tv_t1 139 rfl rfl) hd hp kk
theorem fp_Md_1 {f : tv_M → Option (β × tv_M)} (hC : tv_Cx κ "TiedViewsModel" cc nL d) (hk : (tv_lay[k]?).map Prod.fst = some 12) (hd : decode cc pc = .ok (.putfield 1, 3)) (kk : ∀ M1, tv_G κ nL Q (pc + 3) ls st M1 (f M1)) : tv_G κ nL Q pc ls (.int x :: .ref (κ.b + k) :: st) M (tv_pf M k 0 x f) := gv_putI hC 12 0 hk rfl rfl rfl (tv_t6 23 rfl rfl) rfl rfl hd kk
theorem fg_Md_7 (hC : tv_Cx κ "TiedViewsModel" cc nL d) (hk : (tv_lay[k]?).map Prod.fst = some 12) (hd : decode cc pc = .ok (.getfield 7, 3)) (kk : tv_G κ nL Q (pc + 3) ls (.int (M.1 k 1) :: st) M o) : tv_G κ nL Q pc ls (.ref (κ.b + k) :: st) M o := g_getI hC 12 1 hk rfl rfl rfl (tv_t6 24 rfl rfl) hd kk
theorem fp_Md_7 {f : tv_M → Option (β × tv_M)} (hC : tv_Cx κ "TiedViewsModel" cc nL d) (hk : (tv_lay[k]?).map Prod.fst = some 12) (hd : decode cc pc = .ok (.putfield 7, 3)) (kk : ∀ M1, tv_G κ nL Q (pc + 3) ls st M1 (f M1)) : tv_G κ nL Q pc ls (.int x :: .ref (κ.b + k) :: st) M (tv_pf M k 1 x f) := gv_putI hC 12 1 hk rfl rfl rfl (tv_t6 24 rfl rfl) rfl rfl hd kk
theorem fg_Md_17 (hC : tv_Cx κ "TiedViewsModel" cc nL d) (hk : (tv_lay[k]?).map Prod.fst = some 12) (hd : decode cc pc = .ok (.getfield 17, 3)) {p : Nat} (hp : tv_P0 k 3 = some p) (kk : tv_G κ nL Q (pc + 3) ls (.ref (κ.b + p) :: st) M o) : tv_G κ nL Q pc ls (.ref (κ.b + k) :: st) M o := g_getP hC 12 3 hk rfl rfl rfl (tv_t6 26 rfl rfl) hd hp kk
theorem fg_Md_21 (hC : tv_Cx κ "TiedViewsModel" cc nL d) (hk : (tv_lay[k]?).map Prod.fst = some 12) (hd : decode cc pc = .ok (.getfield 21, 3)) {p : Nat} (hp : tv_P0 k 4 = some p) (kk : tv_G κ nL Q (pc + 3) ls (.ref (κ.b + p) :: st) M o) : tv_G κ nL Q pc ls (.ref (κ.b + k) :: st) M o := g_getP hC 12 4 hk rfl rfl rfl (tv_t6 27 rfl rfl) hd hp kk
theorem fg_Md_24 (hC : tv_Cx κ "TiedViewsModel" cc nL d) (hk : (tv_lay[k]?).map Prod.fst = some 12) (hd : decode cc pc = .ok (.getfield 24, 3)) {p : Nat} (hp : tv_P0 k 5 = some p) (kk : tv_G κ nL Q (pc + 3) ls (.ref (κ.b + p) :: st) M o) : tv_G κ nL Q pc ls (.ref (κ.b + k) :: st) M o := g_getP hC 12 5 hk rfl rfl rfl (tv_t6 28 rfl rfl) hd hp kk
theorem fg_Md_27 (hC : tv_Cx κ "TiedViewsModel" cc nL d) (hk : (tv_lay[k]?).map Prod.fst = some 12) (hd : decode cc pc = .ok (.getfield 27, 3)) {p : Nat} (hp : tv_P0 k 7 = some p) (kk : tv_G κ nL Q (pc + 3) ls (.ref (κ.b + p) :: st) M o) : tv_G κ nL Q pc ls (.ref (κ.b + k) :: st) M o := g_getP hC 12 7 hk rfl rfl rfl (tv_t6 30 rfl rfl) hd hp kk
theorem fg_Md_30 (hC : tv_Cx κ "TiedViewsModel" cc nL d) (hk : (tv_lay[k]?).map Prod.fst = some 12) (hd : decode cc pc = .ok (.getfield 30, 3)) {p : Nat} (hp : tv_P0 k 8 = some p) (kk : tv_G κ nL Q (pc + 3) ls (.ref (κ.b + p) :: st) M o) : tv_G κ nL Q pc ls (.ref (κ.b + k) :: st) M o := g_getP hC 12 8 hk rfl rfl rfl (tv_t6 31 rfl rfl) hd hp kk
theorem fg_Md_33 (hC : tv_Cx κ "TiedViewsModel" cc nL d) (hk : (tv_lay[k]?).map Prod.fst = some 12) (hd : decode cc pc = .ok (.getfield 33, 3)) {p : Nat} (hp : tv_P0 k 9 = some p) (kk : tv_G κ nL Q (pc + 3) ls (.ref (κ.b + p) :: st) M o) : tv_G κ nL Q pc ls (.ref (κ.b + k) :: st) M o := g_getP hC 12 9 hk rfl rfl rfl (tv_t6 32 rfl rfl) hd hp kk
theorem fg_Md_36 (hC : tv_Cx κ "TiedViewsModel" cc nL d) (hk : (tv_lay[k]?).map Prod.fst = some 12) (hd : decode cc pc = .ok (.getfield 36, 3)) {p : Nat} (hp : tv_P0 k 12 = some p) (kk : tv_G κ nL Q (pc + 3) ls (.ref (κ.b + p) :: st) M o) : tv_G κ nL Q pc ls (.ref (κ.b + k) :: st) M o := g_getP hC 12 12 hk rfl rfl rfl (tv_t6 35 rfl rfl) hd hp kk
theorem fg_Md_39 (hC : tv_Cx κ "TiedViewsModel" cc nL d) (hk : (tv_lay[k]?).map Prod.fst = some 12) (hd : decode cc pc = .ok (.getfield 39, 3)) {p : Nat} (hp : tv_P0 k 13 = some p) (kk : tv_G κ nL Q (pc + 3) ls (.ref (κ.b + p) :: st) M o) : tv_G κ nL Q pc ls (.ref (κ.b + k) :: st) M o := g_getP hC 12 13 hk rfl rfl rfl (tv_t6 36 rfl rfl) hd hp kk
theorem fg_Md_42 (hC : tv_Cx κ "TiedViewsModel" cc nL d) (hk : (tv_lay[k]?).map Prod.fst = some 12) (hd : decode cc pc = .ok (.getfield 42, 3)) {p : Nat} (hp : tv_P0 k 14 = some p) (kk : tv_G κ nL Q (pc + 3) ls (.ref (κ.b + p) :: st) M o) : tv_G κ nL Q pc ls (.ref (κ.b + k) :: st) M o := g_getP hC 12 14 hk rfl rfl rfl (tv_t6 37 rfl rfl) hd hp kk
theorem fg_Md_45 (hC : tv_Cx κ "TiedViewsModel" cc nL d) (hk : (tv_lay[k]?).map Prod.fst = some 12) (hd : decode cc pc = .ok (.getfield 45, 3)) {p : Nat} (hp : tv_P0 k 15 = some p) (kk : tv_G κ nL Q (pc + 3) ls (.ref (κ.b + p) :: st) M o) : tv_G κ nL Q pc ls (.ref (κ.b + k) :: st) M o := g_getP hC 12 15 hk rfl rfl rfl (tv_t6 38 rfl rfl) hd hp kk
theorem fg_Md_48 (hC : tv_Cx κ "TiedViewsModel" cc nL d) (hk : (tv_lay[k]?).map Prod.fst = some 12) (hd : decode cc pc = .ok (.getfield 48, 3)) {p : Nat} (hp : tv_P0 k 17 = some p) (kk : tv_G κ nL Q (pc + 3) ls (.ref (κ.b + p) :: st) M o) : tv_G κ nL Q pc ls (.ref (κ.b + k) :: st) M o := g_getP hC 12 17 hk rfl rfl rfl (tv_t6 40 rfl rfl) hd hp kk
theorem fg_Md_51 (hC : tv_Cx κ "TiedViewsModel" cc nL d) (hk : (tv_lay[k]?).map Prod.fst = some 12) (hd : decode cc pc = .ok (.getfield 51, 3)) {p : Nat} (hp : tv_P0 k 18 = some p) (kk : tv_G κ nL Q (pc + 3) ls (.ref (κ.b + p) :: st) M o) : tv_G κ nL Q pc ls (.ref (κ.b + k) :: st) M o := g_getP hC 12 18 hk rfl rfl rfl (tv_t6 41 rfl rfl) hd hp kk
theorem fg_Md_54 (hC : tv_Cx κ "TiedViewsModel" cc nL d) (hk : (tv_lay[k]?).map Prod.fst = some 12) (hd : decode cc pc = .ok (.getfield 54, 3)) {p : Nat} (hp : tv_P0 k 19 = some p) (kk : tv_G κ nL Q (pc + 3) ls (.ref (κ.b + p) :: st) M o) : tv_G κ nL Q pc ls (.ref (κ.b + k) :: st) M o := g_getP hC 12 19 hk rfl rfl rfl (tv_t6 42 rfl rfl) hd hp kk
theorem fg_Md_57 (hC : tv_Cx κ "TiedViewsModel" cc nL d) (hk : (tv_lay[k]?).map Prod.fst = some 12) (hd : decode cc pc = .ok (.getfield 57, 3)) {p : Nat} (hp : tv_P0 k 20 = some p) (kk : tv_G κ nL Q (pc + 3) ls (.ref (κ.b + p) :: st) M o) : tv_G κ nL Q pc ls (.ref (κ.b + k) :: st) M o := g_getP hC 12 20 hk rfl rfl rfl (tv_t6 43 rfl rfl) hd hp kk
theorem fg_Md_60 (hC : tv_Cx κ "TiedViewsModel" cc nL d) (hk : (tv_lay[k]?).map Prod.fst = some 12) (hd : decode cc pc = .ok (.getfield 60, 3)) {p : Nat} (hp : tv_P0 k 21 = some p) (kk : tv_G κ nL Q (pc + 3) ls (.ref (κ.b + p) :: st) M o) : tv_G κ nL Q pc ls (.ref (κ.b + k) :: st) M o := g_getP hC 12 21 hk rfl rfl rfl (tv_t6 44 rfl rfl) hd hp kk
theorem fg_Md_63 (hC : tv_Cx κ "TiedViewsModel" cc nL d) (hk : (tv_lay[k]?).map Prod.fst = some 12) (hd : decode cc pc = .ok (.getfield 63, 3)) {p : Nat} (hp : tv_P0 k 22 = some p) (kk : tv_G κ nL Q (pc + 3) ls (.ref (κ.b + p) :: st) M o) : tv_G κ nL Q pc ls (.ref (κ.b + k) :: st) M o := g_getP hC 12 22 hk rfl rfl rfl (tv_t6 45 rfl rfl) hd hp kk
theorem fg_Md_66 (hC : tv_Cx κ "TiedViewsModel" cc nL d) (hk : (tv_lay[k]?).map Prod.fst = some 12) (hd : decode cc pc = .ok (.getfield 66, 3)) {p : Nat} (hp : tv_P0 k 23 = some p) (kk : tv_G κ nL Q (pc + 3) ls (.ref (κ.b + p) :: st) M o) : tv_G κ nL Q pc ls (.ref (κ.b + k) :: st) M o := g_getP hC 12 23 hk rfl rfl rfl (tv_t6 46 rfl rfl) hd hp kk
theorem fg_Md_69 (hC : tv_Cx κ "TiedViewsModel" cc nL d) (hk : (tv_lay[k]?).map Prod.fst = some 12) (hd : decode cc pc = .ok (.getfield 69, 3)) {p : Nat} (hp : tv_P0 k 38 = some p) (kk : tv_G κ nL Q (pc + 3) ls (.ref (κ.b + p) :: st) M o) : tv_G κ nL Q pc ls (.ref (κ.b + k) :: st) M o := g_getP hC 12 38 hk rfl rfl rfl (tv_t6 61 rfl rfl) hd hp kk
theorem fg_Md_72 (hC : tv_Cx κ "TiedViewsModel" cc nL d) (hk : (tv_lay[k]?).map Prod.fst = some 12) (hd : decode cc pc = .ok (.getfield 72, 3)) {p : Nat} (hp : tv_P0 k 39 = some p) (kk : tv_G κ nL Q (pc + 3) ls (.ref (κ.b + p) :: st) M o) : tv_G κ nL Q pc ls (.ref (κ.b + k) :: st) M o := g_getP hC 12 39 hk rfl rfl rfl (tv_t6 62 rfl rfl) hd hp kk
theorem fg_Md_76 (hC : tv_Cx κ "TiedViewsModel" cc nL d) (hk : (tv_lay[k]?).map Prod.fst = some 12) (hd : decode cc pc = .ok (.getfield 76, 3)) {p : Nat} (hp : tv_P0 k 40 = some p) (kk : tv_G κ nL Q (pc + 3) ls (.ref (κ.b + p) :: st) M o) : tv_G κ nL Q pc ls (.ref (κ.b + k) :: st) M o := g_getP hC 12 40 hk rfl rfl rfl (tv_t6 63 rfl rfl) hd hp kk
theorem fg_Md_79 (hC : tv_Cx κ "TiedViewsModel" cc nL d) (hk : (tv_lay[k]?).map Prod.fst = some 12) (hd : decode cc pc = .ok (.getfield 79, 3)) {p : Nat} (hp : tv_P0 k 41 = some p) (kk : tv_G κ nL Q (pc + 3) ls (.ref (κ.b + p) :: st) M o) : tv_G κ nL Q pc ls (.ref (κ.b + k) :: st) M o := g_getP hC 12 41 hk rfl rfl rfl (tv_t6 64 rfl rfl) hd hp kk
theorem fg_Md_82 (hC : tv_Cx κ "TiedViewsModel" cc nL d) (hk : (tv_lay[k]?).map Prod.fst = some 12) (hd : decode cc pc = .ok (.getfield 82, 3)) {p : Nat} (hp : tv_P0 k 42 = some p) (kk : tv_G κ nL Q (pc + 3) ls (.ref (κ.b + p) :: st) M o) : tv_G κ nL Q pc ls (.ref (κ.b + k) :: st) M o := g_getP hC 12 42 hk rfl rfl rfl (tv_t6 65 rfl rfl) hd hp kk
theorem fg_Md_85 (hC : tv_Cx κ "TiedViewsModel" cc nL d) (hk : (tv_lay[k]?).map Prod.fst = some 12) (hd : decode cc pc = .ok (.getfield 85, 3)) {p : Nat} (hp : tv_P0 k 44 = some p) (kk : tv_G κ nL Q (pc + 3) ls (.ref (κ.b + p) :: st) M o) : tv_G κ nL Q pc ls (.ref (κ.b + k) :: st) M o := g_getP hC 12 44 hk rfl rfl rfl (tv_t6 67 rfl rfl) hd hp kk
theorem fg_Md_88 (hC : tv_Cx κ "TiedViewsModel" cc nL d) (hk : (tv_lay[k]?).map Prod.fst = some 12) (hd : decode cc pc = .ok (.getfield 88, 3)) {p : Nat} (hp : tv_P0 k 45 = some p) (kk : tv_G κ nL Q (pc + 3) ls (.ref (κ.b + p) :: st) M o) : tv_G κ nL Q pc ls (.ref (κ.b + k) :: st) M o := g_getP hC 12 45 hk rfl rfl rfl (tv_t6 68 rfl rfl) hd hp kk
theorem fg_Md_91 (hC : tv_Cx κ "TiedViewsModel" cc nL d) (hk : (tv_lay[k]?).map Prod.fst = some 12) (hd : decode cc pc = .ok (.getfield 91, 3)) {p : Nat} (hp : tv_P0 k 46 = some p) (kk : tv_G κ nL Q (pc + 3) ls (.ref (κ.b + p) :: st) M o) : tv_G κ nL Q pc ls (.ref (κ.b + k) :: st) M o := g_getP hC 12 46 hk rfl rfl rfl (tv_t6 69 rfl rfl) hd hp kk
theorem fg_Md_94 (hC : tv_Cx κ "TiedViewsModel" cc nL d) (hk : (tv_lay[k]?).map Prod.fst = some 12) (hd : decode cc pc = .ok (.getfield 94, 3)) {p : Nat} (hp : tv_P0 k 47 = some p) (kk : tv_G κ nL Q (pc + 3) ls (.ref (κ.b + p) :: st) M o) : tv_G κ nL Q pc ls (.ref (κ.b + k) :: st) M o := g_getP hC 12 47 hk rfl rfl rfl (tv_t6 70 rfl rfl) hd hp kk
theorem fg_Md_97 (hC : tv_Cx κ "TiedViewsModel" cc nL d) (hk : (tv_lay[k]?).map Prod.fst = some 12) (hd : decode cc pc = .ok (.getfield 97, 3)) {p : Nat} (hp : tv_P0 k 48 = some p) (kk : tv_G κ nL Q (pc + 3) ls (.ref (κ.b + p) :: st) M o) : tv_G κ nL Q pc ls (.ref (κ.b + k) :: st) M o := g_getP hC 12 48 hk rfl rfl rfl (tv_t6 71 rfl rfl) hd hp kk
theorem fg_Md_100 (hC : tv_Cx κ "TiedViewsModel" cc nL d) (hk : (tv_lay[k]?).map Prod.fst = some 12) (hd : decode cc pc = .ok (.getfield 100, 3)) {p : Nat} (hp : tv_P0 k 50 = some p) (kk : tv_G κ nL Q (pc + 3) ls (.ref (κ.b + p) :: st) M o) : tv_G κ nL Q pc ls (.ref (κ.b + k) :: st) M o := g_getP hC 12 50 hk rfl rfl rfl (tv_t6 73 rfl rfl) hd hp kk
theorem fg_Md_103 (hC : tv_Cx κ "TiedViewsModel" cc nL d) (hk : (tv_lay[k]?).map Prod.fst = some 12) (hd : decode cc pc = .ok (.getfield 103, 3)) {p : Nat} (hp : tv_P0 k 51 = some p) (kk : tv_G κ nL Q (pc + 3) ls (.ref (κ.b + p) :: st) M o) : tv_G κ nL Q pc ls (.ref (κ.b + k) :: st) M o := g_getP hC 12 51 hk rfl rfl rfl (tv_t6 74 rfl rfl) hd hp kk
theorem fg_Md_106 (hC : tv_Cx κ "TiedViewsModel" cc nL d) (hk : (tv_lay[k]?).map Prod.fst = some 12) (hd : decode cc pc = .ok (.getfield 106, 3)) {p : Nat} (hp : tv_P0 k 52 = some p) (kk : tv_G κ nL Q (pc + 3) ls (.ref (κ.b + p) :: st) M o) : tv_G κ nL Q pc ls (.ref (κ.b + k) :: st) M o := g_getP hC 12 52 hk rfl rfl rfl (tv_t6 75 rfl rfl) hd hp kk
theorem fg_Md_109 (hC : tv_Cx κ "TiedViewsModel" cc nL d) (hk : (tv_lay[k]?).map Prod.fst = some 12) (hd : decode cc pc = .ok (.getfield 109, 3)) {p : Nat} (hp : tv_P0 k 53 = some p) (kk : tv_G κ nL Q (pc + 3) ls (.ref (κ.b + p) :: st) M o) : tv_G κ nL Q pc ls (.ref (κ.b + k) :: st) M o := g_getP hC 12 53 hk rfl rfl rfl (tv_t6 76 rfl rfl) hd hp kk
theorem fg_Md_112 (hC : tv_Cx κ "TiedViewsModel" cc nL d) (hk : (tv_lay[k]?).map Prod.fst = some 12) (hd : decode cc pc = .ok (.getfield 112, 3)) (kk : tv_G κ nL Q (pc + 3) ls (.int (M.1 k 2) :: st) M o) : tv_G κ nL Q pc ls (.ref (κ.b + k) :: st) M o := g_getI hC 12 2 hk rfl rfl rfl (tv_t6 25 rfl rfl) hd kk
theorem fg_Md_137 (hC : tv_Cx κ "TiedViewsModel" cc nL d) (hk : (tv_lay[k]?).map Prod.fst = some 12) (hd : decode cc pc = .ok (.getfield 137, 3)) (kk : tv_G κ nL Q (pc + 3) ls (.int (M.1 k 24) :: st) M o) : tv_G κ nL Q pc ls (.ref (κ.b + k) :: st) M o := g_getI hC 12 24 hk rfl rfl rfl (tv_t6 47 rfl rfl) hd kk
theorem fp_Md_137 {f : tv_M → Option (β × tv_M)} (hC : tv_Cx κ "TiedViewsModel" cc nL d) (hk : (tv_lay[k]?).map Prod.fst = some 12) (hd : decode cc pc = .ok (.putfield 137, 3)) (kk : ∀ M1, tv_G κ nL Q (pc + 3) ls st M1 (f M1)) : tv_G κ nL Q pc ls (.int x :: .ref (κ.b + k) :: st) M (tv_pf M k 24 x f) := gv_putI hC 12 24 hk rfl rfl rfl (tv_t6 47 rfl rfl) rfl rfl hd kk
theorem fg_Md_143 (hC : tv_Cx κ "TiedViewsModel" cc nL d) (hk : (tv_lay[k]?).map Prod.fst = some 12) (hd : decode cc pc = .ok (.getfield 143, 3)) (kk : tv_G κ nL Q (pc + 3) ls (.int (M.1 k 26) :: st) M o) : tv_G κ nL Q pc ls (.ref (κ.b + k) :: st) M o := g_getI hC 12 26 hk rfl rfl rfl (tv_t6 49 rfl rfl) hd kk
theorem fp_Md_143 {f : tv_M → Option (β × tv_M)} (hC : tv_Cx κ "TiedViewsModel" cc nL d) (hk : (tv_lay[k]?).map Prod.fst = some 12) (hd : decode cc pc = .ok (.putfield 143, 3)) (kk : ∀ M1, tv_G κ nL Q (pc + 3) ls st M1 (f M1)) : tv_G κ nL Q pc ls (.int x :: .ref (κ.b + k) :: st) M (tv_pf M k 26 x f) := gv_putI hC 12 26 hk rfl rfl rfl (tv_t6 49 rfl rfl) rfl rfl hd kk
theorem fg_Md_147 (hC : tv_Cx κ "TiedViewsModel" cc nL d) (hk : (tv_lay[k]?).map Prod.fst = some 12) (hd : decode cc pc = .ok (.getfield 147, 3)) (kk : tv_G κ nL Q (pc + 3) ls (.int (M.1 k 27) :: st) M o) : tv_G κ nL Q pc ls (.ref (κ.b + k) :: st) M o := g_getI hC 12 27 hk rfl rfl rfl (tv_t6 50 rfl rfl) hd kk
theorem fp_Md_147 {f : tv_M → Option (β × tv_M)} (hC : tv_Cx κ "TiedViewsModel" cc nL d) (hk : (tv_lay[k]?).map Prod.fst = some 12) (hd : decode cc pc = .ok (.putfield 147, 3)) (kk : ∀ M1, tv_G κ nL Q (pc + 3) ls st M1 (f M1)) : tv_G κ nL Q pc ls (.int x :: .ref (κ.b + k) :: st) M (tv_pf M k 27 x f) := gv_putI hC 12 27 hk rfl rfl rfl (tv_t6 50 rfl rfl) rfl rfl hd kk
theorem fg_Md_153 (hC : tv_Cx κ "TiedViewsModel" cc nL d) (hk : (tv_lay[k]?).map Prod.fst = some 12) (hd : decode cc pc = .ok (.getfield 153, 3)) (kk : tv_G κ nL Q (pc + 3) ls (.int (M.1 k 29) :: st) M o) : tv_G κ nL Q pc ls (.ref (κ.b + k) :: st) M o := g_getI hC 12 29 hk rfl rfl rfl (tv_t6 52 rfl rfl) hd kk
theorem fp_Md_153 {f : tv_M → Option (β × tv_M)} (hC : tv_Cx κ "TiedViewsModel" cc nL d) (hk : (tv_lay[k]?).map Prod.fst = some 12) (hd : decode cc pc = .ok (.putfield 153, 3)) (kk : ∀ M1, tv_G κ nL Q (pc + 3) ls st M1 (f M1)) : tv_G κ nL Q pc ls (.int x :: .ref (κ.b + k) :: st) M (tv_pf M k 29 x f) := gv_putI hC 12 29 hk rfl rfl rfl (tv_t6 52 rfl rfl) rfl rfl hd kk
theorem fg_Md_156 (hC : tv_Cx κ "TiedViewsModel" cc nL d) (hk : (tv_lay[k]?).map Prod.fst = some 12) (hd : decode cc pc = .ok (.getfield 156, 3)) (kk : tv_G κ nL Q (pc + 3) ls (.int (M.1 k 28) :: st) M o) : tv_G κ nL Q pc ls (.ref (κ.b + k) :: st) M o := g_getI hC 12 28 hk rfl rfl rfl (tv_t6 51 rfl rfl) hd kk
theorem fp_Md_156 {f : tv_M → Option (β × tv_M)} (hC : tv_Cx κ "TiedViewsModel" cc nL d) (hk : (tv_lay[k]?).map Prod.fst = some 12) (hd : decode cc pc = .ok (.putfield 156, 3)) (kk : ∀ M1, tv_G κ nL Q (pc + 3) ls st M1 (f M1)) : tv_G κ nL Q pc ls (.int x :: .ref (κ.b + k) :: st) M (tv_pf M k 28 x f) := gv_putI hC 12 28 hk rfl rfl rfl (tv_t6 51 rfl rfl) rfl rfl hd kk
theorem fg_Md_165 (hC : tv_Cx κ "TiedViewsModel" cc nL d) (hk : (tv_lay[k]?).map Prod.fst = some 12) (hd : decode cc pc = .ok (.getfield 165, 3)) (kk : tv_G κ nL Q (pc + 3) ls (.int (M.1 k 30) :: st) M o) : tv_G κ nL Q pc ls (.ref (κ.b + k) :: st) M o := g_getI hC 12 30 hk rfl rfl rfl (tv_t6 53 rfl rfl) hd kk
theorem fp_Md_165 {f : tv_M → Option (β × tv_M)} (hC : tv_Cx κ "TiedViewsModel" cc nL d) (hk : (tv_lay[k]?).map Prod.fst = some 12) (hd : decode cc pc = .ok (.putfield 165, 3)) (kk : ∀ M1, tv_G κ nL Q (pc + 3) ls st M1 (f M1)) : tv_G κ nL Q pc ls (.int x :: .ref (κ.b + k) :: st) M (tv_pf M k 30 x f) := gv_putI hC 12 30 hk rfl rfl rfl (tv_t6 53 rfl rfl) rfl rfl hd kk
theorem fg_Md_168 (hC : tv_Cx κ "TiedViewsModel" cc nL d) (hk : (tv_lay[k]?).map Prod.fst = some 12) (hd : decode cc pc = .ok (.getfield 168, 3)) (kk : tv_G κ nL Q (pc + 3) ls (.int (M.1 k 31) :: st) M o) : tv_G κ nL Q pc ls (.ref (κ.b + k) :: st) M o := g_getI hC 12 31 hk rfl rfl rfl (tv_t6 54 rfl rfl) hd kk
theorem fp_Md_168 {f : tv_M → Option (β × tv_M)} (hC : tv_Cx κ "TiedViewsModel" cc nL d) (hk : (tv_lay[k]?).map Prod.fst = some 12) (hd : decode cc pc = .ok (.putfield 168, 3)) (kk : ∀ M1, tv_G κ nL Q (pc + 3) ls st M1 (f M1)) : tv_G κ nL Q pc ls (.int x :: .ref (κ.b + k) :: st) M (tv_pf M k 31 x f) := gv_putI hC 12 31 hk rfl rfl rfl (tv_t6 54 rfl rfl) rfl rfl hd kk
theorem fg_Md_171 (hC : tv_Cx κ "TiedViewsModel" cc nL d) (hk : (tv_lay[k]?).map Prod.fst = some 12) (hd : decode cc pc = .ok (.getfield 171, 3)) (kk : tv_G κ nL Q (pc + 3) ls (.int (M.1 k 32) :: st) M o) : tv_G κ nL Q pc ls (.ref (κ.b + k) :: st) M o := g_getI hC 12 32 hk rfl rfl rfl (tv_t6 55 rfl rfl) hd kk
theorem fp_Md_171 {f : tv_M → Option (β × tv_M)} (hC : tv_Cx κ "TiedViewsModel" cc nL d) (hk : (tv_lay[k]?).map Prod.fst = some 12) (hd : decode cc pc = .ok (.putfield 171, 3)) (kk : ∀ M1, tv_G κ nL Q (pc + 3) ls st M1 (f M1)) : tv_G κ nL Q pc ls (.int x :: .ref (κ.b + k) :: st) M (tv_pf M k 32 x f) := gv_putI hC 12 32 hk rfl rfl rfl (tv_t6 55 rfl rfl) rfl rfl hd kk
theorem fg_Md_189 (hC : tv_Cx κ "TiedViewsModel" cc nL d) (hk : (tv_lay[k]?).map Prod.fst = some 12) (hd : decode cc pc = .ok (.getfield 189, 3)) (kk : tv_G κ nL Q (pc + 3) ls (.int (M.1 k 33) :: st) M o) : tv_G κ nL Q pc ls (.ref (κ.b + k) :: st) M o := g_getI hC 12 33 hk rfl rfl rfl (tv_t6 56 rfl rfl) hd kk
theorem fp_Md_189 {f : tv_M → Option (β × tv_M)} (hC : tv_Cx κ "TiedViewsModel" cc nL d) (hk : (tv_lay[k]?).map Prod.fst = some 12) (hd : decode cc pc = .ok (.putfield 189, 3)) (kk : ∀ M1, tv_G κ nL Q (pc + 3) ls st M1 (f M1)) : tv_G κ nL Q pc ls (.int x :: .ref (κ.b + k) :: st) M (tv_pf M k 33 x f) := gv_putI hC 12 33 hk rfl rfl rfl (tv_t6 56 rfl rfl) rfl rfl hd kk
theorem fg_Md_208 (hC : tv_Cx κ "TiedViewsModel" cc nL d) (hk : (tv_lay[k]?).map Prod.fst = some 12) (hd : decode cc pc = .ok (.getfield 208, 3)) (kk : tv_G κ nL Q (pc + 3) ls (.int (M.1 k 34) :: st) M o) : tv_G κ nL Q pc ls (.ref (κ.b + k) :: st) M o := g_getI hC 12 34 hk rfl rfl rfl (tv_t6 57 rfl rfl) hd kk
theorem fp_Md_208 {f : tv_M → Option (β × tv_M)} (hC : tv_Cx κ "TiedViewsModel" cc nL d) (hk : (tv_lay[k]?).map Prod.fst = some 12) (hd : decode cc pc = .ok (.putfield 208, 3)) (kk : ∀ M1, tv_G κ nL Q (pc + 3) ls st M1 (f M1)) : tv_G κ nL Q pc ls (.int x :: .ref (κ.b + k) :: st) M (tv_pf M k 34 x f) := gv_putI hC 12 34 hk rfl rfl rfl (tv_t6 57 rfl rfl) rfl rfl hd kk
theorem fg_Md_220 (hC : tv_Cx κ "TiedViewsModel" cc nL d) (hk : (tv_lay[k]?).map Prod.fst = some 12) (hd : decode cc pc = .ok (.getfield 220, 3)) (kk : tv_G κ nL Q (pc + 3) ls (.int (M.1 k 35) :: st) M o) : tv_G κ nL Q pc ls (.ref (κ.b + k) :: st) M o := g_getI hC 12 35 hk rfl rfl rfl (tv_t6 58 rfl rfl) hd kk
theorem fp_Md_220 {f : tv_M → Option (β × tv_M)} (hC : tv_Cx κ "TiedViewsModel" cc nL d) (hk : (tv_lay[k]?).map Prod.fst = some 12) (hd : decode cc pc = .ok (.putfield 220, 3)) (kk : ∀ M1, tv_G κ nL Q (pc + 3) ls st M1 (f M1)) : tv_G κ nL Q pc ls (.int x :: .ref (κ.b + k) :: st) M (tv_pf M k 35 x f) := gv_putI hC 12 35 hk rfl rfl rfl (tv_t6 58 rfl rfl) rfl rfl hd kk
theorem fg_Md_229 (hC : tv_Cx κ "TiedViewsModel" cc nL d) (hk : (tv_lay[k]?).map Prod.fst = some 12) (hd : decode cc pc = .ok (.getfield 229, 3)) (kk : tv_G κ nL Q (pc + 3) ls (.int (M.1 k 36) :: st) M o) : tv_G κ nL Q pc ls (.ref (κ.b + k) :: st) M o := g_getI hC 12 36 hk rfl rfl rfl (tv_t6 59 rfl rfl) hd kk
theorem fp_Md_229 {f : tv_M → Option (β × tv_M)} (hC : tv_Cx κ "TiedViewsModel" cc nL d) (hk : (tv_lay[k]?).map Prod.fst = some 12) (hd : decode cc pc = .ok (.putfield 229, 3)) (kk : ∀ M1, tv_G κ nL Q (pc + 3) ls st M1 (f M1)) : tv_G κ nL Q pc ls (.int x :: .ref (κ.b + k) :: st) M (tv_pf M k 36 x f) := gv_putI hC 12 36 hk rfl rfl rfl (tv_t6 59 rfl rfl) rfl rfl hd kk
theorem fg_Md_232 (hC : tv_Cx κ "TiedViewsModel" cc nL d) (hk : (tv_lay[k]?).map Prod.fst = some 12) (hd : decode cc pc = .ok (.getfield 232, 3)) (kk : tv_G κ nL Q (pc + 3) ls (.int (M.1 k 6) :: st) M o) : tv_G κ nL Q pc ls (.ref (κ.b + k) :: st) M o := g_getI hC 12 6 hk rfl rfl rfl (tv_t6 29 rfl rfl) hd kk
theorem fp_Md_232 {f : tv_M → Option (β × tv_M)} (hC : tv_Cx κ "TiedViewsModel" cc nL d) (hk : (tv_lay[k]?).map Prod.fst = some 12) (hd : decode cc pc = .ok (.putfield 232, 3)) (kk : ∀ M1, tv_G κ nL Q (pc + 3) ls st M1 (f M1)) : tv_G κ nL Q pc ls (.int x :: .ref (κ.b + k) :: st) M (tv_pf M k 6 x f) := gv_putI hC 12 6 hk rfl rfl rfl (tv_t6 29 rfl rfl) rfl rfl hd kk
theorem fg_Md_235 (hC : tv_Cx κ "TiedViewsModel" cc nL d) (hk : (tv_lay[k]?).map Prod.fst = some 12) (hd : decode cc pc = .ok (.getfield 235, 3)) (kk : tv_G κ nL Q (pc + 3) ls (.int (M.1 k 10) :: st) M o) : tv_G κ nL Q pc ls (.ref (κ.b + k) :: st) M o := g_getI hC 12 10 hk rfl rfl rfl (tv_t6 33 rfl rfl) hd kk
theorem fp_Md_235 {f : tv_M → Option (β × tv_M)} (hC : tv_Cx κ "TiedViewsModel" cc nL d) (hk : (tv_lay[k]?).map Prod.fst = some 12) (hd : decode cc pc = .ok (.putfield 235, 3)) (kk : ∀ M1, tv_G κ nL Q (pc + 3) ls st M1 (f M1)) : tv_G κ nL Q pc ls (.int x :: .ref (κ.b + k) :: st) M (tv_pf M k 10 x f) := gv_putI hC 12 10 hk rfl rfl rfl (tv_t6 33 rfl rfl) rfl rfl hd kk
theorem fg_Md_238 (hC : tv_Cx κ "TiedViewsModel" cc nL d) (hk : (tv_lay[k]?).map Prod.fst = some 12) (hd : decode cc pc = .ok (.getfield 238, 3)) (kk : tv_G κ nL Q (pc + 3) ls (.int (M.1 k 11) :: st) M o) : tv_G κ nL Q pc ls (.ref (κ.b + k) :: st) M o := g_getI hC 12 11 hk rfl rfl rfl (tv_t6 34 rfl rfl) hd kk
theorem fp_Md_238 {f : tv_M → Option (β × tv_M)} (hC : tv_Cx κ "TiedViewsModel" cc nL d) (hk : (tv_lay[k]?).map Prod.fst = some 12) (hd : decode cc pc = .ok (.putfield 238, 3)) (kk : ∀ M1, tv_G κ nL Q (pc + 3) ls st M1 (f M1)) : tv_G κ nL Q pc ls (.int x :: .ref (κ.b + k) :: st) M (tv_pf M k 11 x f) := gv_putI hC 12 11 hk rfl rfl rfl (tv_t6 34 rfl rfl) rfl rfl hd kk
theorem fg_Md_241 (hC : tv_Cx κ "TiedViewsModel" cc nL d) (hk : (tv_lay[k]?).map Prod.fst = some 12) (hd : decode cc pc = .ok (.getfield 241, 3)) (kk : tv_G κ nL Q (pc + 3) ls (.int (M.1 k 16) :: st) M o) : tv_G κ nL Q pc ls (.ref (κ.b + k) :: st) M o := g_getI hC 12 16 hk rfl rfl rfl (tv_t6 39 rfl rfl) hd kk
theorem fp_Md_241 {f : tv_M → Option (β × tv_M)} (hC : tv_Cx κ "TiedViewsModel" cc nL d) (hk : (tv_lay[k]?).map Prod.fst = some 12) (hd : decode cc pc = .ok (.putfield 241, 3)) (kk : ∀ M1, tv_G κ nL Q (pc + 3) ls st M1 (f M1)) : tv_G κ nL Q pc ls (.int x :: .ref (κ.b + k) :: st) M (tv_pf M k 16 x f) := gv_putI hC 12 16 hk rfl rfl rfl (tv_t6 39 rfl rfl) rfl rfl hd kk
theorem fg_Md_259 (hC : tv_Cx κ "TiedViewsModel" cc nL d) (hk : (tv_lay[k]?).map Prod.fst = some 12) (hd : decode cc pc = .ok (.getfield 259, 3)) (kk : tv_G κ nL Q (pc + 3) ls (.int (M.1 k 25) :: st) M o) : tv_G κ nL Q pc ls (.ref (κ.b + k) :: st) M o := g_getI hC 12 25 hk rfl rfl rfl (tv_t6 48 rfl rfl) hd kk
theorem fp_Md_259 {f : tv_M → Option (β × tv_M)} (hC : tv_Cx κ "TiedViewsModel" cc nL d) (hk : (tv_lay[k]?).map Prod.fst = some 12) (hd : decode cc pc = .ok (.putfield 259, 3)) (kk : ∀ M1, tv_G κ nL Q (pc + 3) ls st M1 (f M1)) : tv_G κ nL Q pc ls (.int x :: .ref (κ.b + k) :: st) M (tv_pf M k 25 x f) := gv_putI hC 12 25 hk rfl rfl rfl (tv_t6 48 rfl rfl) rfl rfl hd kk
theorem fg_Md_271 (hC : tv_Cx κ "TiedViewsModel" cc nL d) (hk : (tv_lay[k]?).map Prod.fst = some 12) (hd : decode cc pc = .ok (.getfield 271, 3)) (kk : tv_G κ nL Q (pc + 3) ls (.int (M.1 k 37) :: st) M o) : tv_G κ nL Q pc ls (.ref (κ.b + k) :: st) M o := g_getI hC 12 37 hk rfl rfl rfl (tv_t6 60 rfl rfl) hd kk
theorem fp_Md_271 {f : tv_M → Option (β × tv_M)} (hC : tv_Cx κ "TiedViewsModel" cc nL d) (hk : (tv_lay[k]?).map Prod.fst = some 12) (hd : decode cc pc = .ok (.putfield 271, 3)) (kk : ∀ M1, tv_G κ nL Q (pc + 3) ls st M1 (f M1)) : tv_G κ nL Q pc ls (.int x :: .ref (κ.b + k) :: st) M (tv_pf M k 37 x f) := gv_putI hC 12 37 hk rfl rfl rfl (tv_t6 60 rfl rfl) rfl rfl hd kk
theorem fg_Md_315 (hC : tv_Cx κ "TiedViewsModel" cc nL d) (hk : (tv_lay[k]?).map Prod.fst = some 12) (hd : decode cc pc = .ok (.getfield 315, 3)) (kk : tv_G κ nL Q (pc + 3) ls (.int (M.1 k 43) :: st) M o) : tv_G κ nL Q pc ls (.ref (κ.b + k) :: st) M o := g_getI hC 12 43 hk rfl rfl rfl (tv_t6 66 rfl rfl) hd kk
theorem fp_Md_315 {f : tv_M → Option (β × tv_M)} (hC : tv_Cx κ "TiedViewsModel" cc nL d) (hk : (tv_lay[k]?).map Prod.fst = some 12) (hd : decode cc pc = .ok (.putfield 315, 3)) (kk : ∀ M1, tv_G κ nL Q (pc + 3) ls st M1 (f M1)) : tv_G κ nL Q pc ls (.int x :: .ref (κ.b + k) :: st) M (tv_pf M k 43 x f) := gv_putI hC 12 43 hk rfl rfl rfl (tv_t6 66 rfl rfl) rfl rfl hd kk
theorem fg_Md_340 (hC : tv_Cx κ "TiedViewsModel" cc nL d) (hk : (tv_lay[k]?).map Prod.fst = some 12) (hd : decode cc pc = .ok (.getfield 340, 3)) (kk : tv_G κ nL Q (pc + 3) ls (.int (M.1 k 49) :: st) M o) : tv_G κ nL Q pc ls (.ref (κ.b + k) :: st) M o := g_getI hC 12 49 hk rfl rfl rfl (tv_t6 72 rfl rfl) hd kk
theorem fp_Md_340 {f : tv_M → Option (β × tv_M)} (hC : tv_Cx κ "TiedViewsModel" cc nL d) (hk : (tv_lay[k]?).map Prod.fst = some 12) (hd : decode cc pc = .ok (.putfield 340, 3)) (kk : ∀ M1, tv_G κ nL Q (pc + 3) ls st M1 (f M1)) : tv_G κ nL Q pc ls (.int x :: .ref (κ.b + k) :: st) M (tv_pf M k 49 x f) := gv_putI hC 12 49 hk rfl rfl rfl (tv_t6 72 rfl rfl) rfl rfl hd kk
theorem fg_Md_355 (hC : tv_Cx κ "TiedViewsModel" cc nL d) (hk : (tv_lay[k]?).map Prod.fst = some 12) (hd : decode cc pc = .ok (.getfield 355, 3)) (kk : tv_G κ nL Q (pc + 3) ls (.int (M.1 k 54) :: st) M o) : tv_G κ nL Q pc ls (.ref (κ.b + k) :: st) M o := g_getI hC 12 54 hk rfl rfl rfl (tv_t6 77 rfl rfl) hd kk
theorem fp_Md_355 {f : tv_M → Option (β × tv_M)} (hC : tv_Cx κ "TiedViewsModel" cc nL d) (hk : (tv_lay[k]?).map Prod.fst = some 12) (hd : decode cc pc = .ok (.putfield 355, 3)) (kk : ∀ M1, tv_G κ nL Q (pc + 3) ls st M1 (f M1)) : tv_G κ nL Q pc ls (.int x :: .ref (κ.b + k) :: st) M (tv_pf M k 54 x f) := gv_putI hC 12 54 hk rfl rfl rfl (tv_t6 77 rfl rfl) rfl rfl hd kk
end TVZ
theorem wk_Xx_83 : Cond.constant "TiedViews" 83 (-1000001) ∈ tv_tb := tv_t3 16 rfl rfl
theorem wk_Xx_126 : Cond.constant "TiedViews" 126 (-1000003) ∈ tv_tb := tv_t3 72 rfl rfl
theorem wk_Xx_135 : Cond.constant "TiedViews" 135 (-1000100) ∈ tv_tb := tv_t4 25 rfl rfl
theorem wk_Xx_166 : Cond.constant "TiedViews" 166 (-1000000) ∈ tv_tb := tv_t4 102 rfl rfl
theorem wk_Xx_324 : Cond.constant "TiedViews" 324 (-1000010) ∈ tv_tb := tv_t3 21 rfl rfl
theorem wk_Bo_38 : Cond.constant "TiedViews$Bodies" 38 (-1000000) ∈ tv_tb := tv_t5 233 rfl rfl
theorem wk_Ch_101 : Cond.constant "TiedViews$Choices" 101 (-1000000) ∈ tv_tb := tv_t5 176 rfl rfl
theorem wk_He_52 : Cond.constant "TiedViews$Hearsay" 52 (-1000003) ∈ tv_tb := tv_t5 61 rfl rfl
theorem wk_He_63 : Cond.constant "TiedViews$Hearsay" 63 (-1000001) ∈ tv_tb := tv_t5 71 rfl rfl
theorem wk_Re_146 : Cond.constant "TiedViews$Reader" 146 (-1000000) ∈ tv_tb := tv_t3 207 rfl rfl
theorem wk_Sh_32 : Cond.constant "TiedViews$Sheet" 32 (-1000000) ∈ tv_tb := tv_t3 48 rfl rfl
theorem wk_Md_10 : Cond.constant "TiedViewsModel" 10 (-1000010) ∈ tv_tb := tv_t6 206 rfl rfl
theorem wk_Md_127 : Cond.constant "TiedViewsModel" 127 (-1000001) ∈ tv_tb := tv_t6 201 rfl rfl
theorem wk_Md_140 : Cond.constant "TiedViewsModel" 140 (-1000003) ∈ tv_tb := tv_t6 224 rfl rfl
theorem wk_Md_146 : Cond.constant "TiedViewsModel" 146 (-1000000) ∈ tv_tb := tv_t6 238 rfl rfl
theorem wk_Md_262 : Cond.constant "TiedViewsModel" 262 (-1000100) ∈ tv_tb := tv_t7 58 rfl rfl
theorem wk_Jv_265 : Cond.constant "java/lang/Integer" 265 1431655765 ∈ tv_tb := tv_t4 234 rfl rfl
theorem wk_Jv_266 : Cond.constant "java/lang/Integer" 266 858993459 ∈ tv_tb := tv_t4 235 rfl rfl
theorem wk_Jv_267 : Cond.constant "java/lang/Integer" 267 252645135 ∈ tv_tb := tv_t4 236 rfl rfl
theorem wl_Md_119 : Cond.constantLong "TiedViewsModel" 119 7 ∈ tv_tb := tv_t6 196 rfl rfl
theorem wl_Md_125 : Cond.constantLong "TiedViewsModel" 125 2 ∈ tv_tb := tv_t6 200 rfl rfl
theorem wl_Md_135 : Cond.constantLong "TiedViewsModel" 135 8 ∈ tv_tb := tv_t6 223 rfl rfl
theorem wl_Md_141 : Cond.constantLong "TiedViewsModel" 141 255 ∈ tv_tb := tv_t6 225 rfl rfl
theorem wl_Md_196 : Cond.constantLong "TiedViewsModel" 196 1986618743 ∈ tv_tb := tv_t7 24 rfl rfl
theorem wl_Md_198 : Cond.constantLong "TiedViewsModel" 198 7171940 ∈ tv_tb := tv_t7 25 rfl rfl
theorem wl_Md_200 : Cond.constantLong "TiedViewsModel" 200 1751477348 ∈ tv_tb := tv_t7 26 rfl rfl
theorem wl_Md_202 : Cond.constantLong "TiedViewsModel" 202 109300196926309 ∈ tv_tb := tv_t7 27 rfl rfl
theorem wl_Md_218 : Cond.constantLong "TiedViewsModel" 218 25209 ∈ tv_tb := tv_t7 44 rfl rfl
theorem wl_Md_227 : Cond.constantLong "TiedViewsModel" 227 6385252 ∈ tv_tb := tv_t7 53 rfl rfl
theorem wl_Md_244 : Cond.constantLong "TiedViewsModel" 244 6650213 ∈ tv_tb := tv_t7 9 rfl rfl
theorem wl_Md_246 : Cond.constantLong "TiedViewsModel" 246 7629157 ∈ tv_tb := tv_t7 10 rfl rfl
theorem wl_Md_248 : Cond.constantLong "TiedViewsModel" 248 6447474 ∈ tv_tb := tv_t7 11 rfl rfl
theorem wl_Md_266 : Cond.constantLong "TiedViewsModel" 266 5 ∈ tv_tb := tv_t7 71 rfl rfl
theorem wl_Md_280 : Cond.constantLong "TiedViewsModel" 280 4 ∈ tv_tb := tv_t7 80 rfl rfl
theorem wl_Md_313 : Cond.constantLong "TiedViewsModel" 313 (-1) ∈ tv_tb := tv_t7 160 rfl rfl
theorem wl_Md_322 : Cond.constantLong "TiedViewsModel" 322 100 ∈ tv_tb := tv_t7 181 rfl rfl
theorem cw_Ag_58 : tv_Nw "TiedViews$Agreement" 58 ⟨"TiedViews", "restOf", "(II)I"⟩ "TiedViews" prog_1_method_39_code 2 (some .int) 2 := ⟨by decide, tv_t4 52 rfl rfl, tv_t1 1 rfl rfl, tv_t4 53 rfl rfl, by decide, by decide, by decide +kernel⟩
theorem cw_Dr_112 : tv_Nw "TiedViews$Dropping" 112 ⟨"TiedViews", "inverseOf", "(II)I"⟩ "TiedViews" prog_1_method_40_code 3 (some .int) 2 := ⟨by decide, tv_t4 67 rfl rfl, tv_t1 1 rfl rfl, tv_t4 68 rfl rfl, by decide, by decide, by decide +kernel⟩
theorem cw_Dr_115 : tv_Nw "TiedViews$Dropping" 115 ⟨"TiedViews", "restOf", "(II)I"⟩ "TiedViews" prog_1_method_39_code 2 (some .int) 2 := ⟨by decide, tv_t4 52 rfl rfl, tv_t1 1 rfl rfl, tv_t4 53 rfl rfl, by decide, by decide, by decide +kernel⟩
theorem cw_Dr_118 : tv_Nw "TiedViews$Dropping" 118 ⟨"TiedViews", "addTimes", "([I[IIII)V"⟩ "TiedViews" prog_1_method_41_code 6 none 5 := ⟨by decide, tv_t4 76 rfl rfl, tv_t1 1 rfl rfl, tv_t4 77 rfl rfl, by decide, by decide, by decide +kernel⟩
theorem cw_He_119 : tv_Nw "TiedViews$Hearsay" 119 ⟨"TiedViews", "restOf", "(II)I"⟩ "TiedViews" prog_1_method_39_code 2 (some .int) 2 := ⟨by decide, tv_t4 52 rfl rfl, tv_t1 1 rfl rfl, tv_t4 53 rfl rfl, by decide, by decide, by decide +kernel⟩
theorem cw_St_71 : tv_Nw "TiedViews$Steps" 71 ⟨"TiedViews", "inverseOf", "(II)I"⟩ "TiedViews" prog_1_method_40_code 3 (some .int) 2 := ⟨by decide, tv_t4 67 rfl rfl, tv_t1 1 rfl rfl, tv_t4 68 rfl rfl, by decide, by decide, by decide +kernel⟩
theorem cw_St_74 : tv_Nw "TiedViews$Steps" 74 ⟨"TiedViews", "restOf", "(II)I"⟩ "TiedViews" prog_1_method_39_code 2 (some .int) 2 := ⟨by decide, tv_t4 52 rfl rfl, tv_t1 1 rfl rfl, tv_t4 53 rfl rfl, by decide, by decide, by decide +kernel⟩
theorem cw_St_77 : tv_Nw "TiedViews$Steps" 77 ⟨"TiedViews", "addTimes", "([I[IIII)V"⟩ "TiedViews" prog_1_method_41_code 6 none 5 := ⟨by decide, tv_t4 76 rfl rfl, tv_t1 1 rfl rfl, tv_t4 77 rfl rfl, by decide, by decide, by decide +kernel⟩
theorem cw_To_109 : tv_Nw "TiedViews$Told" 109 ⟨"TiedViews", "restOf", "(II)I"⟩ "TiedViews" prog_1_method_39_code 2 (some .int) 2 := ⟨by decide, tv_t4 52 rfl rfl, tv_t1 1 rfl rfl, tv_t4 53 rfl rfl, by decide, by decide, by decide +kernel⟩
theorem cw_Xx_287 : tv_Sw "TiedViews" 287 ⟨"TiedViews$Bodies", "kindOf", "(LTiedViews$Eye;)I"⟩ prog_3_method_2_code 1 (some .int) 1 := ⟨tv_t5 181 rfl rfl, tv_t5 182 rfl rfl, tv_t1 13 rfl rfl, tv_t5 183 rfl rfl, by decide, by decide, by decide +kernel⟩
theorem cw_Xx_291 : tv_Sw "TiedViews" 291 ⟨"TiedViews$Bodies", "isOfKind", "(LTiedViews$Eye;I)Z"⟩ prog_3_method_3_code 4 (some .boolean) 2 := ⟨tv_t5 190 rfl rfl, tv_t5 191 rfl rfl, tv_t1 13 rfl rfl, tv_t5 192 rfl rfl, by decide, by decide, by decide +kernel⟩
theorem cw_Xx_328 : tv_Sw "TiedViews" 328 ⟨"TiedViews", "restOf", "(II)I"⟩ prog_1_method_39_code 2 (some .int) 2 := ⟨tv_t4 69 rfl rfl, tv_t4 52 rfl rfl, tv_t1 1 rfl rfl, tv_t4 53 rfl rfl, by decide, by decide, by decide +kernel⟩
theorem cw_Bo_28 : tv_Sw "TiedViews$Bodies" 28 ⟨"TiedViews$Bodies", "kindOf", "(LTiedViews$Eye;)I"⟩ prog_3_method_2_code 1 (some .int) 1 := ⟨tv_t5 193 rfl rfl, tv_t5 182 rfl rfl, tv_t1 13 rfl rfl, tv_t5 183 rfl rfl, by decide, by decide, by decide +kernel⟩
theorem cw_Bo_43 : tv_Sw "TiedViews$Bodies" 43 ⟨"TiedViews$Bodies", "bodyFor", "(II)I"⟩ prog_3_method_7_code 5 (some .int) 2 := ⟨tv_t5 208 rfl rfl, tv_t5 209 rfl rfl, tv_t1 13 rfl rfl, tv_t5 210 rfl rfl, by decide, by decide, by decide +kernel⟩
theorem cw_Bo_78 : tv_Sw "TiedViews$Bodies" 78 ⟨"java/lang/Integer", "bitCount", "(I)I"⟩ prog_15_method_49_code 1 (some .int) 1 := ⟨tv_t5 224 rfl rfl, tv_t4 232 rfl rfl, tv_t1 21 rfl rfl, tv_t4 233 rfl rfl, by decide, by decide, by decide +kernel⟩
theorem cw_Ch_35 : tv_Sw "TiedViews$Choices" 35 ⟨"java/util/Arrays", "fill", "([II)V"⟩ prog_21_method_103_code 4 none 2 := ⟨tv_t4 86 rfl rfl, tv_t2 125 rfl rfl, tv_t1 11 rfl rfl, tv_t2 126 rfl rfl, by decide, by decide, by decide +kernel⟩
theorem cw_Ch_54 : tv_Sw "TiedViews$Choices" 54 ⟨"java/lang/Math", "min", "(II)I"⟩ prog_16_method_69_code 2 (some .int) 2 := ⟨tv_t4 91 rfl rfl, tv_t4 35 rfl rfl, tv_t1 20 rfl rfl, tv_t4 36 rfl rfl, by decide, by decide, by decide +kernel⟩
theorem cw_Ch_111 : tv_Sw "TiedViews$Choices" 111 ⟨"java/lang/Integer", "bitCount", "(I)I"⟩ prog_15_method_49_code 1 (some .int) 1 := ⟨tv_t5 163 rfl rfl, tv_t4 232 rfl rfl, tv_t1 21 rfl rfl, tv_t4 233 rfl rfl, by decide, by decide, by decide +kernel⟩
theorem cw_Dr_38 : tv_Sw "TiedViews$Dropping" 38 ⟨"java/lang/Math", "min", "(II)I"⟩ prog_16_method_69_code 2 (some .int) 2 := ⟨tv_t4 226 rfl rfl, tv_t4 35 rfl rfl, tv_t1 20 rfl rfl, tv_t4 36 rfl rfl, by decide, by decide, by decide +kernel⟩
theorem cw_Dr_66 : tv_Sw "TiedViews$Dropping" 66 ⟨"java/lang/Integer", "bitCount", "(I)I"⟩ prog_15_method_49_code 1 (some .int) 1 := ⟨tv_t4 231 rfl rfl, tv_t4 232 rfl rfl, tv_t1 21 rfl rfl, tv_t4 233 rfl rfl, by decide, by decide, by decide +kernel⟩
theorem cw_Sh_22 : tv_Sw "TiedViews$Sheet" 22 ⟨"java/util/Arrays", "fill", "([II)V"⟩ prog_21_method_103_code 4 none 2 := ⟨tv_t3 26 rfl rfl, tv_t2 125 rfl rfl, tv_t1 11 rfl rfl, tv_t2 126 rfl rfl, by decide, by decide, by decide +kernel⟩
theorem cw_St_33 : tv_Sw "TiedViews$Steps" 33 ⟨"java/lang/Math", "min", "(II)I"⟩ prog_16_method_69_code 2 (some .int) 2 := ⟨tv_t4 34 rfl rfl, tv_t4 35 rfl rfl, tv_t1 20 rfl rfl, tv_t4 36 rfl rfl, by decide, by decide, by decide +kernel⟩
theorem cw_St_54 : tv_Sw "TiedViews$Steps" 54 ⟨"java/util/Arrays", "fill", "([II)V"⟩ prog_21_method_103_code 4 none 2 := ⟨tv_t4 45 rfl rfl, tv_t2 125 rfl rfl, tv_t1 11 rfl rfl, tv_t2 126 rfl rfl, by decide, by decide, by decide +kernel⟩
theorem cw_Md_115 : tv_Sw "TiedViewsModel" 115 ⟨"TiedViewsModel", "in", "(JJJ)Z"⟩ prog_14_method_2_code 6 (some .boolean) 3 := ⟨tv_t6 197 rfl rfl, tv_t6 198 rfl rfl, tv_t1 14 rfl rfl, tv_t6 199 rfl rfl, by decide, by decide, by decide +kernel⟩
theorem cw_Md_121 : tv_Sw "TiedViewsModel" 121 ⟨"TiedViewsModel", "isSheet", "(I)Z"⟩ prog_14_method_7_code 1 (some .boolean) 1 := ⟨tv_t6 193 rfl rfl, tv_t6 194 rfl rfl, tv_t1 14 rfl rfl, tv_t6 195 rfl rfl, by decide, by decide, by decide +kernel⟩
theorem cw_Md_159 : tv_Sw "TiedViewsModel" 159 ⟨"TiedViewsModel", "isLetter", "(I)Z"⟩ prog_14_method_15_code 1 (some .boolean) 1 := ⟨tv_t6 239 rfl rfl, tv_t7 0 rfl rfl, tv_t1 14 rfl rfl, tv_t7 1 rfl rfl, by decide, by decide, by decide +kernel⟩
theorem cw_Md_162 : tv_Sw "TiedViewsModel" 162 ⟨"TiedViewsModel", "isFigure", "(I)Z"⟩ prog_14_method_16_code 1 (some .boolean) 1 := ⟨tv_t7 2 rfl rfl, tv_t7 3 rfl rfl, tv_t1 14 rfl rfl, tv_t7 4 rfl rfl, by decide, by decide, by decide +kernel⟩
theorem cw_Md_310 : tv_Sw "TiedViewsModel" 310 ⟨"TiedViewsModel", "bits", "(I)I"⟩ prog_14_method_50_code 3 (some .int) 1 := ⟨tv_t7 153 rfl rfl, tv_t7 154 rfl rfl, tv_t1 14 rfl rfl, tv_t7 155 rfl rfl, by decide, by decide, by decide +kernel⟩
theorem cw_Md_352 : tv_Sw "TiedViewsModel" 352 ⟨"TiedViewsModel", "isOf", "(II)Z"⟩ prog_14_method_70_code 2 (some .boolean) 2 := ⟨tv_t8 2 rfl rfl, tv_t8 3 rfl rfl, tv_t1 14 rfl rfl, tv_t8 4 rfl rfl, by decide, by decide, by decide +kernel⟩
theorem cw_Xx_79 : tv_Vw "TiedViews" 79 ⟨"TiedViews", "sheetAt", "(I)LTiedViews$Sheet;"⟩ prog_1_method_34_code 2 (some (.object "TiedViews$Sheet")) 1 := ⟨tv_t3 12 rfl rfl, tv_t3 14 rfl rfl, tv_pr1 0 rfl, tv_t1 1 rfl rfl, tv_t3 15 rfl rfl, by decide, by decide, by decide +kernel⟩
theorem cw_Xx_84 : tv_Vw "TiedViews" 84 ⟨"TiedViews", "found", "(I)I"⟩ prog_1_method_36_code 2 (some .int) 1 := ⟨tv_t3 17 rfl rfl, tv_t3 19 rfl rfl, tv_pr1 1 rfl, tv_t1 1 rfl rfl, tv_t3 20 rfl rfl, by decide, by decide, by decide +kernel⟩
theorem cw_Xx_87 : tv_Vw "TiedViews" 87 ⟨"TiedViews$Sheet", "begin", "(II)V"⟩ prog_9_method_2_code 3 none 2 := ⟨tv_t3 22 rfl rfl, tv_t3 23 rfl rfl, tv_t3 24 rfl rfl, tv_t1 2 rfl rfl, tv_t3 25 rfl rfl, by decide, by decide, by decide +kernel⟩
theorem cw_Xx_91 : tv_Vw "TiedViews" 91 ⟨"TiedViews", "passed", "(I)I"⟩ prog_1_method_37_code 2 (some .int) 1 := ⟨tv_t3 27 rfl rfl, tv_t3 29 rfl rfl, tv_pr1 2 rfl, tv_t1 1 rfl rfl, tv_t3 30 rfl rfl, by decide, by decide, by decide +kernel⟩
theorem cw_Xx_94 : tv_Vw "TiedViews" 94 ⟨"TiedViews$Sheet", "isMissing", "()Z"⟩ prog_9_method_3_code 1 (some .boolean) 0 := ⟨tv_t3 35 rfl rfl, tv_t3 36 rfl rfl, tv_t3 37 rfl rfl, tv_t1 2 rfl rfl, tv_t3 38 rfl rfl, by decide, by decide, by decide +kernel⟩
theorem cw_Xx_98 : tv_Vw "TiedViews" 98 ⟨"TiedViews$Sheet", "reaches", "(II)Z"⟩ prog_9_method_4_code 3 (some .boolean) 2 := ⟨tv_t3 39 rfl rfl, tv_t3 40 rfl rfl, tv_t3 41 rfl rfl, tv_t1 2 rfl rfl, tv_t3 42 rfl rfl, by decide, by decide, by decide +kernel⟩
theorem cw_Xx_102 : tv_Vw "TiedViews" 102 ⟨"TiedViews$Sheet", "put", "(II)I"⟩ prog_9_method_5_code 3 (some .int) 2 := ⟨tv_t3 43 rfl rfl, tv_t3 44 rfl rfl, tv_t3 45 rfl rfl, tv_t1 2 rfl rfl, tv_t3 46 rfl rfl, by decide, by decide, by decide +kernel⟩
theorem cw_Xx_122 : tv_Vw "TiedViews" 122 ⟨"TiedViews$Reader", "hasRoomFor", "(I)Z"⟩ prog_8_method_2_code 2 (some .boolean) 1 := ⟨tv_t3 68 rfl rfl, tv_t3 69 rfl rfl, tv_t3 70 rfl rfl, tv_t1 6 rfl rfl, tv_t3 71 rfl rfl, by decide, by decide, by decide +kernel⟩
theorem cw_Xx_127 : tv_Vw "TiedViews" 127 ⟨"TiedViews$Reader", "append", "(JI)I"⟩ prog_8_method_3_code 5 (some .int) 2 := ⟨tv_t3 73 rfl rfl, tv_t3 74 rfl rfl, tv_t3 75 rfl rfl, tv_t1 6 rfl rfl, tv_t3 76 rfl rfl, by decide, by decide, by decide +kernel⟩
theorem cw_Xx_131 : tv_Vw "TiedViews" 131 ⟨"TiedViews$Reader", "takeIn", "()I"⟩ prog_8_method_4_code 3 (some .int) 0 := ⟨tv_t3 81 rfl rfl, tv_t3 82 rfl rfl, tv_t3 83 rfl rfl, tv_t1 6 rfl rfl, tv_t3 84 rfl rfl, by decide, by decide, by decide +kernel⟩
theorem cw_Xx_136 : tv_Vw "TiedViews" 136 ⟨"TiedViews$Agreement", "learnLines", "()V"⟩ prog_2_method_6_code 1 none 0 := ⟨tv_t4 26 rfl rfl, tv_t4 27 rfl rfl, tv_t4 28 rfl rfl, tv_t1 7 rfl rfl, tv_t4 29 rfl rfl, by decide, by decide, by decide +kernel⟩
theorem cw_Xx_139 : tv_Vw "TiedViews" 139 ⟨"TiedViews$Dropping", "forget", "()V"⟩ prog_5_method_2_code 1 none 0 := ⟨tv_t4 78 rfl rfl, tv_t4 79 rfl rfl, tv_t4 80 rfl rfl, tv_t1 9 rfl rfl, tv_t4 81 rfl rfl, by decide, by decide, by decide +kernel⟩
theorem cw_Xx_142 : tv_Vw "TiedViews" 142 ⟨"TiedViews$Choices", "learnBars", "()V"⟩ prog_4_method_3_code 3 none 0 := ⟨tv_t4 82 rfl rfl, tv_t4 83 rfl rfl, tv_t4 84 rfl rfl, tv_t1 12 rfl rfl, tv_t4 85 rfl rfl, by decide, by decide, by decide +kernel⟩
theorem cw_Xx_151 : tv_Vw "TiedViews" 151 ⟨"TiedViews$Told", "eyeAt", "(I)LTiedViews$Eye;"⟩ prog_12_method_4_code 2 (some (.object "TiedViews$Eye")) 1 := ⟨tv_t4 100 rfl rfl, tv_t3 213 rfl rfl, tv_t3 214 rfl rfl, tv_t1 3 rfl rfl, tv_t3 215 rfl rfl, by decide, by decide, by decide +kernel⟩
theorem cw_Xx_163 : tv_Vw "TiedViews" 163 ⟨"TiedViews$Eye", "isChoice", "()Z"⟩ prog_6_method_3_code 1 (some .boolean) 0 := ⟨tv_t4 101 rfl rfl, tv_t3 217 rfl rfl, tv_t3 218 rfl rfl, tv_t1 4 rfl rfl, tv_t3 219 rfl rfl, by decide, by decide, by decide +kernel⟩
theorem cw_Xx_174 : tv_Vw "TiedViews" 174 ⟨"TiedViews$Told", "tiesOf", "(I)I"⟩ prog_12_method_9_code 4 (some .int) 1 := ⟨tv_t4 103 rfl rfl, tv_t4 104 rfl rfl, tv_t4 105 rfl rfl, tv_t1 3 rfl rfl, tv_t4 106 rfl rfl, by decide, by decide, by decide +kernel⟩
theorem cw_Xx_180 : tv_Vw "TiedViews" 180 ⟨"TiedViews$Agreement", "freeColumns", "()I"⟩ prog_2_method_4_code 1 (some .int) 0 := ⟨tv_t4 115 rfl rfl, tv_t4 116 rfl rfl, tv_t4 117 rfl rfl, tv_t1 7 rfl rfl, tv_t4 118 rfl rfl, by decide, by decide, by decide +kernel⟩
theorem cw_Xx_189 : tv_Vw "TiedViews" 189 ⟨"TiedViews$Agreement", "leaders", "()I"⟩ prog_2_method_3_code 1 (some .int) 0 := ⟨tv_t4 123 rfl rfl, tv_t4 120 rfl rfl, tv_t4 121 rfl rfl, tv_t1 7 rfl rfl, tv_t4 122 rfl rfl, by decide, by decide, by decide +kernel⟩
theorem cw_Xx_192 : tv_Vw "TiedViews" 192 ⟨"TiedViews$Told", "isColumn", "(I)Z"⟩ prog_12_method_8_code 2 (some .boolean) 1 := ⟨tv_t4 128 rfl rfl, tv_t4 129 rfl rfl, tv_t4 130 rfl rfl, tv_t1 3 rfl rfl, tv_t4 131 rfl rfl, by decide, by decide, by decide +kernel⟩
theorem cw_Xx_195 : tv_Vw "TiedViews" 195 ⟨"TiedViews$Agreement", "basisNumber", "(II)I"⟩ prog_2_method_5_code 5 (some .int) 2 := ⟨tv_t4 132 rfl rfl, tv_t4 133 rfl rfl, tv_t4 134 rfl rfl, tv_t1 7 rfl rfl, tv_t4 135 rfl rfl, by decide, by decide, by decide +kernel⟩
theorem cw_Xx_198 : tv_Vw "TiedViews" 198 ⟨"TiedViews$Told", "linearAt", "(I)LTiedViews$Eye;"⟩ prog_12_method_5_code 3 (some (.object "TiedViews$Eye")) 1 := ⟨tv_t4 153 rfl rfl, tv_t3 230 rfl rfl, tv_t3 231 rfl rfl, tv_t1 3 rfl rfl, tv_t3 232 rfl rfl, by decide, by decide, by decide +kernel⟩
theorem cw_Xx_201 : tv_Vw "TiedViews" 201 ⟨"TiedViews$Sheet", "holdsRests", "(III)Z"⟩ prog_9_method_7_code 5 (some .boolean) 3 := ⟨tv_t4 154 rfl rfl, tv_t4 155 rfl rfl, tv_t4 156 rfl rfl, tv_t1 2 rfl rfl, tv_t4 157 rfl rfl, by decide, by decide, by decide +kernel⟩
theorem cw_Xx_205 : tv_Vw "TiedViews" 205 ⟨"TiedViews$Eye", "takeReading", "(LTiedViews$Sheet;I)V"⟩ prog_6_method_5_code 3 none 2 := ⟨tv_t4 158 rfl rfl, tv_t4 159 rfl rfl, tv_t4 160 rfl rfl, tv_t1 4 rfl rfl, tv_t4 161 rfl rfl, by decide, by decide, by decide +kernel⟩
theorem cw_Xx_209 : tv_Vw "TiedViews" 209 ⟨"TiedViews", "forgetReadings", "()V"⟩ prog_1_method_38_code 1 none 0 := ⟨tv_t4 164 rfl rfl, tv_t4 166 rfl rfl, tv_pr2 10 rfl, tv_t1 1 rfl rfl, tv_t4 167 rfl rfl, by decide, by decide, by decide +kernel⟩
theorem cw_Xx_212 : tv_Vw "TiedViews" 212 ⟨"TiedViews$Agreement", "readingsFit", "()Z"⟩ prog_2_method_8_code 1 (some .boolean) 0 := ⟨tv_t4 180 rfl rfl, tv_t4 181 rfl rfl, tv_t4 182 rfl rfl, tv_t1 7 rfl rfl, tv_t4 183 rfl rfl, by decide, by decide, by decide +kernel⟩
theorem cw_Xx_215 : tv_Vw "TiedViews" 215 ⟨"TiedViews$Agreement", "fillNumber", "(I)I"⟩ prog_2_method_9_code 2 (some .int) 1 := ⟨tv_t4 205 rfl rfl, tv_t4 206 rfl rfl, tv_t4 207 rfl rfl, tv_t1 7 rfl rfl, tv_t4 208 rfl rfl, by decide, by decide, by decide +kernel⟩
theorem cw_Xx_218 : tv_Vw "TiedViews" 218 ⟨"TiedViews$Agreement", "isFixed", "(I)Z"⟩ prog_2_method_10_code 4 (some .boolean) 1 := ⟨tv_t4 213 rfl rfl, tv_t4 214 rfl rfl, tv_t4 215 rfl rfl, tv_t1 7 rfl rfl, tv_t4 216 rfl rfl, by decide, by decide, by decide +kernel⟩
theorem cw_Xx_221 : tv_Vw "TiedViews" 221 ⟨"TiedViews$Dropping", "leastSet", "()I"⟩ prog_5_method_3_code 1 (some .int) 0 := ⟨tv_t4 221 rfl rfl, tv_t4 222 rfl rfl, tv_t4 223 rfl rfl, tv_t1 9 rfl rfl, tv_t4 224 rfl rfl, by decide, by decide, by decide +kernel⟩
theorem cw_Xx_224 : tv_Vw "TiedViews" 224 ⟨"TiedViews$Agreement", "proofLine", "(LTiedViews$Sheet;I)I"⟩ prog_2_method_14_code 4 (some .int) 2 := ⟨tv_t5 22 rfl rfl, tv_t5 23 rfl rfl, tv_t5 24 rfl rfl, tv_t1 7 rfl rfl, tv_t5 25 rfl rfl, by decide, by decide, by decide +kernel⟩
theorem cw_Xx_228 : tv_Vw "TiedViews" 228 ⟨"TiedViews$Agreement", "madeOf", "(II)I"⟩ prog_2_method_16_code 3 (some .int) 2 := ⟨tv_t5 31 rfl rfl, tv_t5 32 rfl rfl, tv_t5 33 rfl rfl, tv_t1 7 rfl rfl, tv_t5 34 rfl rfl, by decide, by decide, by decide +kernel⟩
theorem cw_Xx_231 : tv_Vw "TiedViews" 231 ⟨"TiedViews$Told", "tieAt", "(I)LTiedViews$Tie;"⟩ prog_12_method_7_code 2 (some (.object "TiedViews$Tie")) 1 := ⟨tv_t5 39 rfl rfl, tv_t5 40 rfl rfl, tv_t5 41 rfl rfl, tv_t1 3 rfl rfl, tv_t5 42 rfl rfl, by decide, by decide, by decide +kernel⟩
theorem cw_Xx_235 : tv_Vw "TiedViews" 235 ⟨"TiedViews$Agreement", "costOf", "(I)I"⟩ prog_2_method_17_code 3 (some .int) 1 := ⟨tv_t5 43 rfl rfl, tv_t5 44 rfl rfl, tv_t5 45 rfl rfl, tv_t1 7 rfl rfl, tv_t5 46 rfl rfl, by decide, by decide, by decide +kernel⟩
theorem cw_Xx_238 : tv_Vw "TiedViews" 238 ⟨"TiedViews$Tie", "joins", "(I)Z"⟩ prog_11_method_2_code 2 (some .boolean) 1 := ⟨tv_t5 51 rfl rfl, tv_t4 108 rfl rfl, tv_t4 109 rfl rfl, tv_t1 5 rfl rfl, tv_t4 110 rfl rfl, by decide, by decide, by decide +kernel⟩
theorem cw_Xx_246 : tv_Vw "TiedViews" 246 ⟨"TiedViews$Hearsay", "isFull", "()Z"⟩ prog_7_method_2_code 1 (some .boolean) 0 := ⟨tv_t5 52 rfl rfl, tv_t5 53 rfl rfl, tv_t5 54 rfl rfl, tv_t1 10 rfl rfl, tv_t5 55 rfl rfl, by decide, by decide, by decide +kernel⟩
theorem cw_Xx_249 : tv_Vw "TiedViews" 249 ⟨"TiedViews$Hearsay", "addRule", "(III)I"⟩ prog_7_method_3_code 4 (some .int) 3 := ⟨tv_t5 56 rfl rfl, tv_t5 57 rfl rfl, tv_t5 58 rfl rfl, tv_t1 10 rfl rfl, tv_t5 59 rfl rfl, by decide, by decide, by decide +kernel⟩
theorem cw_Xx_253 : tv_Vw "TiedViews" 253 ⟨"TiedViews$Hearsay", "change", "(II)I"⟩ prog_7_method_4_code 4 (some .int) 2 := ⟨tv_t5 66 rfl rfl, tv_t5 67 rfl rfl, tv_t5 68 rfl rfl, tv_t1 10 rfl rfl, tv_t5 69 rfl rfl, by decide, by decide, by decide +kernel⟩
theorem cw_Xx_256 : tv_Vw "TiedViews" 256 ⟨"TiedViews$Hearsay", "goOn", "(I)I"⟩ prog_7_method_6_code 4 (some .int) 1 := ⟨tv_t5 76 rfl rfl, tv_t5 77 rfl rfl, tv_t5 78 rfl rfl, tv_t1 10 rfl rfl, tv_t5 79 rfl rfl, by decide, by decide, by decide +kernel⟩
theorem cw_Xx_259 : tv_Vw "TiedViews" 259 ⟨"TiedViews$Hearsay", "numberAt", "(I)I"⟩ prog_7_method_5_code 2 (some .int) 1 := ⟨tv_t5 97 rfl rfl, tv_t5 98 rfl rfl, tv_t5 99 rfl rfl, tv_t1 10 rfl rfl, tv_t5 100 rfl rfl, by decide, by decide, by decide +kernel⟩
theorem cw_Xx_262 : tv_Vw "TiedViews" 262 ⟨"TiedViews$Hearsay", "isSpent", "()Z"⟩ prog_7_method_9_code 1 (some .boolean) 0 := ⟨tv_t5 105 rfl rfl, tv_t5 106 rfl rfl, tv_t5 107 rfl rfl, tv_t1 10 rfl rfl, tv_t5 108 rfl rfl, by decide, by decide, by decide +kernel⟩
theorem cw_Xx_271 : tv_Vw "TiedViews" 271 ⟨"TiedViews$Told", "choiceAt", "(I)LTiedViews$Eye;"⟩ prog_12_method_6_code 3 (some (.object "TiedViews$Eye")) 1 := ⟨tv_t5 125 rfl rfl, tv_t4 14 rfl rfl, tv_t4 15 rfl rfl, tv_t1 3 rfl rfl, tv_t4 16 rfl rfl, by decide, by decide, by decide +kernel⟩
theorem cw_Xx_274 : tv_Vw "TiedViews" 274 ⟨"TiedViews$Eye", "fullSet", "()I"⟩ prog_6_method_4_code 1 (some .int) 0 := ⟨tv_t5 126 rfl rfl, tv_t3 191 rfl rfl, tv_t3 192 rfl rfl, tv_t1 4 rfl rfl, tv_t3 193 rfl rfl, by decide, by decide, by decide +kernel⟩
theorem cw_Xx_277 : tv_Vw "TiedViews" 277 ⟨"TiedViews$Choices", "forget", "()V"⟩ prog_4_method_2_code 1 none 0 := ⟨tv_t5 127 rfl rfl, tv_t5 128 rfl rfl, tv_t5 129 rfl rfl, tv_t1 12 rfl rfl, tv_t5 130 rfl rfl, by decide, by decide, by decide +kernel⟩
theorem cw_Xx_278 : tv_Vw "TiedViews" 278 ⟨"TiedViews$Choices", "narrowSets", "()I"⟩ prog_4_method_5_code 6 (some .int) 0 := ⟨tv_t5 135 rfl rfl, tv_t5 136 rfl rfl, tv_t5 137 rfl rfl, tv_t1 12 rfl rfl, tv_t5 138 rfl rfl, by decide, by decide, by decide +kernel⟩
theorem cw_Xx_281 : tv_Vw "TiedViews" 281 ⟨"TiedViews$Choices", "ways", "()I"⟩ prog_4_method_8_code 2 (some .int) 0 := ⟨tv_t5 153 rfl rfl, tv_t5 154 rfl rfl, tv_t5 155 rfl rfl, tv_t1 12 rfl rfl, tv_t5 156 rfl rfl, by decide, by decide, by decide +kernel⟩
theorem cw_Xx_284 : tv_Vw "TiedViews" 284 ⟨"TiedViews$Choices", "firstValue", "(I)I"⟩ prog_4_method_9_code 2 (some .int) 1 := ⟨tv_t5 172 rfl rfl, tv_t5 173 rfl rfl, tv_t5 174 rfl rfl, tv_t1 12 rfl rfl, tv_t5 175 rfl rfl, by decide, by decide, by decide +kernel⟩
theorem cw_Xx_295 : tv_Vw "TiedViews" 295 ⟨"TiedViews$Bodies", "answer", "(LTiedViews$Eye;I)I"⟩ prog_3_method_5_code 3 (some .int) 2 := ⟨tv_t5 200 rfl rfl, tv_t5 201 rfl rfl, tv_t5 202 rfl rfl, tv_t1 13 rfl rfl, tv_t5 203 rfl rfl, by decide, by decide, by decide +kernel⟩
theorem cw_Xx_299 : tv_Vw "TiedViews" 299 ⟨"TiedViews$Bodies", "traceNumber", "(I)I"⟩ prog_3_method_4_code 2 (some .int) 1 := ⟨tv_t5 229 rfl rfl, tv_t5 230 rfl rfl, tv_t5 231 rfl rfl, tv_t1 13 rfl rfl, tv_t5 232 rfl rfl, by decide, by decide, by decide +kernel⟩
theorem cw_Xx_302 : tv_Vw "TiedViews" 302 ⟨"TiedViews", "sheetsThere", "()I"⟩ prog_1_method_35_code 3 (some .int) 0 := ⟨tv_t5 238 rfl rfl, tv_t6 0 rfl rfl, tv_pr4 1 rfl, tv_t1 1 rfl rfl, tv_t6 1 rfl rfl, by decide, by decide, by decide +kernel⟩
theorem cw_Xx_311 : tv_Vw "TiedViews" 311 ⟨"TiedViews$Told", "readings", "()I"⟩ prog_12_method_10_code 3 (some .int) 0 := ⟨tv_t6 2 rfl rfl, tv_t6 3 rfl rfl, tv_t6 4 rfl rfl, tv_t1 3 rfl rfl, tv_t6 5 rfl rfl, by decide, by decide, by decide +kernel⟩
theorem cw_Xx_317 : tv_Vw "TiedViews" 317 ⟨"TiedViews$Told", "choiceCount", "()I"⟩ prog_12_method_11_code 3 (some .int) 0 := ⟨tv_t6 6 rfl rfl, tv_t6 7 rfl rfl, tv_t6 8 rfl rfl, tv_t1 3 rfl rfl, tv_t6 9 rfl rfl, by decide, by decide, by decide +kernel⟩
theorem cw_Xx_325 : tv_Vw "TiedViews" 325 ⟨"TiedViews$Agreement", "forgetFill", "()V"⟩ prog_2_method_2_code 1 none 0 := ⟨tv_t4 168 rfl rfl, tv_t4 169 rfl rfl, tv_t4 170 rfl rfl, tv_t1 7 rfl rfl, tv_t4 171 rfl rfl, by decide, by decide, by decide +kernel⟩
theorem cw_Ag_43 : tv_Vw "TiedViews$Agreement" 43 ⟨"TiedViews$Agreement", "leaders", "()I"⟩ prog_2_method_3_code 1 (some .int) 0 := ⟨tv_t4 119 rfl rfl, tv_t4 120 rfl rfl, tv_t4 121 rfl rfl, tv_t1 7 rfl rfl, tv_t4 122 rfl rfl, by decide, by decide, by decide +kernel⟩
theorem cw_Ag_47 : tv_Vw "TiedViews$Agreement" 47 ⟨"TiedViews$Steps", "freeColumn", "(I)I"⟩ prog_10_method_12_code 2 (some .int) 1 := ⟨tv_t4 136 rfl rfl, tv_t4 137 rfl rfl, tv_t4 138 rfl rfl, tv_t1 8 rfl rfl, tv_t4 139 rfl rfl, by decide, by decide, by decide +kernel⟩
theorem cw_Ag_51 : tv_Vw "TiedViews$Agreement" 51 ⟨"TiedViews$Steps", "leaderAt", "(I)I"⟩ prog_10_method_8_code 2 (some .int) 1 := ⟨tv_t4 140 rfl rfl, tv_t4 141 rfl rfl, tv_t4 142 rfl rfl, tv_t1 8 rfl rfl, tv_t4 143 rfl rfl, by decide, by decide, by decide +kernel⟩
theorem cw_Ag_54 : tv_Vw "TiedViews$Agreement" 54 ⟨"TiedViews$Steps", "numberAt", "(II)I"⟩ prog_10_method_10_code 3 (some .int) 2 := ⟨tv_t4 144 rfl rfl, tv_t4 145 rfl rfl, tv_t4 146 rfl rfl, tv_t1 8 rfl rfl, tv_t4 147 rfl rfl, by decide, by decide, by decide +kernel⟩
theorem cw_Ag_63 : tv_Vw "TiedViews$Agreement" 63 ⟨"TiedViews$Steps", "begin", "(II)V"⟩ prog_10_method_2_code 3 none 2 := ⟨tv_t4 30 rfl rfl, tv_t4 31 rfl rfl, tv_t4 32 rfl rfl, tv_t1 8 rfl rfl, tv_t4 33 rfl rfl, by decide, by decide, by decide +kernel⟩
theorem cw_Ag_67 : tv_Vw "TiedViews$Agreement" 67 ⟨"TiedViews$Agreement", "addLines", "(LTiedViews$Steps;IZ)V"⟩ prog_2_method_7_code 9 none 3 := ⟨tv_t4 37 rfl rfl, tv_t4 39 rfl rfl, tv_pr2 5 rfl, tv_t1 7 rfl rfl, tv_t4 40 rfl rfl, by decide, by decide, by decide +kernel⟩
theorem cw_Ag_71 : tv_Vw "TiedViews$Agreement" 71 ⟨"TiedViews$Steps", "putInSteps", "()V"⟩ prog_10_method_4_code 3 none 0 := ⟨tv_t4 54 rfl rfl, tv_t4 55 rfl rfl, tv_t4 56 rfl rfl, tv_t1 8 rfl rfl, tv_t4 57 rfl rfl, by decide, by decide, by decide +kernel⟩
theorem cw_Ag_89 : tv_Vw "TiedViews$Agreement" 89 ⟨"TiedViews$Steps", "addLine", "()[I"⟩ prog_10_method_3_code 2 (some (.array .int)) 0 := ⟨tv_t4 41 rfl rfl, tv_t4 42 rfl rfl, tv_t4 43 rfl rfl, tv_t1 8 rfl rfl, tv_t4 44 rfl rfl, by decide, by decide, by decide +kernel⟩
theorem cw_Ag_93 : tv_Vw "TiedViews$Agreement" 93 ⟨"TiedViews$Told", "writeLine", "(LTiedViews$Tie;I[I)V"⟩ prog_12_method_16_code 8 none 3 := ⟨tv_t4 46 rfl rfl, tv_t4 47 rfl rfl, tv_t4 48 rfl rfl, tv_t1 3 rfl rfl, tv_t4 49 rfl rfl, by decide, by decide, by decide +kernel⟩
theorem cw_Ag_97 : tv_Vw "TiedViews$Agreement" 97 ⟨"TiedViews$Agreement", "learnFill", "()V"⟩ prog_2_method_11_code 1 none 0 := ⟨tv_t4 184 rfl rfl, tv_t4 186 rfl rfl, tv_pr2 11 rfl, tv_t1 7 rfl rfl, tv_t4 187 rfl rfl, by decide, by decide, by decide +kernel⟩
theorem cw_Ag_103 : tv_Vw "TiedViews$Agreement" 103 ⟨"TiedViews$Steps", "extraAt", "(II)I"⟩ prog_10_method_11_code 3 (some .int) 2 := ⟨tv_t4 200 rfl rfl, tv_t4 201 rfl rfl, tv_t4 202 rfl rfl, tv_t1 8 rfl rfl, tv_t4 203 rfl rfl, by decide, by decide, by decide +kernel⟩
theorem cw_Ag_106 : tv_Vw "TiedViews$Agreement" 106 ⟨"TiedViews$Agreement", "addReadings", "()V"⟩ prog_2_method_12_code 5 none 0 := ⟨tv_t4 188 rfl rfl, tv_t4 190 rfl rfl, tv_pr2 12 rfl, tv_t1 7 rfl rfl, tv_t4 191 rfl rfl, by decide, by decide, by decide +kernel⟩
theorem cw_Ag_109 : tv_Vw "TiedViews$Agreement" 109 ⟨"TiedViews$Agreement", "noLineWantsTheImpossible", "()Z"⟩ prog_2_method_13_code 2 (some .boolean) 0 := ⟨tv_t4 192 rfl rfl, tv_t4 194 rfl rfl, tv_pr2 13 rfl, tv_t1 7 rfl rfl, tv_t4 195 rfl rfl, by decide, by decide, by decide +kernel⟩
theorem cw_Ag_135 : tv_Vw "TiedViews$Agreement" 135 ⟨"TiedViews$Steps", "isLeader", "(I)Z"⟩ prog_10_method_9_code 2 (some .boolean) 1 := ⟨tv_t4 196 rfl rfl, tv_t4 197 rfl rfl, tv_t4 198 rfl rfl, tv_t1 8 rfl rfl, tv_t4 199 rfl rfl, by decide, by decide, by decide +kernel⟩
theorem cw_Ag_139 : tv_Vw "TiedViews$Agreement" 139 ⟨"TiedViews$Sheet", "reaches", "(II)Z"⟩ prog_9_method_4_code 3 (some .boolean) 2 := ⟨tv_t5 26 rfl rfl, tv_t3 40 rfl rfl, tv_t3 41 rfl rfl, tv_t1 2 rfl rfl, tv_t3 42 rfl rfl, by decide, by decide, by decide +kernel⟩
theorem cw_Ag_145 : tv_Vw "TiedViews$Agreement" 145 ⟨"TiedViews$Agreement", "wantOf", "(ILTiedViews$Sheet;I)I"⟩ prog_2_method_15_code 6 (some .int) 3 := ⟨tv_t5 27 rfl rfl, tv_t5 29 rfl rfl, tv_pr3 3 rfl, tv_t1 7 rfl rfl, tv_t5 30 rfl rfl, by decide, by decide, by decide +kernel⟩
theorem cw_Bo_39 : tv_Vw "TiedViews$Bodies" 39 ⟨"TiedViews$Bodies", "answerAnew", "(LTiedViews$Eye;II)I"⟩ prog_3_method_6_code 4 (some .int) 3 := ⟨tv_t5 204 rfl rfl, tv_t5 206 rfl rfl, tv_pr3 14 rfl, tv_t1 13 rfl rfl, tv_t5 207 rfl rfl, by decide, by decide, by decide +kernel⟩
theorem cw_Bo_47 : tv_Vw "TiedViews$Bodies" 47 ⟨"TiedViews$Bodies", "give", "(LTiedViews$Eye;II)I"⟩ prog_3_method_8_code 5 (some .int) 3 := ⟨tv_t5 215 rfl rfl, tv_t5 217 rfl rfl, tv_pr3 15 rfl, tv_t1 13 rfl rfl, tv_t5 218 rfl rfl, by decide, by decide, by decide +kernel⟩
theorem cw_Bo_56 : tv_Vw "TiedViews$Bodies" 56 ⟨"TiedViews$Bodies", "leaveTrace", "(I)V"⟩ prog_3_method_9_code 2 none 1 := ⟨tv_t5 219 rfl rfl, tv_t5 221 rfl rfl, tv_pr4 0 rfl, tv_t1 13 rfl rfl, tv_t5 222 rfl rfl, by decide, by decide, by decide +kernel⟩
theorem cw_Bo_66 : tv_Vw "TiedViews$Bodies" 66 ⟨"TiedViews$Told", "tiesOf", "(I)I"⟩ prog_12_method_9_code 4 (some .int) 1 := ⟨tv_t5 223 rfl rfl, tv_t4 104 rfl rfl, tv_t4 105 rfl rfl, tv_t1 3 rfl rfl, tv_t4 106 rfl rfl, by decide, by decide, by decide +kernel⟩
theorem cw_Ch_50 : tv_Vw "TiedViews$Choices" 50 ⟨"TiedViews$Choices", "bar", "(IIII)V"⟩ prog_4_method_4_code 5 none 4 := ⟨tv_t4 87 rfl rfl, tv_t4 89 rfl rfl, tv_pr2 9 rfl, tv_t1 12 rfl rfl, tv_t4 90 rfl rfl, by decide, by decide, by decide +kernel⟩
theorem cw_Ch_63 : tv_Vw "TiedViews$Choices" 63 ⟨"TiedViews$Choices", "narrowOne", "(I)I"⟩ prog_4_method_6_code 5 (some .int) 1 := ⟨tv_t5 139 rfl rfl, tv_t5 141 rfl rfl, tv_pr3 9 rfl, tv_t1 12 rfl rfl, tv_t5 142 rfl rfl, by decide, by decide, by decide +kernel⟩
theorem cw_Ch_67 : tv_Vw "TiedViews$Choices" 67 ⟨"TiedViews$Told", "choiceAt", "(I)LTiedViews$Eye;"⟩ prog_12_method_6_code 3 (some (.object "TiedViews$Eye")) 1 := ⟨tv_t5 143 rfl rfl, tv_t4 14 rfl rfl, tv_t4 15 rfl rfl, tv_t1 3 rfl rfl, tv_t4 16 rfl rfl, by decide, by decide, by decide +kernel⟩
theorem cw_Ch_79 : tv_Vw "TiedViews$Choices" 79 ⟨"TiedViews$Choices", "goesWithAll", "(II)Z"⟩ prog_4_method_7_code 6 (some .boolean) 2 := ⟨tv_t5 144 rfl rfl, tv_t5 146 rfl rfl, tv_pr3 10 rfl, tv_t1 12 rfl rfl, tv_t5 147 rfl rfl, by decide, by decide, by decide +kernel⟩
theorem cw_Ch_87 : tv_Vw "TiedViews$Choices" 87 ⟨"TiedViews$Eye", "isChoice", "()Z"⟩ prog_6_method_3_code 1 (some .boolean) 0 := ⟨tv_t5 148 rfl rfl, tv_t3 217 rfl rfl, tv_t3 218 rfl rfl, tv_t1 4 rfl rfl, tv_t3 219 rfl rfl, by decide, by decide, by decide +kernel⟩
theorem cw_Ch_91 : tv_Vw "TiedViews$Choices" 91 ⟨"TiedViews$Choices", "waysFrom", "(I)I"⟩ prog_4_method_10_code 5 (some .int) 1 := ⟨tv_t5 157 rfl rfl, tv_t5 159 rfl rfl, tv_pr3 11 rfl, tv_t1 12 rfl rfl, tv_t5 160 rfl rfl, by decide, by decide, by decide +kernel⟩
theorem cw_Ch_97 : tv_Vw "TiedViews$Choices" 97 ⟨"TiedViews$Choices", "findFirst", "(I)Z"⟩ prog_4_method_11_code 4 (some .boolean) 1 := ⟨tv_t5 168 rfl rfl, tv_t5 170 rfl rfl, tv_pr3 13 rfl, tv_t1 12 rfl rfl, tv_t5 171 rfl rfl, by decide, by decide, by decide +kernel⟩
theorem cw_Ch_102 : tv_Vw "TiedViews$Choices" 102 ⟨"TiedViews$Told", "eyeAt", "(I)LTiedViews$Eye;"⟩ prog_12_method_4_code 2 (some (.object "TiedViews$Eye")) 1 := ⟨tv_t5 161 rfl rfl, tv_t3 213 rfl rfl, tv_t3 214 rfl rfl, tv_t1 3 rfl rfl, tv_t3 215 rfl rfl, by decide, by decide, by decide +kernel⟩
theorem cw_Ch_116 : tv_Vw "TiedViews$Choices" 116 ⟨"TiedViews$Choices", "leavesLaterOpen", "(II)Z"⟩ prog_4_method_12_code 6 (some .boolean) 2 := ⟨tv_t5 164 rfl rfl, tv_t5 166 rfl rfl, tv_pr3 12 rfl, tv_t1 12 rfl rfl, tv_t5 167 rfl rfl, by decide, by decide, by decide +kernel⟩
theorem cw_Dr_32 : tv_Vw "TiedViews$Dropping" 32 ⟨"TiedViews$Agreement", "freeColumns", "()I"⟩ prog_2_method_4_code 1 (some .int) 0 := ⟨tv_t4 225 rfl rfl, tv_t4 116 rfl rfl, tv_t4 117 rfl rfl, tv_t1 7 rfl rfl, tv_t4 118 rfl rfl, by decide, by decide, by decide +kernel⟩
theorem cw_Dr_62 : tv_Vw "TiedViews$Dropping" 62 ⟨"TiedViews$Dropping", "searchFrom", "(II)V"⟩ prog_5_method_4_code 6 none 2 := ⟨tv_t4 227 rfl rfl, tv_t4 229 rfl rfl, tv_pr2 14 rfl, tv_t1 9 rfl rfl, tv_t4 230 rfl rfl, by decide, by decide, by decide +kernel⟩
theorem cw_Dr_72 : tv_Vw "TiedViews$Dropping" 72 ⟨"TiedViews$Told", "eyeAt", "(I)LTiedViews$Eye;"⟩ prog_12_method_4_code 2 (some (.object "TiedViews$Eye")) 1 := ⟨tv_t4 237 rfl rfl, tv_t3 213 rfl rfl, tv_t3 214 rfl rfl, tv_t1 3 rfl rfl, tv_t3 215 rfl rfl, by decide, by decide, by decide +kernel⟩
theorem cw_Dr_81 : tv_Vw "TiedViews$Dropping" 81 ⟨"TiedViews$Dropping", "addReading", "(LTiedViews$Eye;)Z"⟩ prog_5_method_5_code 3 (some .boolean) 1 := ⟨tv_t4 238 rfl rfl, tv_t5 0 rfl rfl, tv_pr2 15 rfl, tv_t1 9 rfl rfl, tv_t5 1 rfl rfl, by decide, by decide, by decide +kernel⟩
theorem cw_Dr_94 : tv_Vw "TiedViews$Dropping" 94 ⟨"TiedViews$Dropping", "addEquation", "(II)Z"⟩ prog_5_method_6_code 7 (some .boolean) 2 := ⟨tv_t5 2 rfl rfl, tv_t5 4 rfl rfl, tv_pr3 0 rfl, tv_t1 9 rfl rfl, tv_t5 5 rfl rfl, by decide, by decide, by decide +kernel⟩
theorem cw_Dr_98 : tv_Vw "TiedViews$Dropping" 98 ⟨"TiedViews$Agreement", "basisNumber", "(II)I"⟩ prog_2_method_5_code 5 (some .int) 2 := ⟨tv_t5 6 rfl rfl, tv_t4 133 rfl rfl, tv_t4 134 rfl rfl, tv_t1 7 rfl rfl, tv_t4 135 rfl rfl, by decide, by decide, by decide +kernel⟩
theorem cw_Dr_101 : tv_Vw "TiedViews$Dropping" 101 ⟨"TiedViews$Dropping", "takeOffOthers", "([I)V"⟩ prog_5_method_7_code 4 none 1 := ⟨tv_t5 7 rfl rfl, tv_t5 9 rfl rfl, tv_pr3 1 rfl, tv_t1 9 rfl rfl, tv_t5 10 rfl rfl, by decide, by decide, by decide +kernel⟩
theorem cw_Dr_105 : tv_Vw "TiedViews$Dropping" 105 ⟨"TiedViews$Dropping", "firstNotNought", "([I)I"⟩ prog_5_method_8_code 3 (some .int) 1 := ⟨tv_t5 12 rfl rfl, tv_t5 14 rfl rfl, tv_pr3 2 rfl, tv_t1 9 rfl rfl, tv_t5 15 rfl rfl, by decide, by decide, by decide +kernel⟩
theorem cw_Ey_28 : tv_Vw "TiedViews$Eye" 28 ⟨"TiedViews$Eye", "fullSet", "()I"⟩ prog_6_method_4_code 1 (some .int) 0 := ⟨tv_t3 190 rfl rfl, tv_t3 191 rfl rfl, tv_t3 192 rfl rfl, tv_t1 4 rfl rfl, tv_t3 193 rfl rfl, by decide, by decide, by decide +kernel⟩
theorem cw_Ey_39 : tv_Vw "TiedViews$Eye" 39 ⟨"TiedViews$Sheet", "reaches", "(II)Z"⟩ prog_9_method_4_code 3 (some .boolean) 2 := ⟨tv_t4 162 rfl rfl, tv_t3 40 rfl rfl, tv_t3 41 rfl rfl, tv_t1 2 rfl rfl, tv_t3 42 rfl rfl, by decide, by decide, by decide +kernel⟩
theorem cw_He_48 : tv_Vw "TiedViews$Hearsay" 48 ⟨"TiedViews$Hearsay", "isFull", "()Z"⟩ prog_7_method_2_code 1 (some .boolean) 0 := ⟨tv_t5 60 rfl rfl, tv_t5 53 rfl rfl, tv_t5 54 rfl rfl, tv_t1 10 rfl rfl, tv_t5 55 rfl rfl, by decide, by decide, by decide +kernel⟩
theorem cw_He_57 : tv_Vw "TiedViews$Hearsay" 57 ⟨"TiedViews$Told", "isColumn", "(I)Z"⟩ prog_12_method_8_code 2 (some .boolean) 1 := ⟨tv_t5 70 rfl rfl, tv_t4 129 rfl rfl, tv_t4 130 rfl rfl, tv_t1 3 rfl rfl, tv_t4 131 rfl rfl, by decide, by decide, by decide +kernel⟩
theorem cw_He_64 : tv_Vw "TiedViews$Hearsay" 64 ⟨"TiedViews$Hearsay", "hearAll", "([I)V"⟩ prog_7_method_7_code 4 none 1 := ⟨tv_t5 80 rfl rfl, tv_t5 82 rfl rfl, tv_pr3 4 rfl, tv_t1 10 rfl rfl, tv_t5 83 rfl rfl, by decide, by decide, by decide +kernel⟩
theorem cw_He_89 : tv_Vw "TiedViews$Hearsay" 89 ⟨"TiedViews$Hearsay", "hearOne", "(LTiedViews$Eye;[I)V"⟩ prog_7_method_8_code 9 none 2 := ⟨tv_t5 85 rfl rfl, tv_t5 87 rfl rfl, tv_pr3 5 rfl, tv_t1 10 rfl rfl, tv_t5 88 rfl rfl, by decide, by decide, by decide +kernel⟩
theorem cw_He_96 : tv_Vw "TiedViews$Hearsay" 96 ⟨"TiedViews$Told", "linearAt", "(I)LTiedViews$Eye;"⟩ prog_12_method_5_code 3 (some (.object "TiedViews$Eye")) 1 := ⟨tv_t5 89 rfl rfl, tv_t3 230 rfl rfl, tv_t3 231 rfl rfl, tv_t1 3 rfl rfl, tv_t3 232 rfl rfl, by decide, by decide, by decide +kernel⟩
theorem cw_He_100 : tv_Vw "TiedViews$Hearsay" 100 ⟨"TiedViews$Told", "tieAt", "(I)LTiedViews$Tie;"⟩ prog_12_method_7_code 2 (some (.object "TiedViews$Tie")) 1 := ⟨tv_t5 90 rfl rfl, tv_t5 40 rfl rfl, tv_t5 41 rfl rfl, tv_t1 3 rfl rfl, tv_t5 42 rfl rfl, by decide, by decide, by decide +kernel⟩
theorem cw_He_104 : tv_Vw "TiedViews$Hearsay" 104 ⟨"TiedViews$Tie", "tableOf", "(I)[I"⟩ prog_11_method_3_code 2 (some (.array .int)) 1 := ⟨tv_t5 91 rfl rfl, tv_t3 236 rfl rfl, tv_t3 237 rfl rfl, tv_t1 5 rfl rfl, tv_t3 238 rfl rfl, by decide, by decide, by decide +kernel⟩
theorem cw_He_123 : tv_Vw "TiedViews$Hearsay" 123 ⟨"TiedViews$Hearsay", "settle", "()V"⟩ prog_7_method_10_code 3 none 0 := ⟨tv_t5 109 rfl rfl, tv_t5 111 rfl rfl, tv_pr3 6 rfl, tv_t1 10 rfl rfl, tv_t5 112 rfl rfl, by decide, by decide, by decide +kernel⟩
theorem cw_He_129 : tv_Vw "TiedViews$Hearsay" 129 ⟨"TiedViews$Hearsay", "packed", "(I)J"⟩ prog_7_method_12_code 5 (some .long) 1 := ⟨tv_t5 113 rfl rfl, tv_t5 115 rfl rfl, tv_pr3 7 rfl, tv_t1 10 rfl rfl, tv_t5 116 rfl rfl, by decide, by decide, by decide +kernel⟩
theorem cw_He_133 : tv_Vw "TiedViews$Hearsay" 133 ⟨"TiedViews$Hearsay", "firstLike", "(I)I"⟩ prog_7_method_11_code 7 (some .int) 1 := ⟨tv_t5 117 rfl rfl, tv_t5 119 rfl rfl, tv_pr3 8 rfl, tv_t1 10 rfl rfl, tv_t5 120 rfl rfl, by decide, by decide, by decide +kernel⟩
theorem cw_Re_23 : tv_Vw "TiedViews$Reader" 23 ⟨"TiedViews$Told", "keep", "()V"⟩ prog_12_method_2_code 1 none 0 := ⟨tv_t3 85 rfl rfl, tv_t3 86 rfl rfl, tv_t3 87 rfl rfl, tv_t1 3 rfl rfl, tv_t3 88 rfl rfl, by decide, by decide, by decide +kernel⟩
theorem cw_Re_31 : tv_Vw "TiedViews$Reader" 31 ⟨"TiedViews$Reader", "goOn", "()V"⟩ prog_8_method_6_code 1 none 0 := ⟨tv_t3 89 rfl rfl, tv_t3 91 rfl rfl, tv_pr1 4 rfl, tv_t1 6 rfl rfl, tv_t3 92 rfl rfl, by decide, by decide, by decide +kernel⟩
theorem cw_Re_37 : tv_Vw "TiedViews$Reader" 37 ⟨"TiedViews$Reader", "takeSentence", "()Z"⟩ prog_8_method_10_code 1 (some .boolean) 0 := ⟨tv_t3 101 rfl rfl, tv_t3 103 rfl rfl, tv_pr1 7 rfl, tv_t1 6 rfl rfl, tv_t3 104 rfl rfl, by decide, by decide, by decide +kernel⟩
theorem cw_Re_41 : tv_Vw "TiedViews$Reader" 41 ⟨"TiedViews$Told", "goBack", "()V"⟩ prog_12_method_3_code 1 none 0 := ⟨tv_t4 21 rfl rfl, tv_t4 22 rfl rfl, tv_t4 23 rfl rfl, tv_t1 3 rfl rfl, tv_t4 24 rfl rfl, by decide, by decide, by decide +kernel⟩
theorem cw_Re_50 : tv_Vw "TiedViews$Reader" 50 ⟨"TiedViews$Reader", "passRun", "(CC)Z"⟩ prog_8_method_7_code 3 (some .boolean) 2 := ⟨tv_t3 93 rfl rfl, tv_t3 95 rfl rfl, tv_pr1 5 rfl, tv_t1 6 rfl rfl, tv_t3 96 rfl rfl, by decide, by decide, by decide +kernel⟩
theorem cw_Re_54 : tv_Vw "TiedViews$Reader" 54 ⟨"TiedViews$Reader", "figuresValue", "()I"⟩ prog_8_method_8_code 3 (some .int) 0 := ⟨tv_t3 97 rfl rfl, tv_t3 99 rfl rfl, tv_pr1 6 rfl, tv_t1 6 rfl rfl, tv_t3 100 rfl rfl, by decide, by decide, by decide +kernel⟩
theorem cw_Re_61 : tv_Vw "TiedViews$Reader" 61 ⟨"java/lang/String", "length", "()I"⟩ prog_17_method_54_code 1 (some .int) 0 := ⟨tv_t3 110 rfl rfl, tv_t3 111 rfl rfl, tv_t3 112 rfl rfl, tv_t1 16 rfl rfl, tv_t3 113 rfl rfl, by decide, by decide, by decide +kernel⟩
theorem cw_Re_65 : tv_Vw "TiedViews$Reader" 65 ⟨"java/lang/String", "charAt", "(I)C"⟩ prog_17_method_56_code 2 (some .char) 1 := ⟨tv_t3 120 rfl rfl, tv_t3 121 rfl rfl, tv_t3 122 rfl rfl, tv_t1 16 rfl rfl, tv_t3 123 rfl rfl, by decide, by decide, by decide +kernel⟩
theorem cw_Re_71 : tv_Vw "TiedViews$Reader" 71 ⟨"TiedViews$Reader", "isWord", "(Ljava/lang/String;)Z"⟩ prog_8_method_9_code 3 (some .boolean) 1 := ⟨tv_t3 106 rfl rfl, tv_t3 108 rfl rfl, tv_pr1 8 rfl, tv_t1 6 rfl rfl, tv_t3 109 rfl rfl, by decide, by decide, by decide +kernel⟩
theorem cw_Re_75 : tv_Vw "TiedViews$Reader" 75 ⟨"TiedViews$Reader", "takeEyeSentence", "()Z"⟩ prog_8_method_11_code 3 (some .boolean) 0 := ⟨tv_t3 158 rfl rfl, tv_t3 160 rfl rfl, tv_pr1 9 rfl, tv_t1 6 rfl rfl, tv_t3 161 rfl rfl, by decide, by decide, by decide +kernel⟩
theorem cw_Re_80 : tv_Vw "TiedViews$Reader" 80 ⟨"TiedViews$Reader", "takeTieSentence", "()Z"⟩ prog_8_method_12_code 2 (some .boolean) 0 := ⟨tv_t3 195 rfl rfl, tv_t3 197 rfl rfl, tv_pr1 14 rfl, tv_t1 6 rfl rfl, tv_t3 198 rfl rfl, by decide, by decide, by decide +kernel⟩
theorem cw_Re_85 : tv_Vw "TiedViews$Reader" 85 ⟨"TiedViews$Reader", "takeBarSentence", "()Z"⟩ prog_8_method_15_code 5 (some .boolean) 0 := ⟨tv_t4 5 rfl rfl, tv_t4 7 rfl rfl, tv_pr2 3 rfl, tv_t1 6 rfl rfl, tv_t4 8 rfl rfl, by decide, by decide, by decide +kernel⟩
theorem cw_Re_88 : tv_Vw "TiedViews$Reader" 88 ⟨"TiedViews$Reader", "fails", "(I)Z"⟩ prog_8_method_5_code 2 (some .boolean) 1 := ⟨tv_t3 162 rfl rfl, tv_t3 164 rfl rfl, tv_pr1 10 rfl, tv_t1 6 rfl rfl, tv_t3 165 rfl rfl, by decide, by decide, by decide +kernel⟩
theorem cw_Re_95 : tv_Vw "TiedViews$Reader" 95 ⟨"TiedViews$Reader", "takeSort", "()Z"⟩ prog_8_method_16_code 1 (some .boolean) 0 := ⟨tv_t3 166 rfl rfl, tv_t3 168 rfl rfl, tv_pr1 11 rfl, tv_t1 6 rfl rfl, tv_t3 169 rfl rfl, by decide, by decide, by decide +kernel⟩
theorem cw_Re_101 : tv_Vw "TiedViews$Reader" 101 ⟨"TiedViews$Reader", "takeNumber", "(II)Z"⟩ prog_8_method_17_code 3 (some .boolean) 2 := ⟨tv_t3 174 rfl rfl, tv_t3 176 rfl rfl, tv_pr1 12 rfl, tv_t1 6 rfl rfl, tv_t3 177 rfl rfl, by decide, by decide, by decide +kernel⟩
theorem cw_Re_105 : tv_Vw "TiedViews$Reader" 105 ⟨"TiedViews$Reader", "takeSign", "(C)Z"⟩ prog_8_method_21_code 2 (some .boolean) 1 := ⟨tv_t3 178 rfl rfl, tv_t3 180 rfl rfl, tv_pr1 13 rfl, tv_t1 6 rfl rfl, tv_t3 181 rfl rfl, by decide, by decide, by decide +kernel⟩
theorem cw_Re_109 : tv_Vw "TiedViews$Reader" 109 ⟨"TiedViews$Told", "addEye", "(II)V"⟩ prog_12_method_12_code 3 none 2 := ⟨tv_t3 182 rfl rfl, tv_t3 183 rfl rfl, tv_t3 184 rfl rfl, tv_t1 3 rfl rfl, tv_t3 185 rfl rfl, by decide, by decide, by decide +kernel⟩
theorem cw_Re_113 : tv_Vw "TiedViews$Reader" 113 ⟨"TiedViews$Told", "nextTie", "()LTiedViews$Tie;"⟩ prog_12_method_13_code 1 (some (.object "TiedViews$Tie")) 0 := ⟨tv_t3 199 rfl rfl, tv_t3 200 rfl rfl, tv_t3 201 rfl rfl, tv_t1 3 rfl rfl, tv_t3 202 rfl rfl, by decide, by decide, by decide +kernel⟩
theorem cw_Re_117 : tv_Vw "TiedViews$Reader" 117 ⟨"TiedViews$Reader", "takeEyes", "(LTiedViews$Tie;)Z"⟩ prog_8_method_13_code 2 (some .boolean) 1 := ⟨tv_t3 203 rfl rfl, tv_t3 205 rfl rfl, tv_pr1 15 rfl, tv_t1 6 rfl rfl, tv_t3 206 rfl rfl, by decide, by decide, by decide +kernel⟩
theorem cw_Re_128 : tv_Vw "TiedViews$Reader" 128 ⟨"TiedViews$Reader", "takeWord", "(Ljava/lang/String;)Z"⟩ prog_8_method_20_code 2 (some .boolean) 1 := ⟨tv_t3 221 rfl rfl, tv_t3 223 rfl rfl, tv_pr2 1 rfl, tv_t1 6 rfl rfl, tv_t3 224 rfl rfl, by decide, by decide, by decide +kernel⟩
theorem cw_Re_134 : tv_Vw "TiedViews$Reader" 134 ⟨"TiedViews$Reader", "takeTable", "(LTiedViews$Tie;I)Z"⟩ prog_8_method_14_code 7 (some .boolean) 2 := ⟨tv_t3 225 rfl rfl, tv_t3 227 rfl rfl, tv_pr2 2 rfl, tv_t1 6 rfl rfl, tv_t3 228 rfl rfl, by decide, by decide, by decide +kernel⟩
theorem cw_Re_143 : tv_Vw "TiedViews$Reader" 143 ⟨"TiedViews$Told", "addNextTie", "()V"⟩ prog_12_method_14_code 1 none 0 := ⟨tv_t4 0 rfl rfl, tv_t4 1 rfl rfl, tv_t4 2 rfl rfl, tv_t1 3 rfl rfl, tv_t4 3 rfl rfl, by decide, by decide, by decide +kernel⟩
theorem cw_Re_147 : tv_Vw "TiedViews$Reader" 147 ⟨"TiedViews$Reader", "takeEye", "(ZI)Z"⟩ prog_8_method_18_code 4 (some .boolean) 2 := ⟨tv_t3 208 rfl rfl, tv_t3 210 rfl rfl, tv_pr2 0 rfl, tv_t1 6 rfl rfl, tv_t3 211 rfl rfl, by decide, by decide, by decide +kernel⟩
theorem cw_Re_151 : tv_Vw "TiedViews$Reader" 151 ⟨"TiedViews$Told", "linearAt", "(I)LTiedViews$Eye;"⟩ prog_12_method_5_code 3 (some (.object "TiedViews$Eye")) 1 := ⟨tv_t3 229 rfl rfl, tv_t3 230 rfl rfl, tv_t3 231 rfl rfl, tv_t1 3 rfl rfl, tv_t3 232 rfl rfl, by decide, by decide, by decide +kernel⟩
theorem cw_Re_155 : tv_Vw "TiedViews$Reader" 155 ⟨"TiedViews$Tie", "tableOf", "(I)[I"⟩ prog_11_method_3_code 2 (some (.array .int)) 1 := ⟨tv_t3 235 rfl rfl, tv_t3 236 rfl rfl, tv_t3 237 rfl rfl, tv_t1 5 rfl rfl, tv_t3 238 rfl rfl, by decide, by decide, by decide +kernel⟩
theorem cw_Re_170 : tv_Vw "TiedViews$Reader" 170 ⟨"TiedViews$Reader", "takeValueOf", "(I)Z"⟩ prog_8_method_19_code 3 (some .boolean) 1 := ⟨tv_t4 9 rfl rfl, tv_t4 11 rfl rfl, tv_pr2 4 rfl, tv_t1 6 rfl rfl, tv_t4 12 rfl rfl, by decide, by decide, by decide +kernel⟩
theorem cw_Re_173 : tv_Vw "TiedViews$Reader" 173 ⟨"TiedViews$Told", "addBar", "(IIII)V"⟩ prog_12_method_15_code 6 none 4 := ⟨tv_t4 17 rfl rfl, tv_t4 18 rfl rfl, tv_t4 19 rfl rfl, tv_t1 3 rfl rfl, tv_t4 20 rfl rfl, by decide, by decide, by decide +kernel⟩
theorem cw_Re_185 : tv_Vw "TiedViews$Reader" 185 ⟨"TiedViews$Told", "eyeAt", "(I)LTiedViews$Eye;"⟩ prog_12_method_4_code 2 (some (.object "TiedViews$Eye")) 1 := ⟨tv_t3 212 rfl rfl, tv_t3 213 rfl rfl, tv_t3 214 rfl rfl, tv_t1 3 rfl rfl, tv_t3 215 rfl rfl, by decide, by decide, by decide +kernel⟩
theorem cw_Re_188 : tv_Vw "TiedViews$Reader" 188 ⟨"TiedViews$Eye", "isChoice", "()Z"⟩ prog_6_method_3_code 1 (some .boolean) 0 := ⟨tv_t3 216 rfl rfl, tv_t3 217 rfl rfl, tv_t3 218 rfl rfl, tv_t1 4 rfl rfl, tv_t3 219 rfl rfl, by decide, by decide, by decide +kernel⟩
theorem cw_Re_191 : tv_Vw "TiedViews$Reader" 191 ⟨"TiedViews$Told", "choiceAt", "(I)LTiedViews$Eye;"⟩ prog_12_method_6_code 3 (some (.object "TiedViews$Eye")) 1 := ⟨tv_t4 13 rfl rfl, tv_t4 14 rfl rfl, tv_t4 15 rfl rfl, tv_t1 3 rfl rfl, tv_t4 16 rfl rfl, by decide, by decide, by decide +kernel⟩
theorem cw_Sh_28 : tv_Vw "TiedViews$Sheet" 28 ⟨"TiedViews$Sheet", "reaches", "(II)Z"⟩ prog_9_method_4_code 3 (some .boolean) 2 := ⟨tv_t3 47 rfl rfl, tv_t3 40 rfl rfl, tv_t3 41 rfl rfl, tv_t1 2 rfl rfl, tv_t3 42 rfl rfl, by decide, by decide, by decide +kernel⟩
theorem cw_Sh_33 : tv_Vw "TiedViews$Sheet" 33 ⟨"TiedViews$Sheet", "cut", "(I)I"⟩ prog_9_method_6_code 2 (some .int) 1 := ⟨tv_t3 49 rfl rfl, tv_t3 51 rfl rfl, tv_pr1 3 rfl, tv_t1 2 rfl rfl, tv_t3 52 rfl rfl, by decide, by decide, by decide +kernel⟩
theorem cw_St_60 : tv_Vw "TiedViews$Steps" 60 ⟨"TiedViews$Steps", "leastLineAt", "(I)I"⟩ prog_10_method_5_code 3 (some .int) 1 := ⟨tv_t4 58 rfl rfl, tv_t4 60 rfl rfl, tv_pr2 6 rfl, tv_t1 8 rfl rfl, tv_t4 61 rfl rfl, by decide, by decide, by decide +kernel⟩
theorem cw_St_64 : tv_Vw "TiedViews$Steps" 64 ⟨"TiedViews$Steps", "makeOneAt", "(II)V"⟩ prog_10_method_6_code 6 none 2 := ⟨tv_t4 62 rfl rfl, tv_t4 64 rfl rfl, tv_pr2 7 rfl, tv_t1 8 rfl rfl, tv_t4 65 rfl rfl, by decide, by decide, by decide +kernel⟩
theorem cw_St_68 : tv_Vw "TiedViews$Steps" 68 ⟨"TiedViews$Steps", "takeOffOthers", "(II)V"⟩ prog_10_method_7_code 5 none 2 := ⟨tv_t4 71 rfl rfl, tv_t4 73 rfl rfl, tv_pr2 8 rfl, tv_t1 8 rfl rfl, tv_t4 74 rfl rfl, by decide, by decide, by decide +kernel⟩
theorem cw_St_81 : tv_Vw "TiedViews$Steps" 81 ⟨"TiedViews$Steps", "numberAt", "(II)I"⟩ prog_10_method_10_code 3 (some .int) 2 := ⟨tv_t4 204 rfl rfl, tv_t4 145 rfl rfl, tv_t4 146 rfl rfl, tv_t1 8 rfl rfl, tv_t4 147 rfl rfl, by decide, by decide, by decide +kernel⟩
theorem cw_To_65 : tv_Vw "TiedViews$Told" 65 ⟨"TiedViews$Told", "eyeAt", "(I)LTiedViews$Eye;"⟩ prog_12_method_4_code 2 (some (.object "TiedViews$Eye")) 1 := ⟨tv_t3 233 rfl rfl, tv_t3 213 rfl rfl, tv_t3 214 rfl rfl, tv_t1 3 rfl rfl, tv_t3 215 rfl rfl, by decide, by decide, by decide +kernel⟩
theorem cw_To_69 : tv_Vw "TiedViews$Told" 69 ⟨"TiedViews$Eye", "isChoice", "()Z"⟩ prog_6_method_3_code 1 (some .boolean) 0 := ⟨tv_t3 234 rfl rfl, tv_t3 217 rfl rfl, tv_t3 218 rfl rfl, tv_t1 4 rfl rfl, tv_t3 219 rfl rfl, by decide, by decide, by decide +kernel⟩
theorem cw_To_73 : tv_Vw "TiedViews$Told" 73 ⟨"TiedViews$Tie", "joins", "(I)Z"⟩ prog_11_method_2_code 2 (some .boolean) 1 := ⟨tv_t4 107 rfl rfl, tv_t4 108 rfl rfl, tv_t4 109 rfl rfl, tv_t1 5 rfl rfl, tv_t4 110 rfl rfl, by decide, by decide, by decide +kernel⟩
theorem cw_To_81 : tv_Vw "TiedViews$Told" 81 ⟨"TiedViews$Eye", "begin", "(III)V"⟩ prog_6_method_2_code 4 none 3 := ⟨tv_t3 186 rfl rfl, tv_t3 187 rfl rfl, tv_t3 188 rfl rfl, tv_t1 4 rfl rfl, tv_t3 189 rfl rfl, by decide, by decide, by decide +kernel⟩
theorem cw_To_91 : tv_Vw "TiedViews$Told" 91 ⟨"TiedViews$Told", "linearAt", "(I)LTiedViews$Eye;"⟩ prog_12_method_5_code 3 (some (.object "TiedViews$Eye")) 1 := ⟨tv_t4 50 rfl rfl, tv_t3 230 rfl rfl, tv_t3 231 rfl rfl, tv_t1 3 rfl rfl, tv_t3 232 rfl rfl, by decide, by decide, by decide +kernel⟩
theorem cw_Md_128 : tv_Vw "TiedViewsModel" 128 ⟨"TiedViewsModel", "finding", "(I)I"⟩ prog_14_method_3_code 2 (some .int) 1 := ⟨tv_t6 202 rfl rfl, tv_t6 204 rfl rfl, tv_pr4 2 rfl, tv_t1 14 rfl rfl, tv_t6 205 rfl rfl, by decide, by decide, by decide +kernel⟩
theorem cw_Md_132 : tv_Vw "TiedViewsModel" 132 ⟨"TiedViewsModel", "isRest", "(I)Z"⟩ prog_14_method_5_code 2 (some .boolean) 1 := ⟨tv_t7 121 rfl rfl, tv_t7 123 rfl rfl, tv_pr5 10 rfl, tv_t1 14 rfl rfl, tv_t7 124 rfl rfl, by decide, by decide, by decide +kernel⟩
theorem cw_Md_150 : tv_Vw "TiedViewsModel" 150 ⟨"TiedViewsModel", "byteAt", "(I)I"⟩ prog_14_method_14_code 2 (some .int) 1 := ⟨tv_t6 234 rfl rfl, tv_t6 236 rfl rfl, tv_pr4 4 rfl, tv_t1 14 rfl rfl, tv_t6 237 rfl rfl, by decide, by decide, by decide +kernel⟩
theorem cw_Md_174 : tv_Vw "TiedViewsModel" 174 ⟨"TiedViewsModel", "bad", "(I)V"⟩ prog_14_method_18_code 2 none 1 := ⟨tv_t7 12 rfl rfl, tv_t7 14 rfl rfl, tv_pr4 6 rfl, tv_t1 14 rfl rfl, tv_t7 15 rfl rfl, by decide, by decide, by decide +kernel⟩
theorem cw_Md_178 : tv_Vw "TiedViewsModel" 178 ⟨"TiedViewsModel", "step", "()V"⟩ prog_14_method_17_code 2 none 0 := ⟨tv_t6 230 rfl rfl, tv_t6 232 rfl rfl, tv_pr4 3 rfl, tv_t1 14 rfl rfl, tv_t6 233 rfl rfl, by decide, by decide, by decide +kernel⟩
theorem cw_Md_181 : tv_Vw "TiedViewsModel" 181 ⟨"TiedViewsModel", "numberHere", "()I"⟩ prog_14_method_22_code 3 (some .int) 0 := ⟨tv_t7 32 rfl rfl, tv_t7 34 rfl rfl, tv_pr4 10 rfl, tv_t1 14 rfl rfl, tv_t7 35 rfl rfl, by decide, by decide, by decide +kernel⟩
theorem cw_Md_185 : tv_Vw "TiedViewsModel" 185 ⟨"TiedViewsModel", "must", "(Z)V"⟩ prog_14_method_19_code 2 none 1 := ⟨tv_t7 16 rfl rfl, tv_t7 18 rfl rfl, tv_pr4 7 rfl, tv_t1 14 rfl rfl, tv_t7 19 rfl rfl, by decide, by decide, by decide +kernel⟩
theorem cw_Md_192 : tv_Vw "TiedViewsModel" 192 ⟨"TiedViewsModel", "word", "()J"⟩ prog_14_method_21_code 4 (some .long) 0 := ⟨tv_t7 5 rfl rfl, tv_t7 7 rfl rfl, tv_pr4 5 rfl, tv_t1 14 rfl rfl, tv_t7 8 rfl rfl, by decide, by decide, by decide +kernel⟩
theorem cw_Md_204 : tv_Vw "TiedViewsModel" 204 ⟨"TiedViewsModel", "numberIn", "(II)I"⟩ prog_14_method_23_code 4 (some .int) 2 := ⟨tv_t7 28 rfl rfl, tv_t7 30 rfl rfl, tv_pr4 9 rfl, tv_t1 14 rfl rfl, tv_t7 31 rfl rfl, by decide, by decide, by decide +kernel⟩
theorem cw_Md_211 : tv_Vw "TiedViewsModel" 211 ⟨"TiedViewsModel", "is", "(I)Z"⟩ prog_14_method_20_code 2 (some .boolean) 1 := ⟨tv_t7 49 rfl rfl, tv_t7 51 rfl rfl, tv_pr4 14 rfl, tv_t1 14 rfl rfl, tv_t7 52 rfl rfl, by decide, by decide, by decide +kernel⟩
theorem cw_Md_214 : tv_Vw "TiedViewsModel" 214 ⟨"TiedViewsModel", "eyeHere", "(ZI)I"⟩ prog_14_method_24_code 4 (some .int) 2 := ⟨tv_t7 40 rfl rfl, tv_t7 42 rfl rfl, tv_pr4 12 rfl, tv_t1 14 rfl rfl, tv_t7 43 rfl rfl, by decide, by decide, by decide +kernel⟩
theorem cw_Md_223 : tv_Vw "TiedViewsModel" 223 ⟨"TiedViewsModel", "readTable", "(III)V"⟩ prog_14_method_26_code 6 none 3 := ⟨tv_t7 45 rfl rfl, tv_t7 47 rfl rfl, tv_pr4 13 rfl, tv_t1 14 rfl rfl, tv_t7 48 rfl rfl, by decide, by decide, by decide +kernel⟩
theorem cw_Md_250 : tv_Vw "TiedViewsModel" 250 ⟨"TiedViewsModel", "readEye", "()V"⟩ prog_14_method_25_code 4 none 0 := ⟨tv_t7 20 rfl rfl, tv_t7 22 rfl rfl, tv_pr4 8 rfl, tv_t1 14 rfl rfl, tv_t7 23 rfl rfl, by decide, by decide, by decide +kernel⟩
theorem cw_Md_253 : tv_Vw "TiedViewsModel" 253 ⟨"TiedViewsModel", "readTie", "()V"⟩ prog_14_method_27_code 4 none 0 := ⟨tv_t7 36 rfl rfl, tv_t7 38 rfl rfl, tv_pr4 11 rfl, tv_t1 14 rfl rfl, tv_t7 39 rfl rfl, by decide, by decide, by decide +kernel⟩
theorem cw_Md_256 : tv_Vw "TiedViewsModel" 256 ⟨"TiedViewsModel", "readBar", "()V"⟩ prog_14_method_28_code 3 none 0 := ⟨tv_t7 54 rfl rfl, tv_t7 56 rfl rfl, tv_pr4 15 rfl, tv_t1 14 rfl rfl, tv_t7 57 rfl rfl, by decide, by decide, by decide +kernel⟩
theorem cw_Md_263 : tv_Vw "TiedViewsModel" 263 ⟨"TiedViewsModel", "isEye", "(I)Z"⟩ prog_14_method_31_code 2 (some .boolean) 1 := ⟨tv_t7 67 rfl rfl, tv_t7 69 rfl rfl, tv_pr5 0 rfl, tv_t1 14 rfl rfl, tv_t7 70 rfl rfl, by decide, by decide, by decide +kernel⟩
theorem cw_Md_268 : tv_Vw "TiedViewsModel" 268 ⟨"TiedViewsModel", "tiesOf", "(I)I"⟩ prog_14_method_34_code 4 (some .int) 1 := ⟨tv_t7 72 rfl rfl, tv_t7 74 rfl rfl, tv_pr5 1 rfl, tv_t1 14 rfl rfl, tv_t7 75 rfl rfl, by decide, by decide, by decide +kernel⟩
theorem cw_Md_274 : tv_Vw "TiedViewsModel" 274 ⟨"TiedViewsModel", "addLine", "()V"⟩ prog_14_method_36_code 2 none 0 := ⟨tv_t7 85 rfl rfl, tv_t7 87 rfl rfl, tv_pr5 3 rfl, tv_t1 14 rfl rfl, tv_t7 88 rfl rfl, by decide, by decide, by decide +kernel⟩
theorem cw_Md_277 : tv_Vw "TiedViewsModel" 277 ⟨"TiedViewsModel", "turned", "(I)I"⟩ prog_14_method_6_code 3 (some .int) 1 := ⟨tv_t7 93 rfl rfl, tv_t7 95 rfl rfl, tv_pr5 5 rfl, tv_t1 14 rfl rfl, tv_t7 96 rfl rfl, by decide, by decide, by decide +kernel⟩
theorem cw_Md_282 : tv_Vw "TiedViewsModel" 282 ⟨"TiedViewsModel", "layTies", "(I)V"⟩ prog_14_method_37_code 6 none 1 := ⟨tv_t7 81 rfl rfl, tv_t7 83 rfl rfl, tv_pr5 2 rfl, tv_t1 14 rfl rfl, tv_t7 84 rfl rfl, by decide, by decide, by decide +kernel⟩
theorem cw_Md_285 : tv_Vw "TiedViewsModel" 285 ⟨"TiedViewsModel", "takeSteps", "()V"⟩ prog_14_method_38_code 7 none 0 := ⟨tv_t7 89 rfl rfl, tv_t7 91 rfl rfl, tv_pr5 4 rfl, tv_t1 14 rfl rfl, tv_t7 92 rfl rfl, by decide, by decide, by decide +kernel⟩
theorem cw_Md_288 : tv_Vw "TiedViewsModel" 288 ⟨"TiedViewsModel", "leaders", "()I"⟩ prog_14_method_39_code 3 (some .int) 0 := ⟨tv_t7 97 rfl rfl, tv_t7 99 rfl rfl, tv_pr5 6 rfl, tv_t1 14 rfl rfl, tv_t7 100 rfl rfl, by decide, by decide, by decide +kernel⟩
theorem cw_Md_291 : tv_Vw "TiedViewsModel" 291 ⟨"TiedViewsModel", "isColumn", "(I)Z"⟩ prog_14_method_42_code 2 (some .boolean) 1 := ⟨tv_t7 105 rfl rfl, tv_t7 107 rfl rfl, tv_pr5 7 rfl, tv_t1 14 rfl rfl, tv_t7 108 rfl rfl, by decide, by decide, by decide +kernel⟩
theorem cw_Md_294 : tv_Vw "TiedViewsModel" 294 ⟨"TiedViewsModel", "isLinear", "(I)Z"⟩ prog_14_method_32_code 2 (some .boolean) 1 := ⟨tv_t7 113 rfl rfl, tv_t7 115 rfl rfl, tv_pr5 8 rfl, tv_t1 14 rfl rfl, tv_t7 116 rfl rfl, by decide, by decide, by decide +kernel⟩
theorem cw_Md_297 : tv_Vw "TiedViewsModel" 297 ⟨"TiedViewsModel", "lookRests", "(III)I"⟩ prog_14_method_12_code 5 (some .int) 3 := ⟨tv_t7 117 rfl rfl, tv_t7 119 rfl rfl, tv_pr5 9 rfl, tv_t1 14 rfl rfl, tv_t7 120 rfl rfl, by decide, by decide, by decide +kernel⟩
theorem cw_Md_301 : tv_Vw "TiedViewsModel" 301 ⟨"TiedViewsModel", "wantsInVain", "()I"⟩ prog_14_method_40_code 2 (some .int) 0 := ⟨tv_t7 141 rfl rfl, tv_t7 143 rfl rfl, tv_pr5 13 rfl, tv_t1 14 rfl rfl, tv_t7 144 rfl rfl, by decide, by decide, by decide +kernel⟩
theorem cw_Md_304 : tv_Vw "TiedViewsModel" 304 ⟨"TiedViewsModel", "readingSet", "()I"⟩ prog_14_method_46_code 3 (some .int) 0 := ⟨tv_t7 133 rfl rfl, tv_t7 135 rfl rfl, tv_pr5 11 rfl, tv_t1 14 rfl rfl, tv_t7 136 rfl rfl, by decide, by decide, by decide +kernel⟩
theorem cw_Md_307 : tv_Vw "TiedViewsModel" 307 ⟨"TiedViewsModel", "areFit", "(I)Z"⟩ prog_14_method_47_code 4 (some .boolean) 1 := ⟨tv_t7 137 rfl rfl, tv_t7 139 rfl rfl, tv_pr5 12 rfl, tv_t1 14 rfl rfl, tv_t7 140 rfl rfl, by decide, by decide, by decide +kernel⟩
theorem cw_Md_318 : tv_Vw "TiedViewsModel" 318 ⟨"TiedViewsModel", "isNumberOf", "(II)Z"⟩ prog_14_method_55_code 3 (some .boolean) 2 := ⟨tv_t7 173 rfl rfl, tv_t7 175 rfl rfl, tv_pr5 14 rfl, tv_t1 14 rfl rfl, tv_t7 176 rfl rfl, by decide, by decide, by decide +kernel⟩
theorem cw_Md_324 : tv_Vw "TiedViewsModel" 324 ⟨"TiedViewsModel", "tickOnce", "()V"⟩ prog_14_method_57_code 7 none 0 := ⟨tv_t7 182 rfl rfl, tv_t7 184 rfl rfl, tv_pr5 15 rfl, tv_t1 14 rfl rfl, tv_t7 185 rfl rfl, by decide, by decide, by decide +kernel⟩
theorem cw_Md_327 : tv_Vw "TiedViewsModel" 327 ⟨"TiedViewsModel", "isRow", "(I)Z"⟩ prog_14_method_60_code 4 (some .boolean) 1 := ⟨tv_t7 194 rfl rfl, tv_t7 196 rfl rfl, tv_pr6 0 rfl, tv_t1 14 rfl rfl, tv_t7 197 rfl rfl, by decide, by decide, by decide +kernel⟩
theorem cw_Md_330 : tv_Vw "TiedViewsModel" 330 ⟨"TiedViewsModel", "isChoice", "(I)Z"⟩ prog_14_method_33_code 2 (some .boolean) 1 := ⟨tv_t7 202 rfl rfl, tv_t7 204 rfl rfl, tv_pr6 1 rfl, tv_t1 14 rfl rfl, tv_t7 205 rfl rfl, by decide, by decide, by decide +kernel⟩
theorem cw_Md_333 : tv_Vw "TiedViewsModel" 333 ⟨"TiedViewsModel", "isBarred", "(IIII)Z"⟩ prog_14_method_63_code 5 (some .boolean) 4 := ⟨tv_t7 214 rfl rfl, tv_t7 216 rfl rfl, tv_pr6 3 rfl, tv_t1 14 rfl rfl, tv_t7 217 rfl rfl, by decide, by decide, by decide +kernel⟩
theorem cw_Md_337 : tv_Vw "TiedViewsModel" 337 ⟨"TiedViewsModel", "hasAll", "(II)Z"⟩ prog_14_method_64_code 7 (some .boolean) 2 := ⟨tv_t7 210 rfl rfl, tv_t7 212 rfl rfl, tv_pr6 2 rfl, tv_t1 14 rfl rfl, tv_t7 213 rfl rfl, by decide, by decide, by decide +kernel⟩
theorem cw_Md_343 : tv_Vw "TiedViewsModel" 343 ⟨"TiedViewsModel", "mayStand", "(I)Z"⟩ prog_14_method_66_code 4 (some .boolean) 1 := ⟨tv_t7 226 rfl rfl, tv_t7 228 rfl rfl, tv_pr6 5 rfl, tv_t1 14 rfl rfl, tv_t7 229 rfl rfl, by decide, by decide, by decide +kernel⟩
theorem cw_Md_346 : tv_Vw "TiedViewsModel" 346 ⟨"TiedViewsModel", "ways", "()I"⟩ prog_14_method_67_code 4 (some .int) 0 := ⟨tv_t7 222 rfl rfl, tv_t7 224 rfl rfl, tv_pr6 4 rfl, tv_t1 14 rfl rfl, tv_t7 225 rfl rfl, by decide, by decide, by decide +kernel⟩
theorem cw_Md_349 : tv_Vw "TiedViewsModel" 349 ⟨"TiedViewsModel", "kindOf", "(I)I"⟩ prog_14_method_69_code 2 (some .int) 1 := ⟨tv_t7 234 rfl rfl, tv_t7 236 rfl rfl, tv_pr6 6 rfl, tv_t1 14 rfl rfl, tv_t7 237 rfl rfl, by decide, by decide, by decide +kernel⟩
theorem cw_Md_358 : tv_Vw "TiedViewsModel" 358 ⟨"TiedViewsModel", "began", "(I)V"⟩ prog_14_method_73_code 2 none 1 := ⟨tv_t8 17 rfl rfl, tv_t8 19 rfl rfl, tv_pr6 9 rfl, tv_t1 14 rfl rfl, tv_t8 20 rfl rfl, by decide, by decide, by decide +kernel⟩
theorem cw_Md_361 : tv_Vw "TiedViewsModel" 361 ⟨"TiedViewsModel", "linearSize", "(I)I"⟩ prog_14_method_74_code 2 (some .int) 1 := ⟨tv_t8 21 rfl rfl, tv_t8 23 rfl rfl, tv_pr6 10 rfl, tv_t1 14 rfl rfl, tv_t8 24 rfl rfl, by decide, by decide, by decide +kernel⟩
theorem cw_Md_364 : tv_Vw "TiedViewsModel" 364 ⟨"TiedViewsModel", "modSize", "(I)I"⟩ prog_14_method_75_code 2 (some .int) 1 := ⟨tv_t8 13 rfl rfl, tv_t8 15 rfl rfl, tv_pr6 8 rfl, tv_t1 14 rfl rfl, tv_t8 16 rfl rfl, by decide, by decide, by decide +kernel⟩
theorem cw_Md_367 : tv_Vw "TiedViewsModel" 367 ⟨"TiedViewsModel", "markOf", "(I)I"⟩ prog_14_method_76_code 4 (some .int) 1 := ⟨tv_t8 25 rfl rfl, tv_t8 27 rfl rfl, tv_pr6 11 rfl, tv_t1 14 rfl rfl, tv_t8 28 rfl rfl, by decide, by decide, by decide +kernel⟩
theorem cw_Md_370 : tv_Vw "TiedViewsModel" 370 ⟨"TiedViewsModel", "sizeOf", "(I)I"⟩ prog_14_method_77_code 4 (some .int) 1 := ⟨tv_t8 9 rfl rfl, tv_t8 11 rfl rfl, tv_pr6 7 rfl, tv_t1 14 rfl rfl, tv_t8 12 rfl rfl, by decide, by decide, by decide +kernel⟩
theorem wc_Xx_113 : Cond.methodLink "TiedViews" 113 arraycopyName ∈ tv_tb ∧ Cond.native arraycopyName ∈ tv_tb ∧ Cond.static arraycopyName ∈ tv_tb ∧ Cond.initialized "java/lang/System" ∈ tv_tb := ⟨tv_t3 57 rfl rfl, tv_t3 59 rfl rfl, tv_t3 58 rfl rfl, tv_t1 15 rfl rfl⟩
theorem wc_Ch_105 : Cond.methodLink "TiedViews$Choices" 105 arraycopyName ∈ tv_tb ∧ Cond.native arraycopyName ∈ tv_tb ∧ Cond.static arraycopyName ∈ tv_tb ∧ Cond.initialized "java/lang/System" ∈ tv_tb := ⟨tv_t5 162 rfl rfl, tv_t3 59 rfl rfl, tv_t3 58 rfl rfl, tv_t1 15 rfl rfl⟩
theorem wc_Ey_48 : Cond.methodLink "TiedViews$Eye" 48 arraycopyName ∈ tv_tb ∧ Cond.native arraycopyName ∈ tv_tb ∧ Cond.static arraycopyName ∈ tv_tb ∧ Cond.initialized "java/lang/System" ∈ tv_tb := ⟨tv_t4 163 rfl rfl, tv_t3 59 rfl rfl, tv_t3 58 rfl rfl, tv_t1 15 rfl rfl⟩
theorem wc_He_71 : Cond.methodLink "TiedViews$Hearsay" 71 arraycopyName ∈ tv_tb ∧ Cond.native arraycopyName ∈ tv_tb ∧ Cond.static arraycopyName ∈ tv_tb ∧ Cond.initialized "java/lang/System" ∈ tv_tb := ⟨tv_t5 84 rfl rfl, tv_t3 59 rfl rfl, tv_t3 58 rfl rfl, tv_t1 15 rfl rfl⟩
end
section
/-! THE PROGRAM AS FUNCTIONS: by program (wip/tools/dec.py) from the bytecode; each method, and each of its labels, in the order of the calls -/
/-- TiedViews.primeOr7(I)I -/
def Xx_primeOr7 (F : Nat) (a0 : Int32) (M : tv_M) : Option (Int32 × tv_M) := if a0 = 2 then some (a0, M) else if a0 = 3 then some (a0, M) else if a0 = 5 then some (a0, M) else some (7, M)
/-- java/util/Arrays.fill([II)V -/
def Jv_fill_L5 (F : Nat) : Nat → Nat → Int32 → Int32 → Int32 → tv_M → Option (Unit × tv_M)
  | 0, _, _, _, _, _ => none
  | nn + 1, l0, l1, l2, l3, M => tv_gn l0 20 (fun n4 => if l3 ≤ l2 then some ((), M) else tv_wr M l0 n4 l2 l1 (fun M5 => Jv_fill_L5 F nn l0 l1 (l2 + 1) l3 M5))
def Jv_fill (F : Nat) (a0 : Nat) (a1 : Int32) (M : tv_M) : Option (Unit × tv_M) := tv_gn a0 20 (fun n2 => Jv_fill_L5 F F a0 a1 0 (Int32.ofNat n2) M)
/-- TiedViews.sheetAt(I)LTiedViews$Sheet; -/
def Xx_sheetAt (F : Nat) (a1 : Int32) (M : tv_M) : Option (Option Nat × tv_M) := if a1 < 0 then some (none, M) else if a1 < 8 then tv_ap 1 8 a1 (fun p1 => tv_gl p1 1 (some (some p1, M))) else some (none, M)
/-- TiedViews.found(I)I -/
def Xx_found (F : Nat) (a1 : Int32) (M : tv_M) : Option (Int32 × tv_M) := tv_pf M 0 9 a1 (fun M1 => some ((-1000010) - a1, M1))
/-- TiedViews$Sheet.begin(II)V -/
def Sh_begin (F : Nat) (t : Nat) (a1 : Int32) (a2 : Int32) (M : tv_M) : Option (Unit × tv_M) := tv_gl t 1 (tv_pf M t 0 a1 (fun M2 => tv_pf M2 t 1 a2 (fun M3 => tv_nn (tv_P0 t 2) (fun p4 => tv_gn p4 20 (fun n6 => tv_cb (Jv_fill F p4 0 M3) (fun r7 M8 => some ((), M8)))))))
/-- TiedViews.passed(I)I -/
def Xx_passed (F : Nat) (a1 : Int32) (M : tv_M) : Option (Int32 × tv_M) := tv_pf M 0 9 0 (fun M1 => some (a1, M1))
/-- TiedViews.sheet(III)I -/
def Xx_sheet (F : Nat) (a1 : Int32) (a2 : Int32) (a3 : Int32) (M : tv_M) : Option (Int32 × tv_M) := tv_cb (Xx_sheetAt F a1 M) (fun r1 M2 => tv_nl r1 (some ((-1000001), M2)) (fun p3 => tv_gl p3 1 (if a2 < 0 then some ((-1000001), M2) else if 2 < a2 then some ((-1000001), M2) else if a3 ≤ 40 then if 0 ≤ a3 then tv_cb (Sh_begin F p3 a2 a3 M2) (fun r5 M6 => tv_cb (Xx_passed F a3 M6) (fun r7 M8 => some (r7, M8))) else tv_cb (Xx_found F 4 M2) (fun r9 M10 => some (r9, M10)) else some ((-1000001), M2))))
/-- TiedViews$Sheet.isMissing()Z -/
def Sh_isMissing (F : Nat) (t : Nat) (M : tv_M) : Option (Int32 × tv_M) := tv_gl t 1 (if (M.1 t 0) = (-1) then some (1, M) else some (0, M))
/-- TiedViews$Sheet.reaches(II)Z -/
def Sh_reaches (F : Nat) (t : Nat) (a1 : Int32) (a2 : Int32) (M : tv_M) : Option (Int32 × tv_M) := tv_gl t 1 (if a1 < 0 then some (0, M) else if a2 < 0 then some (0, M) else if (M.1 t 1) < a1 then some (0, M) else if ((M.1 t 1) - a1) < a2 then some (0, M) else some (1, M))
/-- TiedViews$Sheet.cut(I)I -/
def Sh_cut (F : Nat) (t : Nat) (a1 : Int32) (M : tv_M) : Option (Int32 × tv_M) := tv_gl t 1 (if (M.1 t 0) = 0 then some ((a1 : Int32).toInt8.toInt32, M) else if (M.1 t 0) = 1 then some ((a1 : Int32).toInt16.toInt32, M) else some (a1, M))
/-- TiedViews$Sheet.put(II)I -/
def Sh_put (F : Nat) (t : Nat) (a1 : Int32) (a2 : Int32) (M : tv_M) : Option (Int32 × tv_M) := tv_gl t 1 (tv_cb (Sh_reaches F t a1 1 M) (fun r2 M3 => if r2 = 0 then some ((-1000000), M3) else tv_nn (tv_P0 t 2) (fun p4 => tv_gn p4 20 (fun n6 => tv_cb (Sh_cut F t a2 M3) (fun r7 M8 => tv_wr M8 p4 n6 a1 r7 (fun M9 => tv_nn (tv_P0 t 2) (fun p10 => tv_gn p10 20 (fun n12 => tv_rd M9 p10 n12 a1 (fun x13 => some (x13, M9))))))))))
/-- TiedViews.set(III)I -/
def Xx_set (F : Nat) (a1 : Int32) (a2 : Int32) (a3 : Int32) (M : tv_M) : Option (Int32 × tv_M) := tv_cb (Xx_sheetAt F a1 M) (fun r1 M2 => tv_nl r1 (some ((-1000001), M2)) (fun p3 => tv_gl p3 1 (tv_cb (Sh_isMissing F p3 M2) (fun r5 M6 => if r5 = 0 then tv_cb (Sh_reaches F p3 a2 1 M6) (fun r7 M8 => if r7 = 0 then tv_cb (Xx_found F 2 M8) (fun r13 M14 => some (r13, M14)) else tv_cb (Sh_put F p3 a2 a3 M8) (fun r9 M10 => tv_cb (Xx_passed F r9 M10) (fun r11 M12 => some (r11, M12)))) else tv_cb (Xx_found F 1 M6) (fun r15 M16 => some (r15, M16))))))
/-- TiedViews.copy(IIIII)I -/
def Xx_copy (F : Nat) (a1 : Int32) (a2 : Int32) (a3 : Int32) (a4 : Int32) (a5 : Int32) (M : tv_M) : Option (Int32 × tv_M) := tv_cb (Xx_sheetAt F a1 M) (fun r1 M2 => tv_cb (Xx_sheetAt F a3 M2) (fun r3 M4 => tv_nl r1 (some ((-1000001), M4)) (fun p5 => tv_gl p5 1 (tv_nl r3 (some ((-1000001), M4)) (fun p7 => tv_gl p7 1 (tv_cb (Sh_isMissing F p5 M4) (fun r9 M10 => if r9 = 0 then tv_cb (Sh_isMissing F p7 M10) (fun r13 M14 => if r13 = 0 then if (M14.1 p5 0) = (M14.1 p7 0) then tv_cb (Sh_reaches F p5 a2 a5 M14) (fun r15 M16 => if r15 = 0 then tv_cb (Xx_found F 2 M16) (fun r17 M18 => some (r17, M18)) else tv_cb (Sh_reaches F p7 a4 a5 M16) (fun r19 M20 => if r19 = 0 then tv_cb (Xx_found F 2 M20) (fun r32 M33 => some (r32, M33)) else tv_nn (tv_P0 p5 2) (fun p21 => tv_gn p21 20 (fun n23 => tv_nn (tv_P0 p7 2) (fun p24 => tv_gn p24 20 (fun n26 => tv_cpy M20 p21 n23 a2 p24 n26 a4 a5 (fun M27 => tv_cb (Xx_passed F a5 M27) (fun r28 M29 => some (r28, M29))))))))) else tv_cb (Xx_found F 5 M14) (fun r34 M35 => some (r34, M35)) else tv_cb (Xx_found F 1 M14) (fun r36 M37 => some (r36, M37))) else tv_cb (Xx_found F 1 M10) (fun r11 M12 => some (r11, M12)))))))))
/-- TiedViews.drop(I)I -/
def Xx_drop (F : Nat) (a1 : Int32) (M : tv_M) : Option (Int32 × tv_M) := tv_cb (Xx_sheetAt F a1 M) (fun r1 M2 => tv_nl r1 (some ((-1000001), M2)) (fun p3 => tv_gl p3 1 (tv_cb (Sh_isMissing F p3 M2) (fun r5 M6 => if r5 = 0 then tv_cb (Sh_begin F p3 (-1) 0 M6) (fun r7 M8 => tv_cb (Xx_passed F (M6.1 p3 1) M8) (fun r9 M10 => some (r9, M10))) else tv_cb (Xx_found F 1 M6) (fun r11 M12 => some (r11, M12))))))
/-- TiedViews$Reader.hasRoomFor(I)Z -/
def Re_hasRoomFor (F : Nat) (a1 : Int32) (M : tv_M) : Option (Int32 × tv_M) := if (500 - (M.1 68 2)) < a1 then some (0, M) else some (1, M)
/-- TiedViews$Reader.append(JI)I -/
def Re_append_L5 (F : Nat) : Nat → Int64 → Int32 → tv_M → Option (Int32 × tv_M)
  | 0, _, _, _ => none
  | nn + 1, l1, l4, M => if l4 < 0 then some (M.1 68 2, M) else if 500 ≤ (M.1 68 2) then some (M.1 68 2, M) else tv_wr M 69 500 (M.1 68 2) (vp_nar .byte (((l1 >>> ((8 * l4 : Int32).toInt64 &&& 63) : Int64).toInt32 : Int32).toInt8.toInt32)) (fun M1 => tv_pf M1 68 2 ((M1.1 68 2) + 1) (fun M2 => Re_append_L5 F nn l1 (l4 + (-1)) M2))
def Re_append (F : Nat) (a1 : Int64) (a3 : Int32) (M : tv_M) : Option (Int32 × tv_M) := Re_append_L5 F F a1 (a3 - 1) M
/-- TiedViews.feed(JI)I -/
def Xx_feed (F : Nat) (a1 : Int64) (a3 : Int32) (M : tv_M) : Option (Int32 × tv_M) := if a3 < 1 then some ((-1000001), M) else if a3 ≤ 8 then tv_cb (Re_hasRoomFor F a3 M) (fun r1 M2 => if r1 = 0 then some ((-1000003), M2) else tv_cb (Re_append F a1 a3 M2) (fun r3 M4 => some (r3, M4))) else some ((-1000001), M)
/-- TiedViews$Told.keep()V -/
def To_keep (F : Nat)  (M : tv_M) : Option (Unit × tv_M) := tv_pf M 18 9 (M.1 18 4) (fun M1 => tv_pf M1 18 10 (M1.1 18 5) (fun M2 => tv_pf M2 18 11 (M2.1 18 6) (fun M3 => tv_pf M3 18 12 (M3.1 18 7) (fun M4 => tv_pf M4 18 13 (M4.1 18 8) (fun M5 => some ((), M5))))))
/-- TiedViews$Reader.passRun(CC)Z -/
def Re_passRun_L0 (F : Nat) : Nat → Int32 → Int32 → tv_M → Option (Int32 × tv_M)
  | 0, _, _, _ => none
  | nn + 1, l1, l2, M => if (M.1 68 2) ≤ (M.1 68 6) then if (M.1 68 6) ≤ (M.1 68 5) then some (0, M) else some (1, M) else tv_rd M 69 500 (M.1 68 6) (fun x1 => if x1 < l1 then if (M.1 68 6) ≤ (M.1 68 5) then some (0, M) else some (1, M) else tv_rd M 69 500 (M.1 68 6) (fun x2 => if l2 < x2 then if (M.1 68 6) ≤ (M.1 68 5) then some (0, M) else some (1, M) else tv_pf M 68 6 ((M.1 68 6) + 1) (fun M3 => Re_passRun_L0 F nn l1 l2 M3)))
def Re_passRun (F : Nat) (a1 : Int32) (a2 : Int32) (M : tv_M) : Option (Int32 × tv_M) := Re_passRun_L0 F F a1 a2 M
/-- TiedViews$Reader.figuresValue()I -/
def Re_figuresValue_L7 (F : Nat) : Nat → Int32 → Int32 → tv_M → Option (Int32 × tv_M)
  | 0, _, _, _ => none
  | nn + 1, l1, l2, M => if (M.1 68 6) ≤ l2 then some (l1, M) else if ((M.1 68 5) + 3) ≤ l2 then some (l1, M) else tv_rd M 69 500 l2 (fun x1 => Re_figuresValue_L7 F nn (((l1 * 10) + x1) - 48) (l2 + 1) M)
def Re_figuresValue (F : Nat)  (M : tv_M) : Option (Int32 × tv_M) := Re_figuresValue_L7 F F 0 (M.1 68 5) M
/-- TiedViews$Reader.goOn()V -/
def Re_goOn_L52 (F : Nat) (M : tv_M) : Option (Unit × tv_M) := tv_pf M 68 5 (M.1 68 6) (fun M5 => if (M5.1 68 5) < (M5.1 68 2) then tv_cb (Re_passRun F 97 122 M5) (fun r6 M7 => if r6 = 0 then tv_cb (Re_passRun F 48 57 M7) (fun r8 M9 => if r8 = 0 then tv_rd M9 69 500 (M9.1 68 5) (fun x10 => if x10 = 59 then tv_rd M9 69 500 (M9.1 68 5) (fun x11 => tv_pf M9 68 4 x11 (fun M12 => tv_pf M12 68 6 ((M12.1 68 5) + 1) (fun M13 => some ((), M13)))) else tv_rd M9 69 500 (M9.1 68 5) (fun x14 => if x14 = 44 then tv_rd M9 69 500 (M9.1 68 5) (fun x17 => tv_pf M9 68 4 x17 (fun M18 => tv_pf M18 68 6 ((M18.1 68 5) + 1) (fun M19 => some ((), M19)))) else tv_pf M9 68 4 3 (fun M15 => tv_pf M15 68 6 ((M15.1 68 5) + 1) (fun M16 => some ((), M16))))) else if ((M9.1 68 6) - (M9.1 68 5)) ≤ 3 then tv_pf M9 68 4 2 (fun M20 => tv_cb (Re_figuresValue F M20) (fun r21 M22 => tv_pf M22 68 7 r21 (fun M23 => some ((), M23)))) else tv_pf M9 68 4 3 (fun M24 => tv_cb (Re_figuresValue F M24) (fun r25 M26 => tv_pf M26 68 7 r25 (fun M27 => some ((), M27))))) else tv_pf M7 68 4 1 (fun M28 => some ((), M28))) else tv_pf M5 68 4 0 (fun M29 => some ((), M29)))
def Re_goOn_L0 (F : Nat) : Nat → tv_M → Option (Unit × tv_M)
  | 0, _ => none
  | nn + 1, M => if (M.1 68 2) ≤ (M.1 68 6) then Re_goOn_L52 F M else tv_rd M 69 500 (M.1 68 6) (fun x1 => if x1 = 32 then tv_pf M 68 6 ((M.1 68 6) + 1) (fun M2 => Re_goOn_L0 F nn M2) else tv_rd M 69 500 (M.1 68 6) (fun x3 => if x3 = 10 then tv_pf M 68 6 ((M.1 68 6) + 1) (fun M4 => Re_goOn_L0 F nn M4) else Re_goOn_L52 F M))
def Re_goOn (F : Nat)  (M : tv_M) : Option (Unit × tv_M) := Re_goOn_L0 F F M
/-- TiedViews$Reader.isWord(Ljava/lang/String;)Z -/
def Re_isWord_L28 (F : Nat) : Nat → Nat → Int32 → tv_M → Option (Int32 × tv_M)
  | 0, _, _, _ => none
  | nn + 1, l1, l2, M => tv_gs l1 (tv_cb (Js_length F l1 M) (fun r3 M4 => if r3 ≤ l2 then some (1, M4) else tv_rd M4 69 500 ((M4.1 68 5) + l2) (fun x5 => tv_cb (Js_charAt F l1 l2 M4) (fun r6 M7 => if x5 = r6 then Re_isWord_L28 F nn l1 (l2 + 1) M7 else some (0, M7)))))
def Re_isWord (F : Nat) (a1 : Nat) (M : tv_M) : Option (Int32 × tv_M) := tv_gs a1 (if (M.1 68 4) = 1 then tv_cb (Js_length F a1 M) (fun r1 M2 => if ((M.1 68 6) - (M.1 68 5)) = r1 then Re_isWord_L28 F F a1 0 M2 else some (0, M2)) else some (0, M))
/-- TiedViews$Reader.fails(I)Z -/
def Re_fails (F : Nat) (a1 : Int32) (M : tv_M) : Option (Int32 × tv_M) := tv_pf M 68 3 a1 (fun M1 => some (0, M1))
/-- TiedViews$Reader.takeSort()Z -/
def Re_takeSort (F : Nat)  (M : tv_M) : Option (Int32 × tv_M) := tv_cb (Re_isWord F 1 M) (fun r1 M2 => if r1 = 0 then tv_cb (Re_isWord F 2 M2) (fun r3 M4 => if r3 = 0 then tv_cb (Re_isWord F 3 M4) (fun r5 M6 => if r5 = 0 then tv_cb (Re_isWord F 4 M6) (fun r7 M8 => if r7 = 0 then tv_cb (Re_fails F 1 M8) (fun r9 M10 => tv_zo r9 (some (r9, M10))) else tv_pf M8 68 8 3 (fun M12 => tv_cb (Re_goOn F M12) (fun r13 M14 => some (1, M14)))) else tv_pf M6 68 8 2 (fun M15 => tv_cb (Re_goOn F M15) (fun r16 M17 => some (1, M17)))) else tv_pf M4 68 8 1 (fun M18 => tv_cb (Re_goOn F M18) (fun r19 M20 => some (1, M20)))) else tv_pf M2 68 8 0 (fun M21 => tv_cb (Re_goOn F M21) (fun r22 M23 => some (1, M23))))
/-- TiedViews$Reader.takeNumber(II)Z -/
def Re_takeNumber (F : Nat) (a1 : Int32) (a2 : Int32) (M : tv_M) : Option (Int32 × tv_M) := if (M.1 68 4) = 2 then if (M.1 68 7) < a1 then tv_cb (Re_fails F 2 M) (fun r1 M2 => tv_zo r1 (some (r1, M2))) else if (M.1 68 7) ≤ a2 then tv_pf M 68 8 (M.1 68 7) (fun M4 => tv_cb (Re_goOn F M4) (fun r5 M6 => some (1, M6))) else tv_cb (Re_fails F 2 M) (fun r7 M8 => tv_zo r7 (some (r7, M8))) else tv_cb (Re_fails F 1 M) (fun r10 M11 => tv_zo r10 (some (r10, M11)))
/-- TiedViews$Reader.takeSign(C)Z -/
def Re_takeSign (F : Nat) (a1 : Int32) (M : tv_M) : Option (Int32 × tv_M) := if (M.1 68 4) = a1 then tv_cb (Re_goOn F M) (fun r1 M2 => some (1, M2)) else tv_cb (Re_fails F 1 M) (fun r3 M4 => tv_zo r3 (some (r3, M4)))
/-- TiedViews$Eye.fullSet()I -/
def Ey_fullSet (F : Nat) (t : Nat) (M : tv_M) : Option (Int32 × tv_M) := tv_gl t 3 (some ((1 <<< ((M.1 t 2) &&& 31)) - 1, M))
/-- TiedViews$Eye.begin(III)V -/
def Ey_begin (F : Nat) (t : Nat) (a1 : Int32) (a2 : Int32) (a3 : Int32) (M : tv_M) : Option (Unit × tv_M) := tv_gl t 3 (tv_pf M t 1 a1 (fun M2 => tv_pf M2 t 2 a2 (fun M3 => tv_pf M3 t 3 a3 (fun M4 => tv_cb (Ey_fullSet F t M4) (fun r5 M6 => tv_pf M6 t 4 r5 (fun M7 => tv_pf M7 t 5 0 (fun M8 => some ((), M8))))))))
/-- TiedViews$Told.addEye(II)V -/
def To_addEye (F : Nat) (a1 : Int32) (a2 : Int32) (M : tv_M) : Option (Unit × tv_M) := if (M.1 18 4) < 8 then tv_ap 19 8 (M.1 18 4) (fun p1 => tv_gl p1 3 (tv_cb (Ey_begin F p1 a1 a2 (M.1 18 7) M) (fun r3 M4 => tv_pf M4 18 4 ((M4.1 18 4) + 1) (fun M5 => if a1 = 3 then some ((), M5) else tv_pf M5 18 7 ((M5.1 18 7) + a2) (fun M6 => some ((), M6)))))) else some ((), M)
/-- TiedViews$Reader.takeEyeSentence()Z -/
def Re_takeEyeSentence_L48 (F : Nat) (l1 : Int32) (s0 : Int32) (s1 : Int32) (M : tv_M) : Option (Int32 × tv_M) := tv_cb (Re_takeNumber F s1 s0 M) (fun r8 M9 => if r8 = 0 then some (0, M9) else tv_cb (Re_takeSign F 59 M9) (fun r10 M11 => if r10 = 0 then some (0, M11) else tv_cb (To_addEye F l1 (M9.1 68 8) M11) (fun r12 M13 => some (1, M13))))
def Re_takeEyeSentence (F : Nat)  (M : tv_M) : Option (Int32 × tv_M) := if (M.1 18 4) < 8 then tv_cb (Re_goOn F M) (fun r1 M2 => tv_cb (Re_takeSort F M2) (fun r3 M4 => if r3 = 0 then some (0, M4) else if (M4.1 68 8) = 3 then Re_takeEyeSentence_L48 F (M4.1 68 8) 4 1 M4 else Re_takeEyeSentence_L48 F (M4.1 68 8) 3 1 M4)) else tv_cb (Re_fails F 3 M) (fun r5 M6 => tv_zo r5 (some (r5, M6)))
/-- TiedViews$Told.nextTie()LTiedViews$Tie; -/
def To_nextTie (F : Nat)  (M : tv_M) : Option (Option Nat × tv_M) := if (M.1 18 5) < 10 then tv_ap 20 10 (M.1 18 5) (fun p1 => tv_gl p1 4 (some (some p1, M))) else some (none, M)
/-- TiedViews$Told.eyeAt(I)LTiedViews$Eye; -/
def To_eyeAt (F : Nat) (a1 : Int32) (M : tv_M) : Option (Option Nat × tv_M) := if a1 < 0 then some (none, M) else if a1 < (M.1 18 4) then tv_ap 19 8 a1 (fun p1 => tv_gl p1 3 (some (some p1, M))) else some (none, M)
/-- TiedViews$Eye.isChoice()Z -/
def Ey_isChoice (F : Nat) (t : Nat) (M : tv_M) : Option (Int32 × tv_M) := tv_gl t 3 (if (M.1 t 1) = 3 then some (1, M) else some (0, M))
/-- TiedViews$Reader.takeEye(ZI)Z -/
def Re_takeEye (F : Nat) (a1 : Int32) (a2 : Int32) (M : tv_M) : Option (Int32 × tv_M) := if (M.1 68 4) = 2 then tv_cb (To_eyeAt F (M.1 68 7) M) (fun r1 M2 => tv_nl r1 (tv_cb (Re_fails F 2 M2) (fun r4 M5 => tv_zo r4 (some (r4, M5)))) (fun p3 => tv_gl p3 3 (tv_cb (Ey_isChoice F p3 M2) (fun r8 M9 => if r8 = a1 then if (M9.1 68 7) = a2 then tv_cb (Re_fails F 2 M9) (fun r16 M17 => tv_zo r16 (some (r16, M17))) else tv_pf M9 68 8 (M9.1 68 7) (fun M13 => tv_cb (Re_goOn F M13) (fun r14 M15 => some (1, M15))) else tv_cb (Re_fails F 2 M9) (fun r10 M11 => tv_zo r10 (some (r10, M11))))))) else tv_cb (Re_fails F 1 M) (fun r19 M20 => tv_zo r19 (some (r19, M20)))
/-- TiedViews$Reader.takeEyes(LTiedViews$Tie;)Z -/
def Re_takeEyes (F : Nat) (a1 : Nat) (M : tv_M) : Option (Int32 × tv_M) := tv_gl a1 4 (tv_cb (Re_takeEye F 0 (-1000000) M) (fun r2 M3 => if r2 = 0 then some (0, M3) else tv_pf M3 a1 0 (M3.1 68 8) (fun M4 => tv_cb (Re_takeEye F 0 (M4.1 a1 0) M4) (fun r5 M6 => if r5 = 0 then some (0, M6) else tv_pf M6 a1 1 (M6.1 68 8) (fun M7 => some (1, M7))))))
/-- TiedViews$Reader.takeWord(Ljava/lang/String;)Z -/
def Re_takeWord (F : Nat) (a1 : Nat) (M : tv_M) : Option (Int32 × tv_M) := tv_gs a1 (tv_cb (Re_isWord F a1 M) (fun r1 M2 => if r1 = 0 then tv_cb (Re_fails F 1 M2) (fun r5 M6 => tv_zo r5 (some (r5, M6))) else tv_cb (Re_goOn F M2) (fun r3 M4 => some (1, M4))))
/-- TiedViews$Told.linearAt(I)LTiedViews$Eye; -/
def To_linearAt (F : Nat) (a1 : Int32) (M : tv_M) : Option (Option Nat × tv_M) := tv_cb (To_eyeAt F a1 M) (fun r1 M2 => tv_nl r1 (some (none, M2)) (fun p3 => tv_gl p3 3 (tv_cb (Ey_isChoice F p3 M2) (fun r5 M6 => if r5 = 0 then some (some p3, M6) else some (none, M6)))))
/-- TiedViews$Tie.tableOf(I)[I -/
def Ti_tableOf (F : Nat) (t : Nat) (a1 : Int32) (M : tv_M) : Option (Option Nat × tv_M) := tv_gl t 4 (if a1 = (M.1 t 0) then tv_nn (tv_P0 t 3) (fun p6 => tv_gn p6 20 (fun n8 => some (some p6, M))) else tv_nn (tv_P0 t 4) (fun p2 => tv_gn p2 20 (fun n4 => some (some p2, M))))
/-- TiedViews$Reader.takeTable(LTiedViews$Tie;I)Z -/
def Re_takeTable_L57 (F : Nat) (k29 : Nat → Nat → Nat → Int32 → tv_M → Option (Int32 × tv_M)) : Nat → Nat → Nat → Nat → Int32 → Int32 → tv_M → Option (Int32 × tv_M)
  | 0, _, _, _, _, _, _ => none
  | nn + 1, l1, l3, l4, l5, l6, M => tv_gl l1 4 (tv_gl l3 3 (tv_gn l4 20 (fun n23 => if (M.1 l3 2) ≤ l6 then k29 l1 l3 l4 (l5 + 1) M else tv_cb (Re_takeNumber F 0 ((M.1 18 0) - 1) M) (fun r24 M25 => if r24 = 0 then some (0, M25) else tv_wr M25 l4 n23 ((l5 * 3) + l6) (M25.1 68 8) (fun M26 => Re_takeTable_L57 F k29 nn l1 l3 l4 l5 (l6 + 1) M26)))))
def Re_takeTable_L29 (F : Nat) : Nat → Nat → Nat → Nat → Int32 → tv_M → Option (Int32 × tv_M)
  | 0, _, _, _, _, _ => none
  | nn + 1, l1, l3, l4, l5, M => tv_gl l1 4 (tv_gl l3 3 (tv_gn l4 20 (fun n17 => if (M.1 l1 2) ≤ l5 then some (1, M) else if l5 ≤ 0 then Re_takeTable_L57 F (Re_takeTable_L29 F nn) F l1 l3 l4 l5 0 M else tv_cb (Re_takeSign F 44 M) (fun r18 M19 => if r18 = 0 then some (0, M19) else Re_takeTable_L57 F (Re_takeTable_L29 F nn) F l1 l3 l4 l5 0 M19))))
def Re_takeTable (F : Nat) (a1 : Nat) (a2 : Int32) (M : tv_M) : Option (Int32 × tv_M) := tv_gl a1 4 (tv_cb (To_linearAt F a2 M) (fun r2 M3 => tv_nl r2 (tv_cb (Re_fails F 2 M3) (fun r5 M6 => tv_zo r5 (some (r5, M6)))) (fun p4 => tv_gl p4 3 (tv_cb (Ti_tableOf F a1 a2 M3) (fun r9 M10 => tv_nn r9 (fun p11 => tv_gn p11 20 (fun n13 => Re_takeTable_L29 F F a1 p4 p11 0 M10)))))))
/-- TiedViews$Told.addNextTie()V -/
def To_addNextTie (F : Nat)  (M : tv_M) : Option (Unit × tv_M) := if 10 ≤ (M.1 18 5) then some ((), M) else tv_ap 20 10 (M.1 18 5) (fun p1 => tv_gl p1 4 (tv_pf M 18 8 ((M.1 18 8) + (M.1 p1 2)) (fun M3 => tv_pf M3 18 5 ((M3.1 18 5) + 1) (fun M4 => some ((), M4)))))
/-- TiedViews$Reader.takeTieSentence()Z -/
def Re_takeTieSentence (F : Nat)  (M : tv_M) : Option (Int32 × tv_M) := tv_cb (To_nextTie F M) (fun r1 M2 => tv_nl r1 (tv_cb (Re_fails F 3 M2) (fun r4 M5 => tv_zo r4 (some (r4, M5)))) (fun p3 => tv_gl p3 4 (tv_cb (Re_goOn F M2) (fun r8 M9 => tv_cb (Re_takeEyes F p3 M9) (fun r10 M11 => if r10 = 0 then some (0, M11) else tv_cb (Re_takeNumber F 1 3 M11) (fun r12 M13 => if r12 = 0 then some (0, M13) else tv_pf M13 p3 2 (M13.1 68 8) (fun M14 => tv_cb (Re_takeWord F 6 M14) (fun r15 M16 => if r15 = 0 then some (0, M16) else tv_cb (Re_takeTable F p3 (M16.1 p3 0) M16) (fun r17 M18 => if r17 = 0 then some (0, M18) else tv_cb (Re_takeWord F 7 M18) (fun r19 M20 => if r19 = 0 then some (0, M20) else tv_cb (Re_takeTable F p3 (M20.1 p3 1) M20) (fun r21 M22 => if r21 = 0 then some (0, M22) else tv_cb (Re_takeSign F 59 M22) (fun r23 M24 => if r23 = 0 then some (0, M24) else tv_cb (To_addNextTie F M24) (fun r25 M26 => some (1, M26))))))))))))))
/-- TiedViews$Told.choiceAt(I)LTiedViews$Eye; -/
def To_choiceAt (F : Nat) (a1 : Int32) (M : tv_M) : Option (Option Nat × tv_M) := tv_cb (To_eyeAt F a1 M) (fun r1 M2 => tv_nl r1 (some (none, M2)) (fun p3 => tv_gl p3 3 (tv_cb (Ey_isChoice F p3 M2) (fun r5 M6 => if r5 = 0 then some (none, M6) else some (some p3, M6)))))
/-- TiedViews$Reader.takeValueOf(I)Z -/
def Re_takeValueOf (F : Nat) (a1 : Int32) (M : tv_M) : Option (Int32 × tv_M) := tv_cb (To_choiceAt F a1 M) (fun r1 M2 => tv_nl r1 (tv_cb (Re_takeNumber F 0 (-1) M2) (fun r4 M5 => tv_zo r4 (some (r4, M5)))) (fun p3 => tv_gl p3 3 (tv_cb (Re_takeNumber F 0 ((M2.1 p3 2) - 1) M2) (fun r8 M9 => tv_zo r8 (some (r8, M9))))))
/-- TiedViews$Told.addBar(IIII)V -/
def To_addBar (F : Nat) (a1 : Int32) (a2 : Int32) (a3 : Int32) (a4 : Int32) (M : tv_M) : Option (Unit × tv_M) := if (M.1 18 6) < 30 then tv_wr M 21 120 ((M.1 18 6) * 4) a1 (fun M1 => tv_wr M1 21 120 (((M.1 18 6) * 4) + 1) a2 (fun M2 => tv_wr M2 21 120 (((M.1 18 6) * 4) + 2) a3 (fun M3 => tv_wr M3 21 120 (((M.1 18 6) * 4) + 3) a4 (fun M4 => tv_pf M4 18 6 ((M4.1 18 6) + 1) (fun M5 => some ((), M5)))))) else some ((), M)
/-- TiedViews$Reader.takeBarSentence()Z -/
def Re_takeBarSentence (F : Nat)  (M : tv_M) : Option (Int32 × tv_M) := if (M.1 18 6) < 30 then tv_cb (Re_goOn F M) (fun r1 M2 => tv_cb (Re_takeEye F 1 (-1000000) M2) (fun r3 M4 => if r3 = 0 then some (0, M4) else tv_cb (Re_takeValueOf F (M4.1 68 8) M4) (fun r5 M6 => if r5 = 0 then some (0, M6) else tv_cb (Re_takeEye F 1 (M4.1 68 8) M6) (fun r7 M8 => if r7 = 0 then some (0, M8) else tv_cb (Re_takeValueOf F (M8.1 68 8) M8) (fun r9 M10 => if r9 = 0 then some (0, M10) else tv_cb (Re_takeSign F 59 M10) (fun r11 M12 => if r11 = 0 then some (0, M12) else tv_cb (To_addBar F (M4.1 68 8) (M6.1 68 8) (M8.1 68 8) (M10.1 68 8) M12) (fun r13 M14 => some (1, M14)))))))) else tv_cb (Re_fails F 3 M) (fun r15 M16 => tv_zo r15 (some (r15, M16)))
/-- TiedViews$Reader.takeSentence()Z -/
def Re_takeSentence (F : Nat)  (M : tv_M) : Option (Int32 × tv_M) := tv_cb (Re_isWord F 0 M) (fun r1 M2 => if r1 = 0 then tv_cb (Re_isWord F 5 M2) (fun r3 M4 => if r3 = 0 then tv_cb (Re_isWord F 8 M4) (fun r5 M6 => if r5 = 0 then tv_cb (Re_fails F 1 M6) (fun r7 M8 => tv_zo r7 (some (r7, M8))) else tv_cb (Re_takeBarSentence F M6) (fun r10 M11 => tv_zo r10 (some (r10, M11)))) else tv_cb (Re_takeTieSentence F M4) (fun r13 M14 => tv_zo r13 (some (r13, M14)))) else tv_cb (Re_takeEyeSentence F M2) (fun r16 M17 => tv_zo r16 (some (r16, M17))))
/-- TiedViews$Told.goBack()V -/
def To_goBack (F : Nat)  (M : tv_M) : Option (Unit × tv_M) := tv_pf M 18 4 (M.1 18 9) (fun M1 => tv_pf M1 18 5 (M1.1 18 10) (fun M2 => tv_pf M2 18 6 (M2.1 18 11) (fun M3 => tv_pf M3 18 7 (M3.1 18 12) (fun M4 => tv_pf M4 18 8 (M4.1 18 13) (fun M5 => some ((), M5))))))
/-- TiedViews$Reader.takeIn()I -/
def Re_takeIn_L49 (F : Nat) (l1 : Int32) (M : tv_M) : Option (Int32 × tv_M) := tv_pf M 68 2 0 (fun M8 => if l1 = 0 then tv_cb (To_goBack F M8) (fun r9 M10 => some (M10.1 68 5, M10)) else some ((-1), M8))
def Re_takeIn_L20 (F : Nat) : Nat → Int32 → Int32 → tv_M → Option (Int32 × tv_M)
  | 0, _, _, _ => none
  | nn + 1, l1, l2, M => if 500 ≤ l2 then Re_takeIn_L49 F l1 M else if l1 = 0 then Re_takeIn_L49 F l1 M else if (M.1 68 4) = 0 then Re_takeIn_L49 F l1 M else tv_cb (Re_takeSentence F M) (fun r6 M7 => Re_takeIn_L20 F nn r6 (l2 + 1) M7)
def Re_takeIn (F : Nat)  (M : tv_M) : Option (Int32 × tv_M) := tv_cb (To_keep F M) (fun r1 M2 => tv_pf M2 68 6 0 (fun M3 => tv_cb (Re_goOn F M3) (fun r4 M5 => Re_takeIn_L20 F F 1 0 M5)))
/-- java/lang/Math.min(II)I -/
def Jv_min (F : Nat) (a0 : Int32) (a1 : Int32) (M : tv_M) : Option (Int32 × tv_M) := if a1 < a0 then some (a1, M) else some (a0, M)
/-- TiedViews$Steps.begin(II)V -/
def St_begin (F : Nat) (t : Nat) (a1 : Int32) (a2 : Int32) (M : tv_M) : Option (Unit × tv_M) := tv_gl t 7 (tv_cb (Jv_min F a1 24 M) (fun r2 M3 => tv_pf M3 t 7 r2 (fun M4 => tv_cb (Jv_min F a2 (M4.1 t 1) M4) (fun r5 M6 => tv_pf M6 t 10 ((M4.1 t 7) + r5) (fun M7 => tv_pf M7 t 6 0 (fun M8 => tv_pf M8 t 8 0 (fun M9 => tv_pf M9 t 9 0 (fun M10 => some ((), M10)))))))))
/-- TiedViews$Steps.addLine()[I -/
def St_addLine (F : Nat) (t : Nat) (M : tv_M) : Option (Option Nat × tv_M) := tv_gl t 7 (tv_nn (tv_P0 t 2) (fun p2 => tv_gn p2 27 (fun n4 => if (M.1 t 6) < (Int32.ofNat n4) then tv_nn (tv_P0 t 2) (fun p5 => tv_gn p5 27 (fun n7 => tv_ap p5 n7 (M.1 t 6) (fun p8 => tv_gn p8 20 (fun n10 => tv_cb (Jv_fill F p8 0 M) (fun r11 M12 => tv_nn (tv_P0 t 5) (fun p13 => tv_gn p13 20 (fun n15 => tv_wr M12 p13 n15 (M12.1 t 6) (-1) (fun M16 => tv_pf M16 t 6 ((M16.1 t 6) + 1) (fun M17 => some (some p8, M17)))))))))) else some (none, M))))
/-- TiedViews.restOf(II)I -/
def Xx_restOf (F : Nat) (a0 : Int32) (a1 : Int32) (M : tv_M) : Option (Int32 × tv_M) := if 2 ≤ a1 then tv_nz a1 (some (tv_rem a0 a1, M)) else some (0, M)
/-- TiedViews$Told.writeLine(LTiedViews$Tie;I[I)V -/
def To_writeLine_L87 (F : Nat) : Nat → Nat → Nat → Nat → Int32 → Int32 → tv_M → Option (Unit × tv_M)
  | 0, _, _, _, _, _, _ => none
  | nn + 1, l1, l3, l5, l6, l7, M => tv_gl l1 4 (tv_gn l3 20 (fun n25 => tv_gl l5 3 (if (M.1 l5 2) ≤ l7 then some ((), M) else tv_nn (tv_P0 l1 4) (fun p27 => tv_gn p27 20 (fun n29 => tv_rd M p27 n29 (l6 + l7) (fun x30 => tv_cb (Xx_restOf F ((M.1 18 0) - x30) (M.1 18 0) M) (fun r31 M32 => tv_wr M32 l3 n25 ((M.1 l5 3) + l7) r31 (fun M33 => To_writeLine_L87 F nn l1 l3 l5 l6 (l7 + 1) M33))))))))
def To_writeLine_L48 (F : Nat) : Nat → Nat → Nat → Nat → Nat → Int32 → Int32 → tv_M → Option (Unit × tv_M)
  | 0, _, _, _, _, _, _, _ => none
  | nn + 1, l1, l3, l4, l5, l6, l7, M => tv_gl l1 4 (tv_gn l3 20 (fun n14 => tv_gl l4 3 (tv_gl l5 3 (if (M.1 l4 2) ≤ l7 then To_writeLine_L87 F F l1 l3 l5 l6 0 M else tv_nn (tv_P0 l1 3) (fun p17 => tv_gn p17 20 (fun n19 => tv_rd M p17 n19 (l6 + l7) (fun x20 => tv_wr M l3 n14 ((M.1 l4 3) + l7) x20 (fun M21 => To_writeLine_L48 F nn l1 l3 l4 l5 l6 (l7 + 1) M21))))))))
def To_writeLine (F : Nat) (a1 : Nat) (a2 : Int32) (a3 : Nat) (M : tv_M) : Option (Unit × tv_M) := tv_gl a1 4 (tv_gn a3 20 (fun n3 => tv_cb (To_linearAt F (M.1 a1 0) M) (fun r4 M5 => tv_cb (To_linearAt F (M5.1 a1 1) M5) (fun r6 M7 => tv_nl r4 (some ((), M7)) (fun p8 => tv_gl p8 3 (tv_nl r6 (some ((), M7)) (fun p10 => tv_gl p10 3 (if a2 < 0 then some ((), M7) else if a2 < 3 then To_writeLine_L48 F F a1 a3 p8 p10 (a2 * 3) 0 M7 else some ((), M7)))))))))
/-- TiedViews$Agreement.addLines(LTiedViews$Steps;IZ)V -/
def Ag_addLines_L30 (F : Nat) (k3 : Nat → Int32 → Int32 → Int32 → tv_M → Option (Unit × tv_M)) : Nat → Nat → Int32 → Int32 → Int32 → Nat → Int32 → tv_M → Option (Unit × tv_M)
  | 0, _, _, _, _, _, _, _ => none
  | nn + 1, l1, l2, l3, l4, l5, l6, M => tv_gl l1 7 (tv_gl l5 4 (if (M.1 l5 2) ≤ l6 then k3 l1 l2 l3 (l4 + 1) M else if l4 = l2 then k3 l1 l2 l3 (l4 + 1) M else tv_cb (St_addLine F l1 M) (fun r7 M8 => tv_nl r7 (some ((), M8)) (fun p9 => tv_gn p9 20 (fun n11 => tv_cb (To_writeLine F l5 l6 p9 M8) (fun r12 M13 => if l3 = 0 then Ag_addLines_L30 F k3 nn l1 l2 l3 l4 l5 (l6 + 1) M13 else tv_wr M13 p9 n11 ((M13.1 18 7) + (M.1 l1 6)) 1 (fun M14 => Ag_addLines_L30 F k3 nn l1 l2 l3 l4 l5 (l6 + 1) M14)))))))
def Ag_addLines_L3 (F : Nat) : Nat → Nat → Int32 → Int32 → Int32 → tv_M → Option (Unit × tv_M)
  | 0, _, _, _, _, _ => none
  | nn + 1, l1, l2, l3, l4, M => tv_gl l1 7 (if (M.1 18 5) ≤ l4 then some ((), M) else tv_ap 20 10 l4 (fun p3 => tv_gl p3 4 (Ag_addLines_L30 F (Ag_addLines_L3 F nn) F l1 l2 l3 l4 p3 0 M)))
def Ag_addLines (F : Nat) (a1 : Nat) (a2 : Int32) (a3 : Int32) (M : tv_M) : Option (Unit × tv_M) := tv_gl a1 7 (Ag_addLines_L3 F F a1 a2 a3 0 M)
/-- TiedViews$Steps.leastLineAt(I)I -/
def St_leastLineAt_L2 (F : Nat) : Nat → Nat → Int32 → Int32 → tv_M → Option (Int32 × tv_M)
  | 0, _, _, _, _ => none
  | nn + 1, l0, l1, l2, M => tv_gl l0 7 (if (M.1 l0 6) ≤ l2 then some ((-1), M) else tv_nn (tv_P0 l0 5) (fun p3 => tv_gn p3 20 (fun n5 => tv_rd M p3 n5 l2 (fun x6 => if 0 ≤ x6 then St_leastLineAt_L2 F nn l0 l1 (l2 + 1) M else tv_nn (tv_P0 l0 2) (fun p7 => tv_gn p7 27 (fun n9 => tv_ap p7 n9 l2 (fun p10 => tv_gn p10 20 (fun n12 => tv_rd M p10 n12 l1 (fun x13 => if x13 = 0 then St_leastLineAt_L2 F nn l0 l1 (l2 + 1) M else some (l2, M))))))))))
def St_leastLineAt (F : Nat) (t : Nat) (a1 : Int32) (M : tv_M) : Option (Int32 × tv_M) := tv_gl t 7 (St_leastLineAt_L2 F F t a1 0 M)
/-- TiedViews.inverseOf(II)I -/
def Xx_inverseOf_L2 (F : Nat) : Nat → Int32 → Int32 → Int32 → tv_M → Option (Int32 × tv_M)
  | 0, _, _, _, _ => none
  | nn + 1, l0, l1, l2, M => if l1 ≤ l2 then some (1, M) else tv_cb (Xx_restOf F (l2 * l0) l1 M) (fun r1 M2 => if r1 = 1 then some (l2, M2) else Xx_inverseOf_L2 F nn l0 l1 (l2 + 1) M2)
def Xx_inverseOf (F : Nat) (a0 : Int32) (a1 : Int32) (M : tv_M) : Option (Int32 × tv_M) := Xx_inverseOf_L2 F F a0 a1 1 M
/-- TiedViews$Steps.makeOneAt(II)V -/
def St_makeOneAt_L30 (F : Nat) : Nat → Nat → Nat → Int32 → Int32 → tv_M → Option (Unit × tv_M)
  | 0, _, _, _, _, _ => none
  | nn + 1, l0, l3, l4, l5, M => tv_gl l0 7 (tv_gn l3 20 (fun n15 => if (M.1 l0 10) ≤ l5 then some ((), M) else tv_rd M l3 n15 l5 (fun x16 => tv_cb (Xx_restOf F (x16 * l4) (M.1 l0 0) M) (fun r17 M18 => tv_wr M18 l3 n15 l5 r17 (fun M19 => St_makeOneAt_L30 F nn l0 l3 l4 (l5 + 1) M19)))))
def St_makeOneAt (F : Nat) (t : Nat) (a1 : Int32) (a2 : Int32) (M : tv_M) : Option (Unit × tv_M) := tv_gl t 7 (tv_nn (tv_P0 t 2) (fun p2 => tv_gn p2 27 (fun n4 => tv_ap p2 n4 a1 (fun p5 => tv_gn p5 20 (fun n7 => tv_rd M p5 n7 a2 (fun x8 => if x8 = 1 then some ((), M) else tv_rd M p5 n7 a2 (fun x9 => tv_cb (Xx_inverseOf F x9 (M.1 t 0) M) (fun r10 M11 => St_makeOneAt_L30 F F t p5 r10 0 M11))))))))
/-- TiedViews.addTimes([I[IIII)V -/
def Xx_addTimes_L10 (F : Nat) : Nat → Nat → Nat → Int32 → Int32 → Int32 → Int32 → tv_M → Option (Unit × tv_M)
  | 0, _, _, _, _, _, _, _ => none
  | nn + 1, l0, l1, l2, l3, l4, l5, M => tv_gn l0 20 (fun n6 => tv_gn l1 20 (fun n8 => if l3 ≤ l5 then some ((), M) else tv_rd M l0 n6 l5 (fun x9 => tv_rd M l1 n8 l5 (fun x10 => tv_nz l4 (tv_wr M l0 n6 l5 (tv_rem (x9 + (l2 * x10)) l4) (fun M11 => Xx_addTimes_L10 F nn l0 l1 l2 l3 l4 (l5 + 1) M11))))))
def Xx_addTimes (F : Nat) (a0 : Nat) (a1 : Nat) (a2 : Int32) (a3 : Int32) (a4 : Int32) (M : tv_M) : Option (Unit × tv_M) := tv_gn a0 20 (fun n2 => tv_gn a1 20 (fun n4 => if 2 ≤ a4 then Xx_addTimes_L10 F F a0 a1 a2 a3 a4 0 M else some ((), M)))
/-- TiedViews$Steps.takeOffOthers(II)V -/
def St_takeOffOthers_L2 (F : Nat) : Nat → Nat → Int32 → Int32 → Int32 → tv_M → Option (Unit × tv_M)
  | 0, _, _, _, _, _ => none
  | nn + 1, l0, l1, l2, l3, M => tv_gl l0 7 (if (M.1 l0 6) ≤ l3 then some ((), M) else tv_nn (tv_P0 l0 2) (fun p3 => tv_gn p3 27 (fun n5 => tv_ap p3 n5 l3 (fun p6 => tv_gn p6 20 (fun n8 => tv_rd M p6 n8 l2 (fun x9 => if l3 = l1 then St_takeOffOthers_L2 F nn l0 l1 l2 (l3 + 1) M else if x9 = 0 then St_takeOffOthers_L2 F nn l0 l1 l2 (l3 + 1) M else tv_nn (tv_P0 l0 2) (fun p10 => tv_gn p10 27 (fun n12 => tv_ap p10 n12 l3 (fun p13 => tv_gn p13 20 (fun n15 => tv_nn (tv_P0 l0 2) (fun p16 => tv_gn p16 27 (fun n18 => tv_ap p16 n18 l1 (fun p19 => tv_gn p19 20 (fun n21 => tv_cb (Xx_addTimes F p13 p19 ((M.1 l0 0) - x9) (M.1 l0 10) (M.1 l0 0) M) (fun r22 M23 => St_takeOffOthers_L2 F nn l0 l1 l2 (l3 + 1) M23)))))))))))))))
def St_takeOffOthers (F : Nat) (t : Nat) (a1 : Int32) (a2 : Int32) (M : tv_M) : Option (Unit × tv_M) := tv_gl t 7 (St_takeOffOthers_L2 F F t a1 a2 0 M)
/-- TiedViews$Steps.putInSteps()V -/
def St_putInSteps_L2 (F : Nat) : Nat → Nat → Int32 → tv_M → Option (Unit × tv_M)
  | 0, _, _, _ => none
  | nn + 1, l0, l1, M => tv_gl l0 7 (if (M.1 l0 7) ≤ l1 then some ((), M) else tv_cb (St_leastLineAt F l0 l1 M) (fun r3 M4 => tv_nn (tv_P0 l0 3) (fun p5 => tv_gn p5 20 (fun n7 => tv_wr M4 p5 n7 l1 r3 (fun M8 => if r3 < 0 then tv_nn (tv_P0 l0 4) (fun p9 => tv_gn p9 20 (fun n11 => tv_wr M8 p9 n11 (M8.1 l0 9) l1 (fun M12 => tv_pf M12 l0 9 ((M12.1 l0 9) + 1) (fun M13 => St_putInSteps_L2 F nn l0 (l1 + 1) M13)))) else tv_nn (tv_P0 l0 5) (fun p15 => tv_gn p15 20 (fun n17 => tv_wr M8 p15 n17 r3 l1 (fun M18 => tv_pf M18 l0 8 ((M18.1 l0 8) + 1) (fun M19 => tv_cb (St_makeOneAt F l0 r3 l1 M19) (fun r20 M21 => tv_cb (St_takeOffOthers F l0 r3 l1 M21) (fun r22 M23 => St_putInSteps_L2 F nn l0 (l1 + 1) M23)))))))))))
def St_putInSteps (F : Nat) (t : Nat) (M : tv_M) : Option (Unit × tv_M) := tv_gl t 7 (St_putInSteps_L2 F F t 0 M)
/-- TiedViews$Agreement.learnLines()V -/
def Ag_learnLines (F : Nat)  (M : tv_M) : Option (Unit × tv_M) := tv_cb (St_begin F 71 (M.1 18 7) (M.1 18 8) M) (fun r1 M2 => tv_cb (Ag_addLines F 71 (-1) 1 M2) (fun r3 M4 => tv_cb (St_putInSteps F 71 M4) (fun r5 M6 => tv_pf M6 70 3 0 (fun M7 => some ((), M7)))))
/-- TiedViews$Dropping.forget()V -/
def Dr_forget (F : Nat)  (M : tv_M) : Option (Unit × tv_M) := tv_pf M 165 8 0 (fun M1 => some ((), M1))
/-- TiedViews$Choices.bar(IIII)V -/
def Ch_bar (F : Nat) (a1 : Int32) (a2 : Int32) (a3 : Int32) (a4 : Int32) (M : tv_M) : Option (Unit × tv_M) := tv_ap 202 32 ((a1 * 4) + a2) (fun p1 => tv_gn p1 20 (fun n3 => tv_rd M p1 n3 a3 (fun x4 => tv_wr M p1 n3 a3 (x4 &&& ((1 <<< (a4 &&& 31)) ^^^ (-1))) (fun M5 => tv_ap 202 32 ((a3 * 4) + a4) (fun p6 => tv_gn p6 20 (fun n8 => tv_rd M5 p6 n8 a1 (fun x9 => tv_wr M5 p6 n8 a1 (x9 &&& ((1 <<< (a2 &&& 31)) ^^^ (-1))) (fun M10 => tv_cb (Jv_min F a1 a3 M10) (fun r11 M12 => tv_wr M12 235 8 r11 (vp_nar .boolean 1) (fun M13 => some ((), M13)))))))))))
/-- TiedViews$Choices.learnBars()V -/
def Ch_learnBars_L48 (F : Nat) : Nat → Int32 → tv_M → Option (Unit × tv_M)
  | 0, _, _ => none
  | nn + 1, l1, M => if (M.1 18 6) ≤ l1 then tv_pf M 201 6 0 (fun M7 => some ((), M7)) else tv_rd M 21 120 (l1 * 4) (fun x8 => tv_rd M 21 120 ((l1 * 4) + 1) (fun x9 => tv_rd M 21 120 ((l1 * 4) + 2) (fun x10 => tv_rd M 21 120 ((l1 * 4) + 3) (fun x11 => tv_cb (Ch_bar F x8 x9 x10 x11 M) (fun r12 M13 => Ch_learnBars_L48 F nn (l1 + 1) M13)))))
def Ch_learnBars_L27 (F : Nat) : Nat → Int32 → tv_M → Option (Unit × tv_M)
  | 0, _, _ => none
  | nn + 1, l1, M => if 8 ≤ l1 then Ch_learnBars_L48 F F 0 M else tv_wr M 235 8 l1 (vp_nar .boolean 0) (fun M6 => Ch_learnBars_L27 F nn (l1 + 1) M6)
def Ch_learnBars_L2 (F : Nat) : Nat → Int32 → tv_M → Option (Unit × tv_M)
  | 0, _, _ => none
  | nn + 1, l1, M => if 32 ≤ l1 then Ch_learnBars_L27 F F 0 M else tv_ap 202 32 l1 (fun p1 => tv_gn p1 20 (fun n3 => tv_cb (Jv_fill F p1 15 M) (fun r4 M5 => Ch_learnBars_L2 F nn (l1 + 1) M5)))
def Ch_learnBars (F : Nat)  (M : tv_M) : Option (Unit × tv_M) := Ch_learnBars_L2 F F 0 M
/-- TiedViews.read()I -/
def Xx_read (F : Nat)  (M : tv_M) : Option (Int32 × tv_M) := tv_cb (Re_takeIn F M) (fun r1 M2 => if r1 = (-1) then tv_cb (Ag_learnLines F M2) (fun r3 M4 => tv_cb (Dr_forget F M4) (fun r5 M6 => tv_cb (Ch_learnBars F M6) (fun r7 M8 => some (M8.1 18 4, M8)))) else some ((-1000100) - r1, M2))
/-- TiedViews.fault()I -/
def Xx_fault (F : Nat)  (M : tv_M) : Option (Int32 × tv_M) := some (M.1 68 3, M)
/-- TiedViews$Tie.joins(I)Z -/
def Ti_joins (F : Nat) (t : Nat) (a1 : Int32) (M : tv_M) : Option (Int32 × tv_M) := tv_gl t 4 (if a1 = (M.1 t 0) then some (1, M) else if a1 = (M.1 t 1) then some (1, M) else some (0, M))
/-- TiedViews$Told.tiesOf(I)I -/
def To_tiesOf_L4 (F : Nat) : Nat → Int32 → Int32 → Int32 → tv_M → Option (Int32 × tv_M)
  | 0, _, _, _, _ => none
  | nn + 1, l1, l2, l3, M => if (M.1 18 5) ≤ l3 then some (l2, M) else tv_ap 20 10 l3 (fun p1 => tv_gl p1 4 (tv_cb (Ti_joins F p1 l1 M) (fun r3 M4 => if r3 = 0 then To_tiesOf_L4 F nn l1 l2 (l3 + 1) M4 else To_tiesOf_L4 F nn l1 (l2 + 1) (l3 + 1) M4)))
def To_tiesOf (F : Nat) (a1 : Int32) (M : tv_M) : Option (Int32 × tv_M) := To_tiesOf_L4 F F a1 0 0 M
/-- TiedViews.eye(II)I -/
def Xx_eye (F : Nat) (a1 : Int32) (a2 : Int32) (M : tv_M) : Option (Int32 × tv_M) := tv_cb (To_eyeAt F a1 M) (fun r1 M2 => tv_nl r1 (some ((-1000001), M2)) (fun p3 => tv_gl p3 3 (if a2 = 0 then some (M2.1 p3 1, M2) else if a2 = 1 then some (M2.1 p3 2, M2) else if a2 = 2 then tv_cb (Ey_isChoice F p3 M2) (fun r7 M8 => if r7 = 0 then some (M8.1 p3 3, M8) else some ((-1000000), M8)) else if a2 = 3 then if (M2.1 p3 5) = 0 then some (0, M2) else some (1, M2) else if a2 = 4 then tv_cb (To_tiesOf F a1 M2) (fun r11 M12 => some (r11, M12)) else if a2 = 5 then tv_cb (Ey_isChoice F p3 M2) (fun r14 M15 => if r14 = 0 then some ((-1000000), M15) else some (M15.1 p3 4, M15)) else some ((-1000001), M2))))
/-- TiedViews$Agreement.leaders()I -/
def Ag_leaders (F : Nat)  (M : tv_M) : Option (Int32 × tv_M) := some (M.1 71 8, M)
/-- TiedViews$Agreement.freeColumns()I -/
def Ag_freeColumns (F : Nat)  (M : tv_M) : Option (Int32 × tv_M) := tv_cb (Ag_leaders F M) (fun r1 M2 => some ((M.1 18 7) - r1, M2))
/-- TiedViews.all(I)I -/
def Xx_all (F : Nat) (a1 : Int32) (M : tv_M) : Option (Int32 × tv_M) := if a1 = 0 then tv_cb (Ag_freeColumns F M) (fun r1 M2 => some (r1, M2)) else if a1 = 1 then some (M.1 18 7, M) else if a1 = 2 then some (M.1 18 8, M) else if a1 = 3 then tv_cb (Ag_leaders F M) (fun r6 M7 => some (r6, M7)) else if a1 = 4 then tv_cb (Ag_leaders F M) (fun r9 M10 => some ((M.1 18 8) - r9, M10)) else some ((-1000001), M)
/-- TiedViews$Told.isColumn(I)Z -/
def To_isColumn (F : Nat) (a1 : Int32) (M : tv_M) : Option (Int32 × tv_M) := if a1 < 0 then some (0, M) else if (M.1 18 7) ≤ a1 then some (0, M) else some (1, M)
/-- TiedViews$Steps.freeColumn(I)I -/
def St_freeColumn (F : Nat) (t : Nat) (a1 : Int32) (M : tv_M) : Option (Int32 × tv_M) := tv_gl t 7 (if a1 < 0 then some ((-1), M) else if a1 < (M.1 t 9) then tv_nn (tv_P0 t 4) (fun p2 => tv_gn p2 20 (fun n4 => tv_rd M p2 n4 a1 (fun x5 => some (x5, M)))) else some ((-1), M))
/-- TiedViews$Steps.leaderAt(I)I -/
def St_leaderAt (F : Nat) (t : Nat) (a1 : Int32) (M : tv_M) : Option (Int32 × tv_M) := tv_gl t 7 (if a1 < 0 then some ((-1), M) else if a1 < (M.1 t 7) then tv_nn (tv_P0 t 3) (fun p2 => tv_gn p2 20 (fun n4 => tv_rd M p2 n4 a1 (fun x5 => some (x5, M)))) else some ((-1), M))
/-- TiedViews$Steps.numberAt(II)I -/
def St_numberAt (F : Nat) (t : Nat) (a1 : Int32) (a2 : Int32) (M : tv_M) : Option (Int32 × tv_M) := tv_gl t 7 (if a1 < 0 then some (0, M) else if (M.1 t 6) ≤ a1 then some (0, M) else if a2 < 0 then some (0, M) else if a2 < (M.1 t 10) then tv_nn (tv_P0 t 2) (fun p2 => tv_gn p2 27 (fun n4 => tv_ap p2 n4 a1 (fun p5 => tv_gn p5 20 (fun n7 => tv_rd M p5 n7 a2 (fun x8 => some (x8, M)))))) else some (0, M))
/-- TiedViews$Agreement.basisNumber(II)I -/
def Ag_basisNumber (F : Nat) (a1 : Int32) (a2 : Int32) (M : tv_M) : Option (Int32 × tv_M) := tv_cb (St_freeColumn F 71 a1 M) (fun r1 M2 => tv_cb (St_leaderAt F 71 a2 M2) (fun r3 M4 => if 0 ≤ r3 then tv_cb (St_numberAt F 71 r3 r1 M4) (fun r5 M6 => tv_cb (Xx_restOf F ((M4.1 18 0) - r5) (M6.1 18 0) M6) (fun r7 M8 => some (r7, M8))) else if a2 = r1 then some (1, M4) else some (0, M4)))
/-- TiedViews.basis(II)I -/
def Xx_basis (F : Nat) (a1 : Int32) (a2 : Int32) (M : tv_M) : Option (Int32 × tv_M) := if a1 < 0 then some ((-1000001), M) else tv_cb (To_isColumn F a2 M) (fun r1 M2 => if r1 = 0 then some ((-1000001), M2) else tv_cb (Ag_freeColumns F M2) (fun r3 M4 => if r3 ≤ a1 then some ((-1000000), M4) else tv_cb (Ag_basisNumber F a1 a2 M4) (fun r5 M6 => some (r5, M6))))
/-- TiedViews$Sheet.holdsRests(III)Z -/
def Sh_holdsRests_L14 (F : Nat) : Nat → Nat → Int32 → Int32 → Int32 → Int32 → tv_M → Option (Int32 × tv_M)
  | 0, _, _, _, _, _, _ => none
  | nn + 1, l0, l1, l2, l3, l4, M => tv_gl l0 1 (if (l1 + l2) ≤ l4 then some (1, M) else tv_nn (tv_P0 l0 2) (fun p5 => tv_gn p5 20 (fun n7 => tv_rd M p5 n7 l4 (fun x8 => if x8 < 0 then some (0, M) else tv_nn (tv_P0 l0 2) (fun p9 => tv_gn p9 20 (fun n11 => tv_rd M p9 n11 l4 (fun x12 => if x12 < l3 then Sh_holdsRests_L14 F nn l0 l1 l2 l3 (l4 + 1) M else some (0, M))))))))
def Sh_holdsRests (F : Nat) (t : Nat) (a1 : Int32) (a2 : Int32) (a3 : Int32) (M : tv_M) : Option (Int32 × tv_M) := tv_gl t 1 (tv_cb (Sh_reaches F t a1 a2 M) (fun r2 M3 => if r2 = 0 then some (0, M3) else Sh_holdsRests_L14 F F t a1 a2 a3 a1 M3))
/-- TiedViews$Eye.takeReading(LTiedViews$Sheet;I)V -/
def Ey_takeReading (F : Nat) (t : Nat) (a1 : Nat) (a2 : Int32) (M : tv_M) : Option (Unit × tv_M) := tv_gl t 3 (tv_gl a1 1 (if 3 < (M.1 t 2) then some ((), M) else tv_cb (Sh_reaches F a1 a2 (M.1 t 2) M) (fun r3 M4 => if r3 = 0 then some ((), M4) else tv_nn (tv_P0 a1 2) (fun p5 => tv_gn p5 20 (fun n7 => tv_nn (tv_P0 t 6) (fun p8 => tv_gn p8 20 (fun n10 => tv_cpy M4 p5 n7 a2 p8 n10 0 (M4.1 t 2) (fun M11 => tv_pf M11 t 5 1 (fun M12 => some ((), M12))))))))))
/-- TiedViews$Agreement.forgetFill()V -/
def Ag_forgetFill (F : Nat)  (M : tv_M) : Option (Unit × tv_M) := tv_pf M 70 3 0 (fun M1 => some ((), M1))
/-- TiedViews.forgetReadings()V -/
def Xx_forgetReadings (F : Nat)  (M : tv_M) : Option (Unit × tv_M) := tv_cb (Ag_forgetFill F M) (fun r1 M2 => tv_cb (Dr_forget F M2) (fun r3 M4 => some ((), M4)))
/-- TiedViews.reading(III)I -/
def Xx_reading (F : Nat) (a1 : Int32) (a2 : Int32) (a3 : Int32) (M : tv_M) : Option (Int32 × tv_M) := tv_cb (To_linearAt F a1 M) (fun r1 M2 => tv_cb (Xx_sheetAt F a2 M2) (fun r3 M4 => tv_nl r1 (some ((-1000001), M4)) (fun p5 => tv_gl p5 3 (tv_nl r3 (some ((-1000001), M4)) (fun p7 => tv_gl p7 1 (tv_cb (Sh_isMissing F p7 M4) (fun r9 M10 => if r9 = 0 then tv_cb (Sh_reaches F p7 a3 (M10.1 p5 2) M10) (fun r11 M12 => if r11 = 0 then tv_cb (Xx_found F 2 M12) (fun r21 M22 => some (r21, M22)) else tv_cb (Sh_holdsRests F p7 a3 (M12.1 p5 2) (M12.1 0 0) M12) (fun r13 M14 => if r13 = 0 then some ((-1000001), M14) else tv_cb (Ey_takeReading F p5 p7 a3 M14) (fun r15 M16 => tv_cb (Xx_forgetReadings F M16) (fun r17 M18 => tv_cb (Xx_passed F 1 M18) (fun r19 M20 => some (r19, M20)))))) else tv_cb (Xx_found F 1 M10) (fun r23 M24 => some (r23, M24)))))))))
/-- TiedViews.unread(I)I -/
def Xx_unread (F : Nat) (a1 : Int32) (M : tv_M) : Option (Int32 × tv_M) := tv_cb (To_linearAt F a1 M) (fun r1 M2 => tv_nl r1 (some ((-1000001), M2)) (fun p3 => tv_gl p3 3 (if (M2.1 p3 5) = 0 then some (0, M2) else tv_pf M2 p3 5 0 (fun M5 => tv_cb (Xx_forgetReadings F M5) (fun r6 M7 => some (1, M7))))))
/-- TiedViews$Agreement.addReadings()V -/
def Ag_addReadings_L25 (F : Nat) (k2 : Int32 → tv_M → Option (Unit × tv_M)) : Nat → Int32 → Nat → Int32 → tv_M → Option (Unit × tv_M)
  | 0, _, _, _, _ => none
  | nn + 1, l1, l2, l3, M => tv_gl l2 3 (if (M.1 l2 5) = 0 then k2 (l1 + 1) M else if (M.1 l2 2) ≤ l3 then k2 (l1 + 1) M else tv_cb (St_addLine F 106 M) (fun r4 M5 => tv_nl r4 (some ((), M5)) (fun p6 => tv_gn p6 20 (fun n8 => tv_wr M5 p6 n8 ((M5.1 l2 3) + l3) 1 (fun M9 => tv_nn (tv_P0 l2 6) (fun p10 => tv_gn p10 20 (fun n12 => tv_rd M9 p10 n12 l3 (fun x13 => tv_wr M9 p6 n8 (M9.1 18 7) x13 (fun M14 => Ag_addReadings_L25 F k2 nn l1 l2 (l3 + 1) M14)))))))))
def Ag_addReadings_L2 (F : Nat) : Nat → Int32 → tv_M → Option (Unit × tv_M)
  | 0, _, _ => none
  | nn + 1, l1, M => if (M.1 18 4) ≤ l1 then some ((), M) else tv_ap 19 8 l1 (fun p1 => tv_gl p1 3 (Ag_addReadings_L25 F (Ag_addReadings_L2 F nn) F l1 p1 0 M))
def Ag_addReadings (F : Nat)  (M : tv_M) : Option (Unit × tv_M) := Ag_addReadings_L2 F F 0 M
/-- TiedViews$Steps.isLeader(I)Z -/
def St_isLeader (F : Nat) (t : Nat) (a1 : Int32) (M : tv_M) : Option (Int32 × tv_M) := tv_gl t 7 (if a1 < 0 then some (0, M) else if (M.1 t 6) ≤ a1 then some (0, M) else tv_nn (tv_P0 t 5) (fun p2 => tv_gn p2 20 (fun n4 => tv_rd M p2 n4 a1 (fun x5 => if x5 < 0 then some (0, M) else some (1, M)))))
/-- TiedViews$Steps.extraAt(II)I -/
def St_extraAt (F : Nat) (t : Nat) (a1 : Int32) (a2 : Int32) (M : tv_M) : Option (Int32 × tv_M) := tv_gl t 7 (tv_cb (St_numberAt F t a1 ((M.1 t 7) + a2) M) (fun r2 M3 => some (r2, M3)))
/-- TiedViews$Agreement.noLineWantsTheImpossible()Z -/
def Ag_noLineWantsTheImpossible_L2 (F : Nat) : Nat → Int32 → tv_M → Option (Int32 × tv_M)
  | 0, _, _ => none
  | nn + 1, l1, M => if (M.1 106 6) ≤ l1 then some (1, M) else tv_cb (St_isLeader F 106 l1 M) (fun r1 M2 => if r1 = 0 then tv_cb (St_extraAt F 106 l1 0 M2) (fun r3 M4 => if r3 = 0 then Ag_noLineWantsTheImpossible_L2 F nn (l1 + 1) M4 else some (0, M4)) else Ag_noLineWantsTheImpossible_L2 F nn (l1 + 1) M2)
def Ag_noLineWantsTheImpossible (F : Nat)  (M : tv_M) : Option (Int32 × tv_M) := Ag_noLineWantsTheImpossible_L2 F F 0 M
/-- TiedViews$Agreement.learnFill()V -/
def Ag_learnFill (F : Nat)  (M : tv_M) : Option (Unit × tv_M) := if (M.1 70 3) = 0 then tv_cb (St_begin F 106 (M.1 18 7) 1 M) (fun r1 M2 => tv_cb (Ag_addLines F 106 (-1) 0 M2) (fun r3 M4 => tv_cb (Ag_addReadings F M4) (fun r5 M6 => tv_cb (St_putInSteps F 106 M6) (fun r7 M8 => tv_cb (Ag_noLineWantsTheImpossible F M8) (fun r9 M10 => tv_zo r9 (tv_pf M10 70 4 r9 (fun M11 => tv_pf M11 70 3 1 (fun M12 => some ((), M12))))))))) else some ((), M)
/-- TiedViews$Agreement.readingsFit()Z -/
def Ag_readingsFit (F : Nat)  (M : tv_M) : Option (Int32 × tv_M) := tv_cb (Ag_learnFill F M) (fun r1 M2 => tv_zo (M2.1 70 4) (some (M2.1 70 4, M2)))
/-- TiedViews$Agreement.fillNumber(I)I -/
def Ag_fillNumber (F : Nat) (a1 : Int32) (M : tv_M) : Option (Int32 × tv_M) := tv_cb (Ag_learnFill F M) (fun r1 M2 => tv_cb (St_leaderAt F 106 a1 M2) (fun r3 M4 => tv_cb (St_extraAt F 106 r3 0 M4) (fun r5 M6 => some (r5, M6))))
/-- TiedViews.fill(I)I -/
def Xx_fill (F : Nat) (a1 : Int32) (M : tv_M) : Option (Int32 × tv_M) := if a1 = (-1) then tv_cb (Ag_readingsFit F M) (fun r7 M8 => if r7 = 0 then some (0, M8) else some (1, M8)) else tv_cb (To_isColumn F a1 M) (fun r1 M2 => if r1 = 0 then some ((-1000001), M2) else tv_cb (Ag_readingsFit F M2) (fun r3 M4 => if r3 = 0 then some ((-1000000), M4) else tv_cb (Ag_fillNumber F a1 M4) (fun r5 M6 => some (r5, M6))))
/-- TiedViews$Agreement.isFixed(I)Z -/
def Ag_isFixed_L21 (F : Nat) : Nat → Int32 → Int32 → tv_M → Option (Int32 × tv_M)
  | 0, _, _, _ => none
  | nn + 1, l2, l3, M => if (M.1 18 7) ≤ l3 then some (1, M) else tv_cb (St_leaderAt F 106 l3 M) (fun r5 M6 => if 0 ≤ r5 then Ag_isFixed_L21 F nn l2 (l3 + 1) M6 else tv_cb (St_numberAt F 106 l2 l3 M6) (fun r7 M8 => if r7 = 0 then Ag_isFixed_L21 F nn l2 (l3 + 1) M8 else some (0, M8)))
def Ag_isFixed (F : Nat) (a1 : Int32) (M : tv_M) : Option (Int32 × tv_M) := tv_cb (Ag_learnFill F M) (fun r1 M2 => tv_cb (St_leaderAt F 106 a1 M2) (fun r3 M4 => if 0 ≤ r3 then Ag_isFixed_L21 F F r3 0 M4 else some (0, M4)))
/-- TiedViews.fixed(I)I -/
def Xx_fixed (F : Nat) (a1 : Int32) (M : tv_M) : Option (Int32 × tv_M) := tv_cb (To_isColumn F a1 M) (fun r1 M2 => if r1 = 0 then some ((-1000001), M2) else tv_cb (Ag_readingsFit F M2) (fun r3 M4 => if r3 = 0 then some ((-1000000), M4) else tv_cb (Ag_isFixed F a1 M4) (fun r5 M6 => if r5 = 0 then some ((-1000000), M6) else tv_cb (Ag_fillNumber F a1 M6) (fun r7 M8 => some (r7, M8)))))
/-- java/lang/Integer.bitCount(I)I -/
def Jv_bitCount (F : Nat) (a0 : Int32) (M : tv_M) : Option (Int32 × tv_M) := some ((((((((a0 - ((((a0).toUInt32 >>> ((1).toUInt32 &&& Int32.toUInt32 31)).toInt32) &&& 1431655765)) &&& 858993459) + (((((a0 - ((((a0).toUInt32 >>> ((1).toUInt32 &&& Int32.toUInt32 31)).toInt32) &&& 1431655765))).toUInt32 >>> ((2).toUInt32 &&& Int32.toUInt32 31)).toInt32) &&& 858993459)) + ((((((a0 - ((((a0).toUInt32 >>> ((1).toUInt32 &&& Int32.toUInt32 31)).toInt32) &&& 1431655765)) &&& 858993459) + (((((a0 - ((((a0).toUInt32 >>> ((1).toUInt32 &&& Int32.toUInt32 31)).toInt32) &&& 1431655765))).toUInt32 >>> ((2).toUInt32 &&& Int32.toUInt32 31)).toInt32) &&& 858993459))).toUInt32 >>> ((4).toUInt32 &&& Int32.toUInt32 31)).toInt32)) &&& 252645135) + ((((((((a0 - ((((a0).toUInt32 >>> ((1).toUInt32 &&& Int32.toUInt32 31)).toInt32) &&& 1431655765)) &&& 858993459) + (((((a0 - ((((a0).toUInt32 >>> ((1).toUInt32 &&& Int32.toUInt32 31)).toInt32) &&& 1431655765))).toUInt32 >>> ((2).toUInt32 &&& Int32.toUInt32 31)).toInt32) &&& 858993459)) + ((((((a0 - ((((a0).toUInt32 >>> ((1).toUInt32 &&& Int32.toUInt32 31)).toInt32) &&& 1431655765)) &&& 858993459) + (((((a0 - ((((a0).toUInt32 >>> ((1).toUInt32 &&& Int32.toUInt32 31)).toInt32) &&& 1431655765))).toUInt32 >>> ((2).toUInt32 &&& Int32.toUInt32 31)).toInt32) &&& 858993459))).toUInt32 >>> ((4).toUInt32 &&& Int32.toUInt32 31)).toInt32)) &&& 252645135)).toUInt32 >>> ((8).toUInt32 &&& Int32.toUInt32 31)).toInt32)) + (((((((((a0 - ((((a0).toUInt32 >>> ((1).toUInt32 &&& Int32.toUInt32 31)).toInt32) &&& 1431655765)) &&& 858993459) + (((((a0 - ((((a0).toUInt32 >>> ((1).toUInt32 &&& Int32.toUInt32 31)).toInt32) &&& 1431655765))).toUInt32 >>> ((2).toUInt32 &&& Int32.toUInt32 31)).toInt32) &&& 858993459)) + ((((((a0 - ((((a0).toUInt32 >>> ((1).toUInt32 &&& Int32.toUInt32 31)).toInt32) &&& 1431655765)) &&& 858993459) + (((((a0 - ((((a0).toUInt32 >>> ((1).toUInt32 &&& Int32.toUInt32 31)).toInt32) &&& 1431655765))).toUInt32 >>> ((2).toUInt32 &&& Int32.toUInt32 31)).toInt32) &&& 858993459))).toUInt32 >>> ((4).toUInt32 &&& Int32.toUInt32 31)).toInt32)) &&& 252645135) + ((((((((a0 - ((((a0).toUInt32 >>> ((1).toUInt32 &&& Int32.toUInt32 31)).toInt32) &&& 1431655765)) &&& 858993459) + (((((a0 - ((((a0).toUInt32 >>> ((1).toUInt32 &&& Int32.toUInt32 31)).toInt32) &&& 1431655765))).toUInt32 >>> ((2).toUInt32 &&& Int32.toUInt32 31)).toInt32) &&& 858993459)) + ((((((a0 - ((((a0).toUInt32 >>> ((1).toUInt32 &&& Int32.toUInt32 31)).toInt32) &&& 1431655765)) &&& 858993459) + (((((a0 - ((((a0).toUInt32 >>> ((1).toUInt32 &&& Int32.toUInt32 31)).toInt32) &&& 1431655765))).toUInt32 >>> ((2).toUInt32 &&& Int32.toUInt32 31)).toInt32) &&& 858993459))).toUInt32 >>> ((4).toUInt32 &&& Int32.toUInt32 31)).toInt32)) &&& 252645135)).toUInt32 >>> ((8).toUInt32 &&& Int32.toUInt32 31)).toInt32))).toUInt32 >>> ((16).toUInt32 &&& Int32.toUInt32 31)).toInt32)) &&& 63, M)
/-- TiedViews$Dropping.takeOffOthers([I)V -/
def Dr_takeOffOthers_L2 (F : Nat) : Nat → Nat → Int32 → tv_M → Option (Unit × tv_M)
  | 0, _, _, _ => none
  | nn + 1, l1, l2, M => tv_gn l1 20 (fun n4 => if (M.1 165 4) ≤ l2 then some ((), M) else tv_rd M 192 25 l2 (fun x5 => tv_rd M l1 n4 x5 (fun x6 => if x6 = 0 then Dr_takeOffOthers_L2 F nn l1 (l2 + 1) M else tv_ap 166 25 l2 (fun p7 => tv_gn p7 20 (fun n9 => tv_cb (Xx_addTimes F l1 p7 ((M.1 18 0) - x6) ((M.1 165 5) + 1) (M.1 18 0) M) (fun r10 M11 => Dr_takeOffOthers_L2 F nn l1 (l2 + 1) M11))))))
def Dr_takeOffOthers (F : Nat) (a1 : Nat) (M : tv_M) : Option (Unit × tv_M) := tv_gn a1 20 (fun n2 => Dr_takeOffOthers_L2 F F a1 0 M)
/-- TiedViews$Dropping.firstNotNought([I)I -/
def Dr_firstNotNought_L2 (F : Nat) : Nat → Nat → Int32 → tv_M → Option (Int32 × tv_M)
  | 0, _, _, _ => none
  | nn + 1, l1, l2, M => tv_gn l1 20 (fun n4 => if (M.1 165 5) ≤ l2 then some ((-1), M) else tv_rd M l1 n4 l2 (fun x5 => if x5 = 0 then Dr_firstNotNought_L2 F nn l1 (l2 + 1) M else some (l2, M)))
def Dr_firstNotNought (F : Nat) (a1 : Nat) (M : tv_M) : Option (Int32 × tv_M) := tv_gn a1 20 (fun n2 => Dr_firstNotNought_L2 F F a1 0 M)
/-- TiedViews$Dropping.addEquation(II)Z -/
def Dr_addEquation_L111 (F : Nat) : Nat → Nat → Int32 → Int32 → Int32 → tv_M → Option (Int32 × tv_M)
  | 0, _, _, _, _, _ => none
  | nn + 1, l3, l4, l5, l6, M => tv_gn l3 20 (fun n19 => if (M.1 165 5) < l6 then tv_wr M 192 25 (M.1 165 4) l4 (fun M20 => tv_pf M20 165 4 ((M20.1 165 4) + 1) (fun M21 => some (1, M21))) else tv_rd M l3 n19 l6 (fun x22 => tv_cb (Xx_restOf F (x22 * l5) (M.1 18 0) M) (fun r23 M24 => tv_wr M24 l3 n19 l6 r23 (fun M25 => Dr_addEquation_L111 F nn l3 l4 l5 (l6 + 1) M25))))
def Dr_addEquation_L24 (F : Nat) : Nat → Int32 → Int32 → Nat → Int32 → tv_M → Option (Int32 × tv_M)
  | 0, _, _, _, _, _ => none
  | nn + 1, l1, l2, l3, l4, M => tv_gn l3 20 (fun n5 => if (M.1 165 5) ≤ l4 then tv_wr M l3 n5 (M.1 165 5) l2 (fun M6 => tv_cb (Dr_takeOffOthers F l3 M6) (fun r7 M8 => tv_cb (Dr_firstNotNought F l3 M8) (fun r9 M10 => if 0 ≤ r9 then tv_rd M10 l3 n5 r9 (fun x11 => tv_cb (Xx_inverseOf F x11 (M10.1 18 0) M10) (fun r12 M13 => Dr_addEquation_L111 F F l3 r9 r12 0 M13)) else tv_rd M10 l3 n5 (M10.1 165 5) (fun x14 => if x14 = 0 then some (1, M10) else some (0, M10))))) else tv_cb (Ag_basisNumber F l4 l1 M) (fun r15 M16 => tv_wr M16 l3 n5 l4 r15 (fun M17 => Dr_addEquation_L24 F nn l1 l2 l3 (l4 + 1) M17)))
def Dr_addEquation (F : Nat) (a1 : Int32) (a2 : Int32) (M : tv_M) : Option (Int32 × tv_M) := if (M.1 165 4) ≤ 24 then tv_ap 166 25 (M.1 165 4) (fun p1 => tv_gn p1 20 (fun n3 => Dr_addEquation_L24 F F a1 a2 p1 0 M)) else some (0, M)
/-- TiedViews$Dropping.addReading(LTiedViews$Eye;)Z -/
def Dr_addReading_L2 (F : Nat) : Nat → Nat → Int32 → tv_M → Option (Int32 × tv_M)
  | 0, _, _, _ => none
  | nn + 1, l1, l2, M => tv_gl l1 3 (if (M.1 l1 2) ≤ l2 then some (1, M) else tv_nn (tv_P0 l1 6) (fun p3 => tv_gn p3 20 (fun n5 => tv_rd M p3 n5 l2 (fun x6 => tv_cb (Dr_addEquation F ((M.1 l1 3) + l2) x6 M) (fun r7 M8 => if r7 = 0 then some (0, M8) else Dr_addReading_L2 F nn l1 (l2 + 1) M8)))))
def Dr_addReading (F : Nat) (a1 : Nat) (M : tv_M) : Option (Int32 × tv_M) := tv_gl a1 3 (Dr_addReading_L2 F F a1 0 M)
/-- TiedViews$Dropping.searchFrom(II)V -/
def Dr_searchFrom_L71 (F : Nat) (self : Int32 → Int32 → tv_M → Option (Unit × tv_M)) (l1 : Int32) (l2 : Int32) (l4 : Nat) (l5 : Int32) (M : tv_M) : Option (Unit × tv_M) := tv_gl l4 3 (tv_pf M 165 4 l5 (fun M16 => if (M16.1 l4 5) = 0 then some ((), M16) else tv_cb (self (l1 - 1) (l2 ||| (1 <<< (l1 &&& 31))) M16) (fun r17 M18 => some ((), M18))))
def Dr_searchFrom (F : Nat) : Nat → Int32 → Int32 → tv_M → Option (Unit × tv_M)
  | 0, _, _, _ => none
  | nn + 1, a1, a2, M => tv_cb (Jv_bitCount F a2 M) (fun r1 M2 => if r1 < (M2.1 165 7) then tv_cb (To_eyeAt F a1 M2) (fun r3 M4 => tv_nl r3 (tv_pf M4 165 6 a2 (fun M6 => tv_pf M6 165 7 r1 (fun M7 => some ((), M7)))) (fun p5 => tv_gl p5 3 (if (M4.1 p5 5) = 0 then tv_cb ((Dr_searchFrom F nn) (a1 - 1) a2 M4) (fun r9 M10 => Dr_searchFrom_L71 F (Dr_searchFrom F nn) a1 a2 p5 (M4.1 165 4) M10) else tv_cb (Dr_addReading F p5 M4) (fun r11 M12 => if r11 = 0 then Dr_searchFrom_L71 F (Dr_searchFrom F nn) a1 a2 p5 (M4.1 165 4) M12 else tv_cb ((Dr_searchFrom F nn) (a1 - 1) a2 M12) (fun r13 M14 => Dr_searchFrom_L71 F (Dr_searchFrom F nn) a1 a2 p5 (M4.1 165 4) M14))))) else some ((), M2))
/-- TiedViews$Dropping.leastSet()I -/
def Dr_leastSet (F : Nat)  (M : tv_M) : Option (Int32 × tv_M) := if (M.1 165 8) = 0 then tv_cb (Ag_freeColumns F M) (fun r1 M2 => tv_cb (Jv_min F r1 24 M2) (fun r3 M4 => tv_pf M4 165 5 r3 (fun M5 => tv_pf M5 165 4 0 (fun M6 => tv_pf M6 165 6 0 (fun M7 => tv_pf M7 165 7 9 (fun M8 => tv_cb (Dr_searchFrom F 12 ((M8.1 18 4) - 1) 0 M8) (fun r9 M10 => tv_pf M10 165 8 1 (fun M11 => some (M11.1 165 6, M11))))))))) else some (M.1 165 6, M)
/-- TiedViews.fewest()I -/
def Xx_fewest (F : Nat)  (M : tv_M) : Option (Int32 × tv_M) := tv_cb (Dr_leastSet F M) (fun r1 M2 => some (r1, M2))
/-- TiedViews$Agreement.wantOf(ILTiedViews$Sheet;I)I -/
def Ag_wantOf_L6 (F : Nat) : Nat → Int32 → Nat → Int32 → Int32 → Int32 → tv_M → Option (Int32 × tv_M)
  | 0, _, _, _, _, _, _ => none
  | nn + 1, l1, l2, l3, l4, l5, M => tv_gl l2 1 (if (M.1 18 8) ≤ l5 then tv_cb (Xx_restOf F l4 (M.1 18 0) M) (fun r3 M4 => some (r3, M4)) else tv_cb (St_extraAt F 71 l1 l5 M) (fun r5 M6 => tv_nn (tv_P0 l2 2) (fun p7 => tv_gn p7 20 (fun n9 => tv_rd M6 p7 n9 (l3 + l5) (fun x10 => Ag_wantOf_L6 F nn l1 l2 l3 (l4 + (r5 * x10)) (l5 + 1) M6)))))
def Ag_wantOf (F : Nat) (a1 : Int32) (a2 : Nat) (a3 : Int32) (M : tv_M) : Option (Int32 × tv_M) := tv_gl a2 1 (Ag_wantOf_L6 F F a1 a2 a3 0 0 M)
/-- TiedViews$Agreement.proofLine(LTiedViews$Sheet;I)I -/
def Ag_proofLine_L19 (F : Nat) : Nat → Nat → Int32 → Int32 → tv_M → Option (Int32 × tv_M)
  | 0, _, _, _, _ => none
  | nn + 1, l1, l2, l3, M => tv_gl l1 1 (if (M.1 18 8) ≤ l3 then some ((-1), M) else tv_cb (St_isLeader F 71 l3 M) (fun r5 M6 => if r5 = 0 then tv_cb (Ag_wantOf F l3 l1 l2 M6) (fun r7 M8 => if r7 = 0 then Ag_proofLine_L19 F nn l1 l2 (l3 + 1) M8 else some (l3, M8)) else Ag_proofLine_L19 F nn l1 l2 (l3 + 1) M6))
def Ag_proofLine (F : Nat) (a1 : Nat) (a2 : Int32) (M : tv_M) : Option (Int32 × tv_M) := tv_gl a1 1 (tv_cb (Sh_reaches F a1 a2 (M.1 18 8) M) (fun r2 M3 => if r2 = 0 then some ((-1), M3) else Ag_proofLine_L19 F F a1 a2 0 M3))
/-- TiedViews$Agreement.madeOf(II)I -/
def Ag_madeOf (F : Nat) (a1 : Int32) (a2 : Int32) (M : tv_M) : Option (Int32 × tv_M) := tv_cb (St_extraAt F 71 a1 a2 M) (fun r1 M2 => some (r1, M2))
/-- TiedViews.met(III)I -/
def Xx_met (F : Nat) (a1 : Int32) (a2 : Int32) (a3 : Int32) (M : tv_M) : Option (Int32 × tv_M) := tv_cb (Xx_sheetAt F a1 M) (fun r1 M2 => tv_nl r1 (some ((-1000001), M2)) (fun p3 => tv_gl p3 1 (if a3 < (-1) then some ((-1000001), M2) else if a3 < (M2.1 18 8) then tv_cb (Sh_isMissing F p3 M2) (fun r5 M6 => if r5 = 0 then tv_cb (Sh_reaches F p3 a2 (M6.1 18 8) M6) (fun r7 M8 => if r7 = 0 then tv_cb (Xx_found F 2 M8) (fun r23 M24 => some (r23, M24)) else tv_cb (Sh_holdsRests F p3 a2 (M8.1 18 8) (M8.1 0 0) M8) (fun r9 M10 => if r9 = 0 then some ((-1000001), M10) else tv_cb (Ag_proofLine F p3 a2 M10) (fun r11 M12 => if a3 = (-1) then if 0 ≤ r11 then tv_cb (Xx_passed F 0 M12) (fun r19 M20 => some (r19, M20)) else tv_cb (Xx_passed F 1 M12) (fun r21 M22 => some (r21, M22)) else if 0 ≤ r11 then tv_cb (Ag_madeOf F r11 a3 M12) (fun r13 M14 => tv_cb (Xx_passed F r13 M14) (fun r15 M16 => some (r15, M16))) else tv_cb (Xx_passed F (-1000000) M12) (fun r17 M18 => some (r17, M18))))) else tv_cb (Xx_found F 1 M6) (fun r25 M26 => some (r25, M26))) else some ((-1000001), M2))))
/-- TiedViews$Told.tieAt(I)LTiedViews$Tie; -/
def To_tieAt (F : Nat) (a1 : Int32) (M : tv_M) : Option (Option Nat × tv_M) := if a1 < 0 then some (none, M) else if a1 < (M.1 18 5) then tv_ap 20 10 a1 (fun p1 => tv_gl p1 4 (some (some p1, M))) else some (none, M)
/-- TiedViews$Agreement.costOf(I)I -/
def Ag_costOf (F : Nat) (a1 : Int32) (M : tv_M) : Option (Int32 × tv_M) := tv_cb (Ag_leaders F M) (fun r1 M2 => tv_pf M2 70 3 0 (fun M3 => tv_cb (St_begin F 106 (M3.1 18 7) 0 M3) (fun r4 M5 => tv_cb (Ag_addLines F 106 a1 0 M5) (fun r6 M7 => tv_cb (St_putInSteps F 106 M7) (fun r8 M9 => some (r1 - (M9.1 106 8), M9))))))
/-- TiedViews.cost(I)I -/
def Xx_cost (F : Nat) (a1 : Int32) (M : tv_M) : Option (Int32 × tv_M) := tv_cb (To_tieAt F a1 M) (fun r1 M2 => tv_nl r1 (some ((-1000001), M2)) (fun p3 => tv_gl p3 4 (tv_cb (Ag_costOf F a1 M2) (fun r5 M6 => some (r5, M6)))))
/-- TiedViews$Hearsay.isFull()Z -/
def He_isFull (F : Nat)  (M : tv_M) : Option (Int32 × tv_M) := if (M.1 193 3) < 16 then some (0, M) else some (1, M)
/-- TiedViews$Hearsay.addRule(III)I -/
def He_addRule (F : Nat) (a1 : Int32) (a2 : Int32) (a3 : Int32) (M : tv_M) : Option (Int32 × tv_M) := tv_cb (He_isFull F M) (fun r1 M2 => if r1 = 0 then if a1 < 0 then some ((-1000003), M2) else if a1 < 8 then tv_wr M2 194 8 a1 a2 (fun M3 => tv_wr M3 195 8 a1 a3 (fun M4 => tv_pf M4 193 3 ((M4.1 193 3) + 1) (fun M5 => tv_pf M5 193 12 0 (fun M6 => some (M6.1 193 3, M6))))) else some ((-1000003), M2) else some ((-1000003), M2))
/-- TiedViews.hear(III)I -/
def Xx_hear (F : Nat) (a1 : Int32) (a2 : Int32) (a3 : Int32) (M : tv_M) : Option (Int32 × tv_M) := tv_cb (To_linearAt F a1 M) (fun r1 M2 => tv_cb (To_linearAt F a2 M2) (fun r3 M4 => tv_cb (To_tieAt F a3 M4) (fun r5 M6 => tv_nl r1 (some ((-1000001), M6)) (fun p7 => tv_gl p7 3 (tv_nl r3 (some ((-1000001), M6)) (fun p9 => tv_gl p9 3 (tv_nl r5 (some ((-1000001), M6)) (fun p11 => tv_gl p11 4 (tv_cb (Ti_joins F p11 a2 M6) (fun r13 M14 => if r13 = 0 then some ((-1000001), M14) else if (M14.1 p11 2) = (M14.1 p7 2) then tv_cb (He_isFull F M14) (fun r15 M16 => if r15 = 0 then tv_cb (He_addRule F a1 a2 a3 M16) (fun r17 M18 => some (r17, M18)) else some ((-1000003), M16)) else some ((-1000001), M14)))))))))))
/-- TiedViews$Hearsay.change(II)I -/
def He_change (F : Nat) (a1 : Int32) (a2 : Int32) (M : tv_M) : Option (Int32 × tv_M) := tv_cb (To_isColumn F a1 M) (fun r1 M2 => if r1 = 0 then some ((-1000001), M2) else tv_rd M2 196 24 a1 (fun x3 => tv_wr M2 196 24 a1 a2 (fun M4 => tv_pf M4 193 12 0 (fun M5 => some (x3, M5)))))
/-- TiedViews.now(III)I -/
def Xx_now (F : Nat) (a1 : Int32) (a2 : Int32) (a3 : Int32) (M : tv_M) : Option (Int32 × tv_M) := tv_cb (To_linearAt F a1 M) (fun r1 M2 => tv_nl r1 (some ((-1000001), M2)) (fun p3 => tv_gl p3 3 (if a2 < 0 then some ((-1000001), M2) else if (M2.1 p3 2) ≤ a2 then some ((-1000001), M2) else if a3 < 0 then some ((-1000001), M2) else if a3 < (M2.1 0 0) then tv_cb (He_change F ((M2.1 p3 3) + a2) a3 M2) (fun r5 M6 => some (r5, M6)) else some ((-1000001), M2))))
/-- TiedViews$Hearsay.hearOne(LTiedViews$Eye;[I)V -/
def He_hearOne_L74 (F : Nat) (k59 : Nat → Nat → Nat → Nat → Int32 → tv_M → Option (Unit × tv_M)) : Nat → Nat → Nat → Nat → Nat → Int32 → Int32 → Int32 → tv_M → Option (Unit × tv_M)
  | 0, _, _, _, _, _, _, _, _ => none
  | nn + 1, l1, l2, l3, l5, l6, l7, l8, M => tv_gl l1 3 (tv_gn l2 20 (fun n27 => tv_gl l3 3 (tv_gn l5 20 (fun n30 => if (M.1 l3 2) ≤ l8 then tv_cb (Xx_restOf F l7 (M.1 18 0) M) (fun r31 M32 => tv_wr M32 198 24 ((M.1 l1 3) + l6) r31 (fun M33 => k59 l1 l2 l3 l5 (l6 + 1) M33)) else tv_rd M l5 n30 ((l6 * 3) + l8) (fun x34 => tv_rd M l2 n27 ((M.1 l3 3) + l8) (fun x35 => He_hearOne_L74 F k59 nn l1 l2 l3 l5 l6 (l7 + (x34 * x35)) (l8 + 1) M))))))
def He_hearOne_L59 (F : Nat) : Nat → Nat → Nat → Nat → Nat → Int32 → tv_M → Option (Unit × tv_M)
  | 0, _, _, _, _, _, _ => none
  | nn + 1, l1, l2, l3, l5, l6, M => tv_gl l1 3 (tv_gn l2 20 (fun n21 => tv_gl l3 3 (tv_gn l5 20 (fun n24 => if (M.1 l1 2) ≤ l6 then some ((), M) else He_hearOne_L74 F (He_hearOne_L59 F nn) F l1 l2 l3 l5 l6 0 0 M))))
def He_hearOne (F : Nat) (a1 : Nat) (a2 : Nat) (M : tv_M) : Option (Unit × tv_M) := tv_gl a1 3 (tv_gn a2 20 (fun n3 => tv_rd M 194 8 (M.1 a1 0) (fun x4 => tv_cb (To_linearAt F x4 M) (fun r5 M6 => tv_rd M6 195 8 (M6.1 a1 0) (fun x7 => tv_cb (To_tieAt F x7 M6) (fun r8 M9 => tv_nl r5 (some ((), M9)) (fun p10 => tv_gl p10 3 (tv_nl r8 (some ((), M9)) (fun p12 => tv_gl p12 4 (tv_cb (Ti_tableOf F p12 (M9.1 p10 0) M9) (fun r14 M15 => tv_nn r14 (fun p16 => tv_gn p16 20 (fun n18 => He_hearOne_L59 F F a1 a2 p10 p16 0 M15)))))))))))))
/-- TiedViews$Hearsay.hearAll([I)V -/
def He_hearAll_L14 (F : Nat) : Nat → Nat → Int32 → tv_M → Option (Unit × tv_M)
  | 0, _, _, _ => none
  | nn + 1, l1, l2, M => tv_gn l1 20 (fun n5 => if (M.1 18 4) ≤ l2 then tv_cpy M 198 24 0 l1 n5 0 24 (fun M6 => some ((), M6)) else tv_ap 19 8 l2 (fun p7 => tv_gl p7 3 (tv_rd M 195 8 l2 (fun x9 => if x9 = (-1) then He_hearAll_L14 F nn l1 (l2 + 1) M else if (M.1 p7 1) = 2 then He_hearAll_L14 F nn l1 (l2 + 1) M else tv_cb (He_hearOne F p7 l1 M) (fun r10 M11 => He_hearAll_L14 F nn l1 (l2 + 1) M11)))))
def He_hearAll (F : Nat) (a1 : Nat) (M : tv_M) : Option (Unit × tv_M) := tv_gn a1 20 (fun n2 => tv_cpy M a1 n2 0 198 24 0 24 (fun M3 => He_hearAll_L14 F F a1 0 M3))
/-- TiedViews$Hearsay.goOn(I)I -/
def He_goOn_L30 (F : Nat) : Nat → Int32 → Int32 → tv_M → Option (Int32 × tv_M)
  | 0, _, _, _ => none
  | nn + 1, l2, l3, M => if (M.1 18 7) ≤ l3 then some (l2, M) else tv_rd M 196 24 l3 (fun x4 => if x4 = 0 then He_goOn_L30 F nn l2 (l3 + 1) M else He_goOn_L30 F nn (l2 + 1) (l3 + 1) M)
def He_goOn_L2 (F : Nat) : Nat → Int32 → Int32 → tv_M → Option (Int32 × tv_M)
  | 0, _, _, _ => none
  | nn + 1, l1, l2, M => if l1 ≤ l2 then tv_pf M 193 12 0 (fun M1 => He_goOn_L30 F F 0 0 M1) else tv_cb (He_hearAll F 196 M) (fun r2 M3 => He_goOn_L2 F nn l1 (l2 + 1) M3)
def He_goOn (F : Nat) (a1 : Int32) (M : tv_M) : Option (Int32 × tv_M) := He_goOn_L2 F F a1 0 M
/-- TiedViews.tick(I)I -/
def Xx_tick (F : Nat) (a1 : Int32) (M : tv_M) : Option (Int32 × tv_M) := if a1 < 1 then some ((-1000001), M) else if a1 ≤ 100 then tv_cb (He_goOn F a1 M) (fun r1 M2 => some (r1, M2)) else some ((-1000001), M)
/-- TiedViews$Hearsay.numberAt(I)I -/
def He_numberAt (F : Nat) (a1 : Int32) (M : tv_M) : Option (Int32 × tv_M) := tv_cb (To_isColumn F a1 M) (fun r1 M2 => if r1 = 0 then some ((-1000001), M2) else tv_rd M2 196 24 a1 (fun x3 => some (x3, M2)))
/-- TiedViews.says(II)I -/
def Xx_says (F : Nat) (a1 : Int32) (a2 : Int32) (M : tv_M) : Option (Int32 × tv_M) := tv_cb (To_linearAt F a1 M) (fun r1 M2 => tv_nl r1 (some ((-1000001), M2)) (fun p3 => tv_gl p3 3 (if a2 < 0 then some ((-1000001), M2) else if a2 < (M2.1 p3 2) then tv_cb (He_numberAt F ((M2.1 p3 3) + a2) M2) (fun r5 M6 => some (r5, M6)) else some ((-1000001), M2))))
/-- TiedViews$Hearsay.packed(I)J -/
def He_packed_L5 (F : Nat) : Nat → Int32 → Int64 → Int32 → tv_M → Option (Int64 × tv_M)
  | 0, _, _, _, _ => none
  | nn + 1, l1, l2, l4, M => if (l1 + 12) ≤ l4 then some (l2, M) else tv_rd M 197 24 l4 (fun x1 => He_packed_L5 F nn l1 ((l2 <<< ((3 : Int32).toInt64 &&& 63)) ||| ((x1 : Int32).toInt64)) (l4 + 1) M)
def He_packed (F : Nat) (a1 : Int32) (M : tv_M) : Option (Int64 × tv_M) := He_packed_L5 F F a1 0 a1 M
/-- TiedViews$Hearsay.firstLike(I)I -/
def He_firstLike_L18 (F : Nat) : Nat → Int32 → Int64 → Int64 → Int32 → tv_M → Option (Int32 × tv_M)
  | 0, _, _, _, _, _ => none
  | nn + 1, l1, l2, l4, l6, M => if l1 ≤ l6 then some (l1, M) else tv_rdl M 199 301 l6 (fun x3 => if (lg_cmp x3 l2) = 0 then tv_rdl M 200 301 l6 (fun x4 => if (lg_cmp x4 l4) = 0 then some (l6, M) else He_firstLike_L18 F nn l1 l2 l4 (l6 + 1) M) else He_firstLike_L18 F nn l1 l2 l4 (l6 + 1) M)
def He_firstLike (F : Nat) (a1 : Int32) (M : tv_M) : Option (Int32 × tv_M) := tv_rdl M 199 301 a1 (fun x1 => tv_rdl M 200 301 a1 (fun x2 => He_firstLike_L18 F F a1 x1 x2 0 M))
/-- TiedViews$Hearsay.settle()V -/
def He_settle_L22 (F : Nat) : Nat → Int32 → tv_M → Option (Unit × tv_M)
  | 0, _, _ => none
  | nn + 1, l1, M => if 300 < l1 then tv_pf M 193 11 1 (fun M3 => some ((), M3)) else tv_cb (He_packed F 0 M) (fun r4 M5 => tv_wrl M5 199 301 l1 r4 (fun M6 => tv_cb (He_packed F 12 M6) (fun r7 M8 => tv_wrl M8 200 301 l1 r7 (fun M9 => tv_cb (He_firstLike F l1 M9) (fun r10 M11 => if l1 ≤ r10 then tv_cb (He_hearAll F 197 M11) (fun r12 M13 => He_settle_L22 F nn (l1 + 1) M13) else tv_pf M11 193 9 r10 (fun M14 => tv_pf M14 193 10 (l1 - r10) (fun M15 => some ((), M15))))))))
def He_settle (F : Nat)  (M : tv_M) : Option (Unit × tv_M) := tv_cpy M 196 24 0 197 24 0 24 (fun M1 => tv_pf M1 193 11 0 (fun M2 => He_settle_L22 F F 0 M2))
/-- TiedViews$Hearsay.isSpent()Z -/
def He_isSpent (F : Nat)  (M : tv_M) : Option (Int32 × tv_M) := if (M.1 193 12) = 0 then tv_cb (He_settle F M) (fun r2 M3 => tv_pf M3 193 12 1 (fun M4 => tv_zo (M4.1 193 11) (some (M4.1 193 11, M4)))) else tv_zo (M.1 193 11) (some (M.1 193 11, M))
/-- TiedViews.settles(I)I -/
def Xx_settles_L12 (F : Nat) (l1 : Int32) (M : tv_M) : Option (Int32 × tv_M) := tv_cb (He_isSpent F M) (fun r1 M2 => if r1 = 0 then if l1 = 0 then some (M2.1 193 9, M2) else some (M2.1 193 10, M2) else some ((-1000000), M2))
def Xx_settles (F : Nat) (a1 : Int32) (M : tv_M) : Option (Int32 × tv_M) := if a1 = 0 then Xx_settles_L12 F a1 M else if a1 = 1 then Xx_settles_L12 F a1 M else some ((-1000001), M)
/-- TiedViews$Choices.forget()V -/
def Ch_forget (F : Nat)  (M : tv_M) : Option (Unit × tv_M) := tv_pf M 201 6 0 (fun M1 => some ((), M1))
/-- TiedViews.choose(II)I -/
def Xx_choose (F : Nat) (a1 : Int32) (a2 : Int32) (M : tv_M) : Option (Int32 × tv_M) := tv_cb (To_choiceAt F a1 M) (fun r1 M2 => tv_nl r1 (some ((-1000001), M2)) (fun p3 => tv_gl p3 3 (if a2 < 1 then some ((-1000001), M2) else tv_cb (Ey_fullSet F p3 M2) (fun r5 M6 => if a2 ≤ r5 then tv_pf M6 p3 4 a2 (fun M7 => tv_cb (Ch_forget F M7) (fun r8 M9 => some (M6.1 p3 4, M9))) else some ((-1000001), M6)))))
/-- TiedViews$Choices.goesWithAll(II)Z -/
def Ch_goesWithAll_L14 (F : Nat) : Nat → Int32 → Nat → Int32 → tv_M → Option (Int32 × tv_M)
  | 0, _, _, _, _ => none
  | nn + 1, l1, l3, l4, M => tv_gn l3 20 (fun n5 => if (M.1 18 4) ≤ l4 then some (1, M) else tv_ap 19 8 l4 (fun p6 => tv_gl p6 3 (if l4 = l1 then Ch_goesWithAll_L14 F nn l1 l3 (l4 + 1) M else tv_cb (Ey_isChoice F p6 M) (fun r8 M9 => if r8 = 0 then Ch_goesWithAll_L14 F nn l1 l3 (l4 + 1) M9 else tv_rd M9 l3 n5 l4 (fun x10 => if ((M9.1 p6 4) &&& x10) = 0 then some (0, M9) else Ch_goesWithAll_L14 F nn l1 l3 (l4 + 1) M9)))))
def Ch_goesWithAll (F : Nat) (a1 : Int32) (a2 : Int32) (M : tv_M) : Option (Int32 × tv_M) := tv_ap 202 32 ((a1 * 4) + a2) (fun p1 => tv_gn p1 20 (fun n3 => Ch_goesWithAll_L14 F F a1 p1 0 M))
/-- TiedViews$Choices.narrowOne(I)I -/
def Ch_narrowOne_L20 (F : Nat) : Nat → Int32 → Nat → Int32 → Int32 → tv_M → Option (Int32 × tv_M)
  | 0, _, _, _, _, _ => none
  | nn + 1, l1, l2, l3, l4, M => tv_gl l2 3 (if (M.1 l2 2) ≤ l4 then some (l3, M) else if (((M.1 l2 4) >>> (l4 &&& 31)) &&& 1) = 1 then tv_cb (Ch_goesWithAll F l1 l4 M) (fun r6 M7 => if r6 = 0 then tv_pf M7 l2 4 ((M7.1 l2 4) &&& ((1 <<< (l4 &&& 31)) ^^^ (-1))) (fun M8 => Ch_narrowOne_L20 F nn l1 l2 (l3 + 1) (l4 + 1) M8) else Ch_narrowOne_L20 F nn l1 l2 l3 (l4 + 1) M7) else Ch_narrowOne_L20 F nn l1 l2 l3 (l4 + 1) M)
def Ch_narrowOne (F : Nat) (a1 : Int32) (M : tv_M) : Option (Int32 × tv_M) := tv_cb (To_choiceAt F a1 M) (fun r1 M2 => tv_nl r1 (some (0, M2)) (fun p3 => tv_gl p3 3 (Ch_narrowOne_L20 F F a1 p3 0 0 M2)))
/-- TiedViews$Choices.narrowSets()I -/
def Ch_narrowSets_L22 (F : Nat) (k6 : Int32 → Int32 → Int32 → tv_M → Option (Int32 × tv_M)) : Nat → Int32 → Int32 → Int32 → Int32 → tv_M → Option (Int32 × tv_M)
  | 0, _, _, _, _, _ => none
  | nn + 1, l1, l3, l4, l5, M => if (M.1 18 4) ≤ l5 then if l1 ≤ l4 then k6 l1 0 (l3 + 1) M else k6 l1 1 (l3 + 1) M else tv_cb (Ch_narrowOne F l5 M) (fun r3 M4 => Ch_narrowSets_L22 F k6 nn (l1 + r3) l3 l4 (l5 + 1) M4)
def Ch_narrowSets_L6 (F : Nat) : Nat → Int32 → Int32 → Int32 → tv_M → Option (Int32 × tv_M)
  | 0, _, _, _, _ => none
  | nn + 1, l1, l2, l3, M => if 32 < l3 then tv_pf M 201 6 0 (fun M1 => some (l1, M1)) else if l2 = 0 then tv_pf M 201 6 0 (fun M2 => some (l1, M2)) else Ch_narrowSets_L22 F (Ch_narrowSets_L6 F nn) F l1 l3 l1 0 M
def Ch_narrowSets (F : Nat)  (M : tv_M) : Option (Int32 × tv_M) := Ch_narrowSets_L6 F F 0 1 0 M
/-- TiedViews.narrow()I -/
def Xx_narrow (F : Nat)  (M : tv_M) : Option (Int32 × tv_M) := tv_cb (Ch_narrowSets F M) (fun r1 M2 => some (r1, M2))
/-- TiedViews$Choices.leavesLaterOpen(II)Z -/
def Ch_leavesLaterOpen_L16 (F : Nat) : Nat → Int32 → Nat → Int32 → tv_M → Option (Int32 × tv_M)
  | 0, _, _, _, _ => none
  | nn + 1, l1, l3, l4, M => tv_gn l3 20 (fun n5 => if (M.1 18 4) ≤ l4 then some (1, M) else tv_ap 236 9 l1 (fun p6 => tv_gn p6 20 (fun n8 => tv_rd M p6 n8 l4 (fun x9 => tv_rd M l3 n5 l4 (fun x10 => if (x9 &&& x10) = 0 then tv_ap 19 8 l4 (fun p15 => tv_gl p15 3 (tv_cb (Ey_isChoice F p15 M) (fun r17 M18 => if r17 = 0 then tv_ap 236 9 (l1 + 1) (fun p19 => tv_gn p19 20 (fun n21 => tv_wr M18 p19 n21 l4 (x9 &&& x10) (fun M22 => Ch_leavesLaterOpen_L16 F nn l1 l3 (l4 + 1) M22))) else some (0, M18)))) else tv_ap 236 9 (l1 + 1) (fun p11 => tv_gn p11 20 (fun n13 => tv_wr M p11 n13 l4 (x9 &&& x10) (fun M14 => Ch_leavesLaterOpen_L16 F nn l1 l3 (l4 + 1) M14))))))))
def Ch_leavesLaterOpen (F : Nat) (a1 : Int32) (a2 : Int32) (M : tv_M) : Option (Int32 × tv_M) := tv_ap 202 32 ((a1 * 4) + a2) (fun p1 => tv_gn p1 20 (fun n3 => Ch_leavesLaterOpen_L16 F F a1 p1 (a1 + 1) M))
/-- TiedViews$Choices.waysFrom(I)I -/
def Ch_waysFrom_L74 (F : Nat) (self : Int32 → tv_M → Option (Int32 × tv_M)) (l1 : Int32) (s0 : Int32) (M : tv_M) : Option (Int32 × tv_M) := if s0 = 0 then some (0, M) else tv_cb (self (l1 + 1) M) (fun r24 M25 => some (s0 * r24, M25))
def Ch_waysFrom_L31 (F : Nat) (self : Int32 → tv_M → Option (Int32 × tv_M)) (l1 : Int32) (l2 : Nat) (M : tv_M) : Option (Int32 × tv_M) := tv_gl l2 3 (tv_ap 236 9 l1 (fun p9 => tv_gn p9 20 (fun n11 => tv_ap 236 9 (l1 + 1) (fun p12 => tv_gn p12 20 (fun n14 => tv_cpy M p9 n11 0 p12 n14 0 8 (fun M15 => tv_cb (Ey_isChoice F l2 M15) (fun r16 M17 => if r16 = 0 then Ch_waysFrom_L74 F self l1 1 M17 else tv_ap 236 9 l1 (fun p18 => tv_gn p18 20 (fun n20 => tv_rd M17 p18 n20 l1 (fun x21 => tv_cb (Jv_bitCount F x21 M17) (fun r22 M23 => Ch_waysFrom_L74 F self l1 r22 M23)))))))))))
def Ch_waysFrom_L98 (F : Nat) (self : Int32 → tv_M → Option (Int32 × tv_M)) : Nat → Int32 → Nat → Int32 → Int32 → tv_M → Option (Int32 × tv_M)
  | 0, _, _, _, _, _ => none
  | nn + 1, l1, l2, l3, l4, M => tv_gl l2 3 (if (M.1 l2 2) ≤ l4 then some (l3, M) else tv_ap 236 9 l1 (fun p27 => tv_gn p27 20 (fun n29 => tv_rd M p27 n29 l1 (fun x30 => if ((x30 >>> (l4 &&& 31)) &&& 1) = 1 then tv_cb (Ch_leavesLaterOpen F l1 l4 M) (fun r31 M32 => if r31 = 0 then Ch_waysFrom_L98 F self nn l1 l2 l3 (l4 + 1) M32 else tv_cb (self (l1 + 1) M32) (fun r33 M34 => Ch_waysFrom_L98 F self nn l1 l2 (l3 + r33) (l4 + 1) M34)) else Ch_waysFrom_L98 F self nn l1 l2 l3 (l4 + 1) M))))
def Ch_waysFrom (F : Nat) : Nat → Int32 → tv_M → Option (Int32 × tv_M)
  | 0, _, _ => none
  | nn + 1, a1, M => tv_cb (To_eyeAt F a1 M) (fun r1 M2 => tv_nl r1 (some (1, M2)) (fun p3 => tv_gl p3 3 (tv_cb (Ey_isChoice F p3 M2) (fun r5 M6 => if r5 = 0 then Ch_waysFrom_L31 F (Ch_waysFrom F nn) a1 p3 M6 else tv_rd M6 235 8 a1 (fun x7 => if x7 = 0 then Ch_waysFrom_L31 F (Ch_waysFrom F nn) a1 p3 M6 else Ch_waysFrom_L98 F (Ch_waysFrom F nn) F a1 p3 0 0 M6)))))
/-- TiedViews$Choices.findFirst(I)Z -/
def Ch_findFirst_L53 (F : Nat) (self : Int32 → tv_M → Option (Int32 × tv_M)) : Nat → Int32 → Nat → Int32 → tv_M → Option (Int32 × tv_M)
  | 0, _, _, _, _ => none
  | nn + 1, l1, l2, l3, M => tv_gl l2 3 (if (M.1 l2 2) ≤ l3 then some (0, M) else tv_ap 236 9 l1 (fun p18 => tv_gn p18 20 (fun n20 => tv_rd M p18 n20 l1 (fun x21 => if ((x21 >>> (l3 &&& 31)) &&& 1) = 1 then tv_cb (Ch_leavesLaterOpen F l1 l3 M) (fun r22 M23 => if r22 = 0 then Ch_findFirst_L53 F self nn l1 l2 (l3 + 1) M23 else tv_wr M23 246 8 l1 l3 (fun M24 => tv_cb (self (l1 + 1) M24) (fun r25 M26 => if r25 = 0 then Ch_findFirst_L53 F self nn l1 l2 (l3 + 1) M26 else some (1, M26)))) else Ch_findFirst_L53 F self nn l1 l2 (l3 + 1) M))))
def Ch_findFirst (F : Nat) : Nat → Int32 → tv_M → Option (Int32 × tv_M)
  | 0, _, _ => none
  | nn + 1, a1, M => tv_cb (To_eyeAt F a1 M) (fun r1 M2 => tv_nl r1 (some (1, M2)) (fun p3 => tv_gl p3 3 (tv_cb (Ey_isChoice F p3 M2) (fun r5 M6 => if r5 = 0 then tv_ap 236 9 a1 (fun p7 => tv_gn p7 20 (fun n9 => tv_ap 236 9 (a1 + 1) (fun p10 => tv_gn p10 20 (fun n12 => tv_cpy M6 p7 n9 0 p10 n12 0 8 (fun M13 => tv_cb ((Ch_findFirst F nn) (a1 + 1) M13) (fun r14 M15 => tv_zo r14 (some (r14, M15)))))))) else Ch_findFirst_L53 F (Ch_findFirst F nn) F a1 p3 0 M6))))
/-- TiedViews$Choices.ways()I -/
def Ch_ways_L9 (F : Nat) : Nat → Int32 → tv_M → Option (Int32 × tv_M)
  | 0, _, _ => none
  | nn + 1, l1, M => if (M.1 18 4) ≤ l1 then tv_cb (Ch_waysFrom F 12 0 M) (fun r1 M2 => tv_pf M2 201 5 r1 (fun M3 => if (M3.1 201 5) ≤ 0 then tv_pf M3 201 6 1 (fun M4 => some (M4.1 201 5, M4)) else tv_cb (Ch_findFirst F 12 0 M3) (fun r5 M6 => tv_pf M6 201 6 1 (fun M7 => some (M7.1 201 5, M7))))) else tv_ap 236 9 0 (fun p8 => tv_gn p8 20 (fun n10 => tv_ap 19 8 l1 (fun p11 => tv_gl p11 3 (tv_wr M p8 n10 l1 (M.1 p11 4) (fun M13 => Ch_ways_L9 F nn (l1 + 1) M13)))))
def Ch_ways (F : Nat)  (M : tv_M) : Option (Int32 × tv_M) := if (M.1 201 6) = 0 then Ch_ways_L9 F F 0 M else some (M.1 201 5, M)
/-- TiedViews$Choices.firstValue(I)I -/
def Ch_firstValue (F : Nat) (a1 : Int32) (M : tv_M) : Option (Int32 × tv_M) := if a1 < 0 then some ((-1000000), M) else if a1 < 8 then tv_rd M 246 8 a1 (fun x1 => some (x1, M)) else some ((-1000000), M)
/-- TiedViews.fills(I)I -/
def Xx_fills (F : Nat) (a1 : Int32) (M : tv_M) : Option (Int32 × tv_M) := if a1 = (-1) then tv_cb (Ch_ways F M) (fun r9 M10 => some (r9, M10)) else tv_cb (To_choiceAt F a1 M) (fun r1 M2 => tv_nl r1 (some ((-1000001), M2)) (fun p3 => tv_gl p3 3 (tv_cb (Ch_ways F M2) (fun r5 M6 => if r5 = 0 then some ((-1000000), M6) else tv_cb (Ch_firstValue F a1 M6) (fun r7 M8 => some (r7, M8))))))
/-- TiedViews$Bodies.kindOf(LTiedViews$Eye;)I -/
def Bo_kindOf (F : Nat) (a0 : Nat) (M : tv_M) : Option (Int32 × tv_M) := tv_gl a0 3 (if (M.1 a0 1) < 0 then some (0, M) else if (M.1 a0 1) < 4 then tv_rds [1, 2, 3, 4] (M.1 a0 1) (fun x2 => some (x2, M)) else some (0, M))
/-- TiedViews.kind(I)I -/
def Xx_kind (F : Nat) (a1 : Int32) (M : tv_M) : Option (Int32 × tv_M) := tv_cb (To_eyeAt F a1 M) (fun r1 M2 => tv_nl r1 (some ((-1000001), M2)) (fun p3 => tv_gl p3 3 (tv_cb (Bo_kindOf F p3 M2) (fun r5 M6 => some (r5, M6)))))
/-- TiedViews$Bodies.isOfKind(LTiedViews$Eye;I)Z -/
def Bo_isOfKind_L7 (F : Nat) : Nat → Int32 → Int32 → Int32 → tv_M → Option (Int32 × tv_M)
  | 0, _, _, _, _ => none
  | nn + 1, l1, l2, l3, M => if 4 < l3 then some (0, M) else if l2 < 0 then some (0, M) else if l2 = l1 then some (1, M) else tv_rds [-1, 0, 1, 1, 0] l2 (fun x4 => Bo_isOfKind_L7 F nn l1 x4 (l3 + 1) M)
def Bo_isOfKind (F : Nat) (a0 : Nat) (a1 : Int32) (M : tv_M) : Option (Int32 × tv_M) := tv_gl a0 3 (tv_cb (Bo_kindOf F a0 M) (fun r2 M3 => Bo_isOfKind_L7 F F a1 r2 0 M3))
/-- TiedViews.as(II)I -/
def Xx_as (F : Nat) (a1 : Int32) (a2 : Int32) (M : tv_M) : Option (Int32 × tv_M) := tv_cb (To_eyeAt F a1 M) (fun r1 M2 => tv_nl r1 (some ((-1000001), M2)) (fun p3 => tv_gl p3 3 (if a2 < 0 then some ((-1000001), M2) else if a2 ≤ 4 then tv_cb (Bo_isOfKind F p3 a2 M2) (fun r5 M6 => if r5 = 0 then tv_cb (Xx_found F 3 M6) (fun r9 M10 => some (r9, M10)) else tv_cb (Xx_passed F (M6.1 p3 2) M6) (fun r7 M8 => some (r7, M8))) else some ((-1000001), M2))))
/-- TiedViews$Bodies.bodyFor(II)I -/
def Bo_bodyFor_L4 (F : Nat) : Nat → Int32 → Int32 → Int32 → tv_M → Option (Int32 × tv_M)
  | 0, _, _, _, _ => none
  | nn + 1, l1, l2, l3, M => if 4 < l3 then if l1 = 0 then tv_rds [10, 11, 12, 13, 14] 0 (fun x2 => some (x2, M)) else tv_rds [20, 21, 22, 0, 23] 0 (fun x1 => some (x1, M)) else if l2 ≤ 0 then if l1 = 0 then tv_rds [10, 11, 12, 13, 14] 0 (fun x4 => some (x4, M)) else tv_rds [20, 21, 22, 0, 23] 0 (fun x3 => some (x3, M)) else if l1 = 0 then tv_rds [10, 11, 12, 13, 14] l2 (fun x7 => if x7 = 0 then tv_rds [-1, 0, 1, 1, 0] l2 (fun x8 => Bo_bodyFor_L4 F nn l1 x8 (l3 + 1) M) else some (x7, M)) else tv_rds [20, 21, 22, 0, 23] l2 (fun x5 => if x5 = 0 then tv_rds [-1, 0, 1, 1, 0] l2 (fun x6 => Bo_bodyFor_L4 F nn l1 x6 (l3 + 1) M) else some (x5, M))
def Bo_bodyFor (F : Nat) (a0 : Int32) (a1 : Int32) (M : tv_M) : Option (Int32 × tv_M) := Bo_bodyFor_L4 F F a1 a0 0 M
/-- TiedViews$Bodies.answerAnew(LTiedViews$Eye;II)I -/
def Bo_answerAnew (F : Nat) (give : Nat → Int32 → Int32 → tv_M → Option (Int32 × tv_M)) (a1 : Nat) (a2 : Int32) (a3 : Int32) (M : tv_M) : Option (Int32 × tv_M) := tv_gl a1 3 (tv_cb (Bo_kindOf F a1 M) (fun r2 M3 => tv_cb (Bo_bodyFor F r2 a2 M3) (fun r4 M5 => tv_cb (give a1 r4 (a3 + 1) M5) (fun r6 M7 => some (r6, M7)))))
/-- TiedViews$Bodies.leaveTrace(I)V -/
def Bo_leaveTrace (F : Nat) (a1 : Int32) (M : tv_M) : Option (Unit × tv_M) := if 16 ≤ (M.1 247 2) then some ((), M) else tv_wr M 248 16 (M.1 247 2) a1 (fun M1 => tv_pf M1 247 2 ((M1.1 247 2) + 1) (fun M2 => some ((), M2)))
/-- TiedViews$Bodies.give(LTiedViews$Eye;II)I -/
def Bo_give (F : Nat) : Nat → Nat → Int32 → Int32 → tv_M → Option (Int32 × tv_M)
  | 0, _, _, _, _ => none
  | nn + 1, a1, a2, a3, M => tv_gl a1 3 (if a3 ≤ 40 then tv_cb (Bo_leaveTrace F a2 M) (fun r2 M3 => if a2 = 10 then some (M3.1 a1 2, M3) else if a2 = 11 then tv_cb ((Bo_give F nn) a1 10 (a3 + 1) M3) (fun r5 M6 => tv_cb (To_tiesOf F (M6.1 a1 0) M6) (fun r7 M8 => some (r5 + r7, M8))) else if a2 = 12 then tv_cb ((Bo_give F nn) a1 11 (a3 + 1) M3) (fun r10 M11 => some (r10 * (M11.1 18 0), M11)) else if a2 = 13 then tv_cb ((Bo_give F nn) a1 11 (a3 + 1) M3) (fun r13 M14 => tv_cb (Bo_answerAnew F (Bo_give F nn) a1 1 (a3 + 1) M14) (fun r15 M16 => some (r13 - r15, M16))) else if a2 = 14 then tv_cb ((Bo_give F nn) a1 10 (a3 + 1) M3) (fun r18 M19 => tv_cb (Jv_bitCount F (M19.1 a1 4) M19) (fun r20 M21 => some (r18 + r20, M21))) else if a2 = 15 then some (0, M3) else if a2 = 16 then some (0, M3) else if a2 = 17 then some (0, M3) else if a2 = 18 then some (0, M3) else if a2 = 19 then some (0, M3) else if a2 = 20 then some (M3.1 a1 0, M3) else if a2 = 21 then tv_cb ((Bo_give F nn) a1 20 (a3 + 1) M3) (fun r29 M30 => if (M30.1 a1 5) = 0 then some (r29 + 0, M30) else some (r29 + 100, M30)) else if a2 = 22 then tv_cb ((Bo_give F nn) a1 21 (a3 + 1) M3) (fun r32 M33 => tv_cb (Bo_answerAnew F (Bo_give F nn) a1 0 (a3 + 1) M33) (fun r34 M35 => some (r32 + r34, M35))) else if a2 = 23 then tv_cb ((Bo_give F nn) a1 20 (a3 + 1) M3) (fun r37 M38 => some (r37 + 1000, M38)) else some (0, M3)) else some (0, M))
/-- TiedViews$Bodies.answer(LTiedViews$Eye;I)I -/
def Bo_answer (F : Nat) (a1 : Nat) (a2 : Int32) (M : tv_M) : Option (Int32 × tv_M) := tv_gl a1 3 (tv_pf M 247 2 0 (fun M2 => tv_cb (Bo_answerAnew F (Bo_give F 50) a1 a2 0 M2) (fun r3 M4 => some (r3, M4))))
/-- TiedViews.ask(II)I -/
def Xx_ask (F : Nat) (a1 : Int32) (a2 : Int32) (M : tv_M) : Option (Int32 × tv_M) := tv_cb (To_eyeAt F a1 M) (fun r1 M2 => tv_nl r1 (some ((-1000001), M2)) (fun p3 => tv_gl p3 3 (if a2 = 0 then tv_cb (Bo_answer F p3 a2 M2) (fun r5 M6 => some (r5, M6)) else if a2 = 1 then tv_cb (Bo_answer F p3 a2 M2) (fun r7 M8 => some (r7, M8)) else some ((-1000001), M2))))
/-- TiedViews$Bodies.traceNumber(I)I -/
def Bo_traceNumber (F : Nat) (a1 : Int32) (M : tv_M) : Option (Int32 × tv_M) := if a1 < 0 then some ((-1000000), M) else if a1 < (M.1 247 2) then tv_rd M 248 16 a1 (fun x1 => some (x1, M)) else some ((-1000000), M)
/-- TiedViews.trace(I)I -/
def Xx_trace (F : Nat) (a1 : Int32) (M : tv_M) : Option (Int32 × tv_M) := tv_cb (Bo_traceNumber F a1 M) (fun r1 M2 => some (r1, M2))
/-- TiedViews.sheetsThere()I -/
def Xx_sheetsThere_L4 (F : Nat) : Nat → Int32 → Int32 → tv_M → Option (Int32 × tv_M)
  | 0, _, _, _ => none
  | nn + 1, l1, l2, M => if 8 ≤ l2 then some (l1, M) else tv_ap 1 8 l2 (fun p1 => tv_gl p1 1 (tv_cb (Sh_isMissing F p1 M) (fun r3 M4 => if r3 = 0 then Xx_sheetsThere_L4 F nn (l1 + 1) (l2 + 1) M4 else Xx_sheetsThere_L4 F nn l1 (l2 + 1) M4)))
def Xx_sheetsThere (F : Nat)  (M : tv_M) : Option (Int32 × tv_M) := Xx_sheetsThere_L4 F F 0 0 M
/-- TiedViews$Told.readings()I -/
def To_readings_L4 (F : Nat) : Nat → Int32 → Int32 → tv_M → Option (Int32 × tv_M)
  | 0, _, _, _ => none
  | nn + 1, l1, l2, M => if (M.1 18 4) ≤ l2 then some (l1, M) else tv_ap 19 8 l2 (fun p1 => tv_gl p1 3 (if (M.1 p1 5) = 0 then To_readings_L4 F nn l1 (l2 + 1) M else To_readings_L4 F nn (l1 + 1) (l2 + 1) M))
def To_readings (F : Nat)  (M : tv_M) : Option (Int32 × tv_M) := To_readings_L4 F F 0 0 M
/-- TiedViews$Told.choiceCount()I -/
def To_choiceCount_L4 (F : Nat) : Nat → Int32 → Int32 → tv_M → Option (Int32 × tv_M)
  | 0, _, _, _ => none
  | nn + 1, l1, l2, M => if (M.1 18 4) ≤ l2 then some (l1, M) else tv_ap 19 8 l2 (fun p1 => tv_gl p1 3 (tv_cb (Ey_isChoice F p1 M) (fun r3 M4 => if r3 = 0 then To_choiceCount_L4 F nn l1 (l2 + 1) M4 else To_choiceCount_L4 F nn (l1 + 1) (l2 + 1) M4)))
def To_choiceCount (F : Nat)  (M : tv_M) : Option (Int32 × tv_M) := To_choiceCount_L4 F F 0 0 M
/-- TiedViews.count(I)I -/
def Xx_count (F : Nat) (a1 : Int32) (M : tv_M) : Option (Int32 × tv_M) := if a1 = 0 then tv_cb (Xx_sheetsThere F M) (fun r1 M2 => some (r1, M2)) else if a1 = 1 then some (M.1 18 4, M) else if a1 = 2 then some (M.1 18 5, M) else if a1 = 3 then some (M.1 18 6, M) else if a1 = 4 then tv_cb (To_readings F M) (fun r7 M8 => some (r7, M8)) else if a1 = 5 then some (M.1 193 3, M) else if a1 = 6 then tv_cb (To_choiceCount F M) (fun r11 M12 => some (r11, M12)) else if a1 = 7 then some (M.1 68 2, M) else if a1 = 8 then some (M.1 0 0, M) else some ((-1000001), M)
/-- TiedViews.status()I -/
def Xx_status (F : Nat)  (M : tv_M) : Option (Int32 × tv_M) := some (M.1 0 9, M)
/-- TiedViewsModel.in(JJJ)Z -/
def Md_in (F : Nat) (a0 : Int64) (a2 : Int64) (a4 : Int64) (M : tv_M) : Option (Int32 × tv_M) := if (lg_cmp a0 a2) < 0 then some (0, M) else if 0 < (lg_cmp a0 a4) then some (0, M) else some (1, M)
/-- TiedViewsModel.isSheet(I)Z -/
def Md_isSheet (F : Nat) (a0 : Int32) (M : tv_M) : Option (Int32 × tv_M) := tv_cb (Md_in F ((a0 : Int32).toInt64) 0 7 M) (fun r1 M2 => tv_zo r1 (some (r1, M2)))
/-- TiedViewsModel.finding(I)I -/
def Md_finding (F : Nat) (a1 : Int32) (M : tv_M) : Option (Int32 × tv_M) := tv_pf M 249 1 a1 (fun M1 => some ((-1000010) - a1, M1))
/-- TiedViewsModel.sheet(III)I -/
def Md_sheet_L65 (F : Nat) : Nat → Int32 → Int32 → Int32 → tv_M → Option (Int32 × tv_M)
  | 0, _, _, _, _ => none
  | nn + 1, l1, l3, l4, M => if 40 ≤ l4 then some (l3, M) else tv_wr M 252 320 ((40 * l1) + l4) 0 (fun M11 => Md_sheet_L65 F nn l1 l3 (l4 + 1) M11)
def Md_sheet (F : Nat) (a1 : Int32) (a2 : Int32) (a3 : Int32) (M : tv_M) : Option (Int32 × tv_M) := tv_pf M 249 0 0 (fun M1 => tv_cb (Md_isSheet F a1 M1) (fun r2 M3 => if r2 = 0 then some ((-1000001), M3) else tv_cb (Md_in F ((a2 : Int32).toInt64) 0 2 M3) (fun r4 M5 => if r4 = 0 then some ((-1000001), M5) else if a3 ≤ 40 then tv_pf M5 249 1 0 (fun M6 => if 0 ≤ a3 then tv_wr M6 250 8 a1 a2 (fun M7 => tv_wr M7 251 8 a1 a3 (fun M8 => Md_sheet_L65 F F a1 a3 0 M8)) else tv_cb (Md_finding F 4 M6) (fun r9 M10 => some (r9, M10))) else some ((-1000001), M5))))
/-- TiedViewsModel.set(III)I -/
def Md_set (F : Nat) (a1 : Int32) (a2 : Int32) (a3 : Int32) (M : tv_M) : Option (Int32 × tv_M) := tv_pf M 249 0 0 (fun M1 => tv_cb (Md_isSheet F a1 M1) (fun r2 M3 => if r2 = 0 then some ((-1000001), M3) else tv_pf M3 249 1 0 (fun M4 => tv_rd M4 250 8 a1 (fun x5 => if 0 ≤ x5 then tv_rd M4 251 8 a1 (fun x6 => tv_cb (Md_in F ((a2 : Int32).toInt64) 0 ((x6 - 1 : Int32).toInt64) M4) (fun r7 M8 => if r7 = 0 then tv_cb (Md_finding F 2 M8) (fun r17 M18 => some (r17, M18)) else tv_rd M8 250 8 a1 (fun x9 => if x9 = 0 then tv_wr M8 252 320 ((40 * a1) + a2) ((a3 : Int32).toInt8.toInt32) (fun M15 => tv_rd M15 252 320 ((40 * a1) + a2) (fun x16 => some (x16, M15))) else tv_rd M8 250 8 a1 (fun x10 => if x10 = 1 then tv_wr M8 252 320 ((40 * a1) + a2) ((a3 : Int32).toInt16.toInt32) (fun M13 => tv_rd M13 252 320 ((40 * a1) + a2) (fun x14 => some (x14, M13))) else tv_wr M8 252 320 ((40 * a1) + a2) a3 (fun M11 => tv_rd M11 252 320 ((40 * a1) + a2) (fun x12 => some (x12, M11))))))) else tv_cb (Md_finding F 1 M4) (fun r19 M20 => some (r19, M20))))))
/-- TiedViewsModel.copy(IIIII)I -/
def Md_copy_L167 (F : Nat) (k143 : Int32 → Int32 → Int32 → Int32 → Int32 → Int32 → Int32 → tv_M → Option (Int32 × tv_M)) (l1 : Int32) (l2 : Int32) (l3 : Int32) (l4 : Int32) (l5 : Int32) (l6 : Int32) (l7 : Int32) (s0 : Int32) (M : tv_M) : Option (Int32 × tv_M) := tv_rd M 252 320 (((40 * l1) + l2) + s0) (fun x29 => tv_wr M 252 320 (((40 * l3) + l4) + s0) x29 (fun M30 => k143 l1 l2 l3 l4 l5 l6 (l7 + 1) M30))
def Md_copy_L143 (F : Nat) : Nat → Int32 → Int32 → Int32 → Int32 → Int32 → Int32 → Int32 → tv_M → Option (Int32 × tv_M)
  | 0, _, _, _, _, _, _, _, _ => none
  | nn + 1, l1, l2, l3, l4, l5, l6, l7, M => if l5 ≤ l7 then some (l5, M) else if l6 = 0 then Md_copy_L167 F (Md_copy_L143 F nn) l1 l2 l3 l4 l5 l6 l7 ((l5 - 1) - l7) M else Md_copy_L167 F (Md_copy_L143 F nn) l1 l2 l3 l4 l5 l6 l7 l7 M
def Md_copy (F : Nat) (a1 : Int32) (a2 : Int32) (a3 : Int32) (a4 : Int32) (a5 : Int32) (M : tv_M) : Option (Int32 × tv_M) := tv_pf M 249 0 0 (fun M1 => tv_cb (Md_isSheet F a1 M1) (fun r2 M3 => if r2 = 0 then some ((-1000001), M3) else tv_cb (Md_isSheet F a3 M3) (fun r4 M5 => if r4 = 0 then some ((-1000001), M5) else tv_pf M5 249 1 0 (fun M6 => tv_rd M6 250 8 a1 (fun x7 => if x7 < 0 then tv_cb (Md_finding F 1 M6) (fun r8 M9 => some (r8, M9)) else tv_rd M6 250 8 a3 (fun x10 => if 0 ≤ x10 then tv_rd M6 250 8 a1 (fun x11 => tv_rd M6 250 8 a3 (fun x12 => if x11 = x12 then if a2 < 0 then tv_cb (Md_finding F 2 M6) (fun r13 M14 => some (r13, M14)) else if a4 < 0 then tv_cb (Md_finding F 2 M6) (fun r15 M16 => some (r15, M16)) else if a5 < 0 then tv_cb (Md_finding F 2 M6) (fun r17 M18 => some (r17, M18)) else tv_rd M6 251 8 a1 (fun x19 => if 0 < (lg_cmp (((a2 : Int32).toInt64) + ((a5 : Int32).toInt64)) ((x19 : Int32).toInt64)) then tv_cb (Md_finding F 2 M6) (fun r20 M21 => some (r20, M21)) else tv_rd M6 251 8 a3 (fun x22 => if (lg_cmp (((a4 : Int32).toInt64) + ((a5 : Int32).toInt64)) ((x22 : Int32).toInt64)) ≤ 0 then if a2 < a4 then Md_copy_L143 F F a1 a2 a3 a4 a5 0 0 M6 else Md_copy_L143 F F a1 a2 a3 a4 a5 1 0 M6 else tv_cb (Md_finding F 2 M6) (fun r23 M24 => some (r23, M24)))) else tv_cb (Md_finding F 5 M6) (fun r25 M26 => some (r25, M26)))) else tv_cb (Md_finding F 1 M6) (fun r27 M28 => some (r27, M28))))))))
/-- TiedViewsModel.drop(I)I -/
def Md_drop (F : Nat) (a1 : Int32) (M : tv_M) : Option (Int32 × tv_M) := tv_pf M 249 0 0 (fun M1 => tv_cb (Md_isSheet F a1 M1) (fun r2 M3 => if r2 = 0 then some ((-1000001), M3) else tv_pf M3 249 1 0 (fun M4 => tv_rd M4 250 8 a1 (fun x5 => if 0 ≤ x5 then tv_wr M4 250 8 a1 (-1) (fun M6 => tv_rd M6 251 8 a1 (fun x7 => some (x7, M6))) else tv_cb (Md_finding F 1 M4) (fun r8 M9 => some (r8, M9))))))
/-- TiedViewsModel.feed(JI)I -/
def Md_feed_L40 (F : Nat) : Nat → Int64 → Int32 → tv_M → Option (Int32 × tv_M)
  | 0, _, _, _ => none
  | nn + 1, l1, l4, M => if l4 < 0 then some (M.1 249 24, M) else tv_wr M 266 500 (M.1 249 24) (((l1 >>> ((8 * l4 : Int32).toInt64 &&& 63)) &&& 255 : Int64).toInt32) (fun M4 => tv_pf M4 249 24 ((M4.1 249 24) + 1) (fun M5 => Md_feed_L40 F nn l1 (l4 + (-1)) M5))
def Md_feed (F : Nat) (a1 : Int64) (a3 : Int32) (M : tv_M) : Option (Int32 × tv_M) := tv_pf M 249 0 0 (fun M1 => tv_cb (Md_in F ((a3 : Int32).toInt64) 1 8 M1) (fun r2 M3 => if r2 = 0 then some ((-1000001), M3) else if ((M3.1 249 24) + a3) ≤ 500 then Md_feed_L40 F F a1 (a3 - 1) M3 else some ((-1000003), M3)))
/-- TiedViewsModel.byteAt(I)I -/
def Md_byteAt (F : Nat) (a1 : Int32) (M : tv_M) : Option (Int32 × tv_M) := if (M.1 249 26) ≤ a1 then some ((-1000000), M) else tv_rd M 266 500 a1 (fun x1 => some (x1, M))
/-- TiedViewsModel.isLetter(I)Z -/
def Md_isLetter (F : Nat) (a0 : Int32) (M : tv_M) : Option (Int32 × tv_M) := if a0 < 97 then some (0, M) else if 122 < a0 then some (0, M) else some (1, M)
/-- TiedViewsModel.isFigure(I)Z -/
def Md_isFigure (F : Nat) (a0 : Int32) (M : tv_M) : Option (Int32 × tv_M) := if a0 < 48 then some (0, M) else if 57 < a0 then some (0, M) else some (1, M)
/-- TiedViewsModel.step()V -/
def Md_step_L77 (F : Nat) : Nat → tv_M → Option (Unit × tv_M)
  | 0, _ => none
  | nn + 1, M => tv_cb (Md_byteAt F (M.1 249 27) M) (fun r32 M33 => tv_cb (Md_isLetter F r32 M33) (fun r34 M35 => if r34 = 0 then tv_pf M35 249 28 2 (fun M36 => tv_pf M36 249 30 (M36.1 249 27) (fun M37 => some ((), M37))) else tv_pf M35 249 27 ((M35.1 249 27) + 1) (fun M38 => Md_step_L77 F nn M38)))
def Md_step_L119 (F : Nat) : Nat → tv_M → Option (Unit × tv_M)
  | 0, _ => none
  | nn + 1, M => tv_cb (Md_byteAt F (M.1 249 27) M) (fun r23 M24 => tv_cb (Md_isFigure F r23 M24) (fun r25 M26 => if r25 = 0 then if ((M26.1 249 27) - (M26.1 249 29)) ≤ 3 then tv_pf M26 249 28 3 (fun M27 => tv_pf M27 249 30 (M27.1 249 27) (fun M28 => some ((), M28))) else tv_pf M26 249 28 0 (fun M29 => tv_pf M29 249 30 (M29.1 249 27) (fun M30 => some ((), M30))) else tv_pf M26 249 27 ((M26.1 249 27) + 1) (fun M31 => Md_step_L119 F nn M31)))
def Md_step_L0 (F : Nat) : Nat → tv_M → Option (Unit × tv_M)
  | 0, _ => none
  | nn + 1, M => tv_cb (Md_byteAt F (M.1 249 27) M) (fun r1 M2 => if r1 = 32 then tv_pf M2 249 27 ((M2.1 249 27) + 1) (fun M3 => Md_step_L0 F nn M3) else tv_cb (Md_byteAt F (M2.1 249 27) M2) (fun r4 M5 => if r4 = 10 then tv_pf M5 249 27 ((M5.1 249 27) + 1) (fun M22 => Md_step_L0 F nn M22) else tv_pf M5 249 29 (M5.1 249 27) (fun M6 => tv_cb (Md_byteAt F (M6.1 249 27) M6) (fun r7 M8 => if r7 = (-1000000) then tv_pf M8 249 28 1 (fun M20 => tv_pf M20 249 30 (M20.1 249 27) (fun M21 => some ((), M21))) else tv_cb (Md_isLetter F r7 M8) (fun r9 M10 => if r9 = 0 then tv_cb (Md_isFigure F r7 M10) (fun r11 M12 => if r11 = 0 then tv_pf M12 249 27 ((M12.1 249 27) + 1) (fun M13 => if r7 = 59 then tv_pf M13 249 28 4 (fun M14 => tv_pf M14 249 30 (M14.1 249 27) (fun M15 => some ((), M15))) else if r7 = 44 then tv_pf M13 249 28 4 (fun M18 => tv_pf M18 249 30 (M18.1 249 27) (fun M19 => some ((), M19))) else tv_pf M13 249 28 0 (fun M16 => tv_pf M16 249 30 (M16.1 249 27) (fun M17 => some ((), M17)))) else Md_step_L119 F F M12) else Md_step_L77 F F M10)))))
def Md_step (F : Nat)  (M : tv_M) : Option (Unit × tv_M) := Md_step_L0 F F M
/-- TiedViewsModel.word()J -/
def Md_word_L7 (F : Nat) : Nat → Int64 → Int32 → tv_M → Option (Int64 × tv_M)
  | 0, _, _, _ => none
  | nn + 1, l1, l3, M => if (M.1 249 30) ≤ l3 then some (l1, M) else if (M.1 249 28) = 2 then if 8 ≤ ((M.1 249 30) - (M.1 249 29)) then some (l1, M) else tv_rd M 266 500 l3 (fun x1 => Md_word_L7 F nn ((l1 <<< ((8 : Int32).toInt64 &&& 63)) ||| ((x1 : Int32).toInt64)) (l3 + 1) M) else some (l1, M)
def Md_word (F : Nat)  (M : tv_M) : Option (Int64 × tv_M) := Md_word_L7 F F 0 (M.1 249 29) M
/-- TiedViewsModel.bad(I)V -/
def Md_bad (F : Nat) (a1 : Int32) (M : tv_M) : Option (Unit × tv_M) := if (M.1 249 31) = 0 then tv_pf M 249 31 a1 (fun M1 => tv_pf M1 249 32 (M1.1 249 29) (fun M2 => some ((), M2))) else some ((), M)
/-- TiedViewsModel.must(Z)V -/
def Md_must (F : Nat) (a1 : Int32) (M : tv_M) : Option (Unit × tv_M) := if a1 = 0 then tv_cb (Md_bad F 1 M) (fun r3 M4 => if (M4.1 249 31) = 0 then tv_cb (Md_step F M4) (fun r5 M6 => some ((), M6)) else some ((), M4)) else if (M.1 249 31) = 0 then tv_cb (Md_step F M) (fun r1 M2 => some ((), M2)) else some ((), M)
/-- TiedViewsModel.numberHere()I -/
def Md_numberHere_L7 (F : Nat) : Nat → Int32 → Int32 → tv_M → Option (Int32 × tv_M)
  | 0, _, _, _ => none
  | nn + 1, l1, l2, M => if (M.1 249 30) ≤ l2 then some (l1, M) else if (M.1 249 28) = 3 then tv_rd M 266 500 l2 (fun x1 => Md_numberHere_L7 F nn (((10 * l1) + x1) - 48) (l2 + 1) M) else some (l1, M)
def Md_numberHere (F : Nat)  (M : tv_M) : Option (Int32 × tv_M) := Md_numberHere_L7 F F 0 (M.1 249 29) M
/-- TiedViewsModel.numberIn(II)I -/
def Md_numberIn_L39 (F : Nat) (l3 : Int32) (M : tv_M) : Option (Int32 × tv_M) := if (M.1 249 28) = 3 then tv_cb (Md_must F 1 M) (fun r9 M10 => some (l3, M10)) else tv_cb (Md_must F 0 M) (fun r7 M8 => some (l3, M8))
def Md_numberIn (F : Nat) (a1 : Int32) (a2 : Int32) (M : tv_M) : Option (Int32 × tv_M) := if (M.1 249 31) ≤ 0 then tv_cb (Md_numberHere F M) (fun r1 M2 => if (M2.1 249 28) = 3 then tv_cb (Md_in F ((r1 : Int32).toInt64) ((a1 : Int32).toInt64) ((a2 : Int32).toInt64) M2) (fun r3 M4 => if r3 = 0 then tv_cb (Md_bad F 2 M4) (fun r5 M6 => Md_numberIn_L39 F r1 M6) else Md_numberIn_L39 F r1 M4) else Md_numberIn_L39 F r1 M2) else some (0, M)
/-- TiedViewsModel.readEye()V -/
def Md_readEye_L127 (F : Nat) (l3 : Int32) (s0 : Int32) (s1 : Int32) (M : tv_M) : Option (Unit × tv_M) := tv_wr M 255 8 s1 s0 (fun M9 => if l3 = 3 then tv_pf M9 249 34 ((M9.1 249 34) + 0) (fun M13 => tv_pf M13 249 33 ((M13.1 249 33) + 1) (fun M14 => some ((), M14))) else tv_rd M9 254 8 (M9.1 249 33) (fun x10 => tv_pf M9 249 34 ((M9.1 249 34) + x10) (fun M11 => tv_pf M11 249 33 ((M11.1 249 33) + 1) (fun M12 => some ((), M12)))))
def Md_readEye_L101 (F : Nat) (l3 : Int32) (s0 : Int32) (s1 : Int32) (s3 : Int32) (M : tv_M) : Option (Unit × tv_M) := tv_cb (Md_numberIn F s1 s0 M) (fun r6 M7 => tv_wr M7 254 8 s3 r6 (fun M8 => if l3 = 3 then Md_readEye_L127 F l3 (-1000000) (M8.1 249 33) M8 else Md_readEye_L127 F l3 (M8.1 249 34) (M8.1 249 33) M8))
def Md_readEye_L68 (F : Nat) (l3 : Int32) (s0 : Int32) (M : tv_M) : Option (Unit × tv_M) := tv_cb (Md_must F s0 M) (fun r3 M4 => tv_wr M4 253 8 (M4.1 249 33) l3 (fun M5 => if l3 = 3 then Md_readEye_L101 F l3 4 1 (M5.1 249 33) M5 else Md_readEye_L101 F l3 3 1 (M5.1 249 33) M5))
def Md_readEye (F : Nat)  (M : tv_M) : Option (Unit × tv_M) := tv_cb (Md_word F M) (fun r1 M2 => if (lg_cmp r1 1986618743) = 0 then if 0 = (-1000000) then Md_readEye_L68 F 0 0 M2 else Md_readEye_L68 F 0 1 M2 else if (lg_cmp r1 7171940) = 0 then if 1 = (-1000000) then Md_readEye_L68 F 1 0 M2 else Md_readEye_L68 F 1 1 M2 else if (lg_cmp r1 1751477348) = 0 then if 2 = (-1000000) then Md_readEye_L68 F 2 0 M2 else Md_readEye_L68 F 2 1 M2 else if (lg_cmp r1 109300196926309) = 0 then if 3 = (-1000000) then Md_readEye_L68 F 3 0 M2 else Md_readEye_L68 F 3 1 M2 else if (-1000000) = (-1000000) then Md_readEye_L68 F (-1000000) 0 M2 else Md_readEye_L68 F (-1000000) 1 M2)
/-- TiedViewsModel.eyeHere(ZI)I -/
def Md_eyeHere_L59 (F : Nat) (l3 : Int32) (M : tv_M) : Option (Int32 × tv_M) := if (M.1 249 28) = 3 then tv_cb (Md_must F 1 M) (fun r12 M13 => some (l3, M13)) else tv_cb (Md_must F 0 M) (fun r10 M11 => some (l3, M11))
def Md_eyeHere_L45 (F : Nat) (l1 : Int32) (l2 : Int32) (l3 : Int32) (s0 : Int32) (M : tv_M) : Option (Int32 × tv_M) := if s0 = l1 then if l3 = l2 then tv_cb (Md_bad F 2 M) (fun r8 M9 => Md_eyeHere_L59 F l3 M9) else Md_eyeHere_L59 F l3 M else tv_cb (Md_bad F 2 M) (fun r6 M7 => Md_eyeHere_L59 F l3 M7)
def Md_eyeHere (F : Nat) (a1 : Int32) (a2 : Int32) (M : tv_M) : Option (Int32 × tv_M) := if (M.1 249 31) ≤ 0 then tv_cb (Md_numberHere F M) (fun r1 M2 => if (M2.1 249 28) = 3 then if (M2.1 249 33) ≤ r1 then tv_cb (Md_bad F 2 M2) (fun r3 M4 => Md_eyeHere_L59 F r1 M4) else tv_rd M2 253 8 r1 (fun x5 => if x5 = 3 then Md_eyeHere_L45 F a1 a2 r1 1 M2 else Md_eyeHere_L45 F a1 a2 r1 0 M2) else Md_eyeHere_L59 F r1 M2) else some (0, M)
/-- TiedViewsModel.is(I)Z -/
def Md_is (F : Nat) (a1 : Int32) (M : tv_M) : Option (Int32 × tv_M) := if (M.1 249 28) = 4 then tv_cb (Md_byteAt F (M.1 249 29) M) (fun r1 M2 => if r1 = a1 then some (1, M2) else some (0, M2)) else some (0, M)
/-- TiedViewsModel.readTable(III)V -/
def Md_readTable_L19 (F : Nat) (k3 : Int32 → Int32 → Int32 → Int32 → tv_M → Option (Unit × tv_M)) : Nat → Int32 → Int32 → Int32 → Int32 → Int32 → tv_M → Option (Unit × tv_M)
  | 0, _, _, _, _, _, _ => none
  | nn + 1, l1, l2, l3, l4, l5, M => if l3 ≤ l5 then if (l2 - 1) ≤ l4 then k3 l1 l2 l3 (l4 + 1) M else if (M.1 249 31) = 0 then tv_cb (Md_is F 44 M) (fun r1 M2 => tv_cb (Md_must F r1 M2) (fun r3 M4 => k3 l1 l2 l3 (l4 + 1) M4)) else k3 l1 l2 l3 (l4 + 1) M else tv_cb (Md_numberIn F 0 ((M.1 249 2) - 1) M) (fun r5 M6 => tv_wr M6 259 180 ((l1 + (3 * l4)) + l5) r5 (fun M7 => Md_readTable_L19 F k3 nn l1 l2 l3 l4 (l5 + 1) M7))
def Md_readTable_L3 (F : Nat) : Nat → Int32 → Int32 → Int32 → Int32 → tv_M → Option (Unit × tv_M)
  | 0, _, _, _, _, _ => none
  | nn + 1, l1, l2, l3, l4, M => if l2 ≤ l4 then some ((), M) else if (M.1 249 31) = 0 then Md_readTable_L19 F (Md_readTable_L3 F nn) F l1 l2 l3 l4 0 M else some ((), M)
def Md_readTable (F : Nat) (a1 : Int32) (a2 : Int32) (a3 : Int32) (M : tv_M) : Option (Unit × tv_M) := Md_readTable_L3 F F a1 a2 a3 0 M
/-- TiedViewsModel.readTie()V -/
def Md_readTie_L129 (F : Nat) (l1 : Int32) (l2 : Int32) (l3 : Int32) (M : tv_M) : Option (Unit × tv_M) := tv_wr M 256 10 (M.1 249 35) l1 (fun M25 => tv_wr M25 257 10 (M25.1 249 35) l2 (fun M26 => tv_wr M26 258 10 (M26.1 249 35) l3 (fun M27 => tv_pf M27 249 35 ((M27.1 249 35) + 1) (fun M28 => some ((), M28)))))
def Md_readTie_L101 (F : Nat) (l1 : Int32) (l2 : Int32) (l3 : Int32) (M : tv_M) : Option (Unit × tv_M) := if (M.1 249 31) = 0 then tv_rd M 254 8 l2 (fun x22 => tv_cb (Md_readTable F ((18 * (M.1 249 35)) + 9) l3 x22 M) (fun r23 M24 => Md_readTie_L129 F l1 l2 l3 M24)) else Md_readTie_L129 F l1 l2 l3 M
def Md_readTie_L74 (F : Nat) (l1 : Int32) (l2 : Int32) (l3 : Int32) (M : tv_M) : Option (Unit × tv_M) := if (M.1 249 31) = 0 then tv_cb (Md_word F M) (fun r16 M17 => if (lg_cmp r16 6385252) = 0 then tv_cb (Md_must F 1 M17) (fun r20 M21 => Md_readTie_L101 F l1 l2 l3 M21) else tv_cb (Md_must F 0 M17) (fun r18 M19 => Md_readTie_L101 F l1 l2 l3 M19)) else Md_readTie_L101 F l1 l2 l3 M
def Md_readTie_L49 (F : Nat) (l1 : Int32) (l2 : Int32) (l3 : Int32) (M : tv_M) : Option (Unit × tv_M) := if (M.1 249 31) = 0 then tv_rd M 254 8 l1 (fun x13 => tv_cb (Md_readTable F (18 * (M.1 249 35)) l3 x13 M) (fun r14 M15 => Md_readTie_L74 F l1 l2 l3 M15)) else Md_readTie_L74 F l1 l2 l3 M
def Md_readTie (F : Nat)  (M : tv_M) : Option (Unit × tv_M) := tv_cb (Md_eyeHere F 0 (-1000000) M) (fun r1 M2 => tv_cb (Md_eyeHere F 0 r1 M2) (fun r3 M4 => tv_cb (Md_numberIn F 1 3 M4) (fun r5 M6 => if (M6.1 249 31) = 0 then tv_cb (Md_word F M6) (fun r7 M8 => if (lg_cmp r7 25209) = 0 then tv_cb (Md_must F 1 M8) (fun r11 M12 => Md_readTie_L49 F r1 r3 r5 M12) else tv_cb (Md_must F 0 M8) (fun r9 M10 => Md_readTie_L49 F r1 r3 r5 M10)) else Md_readTie_L49 F r1 r3 r5 M6)))
/-- TiedViewsModel.readBar()V -/
def Md_readBar_L50 (F : Nat) (l1 : Int32) (s0 : Int32) (s1 : Int32) (M : tv_M) : Option (Unit × tv_M) := tv_wr M 262 30 s1 s0 (fun M7 => tv_cb (Md_eyeHere F 1 l1 M7) (fun r8 M9 => tv_wr M9 261 30 (M9.1 249 36) r8 (fun M10 => if (M10.1 249 31) ≤ 0 then tv_rd M10 254 8 r8 (fun x11 => tv_cb (Md_numberIn F 0 (x11 - 1) M10) (fun r12 M13 => tv_wr M13 263 30 (M10.1 249 36) r12 (fun M14 => tv_pf M14 249 36 ((M14.1 249 36) + 1) (fun M15 => some ((), M15))))) else tv_wr M10 263 30 (M10.1 249 36) 0 (fun M16 => tv_pf M16 249 36 ((M16.1 249 36) + 1) (fun M17 => some ((), M17))))))
def Md_readBar (F : Nat)  (M : tv_M) : Option (Unit × tv_M) := tv_cb (Md_eyeHere F 1 (-1000000) M) (fun r1 M2 => tv_wr M2 260 30 (M2.1 249 36) r1 (fun M3 => if (M3.1 249 31) ≤ 0 then tv_rd M3 254 8 r1 (fun x4 => tv_cb (Md_numberIn F 0 (x4 - 1) M3) (fun r5 M6 => Md_readBar_L50 F r1 r5 (M3.1 249 36) M6)) else Md_readBar_L50 F r1 0 (M3.1 249 36) M3))
/-- TiedViewsModel.read()I -/
def Md_read_L228 (F : Nat) (k64 : tv_M → Option (Int32 × tv_M)) (M : tv_M) : Option (Int32 × tv_M) := if (M.1 249 31) = 0 then tv_cb (Md_is F 59 M) (fun r24 M25 => tv_cb (Md_must F r24 M25) (fun r26 M27 => k64 M27)) else k64 M
def Md_read_L195 (F : Nat) (k64 : tv_M → Option (Int32 × tv_M)) (l1 : Int64) (M : tv_M) : Option (Int32 × tv_M) := if (M.1 249 31) = 0 then if (lg_cmp l1 7629157) = 0 then tv_cb (Md_readTie F M) (fun r32 M33 => Md_read_L228 F k64 M33) else if (M.1 249 31) = 0 then tv_cb (Md_readBar F M) (fun r30 M31 => Md_read_L228 F k64 M31) else Md_read_L228 F k64 M else if (M.1 249 31) = 0 then tv_cb (Md_readBar F M) (fun r28 M29 => Md_read_L228 F k64 M29) else Md_read_L228 F k64 M
def Md_read_L170 (F : Nat) (k64 : tv_M → Option (Int32 × tv_M)) (l1 : Int64) (s0 : Int32) (M : tv_M) : Option (Int32 × tv_M) := tv_cb (Md_must F s0 M) (fun r20 M21 => if (M21.1 249 31) = 0 then if (lg_cmp l1 6650213) = 0 then tv_cb (Md_readEye F M21) (fun r22 M23 => Md_read_L228 F k64 M23) else Md_read_L195 F k64 l1 M21 else Md_read_L195 F k64 l1 M21)
def Md_read_L140 (F : Nat) (k64 : tv_M → Option (Int32 × tv_M)) (l1 : Int64) (M : tv_M) : Option (Int32 × tv_M) := if (lg_cmp l1 6650213) = 0 then Md_read_L170 F k64 l1 1 M else if (lg_cmp l1 7629157) = 0 then Md_read_L170 F k64 l1 1 M else if (lg_cmp l1 6447474) = 0 then Md_read_L170 F k64 l1 1 M else Md_read_L170 F k64 l1 0 M
def Md_read_L118 (F : Nat) (k64 : tv_M → Option (Int32 × tv_M)) (l1 : Int64) (M : tv_M) : Option (Int32 × tv_M) := if (lg_cmp l1 6447474) = 0 then if (M.1 249 36) = 30 then tv_cb (Md_bad F 3 M) (fun r18 M19 => Md_read_L140 F k64 l1 M19) else Md_read_L140 F k64 l1 M else Md_read_L140 F k64 l1 M
def Md_read_L101 (F : Nat) (k64 : tv_M → Option (Int32 × tv_M)) (l1 : Int64) (M : tv_M) : Option (Int32 × tv_M) := if (lg_cmp l1 7629157) = 0 then if (M.1 249 35) = 10 then tv_cb (Md_bad F 3 M) (fun r16 M17 => Md_read_L140 F k64 l1 M17) else Md_read_L118 F k64 l1 M else Md_read_L118 F k64 l1 M
def Md_read_L391 (F : Nat) : Nat → Int32 → tv_M → Option (Int32 × tv_M)
  | 0, _, _ => none
  | nn + 1, l1, M => if (M.1 249 36) ≤ l1 then tv_pf M 249 16 (M.1 249 36) (fun M46 => some (M46.1 249 6, M46)) else tv_rd M 260 30 l1 (fun x47 => tv_rd M 262 30 l1 (fun x48 => tv_rd M 261 30 l1 (fun x49 => tv_rd M 264 256 (((32 * x47) + (8 * x48)) + x49) (fun x50 => tv_rd M 263 30 l1 (fun x51 => tv_wr M 264 256 (((32 * x47) + (8 * x48)) + x49) (x50 ||| (1 <<< (x51 &&& 31))) (fun M52 => tv_rd M52 261 30 l1 (fun x53 => tv_rd M52 263 30 l1 (fun x54 => tv_rd M52 260 30 l1 (fun x55 => tv_rd M52 264 256 (((32 * x53) + (8 * x54)) + x55) (fun x56 => tv_rd M52 262 30 l1 (fun x57 => tv_wr M52 264 256 (((32 * x53) + (8 * x54)) + x55) (x56 ||| (1 <<< (x57 &&& 31))) (fun M58 => Md_read_L391 F nn (l1 + 1) M58))))))))))))
def Md_read_L341 (F : Nat) : Nat → Int32 → tv_M → Option (Int32 × tv_M)
  | 0, _, _ => none
  | nn + 1, l1, M => if (M.1 249 34) ≤ l1 then tv_pf M 249 6 (M.1 249 33) (fun M42 => tv_pf M42 249 10 (M42.1 249 34) (fun M43 => tv_pf M43 249 11 (M43.1 249 35) (fun M44 => Md_read_L391 F F (M44.1 249 16) M44))) else tv_wr M 274 24 l1 0 (fun M45 => Md_read_L341 F nn (l1 + 1) M45)
def Md_read_L277 (F : Nat) : Nat → Int32 → tv_M → Option (Int32 × tv_M)
  | 0, _, _ => none
  | nn + 1, l1, M => if (M.1 249 33) ≤ l1 then Md_read_L341 F F (M.1 249 10) M else tv_wr M 270 8 l1 (vp_nar .boolean 0) (fun M35 => tv_rd M35 253 8 l1 (fun x36 => if x36 = 3 then tv_rd M35 254 8 l1 (fun x39 => tv_wr M35 265 8 l1 ((1 <<< (x39 &&& 31)) - 1) (fun M40 => tv_wr M40 272 8 l1 (-1000000) (fun M41 => Md_read_L277 F nn (l1 + 1) M41))) else tv_wr M35 265 8 l1 0 (fun M37 => tv_wr M37 272 8 l1 (-1000000) (fun M38 => Md_read_L277 F nn (l1 + 1) M38))))
def Md_read_L248 (F : Nat) (M : tv_M) : Option (Int32 × tv_M) := if (M.1 249 31) ≤ 0 then Md_read_L277 F F (M.1 249 6) M else tv_pf M 249 25 (M.1 249 31) (fun M34 => some ((-1000100) - (M34.1 249 32), M34))
def Md_read_L64 (F : Nat) : Nat → tv_M → Option (Int32 × tv_M)
  | 0, _ => none
  | nn + 1, M => if (M.1 249 31) = 0 then if (M.1 249 28) = 1 then Md_read_L248 F M else tv_cb (Md_word F M) (fun r12 M13 => if (lg_cmp r12 6650213) = 0 then if (M13.1 249 33) = 8 then tv_cb (Md_bad F 3 M13) (fun r14 M15 => Md_read_L140 F (Md_read_L64 F nn) r12 M15) else Md_read_L101 F (Md_read_L64 F nn) r12 M13 else Md_read_L101 F (Md_read_L64 F nn) r12 M13) else Md_read_L248 F M
def Md_read (F : Nat)  (M : tv_M) : Option (Int32 × tv_M) := tv_pf M 249 0 0 (fun M1 => tv_pf M1 249 26 (M1.1 249 24) (fun M2 => tv_pf M2 249 24 0 (fun M3 => tv_pf M3 249 27 0 (fun M4 => tv_pf M4 249 31 0 (fun M5 => tv_pf M5 249 33 (M5.1 249 6) (fun M6 => tv_pf M6 249 34 (M6.1 249 10) (fun M7 => tv_pf M7 249 35 (M7.1 249 11) (fun M8 => tv_pf M8 249 36 (M8.1 249 16) (fun M9 => tv_cb (Md_step F M9) (fun r10 M11 => Md_read_L64 F F M11))))))))))
/-- TiedViewsModel.fault()I -/
def Md_fault (F : Nat)  (M : tv_M) : Option (Int32 × tv_M) := tv_pf M 249 0 0 (fun M1 => some (M1.1 249 25, M1))
/-- TiedViewsModel.isEye(I)Z -/
def Md_isEye (F : Nat) (a1 : Int32) (M : tv_M) : Option (Int32 × tv_M) := tv_cb (Md_in F ((a1 : Int32).toInt64) 0 (((M.1 249 6) - 1 : Int32).toInt64) M) (fun r1 M2 => tv_zo r1 (some (r1, M2)))
/-- TiedViewsModel.tiesOf(I)I -/
def Md_tiesOf_L4 (F : Nat) : Nat → Int32 → Int32 → Int32 → tv_M → Option (Int32 × tv_M)
  | 0, _, _, _, _ => none
  | nn + 1, l1, l2, l3, M => if (M.1 249 11) ≤ l3 then some (l2, M) else tv_rd M 256 10 l3 (fun x1 => if x1 = l1 then Md_tiesOf_L4 F nn l1 (l2 + 1) (l3 + 1) M else tv_rd M 257 10 l3 (fun x2 => if x2 = l1 then Md_tiesOf_L4 F nn l1 (l2 + 1) (l3 + 1) M else Md_tiesOf_L4 F nn l1 (l2 + 0) (l3 + 1) M))
def Md_tiesOf (F : Nat) (a1 : Int32) (M : tv_M) : Option (Int32 × tv_M) := Md_tiesOf_L4 F F a1 0 0 M
/-- TiedViewsModel.eye(II)I -/
def Md_eye (F : Nat) (a1 : Int32) (a2 : Int32) (M : tv_M) : Option (Int32 × tv_M) := tv_pf M 249 0 0 (fun M1 => tv_cb (Md_isEye F a1 M1) (fun r2 M3 => if r2 = 0 then some ((-1000001), M3) else tv_cb (Md_in F ((a2 : Int32).toInt64) 0 5 M3) (fun r4 M5 => if r4 = 0 then some ((-1000001), M5) else if a2 = 0 then tv_rd M5 253 8 a1 (fun x13 => some (x13, M5)) else if a2 = 1 then tv_rd M5 254 8 a1 (fun x12 => some (x12, M5)) else if a2 = 2 then tv_rd M5 255 8 a1 (fun x11 => some (x11, M5)) else if a2 = 3 then tv_rd M5 270 8 a1 (fun x10 => if x10 = 0 then some (0, M5) else some (1, M5)) else if a2 = 4 then tv_cb (Md_tiesOf F a1 M5) (fun r8 M9 => some (r8, M9)) else tv_rd M5 253 8 a1 (fun x6 => if x6 = 3 then tv_rd M5 265 8 a1 (fun x7 => some (x7, M5)) else some ((-1000000), M5)))))
/-- TiedViewsModel.addLine()V -/
def Md_addLine_L2 (F : Nat) : Nat → Int32 → tv_M → Option (Unit × tv_M)
  | 0, _, _ => none
  | nn + 1, l1, M => if 55 ≤ l1 then tv_pf M 249 37 ((M.1 249 37) + 1) (fun M1 => some ((), M1)) else tv_wr M 267 2970 ((55 * (M.1 249 37)) + l1) 0 (fun M2 => Md_addLine_L2 F nn (l1 + 1) M2)
def Md_addLine (F : Nat)  (M : tv_M) : Option (Unit × tv_M) := Md_addLine_L2 F F 0 M
/-- TiedViewsModel.layTies(I)V -/
def Md_layTies_L113 (F : Nat) (k7 : Int32 → Int32 → tv_M → Option (Unit × tv_M)) (k17 : Int32 → Int32 → Int32 → tv_M → Option (Unit × tv_M)) : Nat → Int32 → Int32 → Int32 → Int32 → Int32 → tv_M → Option (Unit × tv_M)
  | 0, _, _, _, _, _, _ => none
  | nn + 1, l1, l2, l3, l4, l5, M => tv_rd M 257 10 l2 (fun x11 => tv_rd M 254 8 x11 (fun x12 => if x12 ≤ l5 then k17 l1 l2 (l3 + 1) M else tv_rd M 257 10 l2 (fun x13 => tv_rd M 255 8 x13 (fun x14 => tv_rd M 259 180 ((((18 * l2) + 9) + (3 * l3)) + l5) (fun x15 => tv_nz (M.1 249 2) (tv_wr M 267 2970 ((l4 + x14) + l5) (tv_rem ((M.1 249 2) - x15) (M.1 249 2)) (fun M16 => Md_layTies_L113 F k7 k17 nn l1 l2 l3 l4 (l5 + 1) M16)))))))
def Md_layTies_L50 (F : Nat) (k7 : Int32 → Int32 → tv_M → Option (Unit × tv_M)) (k17 : Int32 → Int32 → Int32 → tv_M → Option (Unit × tv_M)) : Nat → Int32 → Int32 → Int32 → Int32 → Int32 → tv_M → Option (Unit × tv_M)
  | 0, _, _, _, _, _, _ => none
  | nn + 1, l1, l2, l3, l4, l5, M => tv_rd M 256 10 l2 (fun x5 => tv_rd M 254 8 x5 (fun x6 => if x6 ≤ l5 then Md_layTies_L113 F k7 k17 F l1 l2 l3 l4 0 M else tv_rd M 256 10 l2 (fun x7 => tv_rd M 255 8 x7 (fun x8 => tv_rd M 259 180 (((18 * l2) + (3 * l3)) + l5) (fun x9 => tv_wr M 267 2970 ((l4 + x8) + l5) x9 (fun M10 => Md_layTies_L50 F k7 k17 nn l1 l2 l3 l4 (l5 + 1) M10))))))
def Md_layTies_L17 (F : Nat) (k7 : Int32 → Int32 → tv_M → Option (Unit × tv_M)) : Nat → Int32 → Int32 → Int32 → tv_M → Option (Unit × tv_M)
  | 0, _, _, _, _ => none
  | nn + 1, l1, l2, l3, M => tv_rd M 258 10 l2 (fun x2 => if x2 ≤ l3 then k7 l1 (l2 + 1) M else if l2 = l1 then k7 l1 (l2 + 1) M else tv_cb (Md_addLine F M) (fun r3 M4 => Md_layTies_L50 F k7 (Md_layTies_L17 F k7 nn) F l1 l2 l3 (55 * ((M4.1 249 37) - 1)) 0 M4))
def Md_layTies_L7 (F : Nat) : Nat → Int32 → Int32 → tv_M → Option (Unit × tv_M)
  | 0, _, _, _ => none
  | nn + 1, l1, l2, M => if (M.1 249 11) ≤ l2 then some ((), M) else Md_layTies_L17 F (Md_layTies_L7 F nn) F l1 l2 0 M
def Md_layTies (F : Nat) (a1 : Int32) (M : tv_M) : Option (Unit × tv_M) := tv_pf M 249 37 0 (fun M1 => Md_layTies_L7 F F a1 0 M1)
/-- TiedViewsModel.turned(I)I -/
def Md_turned_L2 (F : Nat) : Nat → Int32 → Int32 → tv_M → Option (Int32 × tv_M)
  | 0, _, _, _ => none
  | nn + 1, l1, l2, M => tv_nz (M.1 249 2) (if (tv_rem (l2 * l1) (M.1 249 2)) = 1 then some (l2, M) else Md_turned_L2 F nn l1 (l2 + 1) M)
def Md_turned (F : Nat) (a1 : Int32) (M : tv_M) : Option (Int32 × tv_M) := Md_turned_L2 F F a1 1 M
/-- TiedViewsModel.takeSteps()V -/
def Md_takeSteps_L219 (F : Nat) (k25 : Int32 → tv_M → Option (Unit × tv_M)) (k193 : Int32 → Int32 → Int32 → tv_M → Option (Unit × tv_M)) : Nat → Int32 → Int32 → Int32 → Int32 → Int32 → tv_M → Option (Unit × tv_M)
  | 0, _, _, _, _, _, _ => none
  | nn + 1, l1, l2, l4, l5, l6, M => if 55 ≤ l6 then k193 l1 l2 (l4 + 1) M else tv_rd M 269 24 l1 (fun x19 => if l4 = x19 then k193 l1 l2 (l4 + 1) M else if l5 = 0 then k193 l1 l2 (l4 + 1) M else tv_rd M 267 2970 ((55 * l4) + l6) (fun x20 => tv_rd M 267 2970 (l2 + l6) (fun x21 => tv_nz (M.1 249 2) (tv_wr M 267 2970 ((55 * l4) + l6) (tv_rem (x20 + (((M.1 249 2) - l5) * x21)) (M.1 249 2)) (fun M22 => Md_takeSteps_L219 F k25 k193 nn l1 l2 l4 l5 (l6 + 1) M22)))))
def Md_takeSteps_L193 (F : Nat) (k25 : Int32 → tv_M → Option (Unit × tv_M)) : Nat → Int32 → Int32 → Int32 → tv_M → Option (Unit × tv_M)
  | 0, _, _, _, _ => none
  | nn + 1, l1, l2, l4, M => if (M.1 249 37) ≤ l4 then k25 (l1 + 1) M else tv_rd M 267 2970 ((55 * l4) + l1) (fun x18 => Md_takeSteps_L219 F k25 (Md_takeSteps_L193 F k25 nn) F l1 l2 l4 x18 0 M)
def Md_takeSteps_L152 (F : Nat) (k25 : Int32 → tv_M → Option (Unit × tv_M)) : Nat → Int32 → Int32 → Int32 → Int32 → tv_M → Option (Unit × tv_M)
  | 0, _, _, _, _, _ => none
  | nn + 1, l1, l2, l3, l4, M => if 55 ≤ l4 then Md_takeSteps_L193 F k25 F l1 l2 0 M else tv_rd M 267 2970 (l2 + l4) (fun x16 => tv_nz (M.1 249 2) (tv_wr M 267 2970 (l2 + l4) (tv_rem (x16 * l3) (M.1 249 2)) (fun M17 => Md_takeSteps_L152 F k25 nn l1 l2 l3 (l4 + 1) M17)))
def Md_takeSteps_L103 (F : Nat) (k25 : Int32 → tv_M → Option (Unit × tv_M)) (l1 : Int32) (M : tv_M) : Option (Unit × tv_M) := tv_rd M 269 24 l1 (fun x9 => if x9 = (-1000000) then k25 (l1 + 1) M else tv_rd M 269 24 l1 (fun x10 => tv_rd M 269 24 l1 (fun x11 => tv_wr M 268 54 x11 (vp_nar .boolean 1) (fun M12 => tv_rd M12 267 2970 ((55 * x10) + l1) (fun x13 => tv_cb (Md_turned F x13 M12) (fun r14 M15 => Md_takeSteps_L152 F k25 F l1 (55 * x10) r14 0 M15))))))
def Md_takeSteps_L43 (F : Nat) (k25 : Int32 → tv_M → Option (Unit × tv_M)) : Nat → Int32 → Int32 → tv_M → Option (Unit × tv_M)
  | 0, _, _, _ => none
  | nn + 1, l1, l2, M => if (M.1 249 37) ≤ l2 then Md_takeSteps_L103 F k25 l1 M else tv_rd M 269 24 l1 (fun x3 => if x3 = (-1000000) then tv_rd M 268 54 l2 (fun x4 => if x4 = 0 then tv_rd M 267 2970 ((55 * l2) + l1) (fun x6 => if x6 = 0 then tv_wr M 269 24 l1 (-1000000) (fun M7 => Md_takeSteps_L43 F k25 nn l1 (l2 + 1) M7) else tv_wr M 269 24 l1 l2 (fun M8 => Md_takeSteps_L43 F k25 nn l1 (l2 + 1) M8)) else tv_wr M 269 24 l1 (-1000000) (fun M5 => Md_takeSteps_L43 F k25 nn l1 (l2 + 1) M5)) else Md_takeSteps_L103 F k25 l1 M)
def Md_takeSteps_L25 (F : Nat) : Nat → Int32 → tv_M → Option (Unit × tv_M)
  | 0, _, _ => none
  | nn + 1, l1, M => if (M.1 249 10) ≤ l1 then some ((), M) else tv_wr M 269 24 l1 (-1000000) (fun M2 => Md_takeSteps_L43 F (Md_takeSteps_L25 F nn) F l1 0 M2)
def Md_takeSteps_L2 (F : Nat) : Nat → Int32 → tv_M → Option (Unit × tv_M)
  | 0, _, _ => none
  | nn + 1, l1, M => if (M.1 249 37) ≤ l1 then Md_takeSteps_L25 F F 0 M else tv_wr M 268 54 l1 (vp_nar .boolean 0) (fun M1 => Md_takeSteps_L2 F nn (l1 + 1) M1)
def Md_takeSteps (F : Nat)  (M : tv_M) : Option (Unit × tv_M) := Md_takeSteps_L2 F F 0 M
/-- TiedViewsModel.leaders()I -/
def Md_leaders_L4 (F : Nat) : Nat → Int32 → Int32 → tv_M → Option (Int32 × tv_M)
  | 0, _, _, _ => none
  | nn + 1, l1, l2, M => if (M.1 249 10) ≤ l2 then some (l1, M) else tv_rd M 269 24 l2 (fun x1 => if x1 = (-1000000) then Md_leaders_L4 F nn (l1 + 0) (l2 + 1) M else Md_leaders_L4 F nn (l1 + 1) (l2 + 1) M)
def Md_leaders (F : Nat)  (M : tv_M) : Option (Int32 × tv_M) := Md_leaders_L4 F F 0 0 M
/-- TiedViewsModel.all(I)I -/
def Md_all (F : Nat) (a1 : Int32) (M : tv_M) : Option (Int32 × tv_M) := tv_pf M 249 0 0 (fun M1 => tv_cb (Md_in F ((a1 : Int32).toInt64) 0 4 M1) (fun r2 M3 => if r2 = 0 then some ((-1000001), M3) else tv_cb (Md_layTies F (-1000000) M3) (fun r4 M5 => tv_cb (Md_takeSteps F M5) (fun r6 M7 => if a1 = 0 then tv_cb (Md_leaders F M7) (fun r12 M13 => some ((M7.1 249 10) - r12, M13)) else if a1 = 1 then some (M7.1 249 10, M7) else if a1 = 2 then some (M7.1 249 37, M7) else if a1 = 3 then tv_cb (Md_leaders F M7) (fun r10 M11 => some (r10, M11)) else tv_cb (Md_leaders F M7) (fun r8 M9 => some ((M7.1 249 37) - r8, M9))))))
/-- TiedViewsModel.isColumn(I)Z -/
def Md_isColumn (F : Nat) (a1 : Int32) (M : tv_M) : Option (Int32 × tv_M) := tv_cb (Md_in F ((a1 : Int32).toInt64) 0 (((M.1 249 10) - 1 : Int32).toInt64) M) (fun r1 M2 => tv_zo r1 (some (r1, M2)))
/-- TiedViewsModel.basis(II)I -/
def Md_basis_L35 (F : Nat) : Nat → Int32 → Int32 → Int32 → Int32 → tv_M → Option (Int32 × tv_M)
  | 0, _, _, _, _, _ => none
  | nn + 1, l1, l2, l3, l4, M => if (M.1 249 10) ≤ l4 then some ((-1000000), M) else tv_rd M 269 24 l4 (fun x8 => if x8 = (-1000000) then if l3 = l1 then tv_rd M 269 24 l2 (fun x9 => if x9 = (-1000000) then if l4 = l2 then some (1, M) else some (0, M) else tv_rd M 269 24 l2 (fun x10 => tv_rd M 267 2970 ((55 * x10) + l4) (fun x11 => tv_nz (M.1 249 2) (some (tv_rem ((M.1 249 2) - x11) (M.1 249 2), M))))) else Md_basis_L35 F nn l1 l2 (l3 + 1) (l4 + 1) M else Md_basis_L35 F nn l1 l2 l3 (l4 + 1) M)
def Md_basis (F : Nat) (a1 : Int32) (a2 : Int32) (M : tv_M) : Option (Int32 × tv_M) := tv_pf M 249 0 0 (fun M1 => if a1 < 0 then some ((-1000001), M1) else tv_cb (Md_isColumn F a2 M1) (fun r2 M3 => if r2 = 0 then some ((-1000001), M3) else tv_cb (Md_layTies F (-1000000) M3) (fun r4 M5 => tv_cb (Md_takeSteps F M5) (fun r6 M7 => Md_basis_L35 F F a1 a2 0 0 M7))))
/-- TiedViewsModel.isLinear(I)Z -/
def Md_isLinear (F : Nat) (a1 : Int32) (M : tv_M) : Option (Int32 × tv_M) := tv_cb (Md_isEye F a1 M) (fun r1 M2 => if r1 = 0 then some (0, M2) else tv_rd M2 253 8 a1 (fun x3 => if x3 = 3 then some (0, M2) else some (1, M2)))
/-- TiedViewsModel.isRest(I)Z -/
def Md_isRest (F : Nat) (a1 : Int32) (M : tv_M) : Option (Int32 × tv_M) := tv_cb (Md_in F ((a1 : Int32).toInt64) 0 (((M.1 249 2) - 1 : Int32).toInt64) M) (fun r1 M2 => tv_zo r1 (some (r1, M2)))
/-- TiedViewsModel.lookRests(III)I -/
def Md_lookRests_L44 (F : Nat) : Nat → Int32 → Int32 → Int32 → Int32 → tv_M → Option (Int32 × tv_M)
  | 0, _, _, _, _, _ => none
  | nn + 1, l1, l2, l3, l4, M => if l3 ≤ l4 then tv_pf M 249 1 0 (fun M9 => some (0, M9)) else tv_rd M 252 320 (((40 * l1) + l2) + l4) (fun x10 => tv_cb (Md_isRest F x10 M) (fun r11 M12 => if r11 = 0 then some ((-1000001), M12) else Md_lookRests_L44 F nn l1 l2 l3 (l4 + 1) M12))
def Md_lookRests (F : Nat) (a1 : Int32) (a2 : Int32) (a3 : Int32) (M : tv_M) : Option (Int32 × tv_M) := tv_rd M 250 8 a1 (fun x1 => if 0 ≤ x1 then if a2 < 0 then tv_cb (Md_finding F 2 M) (fun r2 M3 => some (r2, M3)) else tv_rd M 251 8 a1 (fun x4 => if (lg_cmp (((a2 : Int32).toInt64) + ((a3 : Int32).toInt64)) ((x4 : Int32).toInt64)) ≤ 0 then Md_lookRests_L44 F F a1 a2 a3 0 M else tv_cb (Md_finding F 2 M) (fun r5 M6 => some (r5, M6))) else tv_cb (Md_finding F 1 M) (fun r7 M8 => some (r7, M8)))
/-- TiedViewsModel.reading(III)I -/
def Md_reading_L55 (F : Nat) : Nat → Int32 → Int32 → Int32 → Int32 → tv_M → Option (Int32 × tv_M)
  | 0, _, _, _, _, _ => none
  | nn + 1, l1, l2, l3, l5, M => tv_rd M 254 8 l1 (fun x10 => if x10 ≤ l5 then some (1, M) else tv_rd M 255 8 l1 (fun x11 => tv_rd M 252 320 (((40 * l2) + l3) + l5) (fun x12 => tv_wr M 271 24 (x11 + l5) x12 (fun M13 => Md_reading_L55 F nn l1 l2 l3 (l5 + 1) M13))))
def Md_reading (F : Nat) (a1 : Int32) (a2 : Int32) (a3 : Int32) (M : tv_M) : Option (Int32 × tv_M) := tv_pf M 249 0 0 (fun M1 => tv_cb (Md_isLinear F a1 M1) (fun r2 M3 => if r2 = 0 then some ((-1000001), M3) else tv_cb (Md_isSheet F a2 M3) (fun r4 M5 => if r4 = 0 then some ((-1000001), M5) else tv_rd M5 254 8 a1 (fun x6 => tv_cb (Md_lookRests F a2 a3 x6 M5) (fun r7 M8 => if 0 ≤ r7 then tv_wr M8 270 8 a1 (vp_nar .boolean 1) (fun M9 => Md_reading_L55 F F a1 a2 a3 0 M9) else some (r7, M8))))))
/-- TiedViewsModel.unread(I)I -/
def Md_unread (F : Nat) (a1 : Int32) (M : tv_M) : Option (Int32 × tv_M) := tv_pf M 249 0 0 (fun M1 => tv_cb (Md_isLinear F a1 M1) (fun r2 M3 => if r2 = 0 then some ((-1000001), M3) else tv_rd M3 270 8 a1 (fun x4 => if x4 = 0 then tv_wr M3 270 8 a1 (vp_nar .boolean 0) (fun M5 => some (0, M5)) else tv_wr M3 270 8 a1 (vp_nar .boolean 0) (fun M6 => some (1, M6)))))
/-- TiedViewsModel.readingSet()I -/
def Md_readingSet_L4 (F : Nat) : Nat → Int32 → Int32 → tv_M → Option (Int32 × tv_M)
  | 0, _, _, _ => none
  | nn + 1, l1, l2, M => if (M.1 249 6) ≤ l2 then some (l1, M) else tv_rd M 270 8 l2 (fun x1 => if x1 = 0 then Md_readingSet_L4 F nn (l1 ||| 0) (l2 + 1) M else Md_readingSet_L4 F nn (l1 ||| (1 <<< (l2 &&& 31))) (l2 + 1) M)
def Md_readingSet (F : Nat)  (M : tv_M) : Option (Int32 × tv_M) := Md_readingSet_L4 F F 0 0 M
/-- TiedViewsModel.wantsInVain()I -/
def Md_wantsInVain_L2 (F : Nat) : Nat → Int32 → tv_M → Option (Int32 × tv_M)
  | 0, _, _ => none
  | nn + 1, l1, M => if (M.1 249 37) ≤ l1 then some ((-1000000), M) else tv_rd M 268 54 l1 (fun x1 => if x1 = 0 then tv_rd M 267 2970 ((55 * l1) + 24) (fun x2 => if x2 = 0 then Md_wantsInVain_L2 F nn (l1 + 1) M else some (l1, M)) else Md_wantsInVain_L2 F nn (l1 + 1) M)
def Md_wantsInVain (F : Nat)  (M : tv_M) : Option (Int32 × tv_M) := Md_wantsInVain_L2 F F 0 M
/-- TiedViewsModel.areFit(I)Z -/
def Md_areFit_L18 (F : Nat) (k8 : Int32 → Int32 → tv_M → Option (Int32 × tv_M)) : Nat → Int32 → Int32 → Int32 → tv_M → Option (Int32 × tv_M)
  | 0, _, _, _, _ => none
  | nn + 1, l1, l2, l3, M => tv_rd M 254 8 l2 (fun x7 => if x7 ≤ l3 then k8 l1 (l2 + 1) M else if ((l1 >>> (l2 &&& 31)) &&& 1) = 1 then tv_cb (Md_addLine F M) (fun r8 M9 => tv_rd M9 255 8 l2 (fun x10 => tv_wr M9 267 2970 (((55 * ((M9.1 249 37) - 1)) + x10) + l3) 1 (fun M11 => tv_rd M11 255 8 l2 (fun x12 => tv_rd M11 271 24 (x12 + l3) (fun x13 => tv_wr M11 267 2970 ((55 * ((M11.1 249 37) - 1)) + 24) x13 (fun M14 => Md_areFit_L18 F k8 nn l1 l2 (l3 + 1) M14)))))) else k8 l1 (l2 + 1) M)
def Md_areFit_L8 (F : Nat) : Nat → Int32 → Int32 → tv_M → Option (Int32 × tv_M)
  | 0, _, _, _ => none
  | nn + 1, l1, l2, M => if (M.1 249 6) ≤ l2 then tv_cb (Md_takeSteps F M) (fun r3 M4 => tv_cb (Md_wantsInVain F M4) (fun r5 M6 => if r5 = (-1000000) then some (1, M6) else some (0, M6))) else Md_areFit_L18 F (Md_areFit_L8 F nn) F l1 l2 0 M
def Md_areFit (F : Nat) (a1 : Int32) (M : tv_M) : Option (Int32 × tv_M) := tv_cb (Md_layTies F (-1000000) M) (fun r1 M2 => Md_areFit_L8 F F a1 0 M2)
/-- TiedViewsModel.fill(I)I -/
def Md_fill_L21 (F : Nat) (l1 : Int32) (M : tv_M) : Option (Int32 × tv_M) := tv_cb (Md_readingSet F M) (fun r4 M5 => tv_cb (Md_areFit F r4 M5) (fun r6 M7 => if l1 = (-1) then if r6 = 0 then some (0, M7) else some (1, M7) else if r6 = 0 then some ((-1000000), M7) else tv_rd M7 269 24 l1 (fun x8 => if x8 = (-1000000) then some (0, M7) else tv_rd M7 269 24 l1 (fun x9 => tv_rd M7 267 2970 ((55 * x9) + 24) (fun x10 => some (x10, M7))))))
def Md_fill (F : Nat) (a1 : Int32) (M : tv_M) : Option (Int32 × tv_M) := tv_pf M 249 0 0 (fun M1 => if a1 = (-1) then Md_fill_L21 F a1 M1 else tv_cb (Md_isColumn F a1 M1) (fun r2 M3 => if r2 = 0 then some ((-1000001), M3) else Md_fill_L21 F a1 M3))
/-- TiedViewsModel.fixed(I)I -/
def Md_fixed_L43 (F : Nat) : Nat → Int32 → Int32 → tv_M → Option (Int32 × tv_M)
  | 0, _, _, _ => none
  | nn + 1, l1, l2, M => if (M.1 249 10) ≤ l2 then tv_rd M 269 24 l1 (fun x9 => tv_rd M 267 2970 ((55 * x9) + 24) (fun x10 => some (x10, M))) else tv_rd M 269 24 l2 (fun x11 => if x11 = (-1000000) then tv_rd M 269 24 l1 (fun x12 => tv_rd M 267 2970 ((55 * x12) + l2) (fun x13 => if x13 = 0 then Md_fixed_L43 F nn l1 (l2 + 1) M else some ((-1000000), M))) else Md_fixed_L43 F nn l1 (l2 + 1) M)
def Md_fixed (F : Nat) (a1 : Int32) (M : tv_M) : Option (Int32 × tv_M) := tv_pf M 249 0 0 (fun M1 => tv_cb (Md_isColumn F a1 M1) (fun r2 M3 => if r2 = 0 then some ((-1000001), M3) else tv_cb (Md_readingSet F M3) (fun r4 M5 => tv_cb (Md_areFit F r4 M5) (fun r6 M7 => if r6 = 0 then some ((-1000000), M7) else tv_rd M7 269 24 a1 (fun x8 => if x8 = (-1000000) then some ((-1000000), M7) else Md_fixed_L43 F F a1 0 M7)))))
/-- TiedViewsModel.bits(I)I -/
def Md_bits_L4 (F : Nat) : Nat → Int32 → Int32 → Int32 → tv_M → Option (Int32 × tv_M)
  | 0, _, _, _, _ => none
  | nn + 1, l0, l1, l2, M => if 8 ≤ l2 then some (l1, M) else Md_bits_L4 F nn l0 (l1 + ((l0 >>> (l2 &&& 31)) &&& 1)) (l2 + 1) M
def Md_bits (F : Nat) (a0 : Int32) (M : tv_M) : Option (Int32 × tv_M) := Md_bits_L4 F F a0 0 0 M
/-- TiedViewsModel.fewest()I -/
def Md_fewest_L14 (F : Nat) : Nat → Int32 → Int32 → Int32 → tv_M → Option (Int32 × tv_M)
  | 0, _, _, _, _ => none
  | nn + 1, l1, l2, l3, M => if 256 ≤ l3 then some (l2, M) else if (l3 &&& (l1 ^^^ (-1))) = 0 then tv_cb (Md_bits F l3 M) (fun r4 M5 => tv_cb (Md_bits F l2 M5) (fun r6 M7 => if r6 ≤ r4 then Md_fewest_L14 F nn l1 l2 (l3 + 1) M7 else tv_cb (Md_areFit F (l1 &&& (l3 ^^^ (-1))) M7) (fun r8 M9 => if r8 = 0 then Md_fewest_L14 F nn l1 l2 (l3 + 1) M9 else Md_fewest_L14 F nn l1 l3 (l3 + 1) M9))) else Md_fewest_L14 F nn l1 l2 (l3 + 1) M
def Md_fewest (F : Nat)  (M : tv_M) : Option (Int32 × tv_M) := tv_pf M 249 0 0 (fun M1 => tv_cb (Md_readingSet F M1) (fun r2 M3 => Md_fewest_L14 F F r2 r2 0 M3))
/-- TiedViewsModel.met(III)I -/
def Md_met_L62 (F : Nat) : Nat → Int32 → Int32 → Int32 → Int32 → tv_M → Option (Int32 × tv_M)
  | 0, _, _, _, _, _ => none
  | nn + 1, l1, l2, l3, l5, M => if (M.1 249 37) ≤ l5 then tv_cb (Md_takeSteps F M) (fun r10 M11 => tv_cb (Md_wantsInVain F M11) (fun r12 M13 => if l3 = (-1) then if r12 = (-1000000) then some (1, M13) else some (0, M13) else if r12 = (-1000000) then some ((-1000000), M13) else tv_rd M13 267 2970 (((55 * r12) + 25) + l3) (fun x14 => some (x14, M13)))) else tv_rd M 252 320 (((40 * l1) + l2) + l5) (fun x15 => tv_wr M 267 2970 ((55 * l5) + 24) x15 (fun M16 => tv_wr M16 267 2970 (((55 * l5) + 25) + l5) 1 (fun M17 => Md_met_L62 F nn l1 l2 l3 (l5 + 1) M17)))
def Md_met (F : Nat) (a1 : Int32) (a2 : Int32) (a3 : Int32) (M : tv_M) : Option (Int32 × tv_M) := tv_pf M 249 0 0 (fun M1 => tv_cb (Md_layTies F (-1000000) M1) (fun r2 M3 => tv_cb (Md_isSheet F a1 M3) (fun r4 M5 => if r4 = 0 then some ((-1000001), M5) else tv_cb (Md_in F ((a3 : Int32).toInt64) (-1) (((M5.1 249 37) - 1 : Int32).toInt64) M5) (fun r6 M7 => if r6 = 0 then some ((-1000001), M7) else tv_cb (Md_lookRests F a1 a2 (M7.1 249 37) M7) (fun r8 M9 => if 0 ≤ r8 then Md_met_L62 F F a1 a2 a3 0 M9 else some (r8, M9))))))
/-- TiedViewsModel.cost(I)I -/
def Md_cost (F : Nat) (a1 : Int32) (M : tv_M) : Option (Int32 × tv_M) := tv_pf M 249 0 0 (fun M1 => tv_cb (Md_in F ((a1 : Int32).toInt64) 0 (((M1.1 249 11) - 1 : Int32).toInt64) M1) (fun r2 M3 => if r2 = 0 then some ((-1000001), M3) else tv_cb (Md_layTies F (-1000000) M3) (fun r4 M5 => tv_cb (Md_takeSteps F M5) (fun r6 M7 => tv_cb (Md_leaders F M7) (fun r8 M9 => tv_cb (Md_layTies F a1 M9) (fun r10 M11 => tv_cb (Md_takeSteps F M11) (fun r12 M13 => tv_cb (Md_leaders F M13) (fun r14 M15 => some (r8 - r14, M15)))))))))
/-- TiedViewsModel.hear(III)I -/
def Md_hear_L57 (F : Nat) (l1 : Int32) (l2 : Int32) (l3 : Int32) (M : tv_M) : Option (Int32 × tv_M) := tv_rd M 258 10 l3 (fun x10 => tv_rd M 254 8 l1 (fun x11 => if x10 = x11 then if (M.1 249 43) = 16 then some ((-1000003), M) else tv_wr M 272 8 l1 l3 (fun M12 => tv_wr M12 273 8 l1 l2 (fun M13 => tv_pf M13 249 43 ((M13.1 249 43) + 1) (fun M14 => some (M14.1 249 43, M14)))) else some ((-1000001), M)))
def Md_hear (F : Nat) (a1 : Int32) (a2 : Int32) (a3 : Int32) (M : tv_M) : Option (Int32 × tv_M) := tv_pf M 249 0 0 (fun M1 => tv_cb (Md_isLinear F a1 M1) (fun r2 M3 => if r2 = 0 then some ((-1000001), M3) else tv_cb (Md_isLinear F a2 M3) (fun r4 M5 => if r4 = 0 then some ((-1000001), M5) else tv_cb (Md_in F ((a3 : Int32).toInt64) 0 (((M5.1 249 11) - 1 : Int32).toInt64) M5) (fun r6 M7 => if r6 = 0 then some ((-1000001), M7) else tv_rd M7 256 10 a3 (fun x8 => if x8 = a2 then Md_hear_L57 F a1 a2 a3 M7 else tv_rd M7 257 10 a3 (fun x9 => if x9 = a2 then Md_hear_L57 F a1 a2 a3 M7 else some ((-1000001), M7)))))))
/-- TiedViewsModel.isNumberOf(II)Z -/
def Md_isNumberOf (F : Nat) (a1 : Int32) (a2 : Int32) (M : tv_M) : Option (Int32 × tv_M) := tv_cb (Md_isLinear F a1 M) (fun r1 M2 => if r1 = 0 then some (0, M2) else tv_rd M2 254 8 a1 (fun x3 => tv_cb (Md_in F ((a2 : Int32).toInt64) 0 ((x3 - 1 : Int32).toInt64) M2) (fun r4 M5 => if r4 = 0 then some (0, M5) else some (1, M5))))
/-- TiedViewsModel.now(III)I -/
def Md_now (F : Nat) (a1 : Int32) (a2 : Int32) (a3 : Int32) (M : tv_M) : Option (Int32 × tv_M) := tv_pf M 249 0 0 (fun M1 => tv_cb (Md_isNumberOf F a1 a2 M1) (fun r2 M3 => if r2 = 0 then some ((-1000001), M3) else tv_cb (Md_isRest F a3 M3) (fun r4 M5 => if r4 = 0 then some ((-1000001), M5) else tv_rd M5 255 8 a1 (fun x6 => tv_rd M5 274 24 (x6 + a2) (fun x7 => tv_rd M5 255 8 a1 (fun x8 => tv_wr M5 274 24 (x8 + a2) a3 (fun M9 => some (x7, M9))))))))
/-- TiedViewsModel.tickOnce()V -/
def Md_tickOnce_L127 (F : Nat) (k30 : Int32 → tv_M → Option (Unit × tv_M)) (k110 : Int32 → Int32 → Int32 → Int32 → tv_M → Option (Unit × tv_M)) : Nat → Int32 → Int32 → Int32 → Int32 → Int32 → Int32 → tv_M → Option (Unit × tv_M)
  | 0, _, _, _, _, _, _, _ => none
  | nn + 1, l1, l2, l3, l4, l5, l6, M => tv_rd M 254 8 l2 (fun x13 => if x13 ≤ l6 then tv_rd M 255 8 l1 (fun x14 => tv_nz (M.1 249 2) (tv_wr M 275 24 (x14 + l4) (tv_rem l5 (M.1 249 2)) (fun M15 => k110 l1 l2 l3 (l4 + 1) M15))) else tv_rd M 259 180 ((l3 + (3 * l4)) + l6) (fun x16 => tv_rd M 255 8 l2 (fun x17 => tv_rd M 274 24 (x17 + l6) (fun x18 => Md_tickOnce_L127 F k30 k110 nn l1 l2 l3 l4 (l5 + (x16 * x18)) (l6 + 1) M))))
def Md_tickOnce_L110 (F : Nat) (k30 : Int32 → tv_M → Option (Unit × tv_M)) : Nat → Int32 → Int32 → Int32 → Int32 → tv_M → Option (Unit × tv_M)
  | 0, _, _, _, _, _ => none
  | nn + 1, l1, l2, l3, l4, M => tv_rd M 254 8 l1 (fun x12 => if x12 ≤ l4 then k30 (l1 + 1) M else Md_tickOnce_L127 F k30 (Md_tickOnce_L110 F k30 nn) F l1 l2 l3 l4 0 0 M)
def Md_tickOnce_L57 (F : Nat) (k30 : Int32 → tv_M → Option (Unit × tv_M)) (l1 : Int32) (M : tv_M) : Option (Unit × tv_M) := tv_rd M 272 8 l1 (fun x7 => if x7 = (-1000000) then k30 (l1 + 1) M else tv_rd M 273 8 l1 (fun x8 => tv_rd M 272 8 l1 (fun x9 => tv_rd M 272 8 l1 (fun x10 => tv_rd M 256 10 x10 (fun x11 => if x11 = x8 then Md_tickOnce_L110 F k30 F l1 x8 ((18 * x9) + 0) 0 M else Md_tickOnce_L110 F k30 F l1 x8 ((18 * x9) + 9) 0 M)))))
def Md_tickOnce_L213 (F : Nat) : Nat → Int32 → tv_M → Option (Unit × tv_M)
  | 0, _, _ => none
  | nn + 1, l1, M => if (M.1 249 10) ≤ l1 then some ((), M) else tv_rd M 275 24 l1 (fun x5 => tv_wr M 274 24 l1 x5 (fun M6 => Md_tickOnce_L213 F nn (l1 + 1) M6))
def Md_tickOnce_L30 (F : Nat) : Nat → Int32 → tv_M → Option (Unit × tv_M)
  | 0, _, _ => none
  | nn + 1, l1, M => if (M.1 249 6) ≤ l1 then Md_tickOnce_L213 F F 0 M else tv_rd M 253 8 l1 (fun x3 => if x3 = 0 then Md_tickOnce_L57 F (Md_tickOnce_L30 F nn) l1 M else tv_rd M 253 8 l1 (fun x4 => if x4 = 1 then Md_tickOnce_L57 F (Md_tickOnce_L30 F nn) l1 M else Md_tickOnce_L30 F nn (l1 + 1) M))
def Md_tickOnce_L2 (F : Nat) : Nat → Int32 → tv_M → Option (Unit × tv_M)
  | 0, _, _ => none
  | nn + 1, l1, M => if (M.1 249 10) ≤ l1 then Md_tickOnce_L30 F F 0 M else tv_rd M 274 24 l1 (fun x1 => tv_wr M 275 24 l1 x1 (fun M2 => Md_tickOnce_L2 F nn (l1 + 1) M2))
def Md_tickOnce (F : Nat)  (M : tv_M) : Option (Unit × tv_M) := Md_tickOnce_L2 F F 0 M
/-- TiedViewsModel.tick(I)I -/
def Md_tick_L41 (F : Nat) : Nat → Int32 → Int32 → tv_M → Option (Int32 × tv_M)
  | 0, _, _, _ => none
  | nn + 1, l2, l3, M => if (M.1 249 10) ≤ l3 then some (l2, M) else tv_rd M 274 24 l3 (fun x6 => if x6 = 0 then Md_tick_L41 F nn (l2 + 0) (l3 + 1) M else Md_tick_L41 F nn (l2 + 1) (l3 + 1) M)
def Md_tick_L22 (F : Nat) : Nat → Int32 → Int32 → tv_M → Option (Int32 × tv_M)
  | 0, _, _, _ => none
  | nn + 1, l1, l2, M => if l1 ≤ l2 then Md_tick_L41 F F 0 0 M else tv_cb (Md_tickOnce F M) (fun r4 M5 => Md_tick_L22 F nn l1 (l2 + 1) M5)
def Md_tick (F : Nat) (a1 : Int32) (M : tv_M) : Option (Int32 × tv_M) := tv_pf M 249 0 0 (fun M1 => tv_cb (Md_in F ((a1 : Int32).toInt64) 1 100 M1) (fun r2 M3 => if r2 = 0 then some ((-1000001), M3) else Md_tick_L22 F F a1 0 M3))
/-- TiedViewsModel.says(II)I -/
def Md_says (F : Nat) (a1 : Int32) (a2 : Int32) (M : tv_M) : Option (Int32 × tv_M) := tv_pf M 249 0 0 (fun M1 => tv_cb (Md_isNumberOf F a1 a2 M1) (fun r2 M3 => if r2 = 0 then some ((-1000001), M3) else tv_rd M3 255 8 a1 (fun x4 => tv_rd M3 274 24 (x4 + a2) (fun x5 => some (x5, M3)))))
/-- TiedViewsModel.isRow(I)Z -/
def Md_isRow_L4 (F : Nat) : Nat → Int32 → Int32 → Int32 → tv_M → Option (Int32 × tv_M)
  | 0, _, _, _, _ => none
  | nn + 1, l1, l2, l3, M => if (M.1 249 10) ≤ l3 then tv_zo l2 (some (l2, M)) else if l2 = 0 then tv_zo l2 (some (l2, M)) else tv_rd M 276 7224 ((24 * l1) + l3) (fun x3 => tv_rd M 274 24 l3 (fun x4 => if x3 = x4 then Md_isRow_L4 F nn l1 1 (l3 + 1) M else Md_isRow_L4 F nn l1 0 (l3 + 1) M))
def Md_isRow (F : Nat) (a1 : Int32) (M : tv_M) : Option (Int32 × tv_M) := Md_isRow_L4 F F a1 1 0 M
/-- TiedViewsModel.settles(I)I -/
def Md_settles_L99 (F : Nat) (k27 : Int32 → Int32 → Int32 → Int32 → tv_M → Option (Int32 × tv_M)) : Nat → Int32 → Int32 → Int32 → Int32 → Int32 → tv_M → Option (Int32 × tv_M)
  | 0, _, _, _, _, _, _ => none
  | nn + 1, l1, l2, l3, l4, l5, M => if (M.1 249 10) ≤ l5 then tv_cb (Md_tickOnce F M) (fun r6 M7 => k27 l1 l2 l3 (l4 + 1) M7) else tv_rd M 274 24 l5 (fun x8 => tv_wr M 276 7224 ((24 * l4) + l5) x8 (fun M9 => Md_settles_L99 F k27 nn l1 l2 l3 l4 (l5 + 1) M9))
def Md_settles_L80 (F : Nat) (k27 : Int32 → Int32 → Int32 → Int32 → tv_M → Option (Int32 × tv_M)) (l1 : Int32) (l2 : Int32) (l4 : Int32) (M : tv_M) : Option (Int32 × tv_M) := if l2 = (-1000000) then Md_settles_L99 F k27 F l1 l2 (-1000000) l4 0 M else Md_settles_L99 F k27 F l1 l2 (l4 - l2) l4 0 M
def Md_settles_L44 (F : Nat) (k27 : Int32 → Int32 → Int32 → Int32 → tv_M → Option (Int32 × tv_M)) : Nat → Int32 → Int32 → Int32 → Int32 → tv_M → Option (Int32 × tv_M)
  | 0, _, _, _, _, _ => none
  | nn + 1, l1, l2, l4, l5, M => if l4 ≤ l5 then Md_settles_L80 F k27 l1 l2 l4 M else if l2 = (-1000000) then tv_cb (Md_isRow F l5 M) (fun r4 M5 => if r4 = 0 then Md_settles_L44 F k27 nn l1 (-1000000) l4 (l5 + 1) M5 else Md_settles_L44 F k27 nn l1 l5 l4 (l5 + 1) M5) else Md_settles_L80 F k27 l1 l2 l4 M
def Md_settles_L147 (F : Nat) : Nat → Int32 → Int32 → Int32 → Int32 → tv_M → Option (Int32 × tv_M)
  | 0, _, _, _, _, _ => none
  | nn + 1, l1, l2, l3, l4, M => if (M.1 249 10) ≤ l4 then if l1 = 0 then some (l2, M) else some (l3, M) else tv_rd M 276 7224 l4 (fun x10 => tv_wr M 274 24 l4 x10 (fun M11 => Md_settles_L147 F nn l1 l2 l3 (l4 + 1) M11))
def Md_settles_L27 (F : Nat) : Nat → Int32 → Int32 → Int32 → Int32 → tv_M → Option (Int32 × tv_M)
  | 0, _, _, _, _, _ => none
  | nn + 1, l1, l2, l3, l4, M => if 300 < l4 then Md_settles_L147 F F l1 l2 l3 0 M else if l2 = (-1000000) then Md_settles_L44 F (Md_settles_L27 F nn) F l1 l2 l4 0 M else Md_settles_L147 F F l1 l2 l3 0 M
def Md_settles (F : Nat) (a1 : Int32) (M : tv_M) : Option (Int32 × tv_M) := tv_pf M 249 0 0 (fun M1 => tv_cb (Md_in F ((a1 : Int32).toInt64) 0 1 M1) (fun r2 M3 => if r2 = 0 then some ((-1000001), M3) else Md_settles_L27 F F a1 (-1000000) (-1000000) 0 M3))
/-- TiedViewsModel.isChoice(I)Z -/
def Md_isChoice (F : Nat) (a1 : Int32) (M : tv_M) : Option (Int32 × tv_M) := tv_cb (Md_isEye F a1 M) (fun r1 M2 => if r1 = 0 then some (0, M2) else tv_rd M2 253 8 a1 (fun x3 => if x3 = 3 then some (1, M2) else some (0, M2)))
/-- TiedViewsModel.choose(II)I -/
def Md_choose (F : Nat) (a1 : Int32) (a2 : Int32) (M : tv_M) : Option (Int32 × tv_M) := tv_pf M 249 0 0 (fun M1 => tv_cb (Md_isChoice F a1 M1) (fun r2 M3 => if r2 = 0 then some ((-1000001), M3) else tv_rd M3 254 8 a1 (fun x4 => tv_cb (Md_in F ((a2 : Int32).toInt64) 1 (((1 <<< (x4 &&& 31)) - 1 : Int32).toInt64) M3) (fun r5 M6 => if r5 = 0 then some ((-1000001), M6) else tv_rd M6 265 8 a1 (fun x7 => tv_wr M6 265 8 a1 a2 (fun M8 => some (x7, M8)))))))
/-- TiedViewsModel.isBarred(IIII)Z -/
def Md_isBarred (F : Nat) (a1 : Int32) (a2 : Int32) (a3 : Int32) (a4 : Int32) (M : tv_M) : Option (Int32 × tv_M) := tv_rd M 264 256 (((32 * a1) + (8 * a2)) + a3) (fun x1 => if ((x1 >>> (a4 &&& 31)) &&& 1) = 1 then some (1, M) else some (0, M))
/-- TiedViewsModel.hasAll(II)Z -/
def Md_hasAll_L94 (F : Nat) (k5 : Int32 → Int32 → Int32 → Int32 → tv_M → Option (Int32 × tv_M)) (l1 : Int32) (l2 : Int32) (l3 : Int32) (l4 : Int32) (l5 : Int32) (M : tv_M) : Option (Int32 × tv_M) := if l3 = 0 then k5 l1 l2 0 (l4 + 1) M else if l5 = 0 then k5 l1 l2 0 (l4 + 1) M else k5 l1 l2 1 (l4 + 1) M
def Md_hasAll_L41 (F : Nat) (k5 : Int32 → Int32 → Int32 → Int32 → tv_M → Option (Int32 × tv_M)) : Nat → Int32 → Int32 → Int32 → Int32 → Int32 → Int32 → tv_M → Option (Int32 × tv_M)
  | 0, _, _, _, _, _, _, _ => none
  | nn + 1, l1, l2, l3, l4, l5, l6, M => if 4 ≤ l6 then Md_hasAll_L94 F k5 l1 l2 l3 l4 l5 M else if l5 = 0 then tv_rd M 265 8 l4 (fun x3 => if ((x3 >>> (l6 &&& 31)) &&& 1) = 1 then tv_cb (Md_isBarred F l1 l2 l4 l6 M) (fun r4 M5 => if r4 = 0 then Md_hasAll_L41 F k5 nn l1 l2 l3 l4 1 (l6 + 1) M5 else Md_hasAll_L41 F k5 nn l1 l2 l3 l4 0 (l6 + 1) M5) else Md_hasAll_L41 F k5 nn l1 l2 l3 l4 0 (l6 + 1) M) else Md_hasAll_L94 F k5 l1 l2 l3 l4 l5 M
def Md_hasAll_L5 (F : Nat) : Nat → Int32 → Int32 → Int32 → Int32 → tv_M → Option (Int32 × tv_M)
  | 0, _, _, _, _, _ => none
  | nn + 1, l1, l2, l3, l4, M => if (M.1 249 6) ≤ l4 then tv_zo l3 (some (l3, M)) else if l4 = l1 then Md_hasAll_L41 F (Md_hasAll_L5 F nn) F l1 l2 l3 l4 1 0 M else tv_rd M 253 8 l4 (fun x2 => if x2 = 3 then Md_hasAll_L41 F (Md_hasAll_L5 F nn) F l1 l2 l3 l4 0 0 M else Md_hasAll_L41 F (Md_hasAll_L5 F nn) F l1 l2 l3 l4 1 0 M)
def Md_hasAll (F : Nat) (a1 : Int32) (a2 : Int32) (M : tv_M) : Option (Int32 × tv_M) := Md_hasAll_L5 F F a1 a2 1 0 M
/-- TiedViewsModel.narrow()I -/
def Md_narrow_L28 (F : Nat) (k9 : Int32 → Int32 → tv_M → Option (Int32 × tv_M)) (k17 : Int32 → Int32 → Int32 → tv_M → Option (Int32 × tv_M)) : Nat → Int32 → Int32 → Int32 → Int32 → tv_M → Option (Int32 × tv_M)
  | 0, _, _, _, _, _ => none
  | nn + 1, l1, l2, l3, l4, M => if 4 ≤ l4 then k17 l1 l2 (l3 + 1) M else tv_rd M 253 8 l3 (fun x2 => if x2 = 3 then tv_rd M 265 8 l3 (fun x3 => if ((x3 >>> (l4 &&& 31)) &&& 1) = 1 then tv_cb (Md_hasAll F l3 l4 M) (fun r4 M5 => if r4 = 0 then tv_rd M5 265 8 l3 (fun x6 => tv_wr M5 265 8 l3 (x6 &&& ((1 <<< (l4 &&& 31)) ^^^ (-1))) (fun M7 => Md_narrow_L28 F k9 k17 nn (l1 + 1) 1 l3 (l4 + 1) M7)) else Md_narrow_L28 F k9 k17 nn l1 l2 l3 (l4 + 1) M5) else Md_narrow_L28 F k9 k17 nn l1 l2 l3 (l4 + 1) M) else Md_narrow_L28 F k9 k17 nn l1 l2 l3 (l4 + 1) M)
def Md_narrow_L17 (F : Nat) (k9 : Int32 → Int32 → tv_M → Option (Int32 × tv_M)) : Nat → Int32 → Int32 → Int32 → tv_M → Option (Int32 × tv_M)
  | 0, _, _, _, _ => none
  | nn + 1, l1, l2, l3, M => if (M.1 249 6) ≤ l3 then k9 l1 l2 M else Md_narrow_L28 F k9 (Md_narrow_L17 F k9 nn) F l1 l2 l3 0 M
def Md_narrow_L9 (F : Nat) : Nat → Int32 → Int32 → tv_M → Option (Int32 × tv_M)
  | 0, _, _, _ => none
  | nn + 1, l1, l2, M => if l2 = 0 then some (l1, M) else Md_narrow_L17 F (Md_narrow_L9 F nn) F l1 0 0 M
def Md_narrow (F : Nat)  (M : tv_M) : Option (Int32 × tv_M) := tv_pf M 249 0 0 (fun M1 => Md_narrow_L9 F F 0 1 M1)
/-- TiedViewsModel.mayStand(I)Z -/
def Md_mayStand_L32 (F : Nat) : Nat → Int32 → Int32 → Int32 → tv_M → Option (Int32 × tv_M)
  | 0, _, _, _, _ => none
  | nn + 1, l1, l2, l3, M => if l1 ≤ l3 then tv_zo l2 (some (l2, M)) else if l2 = 0 then Md_mayStand_L32 F nn l1 0 (l3 + 1) M else tv_rd M 277 8 l3 (fun x5 => tv_rd M 278 8 l3 (fun x6 => tv_rd M 277 8 l1 (fun x7 => tv_rd M 278 8 l1 (fun x8 => tv_cb (Md_isBarred F x5 x6 x7 x8 M) (fun r9 M10 => if r9 = 0 then Md_mayStand_L32 F nn l1 1 (l3 + 1) M10 else Md_mayStand_L32 F nn l1 0 (l3 + 1) M10)))))
def Md_mayStand (F : Nat) (a1 : Int32) (M : tv_M) : Option (Int32 × tv_M) := tv_rd M 277 8 a1 (fun x1 => tv_rd M 265 8 x1 (fun x2 => tv_rd M 278 8 a1 (fun x3 => if ((x2 >>> (x3 &&& 31)) &&& 1) = 1 then Md_mayStand_L32 F F a1 1 0 M else Md_mayStand_L32 F F a1 0 0 M)))
/-- TiedViewsModel.ways()I -/
def Md_ways_L134 (F : Nat) (k71 : Int32 → Int32 → tv_M → Option (Int32 × tv_M)) : Nat → Int32 → Int32 → Int32 → tv_M → Option (Int32 × tv_M)
  | 0, _, _, _, _ => none
  | nn + 1, l1, l2, l3, M => if (M.1 249 49) ≤ l3 then k71 (l1 + 1) l2 M else if l1 = 0 then tv_rd M 278 8 l3 (fun x12 => tv_wr M 279 8 l3 x12 (fun M13 => Md_ways_L134 F k71 nn l1 l2 (l3 + 1) M13)) else k71 (l1 + 1) l2 M
def Md_ways_L71 (F : Nat) : Nat → Int32 → Int32 → tv_M → Option (Int32 × tv_M)
  | 0, _, _, _ => none
  | nn + 1, l1, l2, M => if l2 < 0 then some (l1, M) else tv_rd M 278 8 l2 (fun x6 => tv_wr M 278 8 l2 (x6 + 1) (fun M7 => tv_rd M7 278 8 l2 (fun x8 => if x8 = 4 then Md_ways_L71 F nn l1 (l2 + (-1)) M7 else tv_cb (Md_mayStand F l2 M7) (fun r9 M10 => if r9 = 0 then Md_ways_L71 F nn l1 l2 M10 else if (M10.1 249 49) ≤ (l2 + 1) then Md_ways_L134 F (Md_ways_L71 F nn) F l1 l2 0 M10 else tv_wr M10 278 8 (l2 + 1) (-1) (fun M11 => Md_ways_L71 F nn l1 (l2 + 1) M11)))))
def Md_ways_L7 (F : Nat) : Nat → Int32 → tv_M → Option (Int32 × tv_M)
  | 0, _, _ => none
  | nn + 1, l1, M => if (M.1 249 6) ≤ l1 then if (M.1 249 49) = 0 then some (1, M) else tv_wr M 278 8 0 (-1) (fun M2 => Md_ways_L71 F F 0 0 M2) else tv_rd M 253 8 l1 (fun x3 => if x3 = 3 then tv_wr M 277 8 (M.1 249 49) l1 (fun M4 => tv_pf M4 249 49 ((M4.1 249 49) + 1) (fun M5 => Md_ways_L7 F nn (l1 + 1) M5)) else Md_ways_L7 F nn (l1 + 1) M)
def Md_ways (F : Nat)  (M : tv_M) : Option (Int32 × tv_M) := tv_pf M 249 49 0 (fun M1 => Md_ways_L7 F F 0 M1)
/-- TiedViewsModel.fills(I)I -/
def Md_fills_L35 (F : Nat) : Nat → Int32 → Int32 → Int32 → tv_M → Option (Int32 × tv_M)
  | 0, _, _, _, _ => none
  | nn + 1, l1, l2, l3, M => tv_rd M 277 8 l3 (fun x8 => if x8 = l1 then if l2 = 0 then some ((-1000000), M) else tv_rd M 279 8 l3 (fun x9 => some (x9, M)) else Md_fills_L35 F nn l1 l2 (l3 + 1) M)
def Md_fills (F : Nat) (a1 : Int32) (M : tv_M) : Option (Int32 × tv_M) := tv_pf M 249 0 0 (fun M1 => if a1 = (-1) then tv_cb (Md_ways F M1) (fun r2 M3 => if a1 = (-1) then some (r2, M3) else Md_fills_L35 F F a1 r2 0 M3) else tv_cb (Md_isChoice F a1 M1) (fun r4 M5 => if r4 = 0 then some ((-1000001), M5) else tv_cb (Md_ways F M5) (fun r6 M7 => if a1 = (-1) then some (r6, M7) else Md_fills_L35 F F a1 r6 0 M7)))
/-- TiedViewsModel.kindOf(I)I -/
def Md_kindOf (F : Nat) (a1 : Int32) (M : tv_M) : Option (Int32 × tv_M) := tv_rd M 253 8 a1 (fun x1 => if x1 = 0 then some (1, M) else tv_rd M 253 8 a1 (fun x2 => if x2 = 1 then some (2, M) else tv_rd M 253 8 a1 (fun x3 => if x3 = 2 then some (3, M) else some (4, M))))
/-- TiedViewsModel.kind(I)I -/
def Md_kind (F : Nat) (a1 : Int32) (M : tv_M) : Option (Int32 × tv_M) := tv_pf M 249 0 0 (fun M1 => tv_cb (Md_isEye F a1 M1) (fun r2 M3 => if r2 = 0 then some ((-1000001), M3) else tv_cb (Md_kindOf F a1 M3) (fun r4 M5 => some (r4, M5))))
/-- TiedViewsModel.isOf(II)Z -/
def Md_isOf (F : Nat) (a0 : Int32) (a1 : Int32) (M : tv_M) : Option (Int32 × tv_M) := if a1 = 0 then some (1, M) else if a0 = a1 then some (1, M) else if a1 = 1 then if a0 = 2 then some (1, M) else if a0 = 3 then some (1, M) else some (0, M) else some (0, M)
/-- TiedViewsModel.as(II)I -/
def Md_as (F : Nat) (a1 : Int32) (a2 : Int32) (M : tv_M) : Option (Int32 × tv_M) := tv_pf M 249 0 0 (fun M1 => tv_cb (Md_isEye F a1 M1) (fun r2 M3 => if r2 = 0 then some ((-1000001), M3) else tv_cb (Md_in F ((a2 : Int32).toInt64) 0 4 M3) (fun r4 M5 => if r4 = 0 then some ((-1000001), M5) else tv_pf M5 249 1 0 (fun M6 => tv_cb (Md_kindOf F a1 M6) (fun r7 M8 => tv_cb (Md_isOf F r7 a2 M8) (fun r9 M10 => if r9 = 0 then tv_cb (Md_finding F 3 M10) (fun r11 M12 => some (r11, M12)) else tv_rd M10 254 8 a1 (fun x13 => some (x13, M10))))))))
/-- TiedViewsModel.began(I)V -/
def Md_began (F : Nat) (a1 : Int32) (M : tv_M) : Option (Unit × tv_M) := if 16 ≤ (M.1 249 54) then some ((), M) else tv_wr M 280 16 (M.1 249 54) a1 (fun M1 => tv_pf M1 249 54 ((M1.1 249 54) + 1) (fun M2 => some ((), M2)))
/-- TiedViewsModel.linearSize(I)I -/
def Md_linearSize (F : Nat) (a1 : Int32) (M : tv_M) : Option (Int32 × tv_M) := tv_cb (Md_began F 11 M) (fun r1 M2 => tv_cb (Md_began F 10 M2) (fun r3 M4 => tv_rd M4 254 8 a1 (fun x5 => tv_cb (Md_tiesOf F a1 M4) (fun r6 M7 => some (x5 + r6, M7)))))
/-- TiedViewsModel.modSize(I)I -/
def Md_modSize (F : Nat) (a1 : Int32) (M : tv_M) : Option (Int32 × tv_M) := tv_cb (Md_began F 12 M) (fun r1 M2 => tv_cb (Md_linearSize F a1 M2) (fun r3 M4 => some (r3 * (M4.1 249 2), M4)))
/-- TiedViewsModel.markOf(I)I -/
def Md_markOf_L69 (F : Nat) (l1 : Int32) (l2 : Int32) (s0 : Int32) (M : tv_M) : Option (Int32 × tv_M) := if l2 = 2 then tv_cb (Md_modSize F l1 M) (fun r10 M11 => some (s0 + r10, M11)) else some (s0, M)
def Md_markOf_L30 (F : Nat) (l1 : Int32) (l2 : Int32) (s0 : Int32) (M : tv_M) : Option (Int32 × tv_M) := tv_cb (Md_began F s0 M) (fun r5 M6 => tv_cb (Md_began F 20 M6) (fun r7 M8 => if l2 = 4 then Md_markOf_L69 F l1 l2 (l1 + 1000) M8 else tv_rd M8 270 8 l1 (fun x9 => if x9 = 0 then Md_markOf_L69 F l1 l2 l1 M8 else Md_markOf_L69 F l1 l2 (l1 + 100) M8)))
def Md_markOf (F : Nat) (a1 : Int32) (M : tv_M) : Option (Int32 × tv_M) := tv_cb (Md_kindOf F a1 M) (fun r1 M2 => if r1 = 2 then tv_cb (Md_began F 22 M2) (fun r3 M4 => if r1 = 4 then Md_markOf_L30 F a1 r1 23 M4 else Md_markOf_L30 F a1 r1 21 M4) else if r1 = 4 then Md_markOf_L30 F a1 r1 23 M2 else Md_markOf_L30 F a1 r1 21 M2)
/-- TiedViewsModel.sizeOf(I)I -/
def Md_sizeOf_L62 (F : Nat) (l1 : Int32) (l2 : Int32) (M : tv_M) : Option (Int32 × tv_M) := tv_cb (Md_linearSize F l1 M) (fun r15 M16 => if l2 = 3 then tv_cb (Md_markOf F l1 M16) (fun r17 M18 => some (r15 - r17, M18)) else some (r15, M16))
def Md_sizeOf (F : Nat) (a1 : Int32) (M : tv_M) : Option (Int32 × tv_M) := tv_cb (Md_kindOf F a1 M) (fun r1 M2 => if r1 = 2 then tv_cb (Md_modSize F a1 M2) (fun r13 M14 => some (r13, M14)) else if r1 = 4 then tv_cb (Md_began F 14 M2) (fun r5 M6 => tv_cb (Md_began F 10 M6) (fun r7 M8 => tv_rd M8 254 8 a1 (fun x9 => tv_rd M8 265 8 a1 (fun x10 => tv_cb (Md_bits F x10 M8) (fun r11 M12 => some (x9 + r11, M12)))))) else if r1 = 3 then tv_cb (Md_began F 13 M2) (fun r3 M4 => Md_sizeOf_L62 F a1 r1 M4) else Md_sizeOf_L62 F a1 r1 M2)
/-- TiedViewsModel.ask(II)I -/
def Md_ask (F : Nat) (a1 : Int32) (a2 : Int32) (M : tv_M) : Option (Int32 × tv_M) := tv_pf M 249 0 0 (fun M1 => tv_cb (Md_isEye F a1 M1) (fun r2 M3 => if r2 = 0 then some ((-1000001), M3) else tv_cb (Md_in F ((a2 : Int32).toInt64) 0 1 M3) (fun r4 M5 => if r4 = 0 then some ((-1000001), M5) else tv_pf M5 249 54 0 (fun M6 => if a2 = 0 then tv_cb (Md_sizeOf F a1 M6) (fun r9 M10 => some (r9, M10)) else tv_cb (Md_markOf F a1 M6) (fun r7 M8 => some (r7, M8))))))
/-- TiedViewsModel.trace(I)I -/
def Md_trace (F : Nat) (a1 : Int32) (M : tv_M) : Option (Int32 × tv_M) := tv_pf M 249 0 0 (fun M1 => tv_cb (Md_in F ((a1 : Int32).toInt64) 0 (((M1.1 249 54) - 1 : Int32).toInt64) M1) (fun r2 M3 => if r2 = 0 then some ((-1000000), M3) else tv_rd M3 280 16 a1 (fun x4 => some (x4, M3))))
/-- TiedViewsModel.count(I)I -/
def Md_count_L62 (F : Nat) : Nat → Int32 → Int32 → tv_M → Option (Int32 × tv_M)
  | 0, _, _, _ => none
  | nn + 1, l2, l3, M => if 8 ≤ l3 then some (l2, M) else tv_rd M 250 8 l3 (fun x15 => if x15 < 0 then Md_count_L62 F nn (l2 + 0) (l3 + 1) M else Md_count_L62 F nn (l2 + 1) (l3 + 1) M)
def Md_count_L123 (F : Nat) : Nat → Int32 → Int32 → tv_M → Option (Int32 × tv_M)
  | 0, _, _, _ => none
  | nn + 1, l2, l3, M => if (M.1 249 6) ≤ l3 then some (l2, M) else tv_rd M 253 8 l3 (fun x16 => if x16 = 3 then Md_count_L123 F nn (l2 + 1) (l3 + 1) M else Md_count_L123 F nn (l2 + 0) (l3 + 1) M)
def Md_count (F : Nat) (a1 : Int32) (M : tv_M) : Option (Int32 × tv_M) := tv_pf M 249 0 0 (fun M1 => if a1 = 0 then Md_count_L62 F F 0 0 M1 else if a1 = 1 then some (M1.1 249 6, M1) else if a1 = 2 then some (M1.1 249 11, M1) else if a1 = 3 then some (M1.1 249 16, M1) else if a1 = 4 then tv_cb (Md_readingSet F M1) (fun r6 M7 => tv_cb (Md_bits F r6 M7) (fun r8 M9 => some (r8, M9))) else if a1 = 5 then some (M1.1 249 43, M1) else if a1 = 6 then Md_count_L123 F F 0 0 M1 else if a1 = 7 then some (M1.1 249 24, M1) else if a1 = 8 then some (M1.1 249 2, M1) else some ((-1000001), M1))
/-- TiedViewsModel.status()I -/
def Md_status (F : Nat)  (M : tv_M) : Option (Int32 × tv_M) := tv_pf M 249 0 0 (fun M1 => some (M1.1 249 1, M1))
end
section
theorem d_Xx_primeOr7_0 : decode prog_1_method_33_code 0 = .ok (.iload_n 0, 1) := by decide +kernel
theorem d_Xx_primeOr7_1 : decode prog_1_method_33_code 1 = .ok (.iconst 2, 1) := by decide +kernel
theorem d_Xx_primeOr7_2 : decode prog_1_method_33_code 2 = .ok (.if_icmp .eq 13, 3) := by decide +kernel
theorem d_Xx_primeOr7_5 : decode prog_1_method_33_code 5 = .ok (.iload_n 0, 1) := by decide +kernel
theorem d_Xx_primeOr7_6 : decode prog_1_method_33_code 6 = .ok (.iconst 3, 1) := by decide +kernel
theorem d_Xx_primeOr7_7 : decode prog_1_method_33_code 7 = .ok (.if_icmp .eq 8, 3) := by decide +kernel
theorem d_Xx_primeOr7_10 : decode prog_1_method_33_code 10 = .ok (.iload_n 0, 1) := by decide +kernel
theorem d_Xx_primeOr7_11 : decode prog_1_method_33_code 11 = .ok (.iconst 5, 1) := by decide +kernel
theorem d_Xx_primeOr7_12 : decode prog_1_method_33_code 12 = .ok (.if_icmp .ne 7, 3) := by decide +kernel
theorem d_Xx_primeOr7_15 : decode prog_1_method_33_code 15 = .ok (.iload_n 0, 1) := by decide +kernel
theorem d_Xx_primeOr7_16 : decode prog_1_method_33_code 16 = .ok (.goto 5, 3) := by decide +kernel
theorem d_Xx_primeOr7_19 : decode prog_1_method_33_code 19 = .ok (.bipush 7, 2) := by decide +kernel
theorem d_Xx_primeOr7_21 : decode prog_1_method_33_code 21 = .ok (.ireturn, 1) := by decide +kernel
set_option maxHeartbeats 2000000 in
theorem Xx_primeOr7_c {l : Launch} {θ : tv_Th} (F : Nat) (a0 : Int32) (M : tv_M) : tv_Ct l θ ⟨"TiedViews", "primeOr7", "(I)I"⟩ prog_1_method_33_code 1 (some .int) 0 tv_ei [.int a0] M (Xx_primeOr7 F a0 M) := by
  refine tv_ofG [some (.int a0)] rfl rfl (tv_ent 0 rfl) ?_
  intro κ hl ht hC hR
  subst hl; subst ht
  unfold Xx_primeOr7
  refine g_iload_n hC d_Xx_primeOr7_0 rfl ?_
  refine g_iconst hC d_Xx_primeOr7_1 k_i2 ?_
  refine g_icmp_eq (tgt := 15) hC d_Xx_primeOr7_2 (by decide) (fun _ => ?_) (fun _ => ?_)
  · refine g_iload_n hC d_Xx_primeOr7_15 rfl ?_
    refine g_goto (tgt := 21) hC d_Xx_primeOr7_16 (by decide) ?_
    exact g_iret hC hR d_Xx_primeOr7_21
  · refine g_iload_n hC d_Xx_primeOr7_5 rfl ?_
    refine g_iconst hC d_Xx_primeOr7_6 k_i3 ?_
    refine g_icmp_eq (tgt := 15) hC d_Xx_primeOr7_7 (by decide) (fun _ => ?_) (fun _ => ?_)
    · refine g_iload_n hC d_Xx_primeOr7_15 rfl ?_
      refine g_goto (tgt := 21) hC d_Xx_primeOr7_16 (by decide) ?_
      exact g_iret hC hR d_Xx_primeOr7_21
    · refine g_iload_n hC d_Xx_primeOr7_10 rfl ?_
      refine g_iconst hC d_Xx_primeOr7_11 k_i5 ?_
      refine g_icmp_ne (tgt := 19) hC d_Xx_primeOr7_12 (by decide) (fun _ => ?_) (fun _ => ?_)
      · refine g_bipush hC d_Xx_primeOr7_19 k_b7 ?_
        exact g_iret hC hR d_Xx_primeOr7_21
      · refine g_iload_n hC d_Xx_primeOr7_15 rfl ?_
        refine g_goto (tgt := 21) hC d_Xx_primeOr7_16 (by decide) ?_
        exact g_iret hC hR d_Xx_primeOr7_21
theorem d_Jv_fill_0 : decode prog_21_method_103_code 0 = .ok (.iconst 0, 1) := by decide +kernel
theorem d_Jv_fill_1 : decode prog_21_method_103_code 1 = .ok (.istore_n 2, 1) := by decide +kernel
theorem d_Jv_fill_2 : decode prog_21_method_103_code 2 = .ok (.aload_n 0, 1) := by decide +kernel
theorem d_Jv_fill_3 : decode prog_21_method_103_code 3 = .ok (.arraylength, 1) := by decide +kernel
theorem d_Jv_fill_4 : decode prog_21_method_103_code 4 = .ok (.istore_n 3, 1) := by decide +kernel
theorem d_Jv_fill_5 : decode prog_21_method_103_code 5 = .ok (.iload_n 2, 1) := by decide +kernel
theorem d_Jv_fill_6 : decode prog_21_method_103_code 6 = .ok (.iload_n 3, 1) := by decide +kernel
theorem d_Jv_fill_7 : decode prog_21_method_103_code 7 = .ok (.if_icmp .ge 13, 3) := by decide +kernel
theorem d_Jv_fill_10 : decode prog_21_method_103_code 10 = .ok (.aload_n 0, 1) := by decide +kernel
theorem d_Jv_fill_11 : decode prog_21_method_103_code 11 = .ok (.iload_n 2, 1) := by decide +kernel
theorem d_Jv_fill_12 : decode prog_21_method_103_code 12 = .ok (.iload_n 1, 1) := by decide +kernel
theorem d_Jv_fill_13 : decode prog_21_method_103_code 13 = .ok (.iastore, 1) := by decide +kernel
theorem d_Jv_fill_14 : decode prog_21_method_103_code 14 = .ok (.iinc 2 1, 3) := by decide +kernel
theorem d_Jv_fill_17 : decode prog_21_method_103_code 17 = .ok (.goto (-12), 3) := by decide +kernel
theorem d_Jv_fill_20 : decode prog_21_method_103_code 20 = .ok (.return_, 1) := by decide +kernel
set_option maxHeartbeats 2000000 in
theorem Jv_fill_L5_g {κ : tv_Kt} (hC : tv_Cx κ "java/util/Arrays" prog_21_method_103_code 4 0) (hR : tv_Re κ none) (F : Nat) : ∀ (n : Nat) (l0 : Nat) (l1 : Int32) (l2 : Int32) (l3 : Int32) (M : tv_M), tv_G κ 4 (tv_Qm κ tv_ev) 5 [some (.ref (κ.b + l0)), some (.int l1), some (.int l2), some (.int l3)] [] M (Jv_fill_L5 F n l0 l1 l2 l3 M) := by
  intro n
  induction n with
  | zero => intro _ _ _ _ _; exact g_none
  | succ nn ih =>
    intro l0 l1 l2 l3 M
    rw [Jv_fill_L5]
    refine g_gn (fun n4 h3 => ?_)
    refine g_iload_n hC d_Jv_fill_5 rfl ?_
    refine g_iload_n hC d_Jv_fill_6 rfl ?_
    refine g_icmp_ge (tgt := 20) hC d_Jv_fill_7 (by decide) (fun _ => ?_) (fun _ => ?_)
    · exact g_vret hC hR d_Jv_fill_20
    · refine g_aload_n hC d_Jv_fill_10 rfl ?_
      refine g_iload_n hC d_Jv_fill_11 rfl ?_
      refine g_iload_n hC d_Jv_fill_12 rfl ?_
      refine gv_iast hC h3 d_Jv_fill_13 (fun M5 => ?_)
      refine g_iinc (ls' := [some (.ref (κ.b + l0)), some (.int l1), some (.int (l2 + 1)), some (.int l3)]) hC d_Jv_fill_14 rfl k_i1 rfl rfl ?_
      refine g_goto (tgt := 5) hC d_Jv_fill_17 (by decide) ?_
      exact ih l0 l1 (l2 + 1) l3 M5
set_option maxHeartbeats 2000000 in
theorem Jv_fill_c {l : Launch} {θ : tv_Th} (F : Nat) (a0 : Nat) (a1 : Int32) (M : tv_M) : tv_Ct l θ ⟨"java/util/Arrays", "fill", "([II)V"⟩ prog_21_method_103_code 4 none 0 tv_ev [.ref (θ.1 + a0), .int a1] M (Jv_fill F a0 a1 M) := by
  refine tv_ofG [some (.ref (θ.1 + a0)), some (.int a1), none, none] rfl rfl (tv_ent 2 rfl) ?_
  intro κ hl ht hC hR
  subst hl; subst ht
  unfold Jv_fill
  refine g_gn (fun n2 h1 => ?_)
  refine g_iconst hC d_Jv_fill_0 k_i0 ?_
  refine g_istore_n (ls' := [some (.ref (κ.b + a0)), some (.int a1), some (.int 0), none]) hC d_Jv_fill_1 rfl rfl ?_
  refine g_aload_n hC d_Jv_fill_2 rfl ?_
  refine g_alen hC 20 h1 (by decide) d_Jv_fill_3 rfl ?_
  refine g_istore_n (ls' := [some (.ref (κ.b + a0)), some (.int a1), some (.int 0), some (.int (Int32.ofNat n2))]) hC d_Jv_fill_4 rfl rfl ?_
  exact Jv_fill_L5_g hC hR F F a0 a1 0 (Int32.ofNat n2) M
theorem d_Xx_sheetAt_0 : decode prog_1_method_34_code 0 = .ok (.iload_n 1, 1) := by decide +kernel
theorem d_Xx_sheetAt_1 : decode prog_1_method_34_code 1 = .ok (.ifCond .lt 9, 3) := by decide +kernel
theorem d_Xx_sheetAt_4 : decode prog_1_method_34_code 4 = .ok (.iload_n 1, 1) := by decide +kernel
theorem d_Xx_sheetAt_5 : decode prog_1_method_34_code 5 = .ok (.bipush 8, 2) := by decide +kernel
theorem d_Xx_sheetAt_7 : decode prog_1_method_34_code 7 = .ok (.if_icmp .lt 7, 3) := by decide +kernel
theorem d_Xx_sheetAt_10 : decode prog_1_method_34_code 10 = .ok (.aconst_null, 1) := by decide +kernel
theorem d_Xx_sheetAt_11 : decode prog_1_method_34_code 11 = .ok (.goto 9, 3) := by decide +kernel
theorem d_Xx_sheetAt_14 : decode prog_1_method_34_code 14 = .ok (.aload_n 0, 1) := by decide +kernel
theorem d_Xx_sheetAt_15 : decode prog_1_method_34_code 15 = .ok (.getfield 11, 3) := by decide +kernel
theorem d_Xx_sheetAt_18 : decode prog_1_method_34_code 18 = .ok (.iload_n 1, 1) := by decide +kernel
theorem d_Xx_sheetAt_19 : decode prog_1_method_34_code 19 = .ok (.aaload, 1) := by decide +kernel
theorem d_Xx_sheetAt_20 : decode prog_1_method_34_code 20 = .ok (.areturn, 1) := by decide +kernel
set_option maxHeartbeats 2000000 in
theorem Xx_sheetAt_c {l : Launch} {θ : tv_Th} (F : Nat) (a1 : Int32) (M : tv_M) : tv_Ct l θ ⟨"TiedViews", "sheetAt", "(I)LTiedViews$Sheet;"⟩ prog_1_method_34_code 2 (some (.object "TiedViews$Sheet")) 0 (tv_er θ.1) [.ref (θ.1 + 0), .int a1] M (Xx_sheetAt F a1 M) := by
  refine tv_ofG [some (.ref (θ.1 + 0)), some (.int a1)] rfl rfl (tv_ent 0 rfl) ?_
  intro κ hl ht hC hR
  subst hl; subst ht
  unfold Xx_sheetAt
  refine g_iload_n hC d_Xx_sheetAt_0 rfl ?_
  refine g_if_lt (tgt := 10) hC d_Xx_sheetAt_1 (by decide) (fun _ => ?_) (fun _ => ?_)
  · refine g_null hC d_Xx_sheetAt_10 ?_
    refine g_goto (tgt := 20) hC d_Xx_sheetAt_11 (by decide) ?_
    exact g_aret hC hR (Or.inl ⟨_, rfl⟩) (none) d_Xx_sheetAt_20
  · refine g_iload_n hC d_Xx_sheetAt_4 rfl ?_
    refine g_bipush hC d_Xx_sheetAt_5 k_b8 ?_
    refine g_icmp_lt (tgt := 14) hC d_Xx_sheetAt_7 (by decide) (fun _ => ?_) (fun _ => ?_)
    · refine g_aload_n hC d_Xx_sheetAt_14 rfl ?_
      refine fg_Xx_11 hC lc_0 d_Xx_sheetAt_15 p0_0_1 ?_
      refine g_iload_n hC d_Xx_sheetAt_18 rfl ?_
      refine gv_aald hC 0 ly_1 rfl d_Xx_sheetAt_19 (fun p1 => ?_)
      refine g_gl (fun h2 => ?_)
      exact g_aret hC hR (Or.inl ⟨_, rfl⟩) (some p1) d_Xx_sheetAt_20
    · refine g_null hC d_Xx_sheetAt_10 ?_
      refine g_goto (tgt := 20) hC d_Xx_sheetAt_11 (by decide) ?_
      exact g_aret hC hR (Or.inl ⟨_, rfl⟩) (none) d_Xx_sheetAt_20
theorem d_Xx_found_0 : decode prog_1_method_36_code 0 = .ok (.aload_n 0, 1) := by decide +kernel
theorem d_Xx_found_1 : decode prog_1_method_36_code 1 = .ok (.iload_n 1, 1) := by decide +kernel
theorem d_Xx_found_2 : decode prog_1_method_36_code 2 = .ok (.putfield 321, 3) := by decide +kernel
theorem d_Xx_found_5 : decode prog_1_method_36_code 5 = .ok (.ldc_w 324, 3) := by decide +kernel
theorem d_Xx_found_8 : decode prog_1_method_36_code 8 = .ok (.iload_n 1, 1) := by decide +kernel
theorem d_Xx_found_9 : decode prog_1_method_36_code 9 = .ok (.isub, 1) := by decide +kernel
theorem d_Xx_found_10 : decode prog_1_method_36_code 10 = .ok (.ireturn, 1) := by decide +kernel
set_option maxHeartbeats 2000000 in
theorem Xx_found_c {l : Launch} {θ : tv_Th} (F : Nat) (a1 : Int32) (M : tv_M) : tv_Ct l θ ⟨"TiedViews", "found", "(I)I"⟩ prog_1_method_36_code 2 (some .int) 0 tv_ei [.ref (θ.1 + 0), .int a1] M (Xx_found F a1 M) := by
  refine tv_ofG [some (.ref (θ.1 + 0)), some (.int a1)] rfl rfl (tv_ent 0 rfl) ?_
  intro κ hl ht hC hR
  subst hl; subst ht
  unfold Xx_found
  refine g_aload_n hC d_Xx_found_0 rfl ?_
  refine g_iload_n hC d_Xx_found_1 rfl ?_
  refine fp_Xx_321 hC lc_0 d_Xx_found_2 (fun M1 => ?_)
  refine g_ldcw hC d_Xx_found_5 wk_Xx_324 ?_
  refine g_iload_n hC d_Xx_found_8 rfl ?_
  refine g_isub hC d_Xx_found_9 ?_
  exact g_iret hC hR d_Xx_found_10
theorem d_Sh_begin_0 : decode prog_9_method_2_code 0 = .ok (.aload_n 0, 1) := by decide +kernel
theorem d_Sh_begin_1 : decode prog_9_method_2_code 1 = .ok (.iload_n 1, 1) := by decide +kernel
theorem d_Sh_begin_2 : decode prog_9_method_2_code 2 = .ok (.putfield 11, 3) := by decide +kernel
theorem d_Sh_begin_5 : decode prog_9_method_2_code 5 = .ok (.aload_n 0, 1) := by decide +kernel
theorem d_Sh_begin_6 : decode prog_9_method_2_code 6 = .ok (.iload_n 2, 1) := by decide +kernel
theorem d_Sh_begin_7 : decode prog_9_method_2_code 7 = .ok (.putfield 19, 3) := by decide +kernel
theorem d_Sh_begin_10 : decode prog_9_method_2_code 10 = .ok (.aload_n 0, 1) := by decide +kernel
theorem d_Sh_begin_11 : decode prog_9_method_2_code 11 = .ok (.getfield 15, 3) := by decide +kernel
theorem d_Sh_begin_14 : decode prog_9_method_2_code 14 = .ok (.iconst 0, 1) := by decide +kernel
theorem d_Sh_begin_15 : decode prog_9_method_2_code 15 = .ok (.invokestatic 22, 3) := by decide +kernel
theorem d_Sh_begin_18 : decode prog_9_method_2_code 18 = .ok (.return_, 1) := by decide +kernel
set_option maxHeartbeats 2000000 in
theorem Sh_begin_c {l : Launch} {θ : tv_Th} (F : Nat) (t : Nat) (a1 : Int32) (a2 : Int32) (M : tv_M) : tv_Ct l θ ⟨"TiedViews$Sheet", "begin", "(II)V"⟩ prog_9_method_2_code 3 none 1 tv_ev [.ref (θ.1 + t), .int a1, .int a2] M (Sh_begin F t a1 a2 M) := by
  refine tv_ofG [some (.ref (θ.1 + t)), some (.int a1), some (.int a2)] rfl rfl (tv_ent 0 rfl) ?_
  intro κ hl ht hC hR
  subst hl; subst ht
  unfold Sh_begin
  refine g_gl (fun h1 => ?_)
  refine g_aload_n hC d_Sh_begin_0 rfl ?_
  refine g_iload_n hC d_Sh_begin_1 rfl ?_
  refine fp_Sh_11 hC h1 d_Sh_begin_2 (fun M2 => ?_)
  refine g_aload_n hC d_Sh_begin_5 rfl ?_
  refine g_iload_n hC d_Sh_begin_6 rfl ?_
  refine fp_Sh_19 hC h1 d_Sh_begin_7 (fun M3 => ?_)
  refine g_aload_n hC d_Sh_begin_10 rfl ?_
  refine g_nn (fun p4 e9 => ?_)
  refine fg_Sh_15 hC h1 d_Sh_begin_11 e9 ?_
  refine g_gn (fun n6 h5 => ?_)
  refine g_iconst hC d_Sh_begin_14 k_i0 ?_
  refine gv_callSv hC [.ref (κ.b + p4), .int 0] cw_Sh_22 (Jv_fill_c F p4 0 M3) rfl rfl rfl rfl rfl d_Sh_begin_15 (fun r7 M8 => ?_)
  exact g_vret hC hR d_Sh_begin_18
theorem d_Xx_passed_0 : decode prog_1_method_37_code 0 = .ok (.aload_n 0, 1) := by decide +kernel
theorem d_Xx_passed_1 : decode prog_1_method_37_code 1 = .ok (.iconst 0, 1) := by decide +kernel
theorem d_Xx_passed_2 : decode prog_1_method_37_code 2 = .ok (.putfield 321, 3) := by decide +kernel
theorem d_Xx_passed_5 : decode prog_1_method_37_code 5 = .ok (.iload_n 1, 1) := by decide +kernel
theorem d_Xx_passed_6 : decode prog_1_method_37_code 6 = .ok (.ireturn, 1) := by decide +kernel
set_option maxHeartbeats 2000000 in
theorem Xx_passed_c {l : Launch} {θ : tv_Th} (F : Nat) (a1 : Int32) (M : tv_M) : tv_Ct l θ ⟨"TiedViews", "passed", "(I)I"⟩ prog_1_method_37_code 2 (some .int) 0 tv_ei [.ref (θ.1 + 0), .int a1] M (Xx_passed F a1 M) := by
  refine tv_ofG [some (.ref (θ.1 + 0)), some (.int a1)] rfl rfl (tv_ent 0 rfl) ?_
  intro κ hl ht hC hR
  subst hl; subst ht
  unfold Xx_passed
  refine g_aload_n hC d_Xx_passed_0 rfl ?_
  refine g_iconst hC d_Xx_passed_1 k_i0 ?_
  refine fp_Xx_321 hC lc_0 d_Xx_passed_2 (fun M1 => ?_)
  refine g_iload_n hC d_Xx_passed_5 rfl ?_
  exact g_iret hC hR d_Xx_passed_6
theorem d_Xx_sheet_0 : decode prog_1_method_2_code 0 = .ok (.aload_n 0, 1) := by decide +kernel
theorem d_Xx_sheet_1 : decode prog_1_method_2_code 1 = .ok (.iload_n 1, 1) := by decide +kernel
theorem d_Xx_sheet_2 : decode prog_1_method_2_code 2 = .ok (.invokevirtual 79, 3) := by decide +kernel
theorem d_Xx_sheet_5 : decode prog_1_method_2_code 5 = .ok (.astore 4, 2) := by decide +kernel
theorem d_Xx_sheet_7 : decode prog_1_method_2_code 7 = .ok (.aload 4, 2) := by decide +kernel
theorem d_Xx_sheet_9 : decode prog_1_method_2_code 9 = .ok (.ifnull 18, 3) := by decide +kernel
theorem d_Xx_sheet_12 : decode prog_1_method_2_code 12 = .ok (.iload_n 2, 1) := by decide +kernel
theorem d_Xx_sheet_13 : decode prog_1_method_2_code 13 = .ok (.ifCond .lt 14, 3) := by decide +kernel
theorem d_Xx_sheet_16 : decode prog_1_method_2_code 16 = .ok (.iload_n 2, 1) := by decide +kernel
theorem d_Xx_sheet_17 : decode prog_1_method_2_code 17 = .ok (.iconst 2, 1) := by decide +kernel
theorem d_Xx_sheet_18 : decode prog_1_method_2_code 18 = .ok (.if_icmp .gt 9, 3) := by decide +kernel
theorem d_Xx_sheet_21 : decode prog_1_method_2_code 21 = .ok (.iload_n 3, 1) := by decide +kernel
theorem d_Xx_sheet_22 : decode prog_1_method_2_code 22 = .ok (.bipush 40, 2) := by decide +kernel
theorem d_Xx_sheet_24 : decode prog_1_method_2_code 24 = .ok (.if_icmp .le 6, 3) := by decide +kernel
theorem d_Xx_sheet_27 : decode prog_1_method_2_code 27 = .ok (.ldc 83, 2) := by decide +kernel
theorem d_Xx_sheet_29 : decode prog_1_method_2_code 29 = .ok (.ireturn, 1) := by decide +kernel
theorem d_Xx_sheet_30 : decode prog_1_method_2_code 30 = .ok (.iload_n 3, 1) := by decide +kernel
theorem d_Xx_sheet_31 : decode prog_1_method_2_code 31 = .ok (.ifCond .ge 9, 3) := by decide +kernel
theorem d_Xx_sheet_34 : decode prog_1_method_2_code 34 = .ok (.aload_n 0, 1) := by decide +kernel
theorem d_Xx_sheet_35 : decode prog_1_method_2_code 35 = .ok (.iconst 4, 1) := by decide +kernel
theorem d_Xx_sheet_36 : decode prog_1_method_2_code 36 = .ok (.invokevirtual 84, 3) := by decide +kernel
theorem d_Xx_sheet_39 : decode prog_1_method_2_code 39 = .ok (.ireturn, 1) := by decide +kernel
theorem d_Xx_sheet_40 : decode prog_1_method_2_code 40 = .ok (.aload 4, 2) := by decide +kernel
theorem d_Xx_sheet_42 : decode prog_1_method_2_code 42 = .ok (.iload_n 2, 1) := by decide +kernel
theorem d_Xx_sheet_43 : decode prog_1_method_2_code 43 = .ok (.iload_n 3, 1) := by decide +kernel
theorem d_Xx_sheet_44 : decode prog_1_method_2_code 44 = .ok (.invokevirtual 87, 3) := by decide +kernel
theorem d_Xx_sheet_47 : decode prog_1_method_2_code 47 = .ok (.aload_n 0, 1) := by decide +kernel
theorem d_Xx_sheet_48 : decode prog_1_method_2_code 48 = .ok (.iload_n 3, 1) := by decide +kernel
theorem d_Xx_sheet_49 : decode prog_1_method_2_code 49 = .ok (.invokevirtual 91, 3) := by decide +kernel
theorem d_Xx_sheet_52 : decode prog_1_method_2_code 52 = .ok (.ireturn, 1) := by decide +kernel
set_option maxHeartbeats 2000000 in
theorem Xx_sheet_c {l : Launch} {θ : tv_Th} (F : Nat) (a1 : Int32) (a2 : Int32) (a3 : Int32) (M : tv_M) : tv_Ct l θ ⟨"TiedViews", "sheet", "(III)I"⟩ prog_1_method_2_code 5 (some .int) 2 tv_ei [.ref (θ.1 + 0), .int a1, .int a2, .int a3] M (Xx_sheet F a1 a2 a3 M) := by
  refine tv_ofG [some (.ref (θ.1 + 0)), some (.int a1), some (.int a2), some (.int a3), none] rfl rfl (tv_ent 1 rfl) ?_
  intro κ hl ht hC hR
  subst hl; subst ht
  unfold Xx_sheet
  refine g_aload_n hC d_Xx_sheet_0 rfl ?_
  refine g_iload_n hC d_Xx_sheet_1 rfl ?_
  refine gv_callVr hC [.int a1] cw_Xx_79 (Xx_sheetAt_c F a1 M) lc_0 rfl rfl rfl rfl rfl rfl rfl d_Xx_sheet_2 (fun r1 M2 => ?_)
  refine g_astoreQ (ls' := [some (.ref (κ.b + 0)), some (.int a1), some (.int a2), some (.int a3), some (tv_re κ.b r1)]) hC d_Xx_sheet_5 rfl rfl ?_
  refine g_aloadQ hC d_Xx_sheet_7 rfl ?_
  rcases r1 with _ | p3
  · refine g_ifnullN (tgt := 27) hC d_Xx_sheet_9 (by decide) ?_
    refine g_ldc hC d_Xx_sheet_27 wk_Xx_83 ?_
    exact g_iret hC hR d_Xx_sheet_29
  · refine g_ifnullR hC d_Xx_sheet_9 ?_
    refine g_gl (fun h4 => ?_)
    refine g_iload_n hC d_Xx_sheet_12 rfl ?_
    refine g_if_lt (tgt := 27) hC d_Xx_sheet_13 (by decide) (fun _ => ?_) (fun _ => ?_)
    · refine g_ldc hC d_Xx_sheet_27 wk_Xx_83 ?_
      exact g_iret hC hR d_Xx_sheet_29
    · refine g_iload_n hC d_Xx_sheet_16 rfl ?_
      refine g_iconst hC d_Xx_sheet_17 k_i2 ?_
      refine g_icmp_gt (tgt := 27) hC d_Xx_sheet_18 (by decide) (fun _ => ?_) (fun _ => ?_)
      · refine g_ldc hC d_Xx_sheet_27 wk_Xx_83 ?_
        exact g_iret hC hR d_Xx_sheet_29
      · refine g_iload_n hC d_Xx_sheet_21 rfl ?_
        refine g_bipush hC d_Xx_sheet_22 k_b40 ?_
        refine g_icmp_le (tgt := 30) hC d_Xx_sheet_24 (by decide) (fun _ => ?_) (fun _ => ?_)
        · refine g_iload_n hC d_Xx_sheet_30 rfl ?_
          refine g_if_ge (tgt := 40) hC d_Xx_sheet_31 (by decide) (fun _ => ?_) (fun _ => ?_)
          · refine g_aload hC d_Xx_sheet_40 rfl ?_
            refine g_iload_n hC d_Xx_sheet_42 rfl ?_
            refine g_iload_n hC d_Xx_sheet_43 rfl ?_
            refine gv_callVv hC [.int a2, .int a3] cw_Xx_87 (Sh_begin_c F p3 a2 a3 M2) h4 rfl rfl rfl rfl rfl rfl rfl d_Xx_sheet_44 (fun r5 M6 => ?_)
            refine g_aload_n hC d_Xx_sheet_47 rfl ?_
            refine g_iload_n hC d_Xx_sheet_48 rfl ?_
            refine gv_callVi hC [.int a3] cw_Xx_91 (Xx_passed_c F a3 M6) lc_0 rfl rfl rfl rfl rfl rfl rfl d_Xx_sheet_49 (fun r7 M8 => ?_)
            exact g_iret hC hR d_Xx_sheet_52
          · refine g_aload_n hC d_Xx_sheet_34 rfl ?_
            refine g_iconst hC d_Xx_sheet_35 k_i4 ?_
            refine gv_callVi hC [.int 4] cw_Xx_84 (Xx_found_c F 4 M2) lc_0 rfl rfl rfl rfl rfl rfl rfl d_Xx_sheet_36 (fun r9 M10 => ?_)
            exact g_iret hC hR d_Xx_sheet_39
        · refine g_ldc hC d_Xx_sheet_27 wk_Xx_83 ?_
          exact g_iret hC hR d_Xx_sheet_29
theorem d_Sh_isMissing_0 : decode prog_9_method_3_code 0 = .ok (.aload_n 0, 1) := by decide +kernel
theorem d_Sh_isMissing_1 : decode prog_9_method_3_code 1 = .ok (.getfield 11, 3) := by decide +kernel
theorem d_Sh_isMissing_4 : decode prog_9_method_3_code 4 = .ok (.iconst (-1), 1) := by decide +kernel
theorem d_Sh_isMissing_5 : decode prog_9_method_3_code 5 = .ok (.if_icmp .ne 7, 3) := by decide +kernel
theorem d_Sh_isMissing_8 : decode prog_9_method_3_code 8 = .ok (.iconst 1, 1) := by decide +kernel
theorem d_Sh_isMissing_9 : decode prog_9_method_3_code 9 = .ok (.goto 4, 3) := by decide +kernel
theorem d_Sh_isMissing_12 : decode prog_9_method_3_code 12 = .ok (.iconst 0, 1) := by decide +kernel
theorem d_Sh_isMissing_13 : decode prog_9_method_3_code 13 = .ok (.ireturn, 1) := by decide +kernel
set_option maxHeartbeats 2000000 in
theorem Sh_isMissing_c {l : Launch} {θ : tv_Th} (F : Nat) (t : Nat) (M : tv_M) : tv_Ct l θ ⟨"TiedViews$Sheet", "isMissing", "()Z"⟩ prog_9_method_3_code 1 (some .boolean) 0 tv_ei [.ref (θ.1 + t)] M (Sh_isMissing F t M) := by
  refine tv_ofG [some (.ref (θ.1 + t))] rfl rfl (tv_ent 0 rfl) ?_
  intro κ hl ht hC hR
  subst hl; subst ht
  unfold Sh_isMissing
  refine g_gl (fun h1 => ?_)
  refine g_aload_n hC d_Sh_isMissing_0 rfl ?_
  refine fg_Sh_11 hC h1 d_Sh_isMissing_1 ?_
  refine g_iconst hC d_Sh_isMissing_4 k_im1 ?_
  refine g_icmp_ne (tgt := 12) hC d_Sh_isMissing_5 (by decide) (fun _ => ?_) (fun _ => ?_)
  · refine g_iconst hC d_Sh_isMissing_12 k_i0 ?_
    exact g_zret hC hR tv_z0 d_Sh_isMissing_13
  · refine g_iconst hC d_Sh_isMissing_8 k_i1 ?_
    refine g_goto (tgt := 13) hC d_Sh_isMissing_9 (by decide) ?_
    exact g_zret hC hR tv_z1 d_Sh_isMissing_13
theorem d_Sh_reaches_0 : decode prog_9_method_4_code 0 = .ok (.iload_n 1, 1) := by decide +kernel
theorem d_Sh_reaches_1 : decode prog_9_method_4_code 1 = .ok (.ifCond .lt 29, 3) := by decide +kernel
theorem d_Sh_reaches_4 : decode prog_9_method_4_code 4 = .ok (.iload_n 2, 1) := by decide +kernel
theorem d_Sh_reaches_5 : decode prog_9_method_4_code 5 = .ok (.ifCond .lt 25, 3) := by decide +kernel
theorem d_Sh_reaches_8 : decode prog_9_method_4_code 8 = .ok (.iload_n 1, 1) := by decide +kernel
theorem d_Sh_reaches_9 : decode prog_9_method_4_code 9 = .ok (.aload_n 0, 1) := by decide +kernel
theorem d_Sh_reaches_10 : decode prog_9_method_4_code 10 = .ok (.getfield 19, 3) := by decide +kernel
theorem d_Sh_reaches_13 : decode prog_9_method_4_code 13 = .ok (.if_icmp .gt 17, 3) := by decide +kernel
theorem d_Sh_reaches_16 : decode prog_9_method_4_code 16 = .ok (.iload_n 2, 1) := by decide +kernel
theorem d_Sh_reaches_17 : decode prog_9_method_4_code 17 = .ok (.aload_n 0, 1) := by decide +kernel
theorem d_Sh_reaches_18 : decode prog_9_method_4_code 18 = .ok (.getfield 19, 3) := by decide +kernel
theorem d_Sh_reaches_21 : decode prog_9_method_4_code 21 = .ok (.iload_n 1, 1) := by decide +kernel
theorem d_Sh_reaches_22 : decode prog_9_method_4_code 22 = .ok (.isub, 1) := by decide +kernel
theorem d_Sh_reaches_23 : decode prog_9_method_4_code 23 = .ok (.if_icmp .gt 7, 3) := by decide +kernel
theorem d_Sh_reaches_26 : decode prog_9_method_4_code 26 = .ok (.iconst 1, 1) := by decide +kernel
theorem d_Sh_reaches_27 : decode prog_9_method_4_code 27 = .ok (.goto 4, 3) := by decide +kernel
theorem d_Sh_reaches_30 : decode prog_9_method_4_code 30 = .ok (.iconst 0, 1) := by decide +kernel
theorem d_Sh_reaches_31 : decode prog_9_method_4_code 31 = .ok (.ireturn, 1) := by decide +kernel
set_option maxHeartbeats 2000000 in
theorem Sh_reaches_c {l : Launch} {θ : tv_Th} (F : Nat) (t : Nat) (a1 : Int32) (a2 : Int32) (M : tv_M) : tv_Ct l θ ⟨"TiedViews$Sheet", "reaches", "(II)Z"⟩ prog_9_method_4_code 3 (some .boolean) 0 tv_ei [.ref (θ.1 + t), .int a1, .int a2] M (Sh_reaches F t a1 a2 M) := by
  refine tv_ofG [some (.ref (θ.1 + t)), some (.int a1), some (.int a2)] rfl rfl (tv_ent 0 rfl) ?_
  intro κ hl ht hC hR
  subst hl; subst ht
  unfold Sh_reaches
  refine g_gl (fun h1 => ?_)
  refine g_iload_n hC d_Sh_reaches_0 rfl ?_
  refine g_if_lt (tgt := 30) hC d_Sh_reaches_1 (by decide) (fun _ => ?_) (fun _ => ?_)
  · refine g_iconst hC d_Sh_reaches_30 k_i0 ?_
    exact g_zret hC hR tv_z0 d_Sh_reaches_31
  · refine g_iload_n hC d_Sh_reaches_4 rfl ?_
    refine g_if_lt (tgt := 30) hC d_Sh_reaches_5 (by decide) (fun _ => ?_) (fun _ => ?_)
    · refine g_iconst hC d_Sh_reaches_30 k_i0 ?_
      exact g_zret hC hR tv_z0 d_Sh_reaches_31
    · refine g_iload_n hC d_Sh_reaches_8 rfl ?_
      refine g_aload_n hC d_Sh_reaches_9 rfl ?_
      refine fg_Sh_19 hC h1 d_Sh_reaches_10 ?_
      refine g_icmp_gt (tgt := 30) hC d_Sh_reaches_13 (by decide) (fun _ => ?_) (fun _ => ?_)
      · refine g_iconst hC d_Sh_reaches_30 k_i0 ?_
        exact g_zret hC hR tv_z0 d_Sh_reaches_31
      · refine g_iload_n hC d_Sh_reaches_16 rfl ?_
        refine g_aload_n hC d_Sh_reaches_17 rfl ?_
        refine fg_Sh_19 hC h1 d_Sh_reaches_18 ?_
        refine g_iload_n hC d_Sh_reaches_21 rfl ?_
        refine g_isub hC d_Sh_reaches_22 ?_
        refine g_icmp_gt (tgt := 30) hC d_Sh_reaches_23 (by decide) (fun _ => ?_) (fun _ => ?_)
        · refine g_iconst hC d_Sh_reaches_30 k_i0 ?_
          exact g_zret hC hR tv_z0 d_Sh_reaches_31
        · refine g_iconst hC d_Sh_reaches_26 k_i1 ?_
          refine g_goto (tgt := 31) hC d_Sh_reaches_27 (by decide) ?_
          exact g_zret hC hR tv_z1 d_Sh_reaches_31
theorem d_Sh_cut_0 : decode prog_9_method_6_code 0 = .ok (.aload_n 0, 1) := by decide +kernel
theorem d_Sh_cut_1 : decode prog_9_method_6_code 1 = .ok (.getfield 11, 3) := by decide +kernel
theorem d_Sh_cut_4 : decode prog_9_method_6_code 4 = .ok (.ifCond .ne 6, 3) := by decide +kernel
theorem d_Sh_cut_7 : decode prog_9_method_6_code 7 = .ok (.iload_n 1, 1) := by decide +kernel
theorem d_Sh_cut_8 : decode prog_9_method_6_code 8 = .ok (.i2b, 1) := by decide +kernel
theorem d_Sh_cut_9 : decode prog_9_method_6_code 9 = .ok (.ireturn, 1) := by decide +kernel
theorem d_Sh_cut_10 : decode prog_9_method_6_code 10 = .ok (.aload_n 0, 1) := by decide +kernel
theorem d_Sh_cut_11 : decode prog_9_method_6_code 11 = .ok (.getfield 11, 3) := by decide +kernel
theorem d_Sh_cut_14 : decode prog_9_method_6_code 14 = .ok (.iconst 1, 1) := by decide +kernel
theorem d_Sh_cut_15 : decode prog_9_method_6_code 15 = .ok (.if_icmp .ne 8, 3) := by decide +kernel
theorem d_Sh_cut_18 : decode prog_9_method_6_code 18 = .ok (.iload_n 1, 1) := by decide +kernel
theorem d_Sh_cut_19 : decode prog_9_method_6_code 19 = .ok (.i2s, 1) := by decide +kernel
theorem d_Sh_cut_20 : decode prog_9_method_6_code 20 = .ok (.goto 4, 3) := by decide +kernel
theorem d_Sh_cut_23 : decode prog_9_method_6_code 23 = .ok (.iload_n 1, 1) := by decide +kernel
theorem d_Sh_cut_24 : decode prog_9_method_6_code 24 = .ok (.ireturn, 1) := by decide +kernel
set_option maxHeartbeats 2000000 in
theorem Sh_cut_c {l : Launch} {θ : tv_Th} (F : Nat) (t : Nat) (a1 : Int32) (M : tv_M) : tv_Ct l θ ⟨"TiedViews$Sheet", "cut", "(I)I"⟩ prog_9_method_6_code 2 (some .int) 0 tv_ei [.ref (θ.1 + t), .int a1] M (Sh_cut F t a1 M) := by
  refine tv_ofG [some (.ref (θ.1 + t)), some (.int a1)] rfl rfl (tv_ent 0 rfl) ?_
  intro κ hl ht hC hR
  subst hl; subst ht
  unfold Sh_cut
  refine g_gl (fun h1 => ?_)
  refine g_aload_n hC d_Sh_cut_0 rfl ?_
  refine fg_Sh_11 hC h1 d_Sh_cut_1 ?_
  refine g_if_ne (tgt := 10) hC d_Sh_cut_4 (by decide) (fun _ => ?_) (fun _ => ?_)
  · refine g_aload_n hC d_Sh_cut_10 rfl ?_
    refine fg_Sh_11 hC h1 d_Sh_cut_11 ?_
    refine g_iconst hC d_Sh_cut_14 k_i1 ?_
    refine g_icmp_ne (tgt := 23) hC d_Sh_cut_15 (by decide) (fun _ => ?_) (fun _ => ?_)
    · refine g_iload_n hC d_Sh_cut_23 rfl ?_
      exact g_iret hC hR d_Sh_cut_24
    · refine g_iload_n hC d_Sh_cut_18 rfl ?_
      refine g_i2s hC d_Sh_cut_19 ?_
      refine g_goto (tgt := 24) hC d_Sh_cut_20 (by decide) ?_
      exact g_iret hC hR d_Sh_cut_24
  · refine g_iload_n hC d_Sh_cut_7 rfl ?_
    refine g_i2b hC d_Sh_cut_8 ?_
    exact g_iret hC hR d_Sh_cut_9
theorem d_Sh_put_0 : decode prog_9_method_5_code 0 = .ok (.aload_n 0, 1) := by decide +kernel
theorem d_Sh_put_1 : decode prog_9_method_5_code 1 = .ok (.iload_n 1, 1) := by decide +kernel
theorem d_Sh_put_2 : decode prog_9_method_5_code 2 = .ok (.iconst 1, 1) := by decide +kernel
theorem d_Sh_put_3 : decode prog_9_method_5_code 3 = .ok (.invokevirtual 28, 3) := by decide +kernel
theorem d_Sh_put_6 : decode prog_9_method_5_code 6 = .ok (.ifCond .ne 6, 3) := by decide +kernel
theorem d_Sh_put_9 : decode prog_9_method_5_code 9 = .ok (.ldc 32, 2) := by decide +kernel
theorem d_Sh_put_11 : decode prog_9_method_5_code 11 = .ok (.ireturn, 1) := by decide +kernel
theorem d_Sh_put_12 : decode prog_9_method_5_code 12 = .ok (.aload_n 0, 1) := by decide +kernel
theorem d_Sh_put_13 : decode prog_9_method_5_code 13 = .ok (.getfield 15, 3) := by decide +kernel
theorem d_Sh_put_16 : decode prog_9_method_5_code 16 = .ok (.iload_n 1, 1) := by decide +kernel
theorem d_Sh_put_17 : decode prog_9_method_5_code 17 = .ok (.aload_n 0, 1) := by decide +kernel
theorem d_Sh_put_18 : decode prog_9_method_5_code 18 = .ok (.iload_n 2, 1) := by decide +kernel
theorem d_Sh_put_19 : decode prog_9_method_5_code 19 = .ok (.invokevirtual 33, 3) := by decide +kernel
theorem d_Sh_put_22 : decode prog_9_method_5_code 22 = .ok (.iastore, 1) := by decide +kernel
theorem d_Sh_put_23 : decode prog_9_method_5_code 23 = .ok (.aload_n 0, 1) := by decide +kernel
theorem d_Sh_put_24 : decode prog_9_method_5_code 24 = .ok (.getfield 15, 3) := by decide +kernel
theorem d_Sh_put_27 : decode prog_9_method_5_code 27 = .ok (.iload_n 1, 1) := by decide +kernel
theorem d_Sh_put_28 : decode prog_9_method_5_code 28 = .ok (.iaload, 1) := by decide +kernel
theorem d_Sh_put_29 : decode prog_9_method_5_code 29 = .ok (.ireturn, 1) := by decide +kernel
set_option maxHeartbeats 2000000 in
theorem Sh_put_c {l : Launch} {θ : tv_Th} (F : Nat) (t : Nat) (a1 : Int32) (a2 : Int32) (M : tv_M) : tv_Ct l θ ⟨"TiedViews$Sheet", "put", "(II)I"⟩ prog_9_method_5_code 3 (some .int) 1 tv_ei [.ref (θ.1 + t), .int a1, .int a2] M (Sh_put F t a1 a2 M) := by
  refine tv_ofG [some (.ref (θ.1 + t)), some (.int a1), some (.int a2)] rfl rfl (tv_ent 0 rfl) ?_
  intro κ hl ht hC hR
  subst hl; subst ht
  unfold Sh_put
  refine g_gl (fun h1 => ?_)
  refine g_aload_n hC d_Sh_put_0 rfl ?_
  refine g_iload_n hC d_Sh_put_1 rfl ?_
  refine g_iconst hC d_Sh_put_2 k_i1 ?_
  refine gv_callVi hC [.int a1, .int 1] cw_Sh_28 (Sh_reaches_c F t a1 1 M) h1 rfl rfl rfl rfl rfl rfl rfl d_Sh_put_3 (fun r2 M3 => ?_)
  refine g_if_ne (tgt := 12) hC d_Sh_put_6 (by decide) (fun _ => ?_) (fun _ => ?_)
  · refine g_aload_n hC d_Sh_put_12 rfl ?_
    refine g_nn (fun p4 e15 => ?_)
    refine fg_Sh_15 hC h1 d_Sh_put_13 e15 ?_
    refine g_gn (fun n6 h5 => ?_)
    refine g_iload_n hC d_Sh_put_16 rfl ?_
    refine g_aload_n hC d_Sh_put_17 rfl ?_
    refine g_iload_n hC d_Sh_put_18 rfl ?_
    refine gv_callVi hC [.int a2] cw_Sh_33 (Sh_cut_c F t a2 M3) h1 rfl rfl rfl rfl rfl rfl rfl d_Sh_put_19 (fun r7 M8 => ?_)
    refine gv_iast hC h5 d_Sh_put_22 (fun M9 => ?_)
    refine g_aload_n hC d_Sh_put_23 rfl ?_
    refine g_nn (fun p10 e14 => ?_)
    refine fg_Sh_15 hC h1 d_Sh_put_24 e14 ?_
    refine g_gn (fun n12 h11 => ?_)
    refine g_iload_n hC d_Sh_put_27 rfl ?_
    refine gv_iald hC h11 d_Sh_put_28 (fun x13 => ?_)
    exact g_iret hC hR d_Sh_put_29
  · refine g_ldc hC d_Sh_put_9 wk_Sh_32 ?_
    exact g_iret hC hR d_Sh_put_11
theorem d_Xx_set_0 : decode prog_1_method_3_code 0 = .ok (.aload_n 0, 1) := by decide +kernel
theorem d_Xx_set_1 : decode prog_1_method_3_code 1 = .ok (.iload_n 1, 1) := by decide +kernel
theorem d_Xx_set_2 : decode prog_1_method_3_code 2 = .ok (.invokevirtual 79, 3) := by decide +kernel
theorem d_Xx_set_5 : decode prog_1_method_3_code 5 = .ok (.astore 4, 2) := by decide +kernel
theorem d_Xx_set_7 : decode prog_1_method_3_code 7 = .ok (.aload 4, 2) := by decide +kernel
theorem d_Xx_set_9 : decode prog_1_method_3_code 9 = .ok (.ifnonnull 6, 3) := by decide +kernel
theorem d_Xx_set_12 : decode prog_1_method_3_code 12 = .ok (.ldc 83, 2) := by decide +kernel
theorem d_Xx_set_14 : decode prog_1_method_3_code 14 = .ok (.ireturn, 1) := by decide +kernel
theorem d_Xx_set_15 : decode prog_1_method_3_code 15 = .ok (.aload 4, 2) := by decide +kernel
theorem d_Xx_set_17 : decode prog_1_method_3_code 17 = .ok (.invokevirtual 94, 3) := by decide +kernel
theorem d_Xx_set_20 : decode prog_1_method_3_code 20 = .ok (.ifCond .eq 9, 3) := by decide +kernel
theorem d_Xx_set_23 : decode prog_1_method_3_code 23 = .ok (.aload_n 0, 1) := by decide +kernel
theorem d_Xx_set_24 : decode prog_1_method_3_code 24 = .ok (.iconst 1, 1) := by decide +kernel
theorem d_Xx_set_25 : decode prog_1_method_3_code 25 = .ok (.invokevirtual 84, 3) := by decide +kernel
theorem d_Xx_set_28 : decode prog_1_method_3_code 28 = .ok (.ireturn, 1) := by decide +kernel
theorem d_Xx_set_29 : decode prog_1_method_3_code 29 = .ok (.aload 4, 2) := by decide +kernel
theorem d_Xx_set_31 : decode prog_1_method_3_code 31 = .ok (.iload_n 2, 1) := by decide +kernel
theorem d_Xx_set_32 : decode prog_1_method_3_code 32 = .ok (.iconst 1, 1) := by decide +kernel
theorem d_Xx_set_33 : decode prog_1_method_3_code 33 = .ok (.invokevirtual 98, 3) := by decide +kernel
theorem d_Xx_set_36 : decode prog_1_method_3_code 36 = .ok (.ifCond .ne 9, 3) := by decide +kernel
theorem d_Xx_set_39 : decode prog_1_method_3_code 39 = .ok (.aload_n 0, 1) := by decide +kernel
theorem d_Xx_set_40 : decode prog_1_method_3_code 40 = .ok (.iconst 2, 1) := by decide +kernel
theorem d_Xx_set_41 : decode prog_1_method_3_code 41 = .ok (.invokevirtual 84, 3) := by decide +kernel
theorem d_Xx_set_44 : decode prog_1_method_3_code 44 = .ok (.ireturn, 1) := by decide +kernel
theorem d_Xx_set_45 : decode prog_1_method_3_code 45 = .ok (.aload_n 0, 1) := by decide +kernel
theorem d_Xx_set_46 : decode prog_1_method_3_code 46 = .ok (.aload 4, 2) := by decide +kernel
theorem d_Xx_set_48 : decode prog_1_method_3_code 48 = .ok (.iload_n 2, 1) := by decide +kernel
theorem d_Xx_set_49 : decode prog_1_method_3_code 49 = .ok (.iload_n 3, 1) := by decide +kernel
theorem d_Xx_set_50 : decode prog_1_method_3_code 50 = .ok (.invokevirtual 102, 3) := by decide +kernel
theorem d_Xx_set_53 : decode prog_1_method_3_code 53 = .ok (.invokevirtual 91, 3) := by decide +kernel
theorem d_Xx_set_56 : decode prog_1_method_3_code 56 = .ok (.ireturn, 1) := by decide +kernel
set_option maxHeartbeats 2000000 in
theorem Xx_set_c {l : Launch} {θ : tv_Th} (F : Nat) (a1 : Int32) (a2 : Int32) (a3 : Int32) (M : tv_M) : tv_Ct l θ ⟨"TiedViews", "set", "(III)I"⟩ prog_1_method_3_code 5 (some .int) 2 tv_ei [.ref (θ.1 + 0), .int a1, .int a2, .int a3] M (Xx_set F a1 a2 a3 M) := by
  refine tv_ofG [some (.ref (θ.1 + 0)), some (.int a1), some (.int a2), some (.int a3), none] rfl rfl (tv_ent 1 rfl) ?_
  intro κ hl ht hC hR
  subst hl; subst ht
  unfold Xx_set
  refine g_aload_n hC d_Xx_set_0 rfl ?_
  refine g_iload_n hC d_Xx_set_1 rfl ?_
  refine gv_callVr hC [.int a1] cw_Xx_79 (Xx_sheetAt_c F a1 M) lc_0 rfl rfl rfl rfl rfl rfl rfl d_Xx_set_2 (fun r1 M2 => ?_)
  refine g_astoreQ (ls' := [some (.ref (κ.b + 0)), some (.int a1), some (.int a2), some (.int a3), some (tv_re κ.b r1)]) hC d_Xx_set_5 rfl rfl ?_
  refine g_aloadQ hC d_Xx_set_7 rfl ?_
  rcases r1 with _ | p3
  · refine g_ifnonnullN hC d_Xx_set_9 ?_
    refine g_ldc hC d_Xx_set_12 wk_Xx_83 ?_
    exact g_iret hC hR d_Xx_set_14
  · refine g_ifnonnullR (tgt := 15) hC d_Xx_set_9 (by decide) ?_
    refine g_gl (fun h4 => ?_)
    refine g_aload hC d_Xx_set_15 rfl ?_
    refine gv_callVi hC [] cw_Xx_94 (Sh_isMissing_c F p3 M2) h4 rfl rfl rfl rfl rfl rfl rfl d_Xx_set_17 (fun r5 M6 => ?_)
    refine g_if_eq (tgt := 29) hC d_Xx_set_20 (by decide) (fun _ => ?_) (fun _ => ?_)
    · refine g_aload hC d_Xx_set_29 rfl ?_
      refine g_iload_n hC d_Xx_set_31 rfl ?_
      refine g_iconst hC d_Xx_set_32 k_i1 ?_
      refine gv_callVi hC [.int a2, .int 1] cw_Xx_98 (Sh_reaches_c F p3 a2 1 M6) h4 rfl rfl rfl rfl rfl rfl rfl d_Xx_set_33 (fun r7 M8 => ?_)
      refine g_if_ne (tgt := 45) hC d_Xx_set_36 (by decide) (fun _ => ?_) (fun _ => ?_)
      · refine g_aload_n hC d_Xx_set_45 rfl ?_
        refine g_aload hC d_Xx_set_46 rfl ?_
        refine g_iload_n hC d_Xx_set_48 rfl ?_
        refine g_iload_n hC d_Xx_set_49 rfl ?_
        refine gv_callVi hC [.int a2, .int a3] cw_Xx_102 (Sh_put_c F p3 a2 a3 M8) h4 rfl rfl rfl rfl rfl rfl rfl d_Xx_set_50 (fun r9 M10 => ?_)
        refine gv_callVi hC [.int r9] cw_Xx_91 (Xx_passed_c F r9 M10) lc_0 rfl rfl rfl rfl rfl rfl rfl d_Xx_set_53 (fun r11 M12 => ?_)
        exact g_iret hC hR d_Xx_set_56
      · refine g_aload_n hC d_Xx_set_39 rfl ?_
        refine g_iconst hC d_Xx_set_40 k_i2 ?_
        refine gv_callVi hC [.int 2] cw_Xx_84 (Xx_found_c F 2 M8) lc_0 rfl rfl rfl rfl rfl rfl rfl d_Xx_set_41 (fun r13 M14 => ?_)
        exact g_iret hC hR d_Xx_set_44
    · refine g_aload_n hC d_Xx_set_23 rfl ?_
      refine g_iconst hC d_Xx_set_24 k_i1 ?_
      refine gv_callVi hC [.int 1] cw_Xx_84 (Xx_found_c F 1 M6) lc_0 rfl rfl rfl rfl rfl rfl rfl d_Xx_set_25 (fun r15 M16 => ?_)
      exact g_iret hC hR d_Xx_set_28
theorem d_Xx_copy_0 : decode prog_1_method_4_code 0 = .ok (.aload_n 0, 1) := by decide +kernel
theorem d_Xx_copy_1 : decode prog_1_method_4_code 1 = .ok (.iload_n 1, 1) := by decide +kernel
theorem d_Xx_copy_2 : decode prog_1_method_4_code 2 = .ok (.invokevirtual 79, 3) := by decide +kernel
theorem d_Xx_copy_5 : decode prog_1_method_4_code 5 = .ok (.astore 6, 2) := by decide +kernel
theorem d_Xx_copy_7 : decode prog_1_method_4_code 7 = .ok (.aload_n 0, 1) := by decide +kernel
theorem d_Xx_copy_8 : decode prog_1_method_4_code 8 = .ok (.iload_n 3, 1) := by decide +kernel
theorem d_Xx_copy_9 : decode prog_1_method_4_code 9 = .ok (.invokevirtual 79, 3) := by decide +kernel
theorem d_Xx_copy_12 : decode prog_1_method_4_code 12 = .ok (.astore 7, 2) := by decide +kernel
theorem d_Xx_copy_14 : decode prog_1_method_4_code 14 = .ok (.aload 6, 2) := by decide +kernel
theorem d_Xx_copy_16 : decode prog_1_method_4_code 16 = .ok (.ifnull 8, 3) := by decide +kernel
theorem d_Xx_copy_19 : decode prog_1_method_4_code 19 = .ok (.aload 7, 2) := by decide +kernel
theorem d_Xx_copy_21 : decode prog_1_method_4_code 21 = .ok (.ifnonnull 6, 3) := by decide +kernel
theorem d_Xx_copy_24 : decode prog_1_method_4_code 24 = .ok (.ldc 83, 2) := by decide +kernel
theorem d_Xx_copy_26 : decode prog_1_method_4_code 26 = .ok (.ireturn, 1) := by decide +kernel
theorem d_Xx_copy_27 : decode prog_1_method_4_code 27 = .ok (.aload 6, 2) := by decide +kernel
theorem d_Xx_copy_29 : decode prog_1_method_4_code 29 = .ok (.invokevirtual 94, 3) := by decide +kernel
theorem d_Xx_copy_32 : decode prog_1_method_4_code 32 = .ok (.ifCond .ne 11, 3) := by decide +kernel
theorem d_Xx_copy_35 : decode prog_1_method_4_code 35 = .ok (.aload 7, 2) := by decide +kernel
theorem d_Xx_copy_37 : decode prog_1_method_4_code 37 = .ok (.invokevirtual 94, 3) := by decide +kernel
theorem d_Xx_copy_40 : decode prog_1_method_4_code 40 = .ok (.ifCond .eq 9, 3) := by decide +kernel
theorem d_Xx_copy_43 : decode prog_1_method_4_code 43 = .ok (.aload_n 0, 1) := by decide +kernel
theorem d_Xx_copy_44 : decode prog_1_method_4_code 44 = .ok (.iconst 1, 1) := by decide +kernel
theorem d_Xx_copy_45 : decode prog_1_method_4_code 45 = .ok (.invokevirtual 84, 3) := by decide +kernel
theorem d_Xx_copy_48 : decode prog_1_method_4_code 48 = .ok (.ireturn, 1) := by decide +kernel
theorem d_Xx_copy_49 : decode prog_1_method_4_code 49 = .ok (.aload 6, 2) := by decide +kernel
theorem d_Xx_copy_51 : decode prog_1_method_4_code 51 = .ok (.getfield 106, 3) := by decide +kernel
theorem d_Xx_copy_54 : decode prog_1_method_4_code 54 = .ok (.aload 7, 2) := by decide +kernel
theorem d_Xx_copy_56 : decode prog_1_method_4_code 56 = .ok (.getfield 106, 3) := by decide +kernel
theorem d_Xx_copy_59 : decode prog_1_method_4_code 59 = .ok (.if_icmp .eq 9, 3) := by decide +kernel
theorem d_Xx_copy_62 : decode prog_1_method_4_code 62 = .ok (.aload_n 0, 1) := by decide +kernel
theorem d_Xx_copy_63 : decode prog_1_method_4_code 63 = .ok (.iconst 5, 1) := by decide +kernel
theorem d_Xx_copy_64 : decode prog_1_method_4_code 64 = .ok (.invokevirtual 84, 3) := by decide +kernel
theorem d_Xx_copy_67 : decode prog_1_method_4_code 67 = .ok (.ireturn, 1) := by decide +kernel
theorem d_Xx_copy_68 : decode prog_1_method_4_code 68 = .ok (.aload 6, 2) := by decide +kernel
theorem d_Xx_copy_70 : decode prog_1_method_4_code 70 = .ok (.iload_n 2, 1) := by decide +kernel
theorem d_Xx_copy_71 : decode prog_1_method_4_code 71 = .ok (.iload 5, 2) := by decide +kernel
theorem d_Xx_copy_73 : decode prog_1_method_4_code 73 = .ok (.invokevirtual 98, 3) := by decide +kernel
theorem d_Xx_copy_76 : decode prog_1_method_4_code 76 = .ok (.ifCond .eq 15, 3) := by decide +kernel
theorem d_Xx_copy_79 : decode prog_1_method_4_code 79 = .ok (.aload 7, 2) := by decide +kernel
theorem d_Xx_copy_81 : decode prog_1_method_4_code 81 = .ok (.iload 4, 2) := by decide +kernel
theorem d_Xx_copy_83 : decode prog_1_method_4_code 83 = .ok (.iload 5, 2) := by decide +kernel
theorem d_Xx_copy_85 : decode prog_1_method_4_code 85 = .ok (.invokevirtual 98, 3) := by decide +kernel
theorem d_Xx_copy_88 : decode prog_1_method_4_code 88 = .ok (.ifCond .ne 9, 3) := by decide +kernel
theorem d_Xx_copy_91 : decode prog_1_method_4_code 91 = .ok (.aload_n 0, 1) := by decide +kernel
theorem d_Xx_copy_92 : decode prog_1_method_4_code 92 = .ok (.iconst 2, 1) := by decide +kernel
theorem d_Xx_copy_93 : decode prog_1_method_4_code 93 = .ok (.invokevirtual 84, 3) := by decide +kernel
theorem d_Xx_copy_96 : decode prog_1_method_4_code 96 = .ok (.ireturn, 1) := by decide +kernel
theorem d_Xx_copy_97 : decode prog_1_method_4_code 97 = .ok (.aload 6, 2) := by decide +kernel
theorem d_Xx_copy_99 : decode prog_1_method_4_code 99 = .ok (.getfield 109, 3) := by decide +kernel
theorem d_Xx_copy_102 : decode prog_1_method_4_code 102 = .ok (.iload_n 2, 1) := by decide +kernel
theorem d_Xx_copy_103 : decode prog_1_method_4_code 103 = .ok (.aload 7, 2) := by decide +kernel
theorem d_Xx_copy_105 : decode prog_1_method_4_code 105 = .ok (.getfield 109, 3) := by decide +kernel
theorem d_Xx_copy_108 : decode prog_1_method_4_code 108 = .ok (.iload 4, 2) := by decide +kernel
theorem d_Xx_copy_110 : decode prog_1_method_4_code 110 = .ok (.iload 5, 2) := by decide +kernel
theorem d_Xx_copy_112 : decode prog_1_method_4_code 112 = .ok (.invokestatic 113, 3) := by decide +kernel
theorem d_Xx_copy_115 : decode prog_1_method_4_code 115 = .ok (.aload_n 0, 1) := by decide +kernel
theorem d_Xx_copy_116 : decode prog_1_method_4_code 116 = .ok (.iload 5, 2) := by decide +kernel
theorem d_Xx_copy_118 : decode prog_1_method_4_code 118 = .ok (.invokevirtual 91, 3) := by decide +kernel
theorem d_Xx_copy_121 : decode prog_1_method_4_code 121 = .ok (.ireturn, 1) := by decide +kernel
set_option maxHeartbeats 2000000 in
theorem Xx_copy_c {l : Launch} {θ : tv_Th} (F : Nat) (a1 : Int32) (a2 : Int32) (a3 : Int32) (a4 : Int32) (a5 : Int32) (M : tv_M) : tv_Ct l θ ⟨"TiedViews", "copy", "(IIIII)I"⟩ prog_1_method_4_code 8 (some .int) 1 tv_ei [.ref (θ.1 + 0), .int a1, .int a2, .int a3, .int a4, .int a5] M (Xx_copy F a1 a2 a3 a4 a5 M) := by
  refine tv_ofG [some (.ref (θ.1 + 0)), some (.int a1), some (.int a2), some (.int a3), some (.int a4), some (.int a5), none, none] rfl rfl (tv_ent 2 rfl) ?_
  intro κ hl ht hC hR
  subst hl; subst ht
  unfold Xx_copy
  refine g_aload_n hC d_Xx_copy_0 rfl ?_
  refine g_iload_n hC d_Xx_copy_1 rfl ?_
  refine gv_callVr hC [.int a1] cw_Xx_79 (Xx_sheetAt_c F a1 M) lc_0 rfl rfl rfl rfl rfl rfl rfl d_Xx_copy_2 (fun r1 M2 => ?_)
  refine g_astoreQ (ls' := [some (.ref (κ.b + 0)), some (.int a1), some (.int a2), some (.int a3), some (.int a4), some (.int a5), some (tv_re κ.b r1), none]) hC d_Xx_copy_5 rfl rfl ?_
  refine g_aload_n hC d_Xx_copy_7 rfl ?_
  refine g_iload_n hC d_Xx_copy_8 rfl ?_
  refine gv_callVr hC [.int a3] cw_Xx_79 (Xx_sheetAt_c F a3 M2) lc_0 rfl rfl rfl rfl rfl rfl rfl d_Xx_copy_9 (fun r3 M4 => ?_)
  refine g_astoreQ (ls' := [some (.ref (κ.b + 0)), some (.int a1), some (.int a2), some (.int a3), some (.int a4), some (.int a5), some (tv_re κ.b r1), some (tv_re κ.b r3)]) hC d_Xx_copy_12 rfl rfl ?_
  refine g_aloadQ hC d_Xx_copy_14 rfl ?_
  rcases r1 with _ | p5
  · refine g_ifnullN (tgt := 24) hC d_Xx_copy_16 (by decide) ?_
    refine g_ldc hC d_Xx_copy_24 wk_Xx_83 ?_
    exact g_iret hC hR d_Xx_copy_26
  · refine g_ifnullR hC d_Xx_copy_16 ?_
    refine g_gl (fun h6 => ?_)
    refine g_aloadQ hC d_Xx_copy_19 rfl ?_
    rcases r3 with _ | p7
    · refine g_ifnonnullN hC d_Xx_copy_21 ?_
      refine g_ldc hC d_Xx_copy_24 wk_Xx_83 ?_
      exact g_iret hC hR d_Xx_copy_26
    · refine g_ifnonnullR (tgt := 27) hC d_Xx_copy_21 (by decide) ?_
      refine g_gl (fun h8 => ?_)
      refine g_aload hC d_Xx_copy_27 rfl ?_
      refine gv_callVi hC [] cw_Xx_94 (Sh_isMissing_c F p5 M4) h6 rfl rfl rfl rfl rfl rfl rfl d_Xx_copy_29 (fun r9 M10 => ?_)
      refine g_if_ne (tgt := 43) hC d_Xx_copy_32 (by decide) (fun _ => ?_) (fun _ => ?_)
      · refine g_aload_n hC d_Xx_copy_43 rfl ?_
        refine g_iconst hC d_Xx_copy_44 k_i1 ?_
        refine gv_callVi hC [.int 1] cw_Xx_84 (Xx_found_c F 1 M10) lc_0 rfl rfl rfl rfl rfl rfl rfl d_Xx_copy_45 (fun r11 M12 => ?_)
        exact g_iret hC hR d_Xx_copy_48
      · refine g_aload hC d_Xx_copy_35 rfl ?_
        refine gv_callVi hC [] cw_Xx_94 (Sh_isMissing_c F p7 M10) h8 rfl rfl rfl rfl rfl rfl rfl d_Xx_copy_37 (fun r13 M14 => ?_)
        refine g_if_eq (tgt := 49) hC d_Xx_copy_40 (by decide) (fun _ => ?_) (fun _ => ?_)
        · refine g_aload hC d_Xx_copy_49 rfl ?_
          refine fg_Xx_106 hC h6 d_Xx_copy_51 ?_
          refine g_aload hC d_Xx_copy_54 rfl ?_
          refine fg_Xx_106 hC h8 d_Xx_copy_56 ?_
          refine g_icmp_eq (tgt := 68) hC d_Xx_copy_59 (by decide) (fun _ => ?_) (fun _ => ?_)
          · refine g_aload hC d_Xx_copy_68 rfl ?_
            refine g_iload_n hC d_Xx_copy_70 rfl ?_
            refine g_iload hC d_Xx_copy_71 rfl ?_
            refine gv_callVi hC [.int a2, .int a5] cw_Xx_98 (Sh_reaches_c F p5 a2 a5 M14) h6 rfl rfl rfl rfl rfl rfl rfl d_Xx_copy_73 (fun r15 M16 => ?_)
            refine g_if_eq (tgt := 91) hC d_Xx_copy_76 (by decide) (fun _ => ?_) (fun _ => ?_)
            · refine g_aload_n hC d_Xx_copy_91 rfl ?_
              refine g_iconst hC d_Xx_copy_92 k_i2 ?_
              refine gv_callVi hC [.int 2] cw_Xx_84 (Xx_found_c F 2 M16) lc_0 rfl rfl rfl rfl rfl rfl rfl d_Xx_copy_93 (fun r17 M18 => ?_)
              exact g_iret hC hR d_Xx_copy_96
            · refine g_aload hC d_Xx_copy_79 rfl ?_
              refine g_iload hC d_Xx_copy_81 rfl ?_
              refine g_iload hC d_Xx_copy_83 rfl ?_
              refine gv_callVi hC [.int a4, .int a5] cw_Xx_98 (Sh_reaches_c F p7 a4 a5 M16) h8 rfl rfl rfl rfl rfl rfl rfl d_Xx_copy_85 (fun r19 M20 => ?_)
              refine g_if_ne (tgt := 97) hC d_Xx_copy_88 (by decide) (fun _ => ?_) (fun _ => ?_)
              · refine g_aload hC d_Xx_copy_97 rfl ?_
                refine g_nn (fun p21 e31 => ?_)
                refine fg_Xx_109 hC h6 d_Xx_copy_99 e31 ?_
                refine g_gn (fun n23 h22 => ?_)
                refine g_iload_n hC d_Xx_copy_102 rfl ?_
                refine g_aload hC d_Xx_copy_103 rfl ?_
                refine g_nn (fun p24 e30 => ?_)
                refine fg_Xx_109 hC h8 d_Xx_copy_105 e30 ?_
                refine g_gn (fun n26 h25 => ?_)
                refine g_iload hC d_Xx_copy_108 rfl ?_
                refine g_iload hC d_Xx_copy_110 rfl ?_
                refine gv_copy hC h22 h25 wc_Xx_113 rfl rfl d_Xx_copy_112 (fun M27 => ?_)
                refine g_aload_n hC d_Xx_copy_115 rfl ?_
                refine g_iload hC d_Xx_copy_116 rfl ?_
                refine gv_callVi hC [.int a5] cw_Xx_91 (Xx_passed_c F a5 M27) lc_0 rfl rfl rfl rfl rfl rfl rfl d_Xx_copy_118 (fun r28 M29 => ?_)
                exact g_iret hC hR d_Xx_copy_121
              · refine g_aload_n hC d_Xx_copy_91 rfl ?_
                refine g_iconst hC d_Xx_copy_92 k_i2 ?_
                refine gv_callVi hC [.int 2] cw_Xx_84 (Xx_found_c F 2 M20) lc_0 rfl rfl rfl rfl rfl rfl rfl d_Xx_copy_93 (fun r32 M33 => ?_)
                exact g_iret hC hR d_Xx_copy_96
          · refine g_aload_n hC d_Xx_copy_62 rfl ?_
            refine g_iconst hC d_Xx_copy_63 k_i5 ?_
            refine gv_callVi hC [.int 5] cw_Xx_84 (Xx_found_c F 5 M14) lc_0 rfl rfl rfl rfl rfl rfl rfl d_Xx_copy_64 (fun r34 M35 => ?_)
            exact g_iret hC hR d_Xx_copy_67
        · refine g_aload_n hC d_Xx_copy_43 rfl ?_
          refine g_iconst hC d_Xx_copy_44 k_i1 ?_
          refine gv_callVi hC [.int 1] cw_Xx_84 (Xx_found_c F 1 M14) lc_0 rfl rfl rfl rfl rfl rfl rfl d_Xx_copy_45 (fun r36 M37 => ?_)
          exact g_iret hC hR d_Xx_copy_48
theorem d_Xx_drop_0 : decode prog_1_method_5_code 0 = .ok (.aload_n 0, 1) := by decide +kernel
theorem d_Xx_drop_1 : decode prog_1_method_5_code 1 = .ok (.iload_n 1, 1) := by decide +kernel
theorem d_Xx_drop_2 : decode prog_1_method_5_code 2 = .ok (.invokevirtual 79, 3) := by decide +kernel
theorem d_Xx_drop_5 : decode prog_1_method_5_code 5 = .ok (.astore_n 2, 1) := by decide +kernel
theorem d_Xx_drop_6 : decode prog_1_method_5_code 6 = .ok (.aload_n 2, 1) := by decide +kernel
theorem d_Xx_drop_7 : decode prog_1_method_5_code 7 = .ok (.ifnonnull 6, 3) := by decide +kernel
theorem d_Xx_drop_10 : decode prog_1_method_5_code 10 = .ok (.ldc 83, 2) := by decide +kernel
theorem d_Xx_drop_12 : decode prog_1_method_5_code 12 = .ok (.ireturn, 1) := by decide +kernel
theorem d_Xx_drop_13 : decode prog_1_method_5_code 13 = .ok (.aload_n 2, 1) := by decide +kernel
theorem d_Xx_drop_14 : decode prog_1_method_5_code 14 = .ok (.invokevirtual 94, 3) := by decide +kernel
theorem d_Xx_drop_17 : decode prog_1_method_5_code 17 = .ok (.ifCond .eq 9, 3) := by decide +kernel
theorem d_Xx_drop_20 : decode prog_1_method_5_code 20 = .ok (.aload_n 0, 1) := by decide +kernel
theorem d_Xx_drop_21 : decode prog_1_method_5_code 21 = .ok (.iconst 1, 1) := by decide +kernel
theorem d_Xx_drop_22 : decode prog_1_method_5_code 22 = .ok (.invokevirtual 84, 3) := by decide +kernel
theorem d_Xx_drop_25 : decode prog_1_method_5_code 25 = .ok (.ireturn, 1) := by decide +kernel
theorem d_Xx_drop_26 : decode prog_1_method_5_code 26 = .ok (.aload_n 2, 1) := by decide +kernel
theorem d_Xx_drop_27 : decode prog_1_method_5_code 27 = .ok (.getfield 119, 3) := by decide +kernel
theorem d_Xx_drop_30 : decode prog_1_method_5_code 30 = .ok (.istore_n 3, 1) := by decide +kernel
theorem d_Xx_drop_31 : decode prog_1_method_5_code 31 = .ok (.aload_n 2, 1) := by decide +kernel
theorem d_Xx_drop_32 : decode prog_1_method_5_code 32 = .ok (.iconst (-1), 1) := by decide +kernel
theorem d_Xx_drop_33 : decode prog_1_method_5_code 33 = .ok (.iconst 0, 1) := by decide +kernel
theorem d_Xx_drop_34 : decode prog_1_method_5_code 34 = .ok (.invokevirtual 87, 3) := by decide +kernel
theorem d_Xx_drop_37 : decode prog_1_method_5_code 37 = .ok (.aload_n 0, 1) := by decide +kernel
theorem d_Xx_drop_38 : decode prog_1_method_5_code 38 = .ok (.iload_n 3, 1) := by decide +kernel
theorem d_Xx_drop_39 : decode prog_1_method_5_code 39 = .ok (.invokevirtual 91, 3) := by decide +kernel
theorem d_Xx_drop_42 : decode prog_1_method_5_code 42 = .ok (.ireturn, 1) := by decide +kernel
set_option maxHeartbeats 2000000 in
theorem Xx_drop_c {l : Launch} {θ : tv_Th} (F : Nat) (a1 : Int32) (M : tv_M) : tv_Ct l θ ⟨"TiedViews", "drop", "(I)I"⟩ prog_1_method_5_code 4 (some .int) 2 tv_ei [.ref (θ.1 + 0), .int a1] M (Xx_drop F a1 M) := by
  refine tv_ofG [some (.ref (θ.1 + 0)), some (.int a1), none, none] rfl rfl (tv_ent 2 rfl) ?_
  intro κ hl ht hC hR
  subst hl; subst ht
  unfold Xx_drop
  refine g_aload_n hC d_Xx_drop_0 rfl ?_
  refine g_iload_n hC d_Xx_drop_1 rfl ?_
  refine gv_callVr hC [.int a1] cw_Xx_79 (Xx_sheetAt_c F a1 M) lc_0 rfl rfl rfl rfl rfl rfl rfl d_Xx_drop_2 (fun r1 M2 => ?_)
  refine g_astore_nQ (ls' := [some (.ref (κ.b + 0)), some (.int a1), some (tv_re κ.b r1), none]) hC d_Xx_drop_5 rfl rfl ?_
  refine g_aload_nQ hC d_Xx_drop_6 rfl ?_
  rcases r1 with _ | p3
  · refine g_ifnonnullN hC d_Xx_drop_7 ?_
    refine g_ldc hC d_Xx_drop_10 wk_Xx_83 ?_
    exact g_iret hC hR d_Xx_drop_12
  · refine g_ifnonnullR (tgt := 13) hC d_Xx_drop_7 (by decide) ?_
    refine g_gl (fun h4 => ?_)
    refine g_aload_n hC d_Xx_drop_13 rfl ?_
    refine gv_callVi hC [] cw_Xx_94 (Sh_isMissing_c F p3 M2) h4 rfl rfl rfl rfl rfl rfl rfl d_Xx_drop_14 (fun r5 M6 => ?_)
    refine g_if_eq (tgt := 26) hC d_Xx_drop_17 (by decide) (fun _ => ?_) (fun _ => ?_)
    · refine g_aload_n hC d_Xx_drop_26 rfl ?_
      refine fg_Xx_119 hC h4 d_Xx_drop_27 ?_
      refine g_istore_n (ls' := [some (.ref (κ.b + 0)), some (.int a1), some (.ref (κ.b + p3)), some (.int (M6.1 p3 1))]) hC d_Xx_drop_30 rfl rfl ?_
      refine g_aload_n hC d_Xx_drop_31 rfl ?_
      refine g_iconst hC d_Xx_drop_32 k_im1 ?_
      refine g_iconst hC d_Xx_drop_33 k_i0 ?_
      refine gv_callVv hC [.int (-1), .int 0] cw_Xx_87 (Sh_begin_c F p3 (-1) 0 M6) h4 rfl rfl rfl rfl rfl rfl rfl d_Xx_drop_34 (fun r7 M8 => ?_)
      refine g_aload_n hC d_Xx_drop_37 rfl ?_
      refine g_iload_n hC d_Xx_drop_38 rfl ?_
      refine gv_callVi hC [.int (M6.1 p3 1)] cw_Xx_91 (Xx_passed_c F (M6.1 p3 1) M8) lc_0 rfl rfl rfl rfl rfl rfl rfl d_Xx_drop_39 (fun r9 M10 => ?_)
      exact g_iret hC hR d_Xx_drop_42
    · refine g_aload_n hC d_Xx_drop_20 rfl ?_
      refine g_iconst hC d_Xx_drop_21 k_i1 ?_
      refine gv_callVi hC [.int 1] cw_Xx_84 (Xx_found_c F 1 M6) lc_0 rfl rfl rfl rfl rfl rfl rfl d_Xx_drop_22 (fun r11 M12 => ?_)
      exact g_iret hC hR d_Xx_drop_25
theorem d_Re_hasRoomFor_0 : decode prog_8_method_2_code 0 = .ok (.iload_n 1, 1) := by decide +kernel
theorem d_Re_hasRoomFor_1 : decode prog_8_method_2_code 1 = .ok (.sipush 500, 3) := by decide +kernel
theorem d_Re_hasRoomFor_4 : decode prog_8_method_2_code 4 = .ok (.aload_n 0, 1) := by decide +kernel
theorem d_Re_hasRoomFor_5 : decode prog_8_method_2_code 5 = .ok (.getfield 19, 3) := by decide +kernel
theorem d_Re_hasRoomFor_8 : decode prog_8_method_2_code 8 = .ok (.isub, 1) := by decide +kernel
theorem d_Re_hasRoomFor_9 : decode prog_8_method_2_code 9 = .ok (.if_icmp .gt 7, 3) := by decide +kernel
theorem d_Re_hasRoomFor_12 : decode prog_8_method_2_code 12 = .ok (.iconst 1, 1) := by decide +kernel
theorem d_Re_hasRoomFor_13 : decode prog_8_method_2_code 13 = .ok (.goto 4, 3) := by decide +kernel
theorem d_Re_hasRoomFor_16 : decode prog_8_method_2_code 16 = .ok (.iconst 0, 1) := by decide +kernel
theorem d_Re_hasRoomFor_17 : decode prog_8_method_2_code 17 = .ok (.ireturn, 1) := by decide +kernel
set_option maxHeartbeats 2000000 in
theorem Re_hasRoomFor_c {l : Launch} {θ : tv_Th} (F : Nat) (a1 : Int32) (M : tv_M) : tv_Ct l θ ⟨"TiedViews$Reader", "hasRoomFor", "(I)Z"⟩ prog_8_method_2_code 2 (some .boolean) 0 tv_ei [.ref (θ.1 + 68), .int a1] M (Re_hasRoomFor F a1 M) := by
  refine tv_ofG [some (.ref (θ.1 + 68)), some (.int a1)] rfl rfl (tv_ent 0 rfl) ?_
  intro κ hl ht hC hR
  subst hl; subst ht
  unfold Re_hasRoomFor
  refine g_iload_n hC d_Re_hasRoomFor_0 rfl ?_
  refine g_sipush hC d_Re_hasRoomFor_1 k_s500 ?_
  refine g_aload_n hC d_Re_hasRoomFor_4 rfl ?_
  refine fg_Re_19 hC lc_68 d_Re_hasRoomFor_5 ?_
  refine g_isub hC d_Re_hasRoomFor_8 ?_
  refine g_icmp_gt (tgt := 16) hC d_Re_hasRoomFor_9 (by decide) (fun _ => ?_) (fun _ => ?_)
  · refine g_iconst hC d_Re_hasRoomFor_16 k_i0 ?_
    exact g_zret hC hR tv_z0 d_Re_hasRoomFor_17
  · refine g_iconst hC d_Re_hasRoomFor_12 k_i1 ?_
    refine g_goto (tgt := 17) hC d_Re_hasRoomFor_13 (by decide) ?_
    exact g_zret hC hR tv_z1 d_Re_hasRoomFor_17
theorem d_Re_append_0 : decode prog_8_method_3_code 0 = .ok (.iload_n 3, 1) := by decide +kernel
theorem d_Re_append_1 : decode prog_8_method_3_code 1 = .ok (.iconst 1, 1) := by decide +kernel
theorem d_Re_append_2 : decode prog_8_method_3_code 2 = .ok (.isub, 1) := by decide +kernel
theorem d_Re_append_3 : decode prog_8_method_3_code 3 = .ok (.istore 4, 2) := by decide +kernel
theorem d_Re_append_5 : decode prog_8_method_3_code 5 = .ok (.iload 4, 2) := by decide +kernel
theorem d_Re_append_7 : decode prog_8_method_3_code 7 = .ok (.ifCond .lt 47, 3) := by decide +kernel
theorem d_Re_append_10 : decode prog_8_method_3_code 10 = .ok (.aload_n 0, 1) := by decide +kernel
theorem d_Re_append_11 : decode prog_8_method_3_code 11 = .ok (.getfield 19, 3) := by decide +kernel
theorem d_Re_append_14 : decode prog_8_method_3_code 14 = .ok (.sipush 500, 3) := by decide +kernel
theorem d_Re_append_17 : decode prog_8_method_3_code 17 = .ok (.if_icmp .ge 37, 3) := by decide +kernel
theorem d_Re_append_20 : decode prog_8_method_3_code 20 = .ok (.aload_n 0, 1) := by decide +kernel
theorem d_Re_append_21 : decode prog_8_method_3_code 21 = .ok (.getfield 9, 3) := by decide +kernel
theorem d_Re_append_24 : decode prog_8_method_3_code 24 = .ok (.aload_n 0, 1) := by decide +kernel
theorem d_Re_append_25 : decode prog_8_method_3_code 25 = .ok (.getfield 19, 3) := by decide +kernel
theorem d_Re_append_28 : decode prog_8_method_3_code 28 = .ok (.lload_n 1, 1) := by decide +kernel
theorem d_Re_append_29 : decode prog_8_method_3_code 29 = .ok (.bipush 8, 2) := by decide +kernel
theorem d_Re_append_31 : decode prog_8_method_3_code 31 = .ok (.iload 4, 2) := by decide +kernel
theorem d_Re_append_33 : decode prog_8_method_3_code 33 = .ok (.imul, 1) := by decide +kernel
theorem d_Re_append_34 : decode prog_8_method_3_code 34 = .ok (.lshr, 1) := by decide +kernel
theorem d_Re_append_35 : decode prog_8_method_3_code 35 = .ok (.l2i, 1) := by decide +kernel
theorem d_Re_append_36 : decode prog_8_method_3_code 36 = .ok (.i2b, 1) := by decide +kernel
theorem d_Re_append_37 : decode prog_8_method_3_code 37 = .ok (.bastore, 1) := by decide +kernel
theorem d_Re_append_38 : decode prog_8_method_3_code 38 = .ok (.aload_n 0, 1) := by decide +kernel
theorem d_Re_append_39 : decode prog_8_method_3_code 39 = .ok (.dup, 1) := by decide +kernel
theorem d_Re_append_40 : decode prog_8_method_3_code 40 = .ok (.getfield 19, 3) := by decide +kernel
theorem d_Re_append_43 : decode prog_8_method_3_code 43 = .ok (.iconst 1, 1) := by decide +kernel
theorem d_Re_append_44 : decode prog_8_method_3_code 44 = .ok (.iadd, 1) := by decide +kernel
theorem d_Re_append_45 : decode prog_8_method_3_code 45 = .ok (.putfield 19, 3) := by decide +kernel
theorem d_Re_append_48 : decode prog_8_method_3_code 48 = .ok (.iinc 4 (-1), 3) := by decide +kernel
theorem d_Re_append_51 : decode prog_8_method_3_code 51 = .ok (.goto (-46), 3) := by decide +kernel
theorem d_Re_append_54 : decode prog_8_method_3_code 54 = .ok (.aload_n 0, 1) := by decide +kernel
theorem d_Re_append_55 : decode prog_8_method_3_code 55 = .ok (.getfield 19, 3) := by decide +kernel
theorem d_Re_append_58 : decode prog_8_method_3_code 58 = .ok (.ireturn, 1) := by decide +kernel
set_option maxHeartbeats 2000000 in
theorem Re_append_L5_g {κ : tv_Kt} (hC : tv_Cx κ "TiedViews$Reader" prog_8_method_3_code 5 0) (hR : tv_Re κ (some .int)) (F : Nat) : ∀ (n : Nat) (l1 : Int64) (l4 : Int32) (M : tv_M), tv_G κ 5 (tv_Qm κ tv_ei) 5 [some (.ref (κ.b + 68)), some (.long l1), none, none, some (.int l4)] [] M (Re_append_L5 F n l1 l4 M) := by
  intro n
  induction n with
  | zero => intro _ _ _; exact g_none
  | succ nn ih =>
    intro l1 l4 M
    rw [Re_append_L5]
    refine g_iload hC d_Re_append_5 rfl ?_
    refine g_if_lt (tgt := 54) hC d_Re_append_7 (by decide) (fun _ => ?_) (fun _ => ?_)
    · refine g_aload_n hC d_Re_append_54 rfl ?_
      refine fg_Re_19 hC lc_68 d_Re_append_55 ?_
      exact g_iret hC hR d_Re_append_58
    · refine g_aload_n hC d_Re_append_10 rfl ?_
      refine fg_Re_19 hC lc_68 d_Re_append_11 ?_
      refine g_sipush hC d_Re_append_14 k_s500 ?_
      refine g_icmp_ge (tgt := 54) hC d_Re_append_17 (by decide) (fun _ => ?_) (fun _ => ?_)
      · refine g_aload_n hC d_Re_append_54 rfl ?_
        refine fg_Re_19 hC lc_68 d_Re_append_55 ?_
        exact g_iret hC hR d_Re_append_58
      · refine g_aload_n hC d_Re_append_20 rfl ?_
        refine fg_Re_9 hC lc_68 d_Re_append_21 p0_68_1 ?_
        refine g_aload_n hC d_Re_append_24 rfl ?_
        refine fg_Re_19 hC lc_68 d_Re_append_25 ?_
        refine g_lload_n hC d_Re_append_28 rfl ?_
        refine g_bipush hC d_Re_append_29 k_b8 ?_
        refine g_iload hC d_Re_append_31 rfl ?_
        refine g_imul hC d_Re_append_33 ?_
        refine g_lshr hC d_Re_append_34 ?_
        refine g_l2i hC d_Re_append_35 ?_
        refine g_i2b hC d_Re_append_36 ?_
        refine gv_bast hC ly_69 d_Re_append_37 (fun M1 => ?_)
        refine g_aload_n hC d_Re_append_38 rfl ?_
        refine g_dup hC d_Re_append_39 rfl ?_
        refine fg_Re_19 hC lc_68 d_Re_append_40 ?_
        refine g_iconst hC d_Re_append_43 k_i1 ?_
        refine g_iadd hC d_Re_append_44 ?_
        refine fp_Re_19 hC lc_68 d_Re_append_45 (fun M2 => ?_)
        refine g_iinc (ls' := [some (.ref (κ.b + 68)), some (.long l1), none, none, some (.int (l4 + (-1)))]) hC d_Re_append_48 rfl k_im1 rfl rfl ?_
        refine g_goto (tgt := 5) hC d_Re_append_51 (by decide) ?_
        exact ih l1 (l4 + (-1)) M2
set_option maxHeartbeats 2000000 in
theorem Re_append_c {l : Launch} {θ : tv_Th} (F : Nat) (a1 : Int64) (a3 : Int32) (M : tv_M) : tv_Ct l θ ⟨"TiedViews$Reader", "append", "(JI)I"⟩ prog_8_method_3_code 5 (some .int) 0 tv_ei [.ref (θ.1 + 68), .long a1, .int a3] M (Re_append F a1 a3 M) := by
  refine tv_ofG [some (.ref (θ.1 + 68)), some (.long a1), none, some (.int a3), none] rfl rfl (tv_ent 1 rfl) ?_
  intro κ hl ht hC hR
  subst hl; subst ht
  unfold Re_append
  refine g_iload_n hC d_Re_append_0 rfl ?_
  refine g_iconst hC d_Re_append_1 k_i1 ?_
  refine g_isub hC d_Re_append_2 ?_
  refine g_istore (ls' := [some (.ref (κ.b + 68)), some (.long a1), none, some (.int a3), some (.int (a3 - 1))]) hC d_Re_append_3 rfl rfl ?_
  refine g_mask [true, true, false, false, true] (ls' := [some (.ref (κ.b + 68)), some (.long a1), none, none, some (.int (a3 - 1))]) rfl ?_
  exact Re_append_L5_g hC hR F F a1 (a3 - 1) M
theorem d_Xx_feed_0 : decode prog_1_method_6_code 0 = .ok (.iload_n 3, 1) := by decide +kernel
theorem d_Xx_feed_1 : decode prog_1_method_6_code 1 = .ok (.iconst 1, 1) := by decide +kernel
theorem d_Xx_feed_2 : decode prog_1_method_6_code 2 = .ok (.if_icmp .lt 9, 3) := by decide +kernel
theorem d_Xx_feed_5 : decode prog_1_method_6_code 5 = .ok (.iload_n 3, 1) := by decide +kernel
theorem d_Xx_feed_6 : decode prog_1_method_6_code 6 = .ok (.bipush 8, 2) := by decide +kernel
theorem d_Xx_feed_8 : decode prog_1_method_6_code 8 = .ok (.if_icmp .le 6, 3) := by decide +kernel
theorem d_Xx_feed_11 : decode prog_1_method_6_code 11 = .ok (.ldc 83, 2) := by decide +kernel
theorem d_Xx_feed_13 : decode prog_1_method_6_code 13 = .ok (.ireturn, 1) := by decide +kernel
theorem d_Xx_feed_14 : decode prog_1_method_6_code 14 = .ok (.aload_n 0, 1) := by decide +kernel
theorem d_Xx_feed_15 : decode prog_1_method_6_code 15 = .ok (.getfield 38, 3) := by decide +kernel
theorem d_Xx_feed_18 : decode prog_1_method_6_code 18 = .ok (.iload_n 3, 1) := by decide +kernel
theorem d_Xx_feed_19 : decode prog_1_method_6_code 19 = .ok (.invokevirtual 122, 3) := by decide +kernel
theorem d_Xx_feed_22 : decode prog_1_method_6_code 22 = .ok (.ifCond .ne 6, 3) := by decide +kernel
theorem d_Xx_feed_25 : decode prog_1_method_6_code 25 = .ok (.ldc 126, 2) := by decide +kernel
theorem d_Xx_feed_27 : decode prog_1_method_6_code 27 = .ok (.ireturn, 1) := by decide +kernel
theorem d_Xx_feed_28 : decode prog_1_method_6_code 28 = .ok (.aload_n 0, 1) := by decide +kernel
theorem d_Xx_feed_29 : decode prog_1_method_6_code 29 = .ok (.getfield 38, 3) := by decide +kernel
theorem d_Xx_feed_32 : decode prog_1_method_6_code 32 = .ok (.lload_n 1, 1) := by decide +kernel
theorem d_Xx_feed_33 : decode prog_1_method_6_code 33 = .ok (.iload_n 3, 1) := by decide +kernel
theorem d_Xx_feed_34 : decode prog_1_method_6_code 34 = .ok (.invokevirtual 127, 3) := by decide +kernel
theorem d_Xx_feed_37 : decode prog_1_method_6_code 37 = .ok (.ireturn, 1) := by decide +kernel
set_option maxHeartbeats 2000000 in
theorem Xx_feed_c {l : Launch} {θ : tv_Th} (F : Nat) (a1 : Int64) (a3 : Int32) (M : tv_M) : tv_Ct l θ ⟨"TiedViews", "feed", "(JI)I"⟩ prog_1_method_6_code 4 (some .int) 1 tv_ei [.ref (θ.1 + 0), .long a1, .int a3] M (Xx_feed F a1 a3 M) := by
  refine tv_ofG [some (.ref (θ.1 + 0)), some (.long a1), none, some (.int a3)] rfl rfl (tv_ent 0 rfl) ?_
  intro κ hl ht hC hR
  subst hl; subst ht
  unfold Xx_feed
  refine g_iload_n hC d_Xx_feed_0 rfl ?_
  refine g_iconst hC d_Xx_feed_1 k_i1 ?_
  refine g_icmp_lt (tgt := 11) hC d_Xx_feed_2 (by decide) (fun _ => ?_) (fun _ => ?_)
  · refine g_ldc hC d_Xx_feed_11 wk_Xx_83 ?_
    exact g_iret hC hR d_Xx_feed_13
  · refine g_iload_n hC d_Xx_feed_5 rfl ?_
    refine g_bipush hC d_Xx_feed_6 k_b8 ?_
    refine g_icmp_le (tgt := 14) hC d_Xx_feed_8 (by decide) (fun _ => ?_) (fun _ => ?_)
    · refine g_aload_n hC d_Xx_feed_14 rfl ?_
      refine fg_Xx_38 hC lc_0 d_Xx_feed_15 p0_0_3 ?_
      refine g_iload_n hC d_Xx_feed_18 rfl ?_
      refine gv_callVi hC [.int a3] cw_Xx_122 (Re_hasRoomFor_c F a3 M) lc_68 rfl rfl rfl rfl rfl rfl rfl d_Xx_feed_19 (fun r1 M2 => ?_)
      refine g_if_ne (tgt := 28) hC d_Xx_feed_22 (by decide) (fun _ => ?_) (fun _ => ?_)
      · refine g_aload_n hC d_Xx_feed_28 rfl ?_
        refine fg_Xx_38 hC lc_0 d_Xx_feed_29 p0_0_3 ?_
        refine g_lload_n hC d_Xx_feed_32 rfl ?_
        refine g_iload_n hC d_Xx_feed_33 rfl ?_
        refine gv_callVi hC [.long a1, .int a3] cw_Xx_127 (Re_append_c F a1 a3 M2) lc_68 rfl rfl rfl rfl rfl rfl rfl d_Xx_feed_34 (fun r3 M4 => ?_)
        exact g_iret hC hR d_Xx_feed_37
      · refine g_ldc hC d_Xx_feed_25 wk_Xx_126 ?_
        exact g_iret hC hR d_Xx_feed_27
    · refine g_ldc hC d_Xx_feed_11 wk_Xx_83 ?_
      exact g_iret hC hR d_Xx_feed_13
theorem d_To_keep_0 : decode prog_12_method_2_code 0 = .ok (.aload_n 0, 1) := by decide +kernel
theorem d_To_keep_1 : decode prog_12_method_2_code 1 = .ok (.aload_n 0, 1) := by decide +kernel
theorem d_To_keep_2 : decode prog_12_method_2_code 2 = .ok (.getfield 35, 3) := by decide +kernel
theorem d_To_keep_5 : decode prog_12_method_2_code 5 = .ok (.putfield 38, 3) := by decide +kernel
theorem d_To_keep_8 : decode prog_12_method_2_code 8 = .ok (.aload_n 0, 1) := by decide +kernel
theorem d_To_keep_9 : decode prog_12_method_2_code 9 = .ok (.aload_n 0, 1) := by decide +kernel
theorem d_To_keep_10 : decode prog_12_method_2_code 10 = .ok (.getfield 41, 3) := by decide +kernel
theorem d_To_keep_13 : decode prog_12_method_2_code 13 = .ok (.putfield 44, 3) := by decide +kernel
theorem d_To_keep_16 : decode prog_12_method_2_code 16 = .ok (.aload_n 0, 1) := by decide +kernel
theorem d_To_keep_17 : decode prog_12_method_2_code 17 = .ok (.aload_n 0, 1) := by decide +kernel
theorem d_To_keep_18 : decode prog_12_method_2_code 18 = .ok (.getfield 47, 3) := by decide +kernel
theorem d_To_keep_21 : decode prog_12_method_2_code 21 = .ok (.putfield 50, 3) := by decide +kernel
theorem d_To_keep_24 : decode prog_12_method_2_code 24 = .ok (.aload_n 0, 1) := by decide +kernel
theorem d_To_keep_25 : decode prog_12_method_2_code 25 = .ok (.aload_n 0, 1) := by decide +kernel
theorem d_To_keep_26 : decode prog_12_method_2_code 26 = .ok (.getfield 53, 3) := by decide +kernel
theorem d_To_keep_29 : decode prog_12_method_2_code 29 = .ok (.putfield 56, 3) := by decide +kernel
theorem d_To_keep_32 : decode prog_12_method_2_code 32 = .ok (.aload_n 0, 1) := by decide +kernel
theorem d_To_keep_33 : decode prog_12_method_2_code 33 = .ok (.aload_n 0, 1) := by decide +kernel
theorem d_To_keep_34 : decode prog_12_method_2_code 34 = .ok (.getfield 59, 3) := by decide +kernel
theorem d_To_keep_37 : decode prog_12_method_2_code 37 = .ok (.putfield 62, 3) := by decide +kernel
theorem d_To_keep_40 : decode prog_12_method_2_code 40 = .ok (.return_, 1) := by decide +kernel
set_option maxHeartbeats 2000000 in
theorem To_keep_c {l : Launch} {θ : tv_Th} (F : Nat) (M : tv_M) : tv_Ct l θ ⟨"TiedViews$Told", "keep", "()V"⟩ prog_12_method_2_code 1 none 0 tv_ev [.ref (θ.1 + 18)] M (To_keep F M) := by
  refine tv_ofG [some (.ref (θ.1 + 18))] rfl rfl (tv_ent 0 rfl) ?_
  intro κ hl ht hC hR
  subst hl; subst ht
  unfold To_keep
  refine g_aload_n hC d_To_keep_0 rfl ?_
  refine g_aload_n hC d_To_keep_1 rfl ?_
  refine fg_To_35 hC lc_18 d_To_keep_2 ?_
  refine fp_To_38 hC lc_18 d_To_keep_5 (fun M1 => ?_)
  refine g_aload_n hC d_To_keep_8 rfl ?_
  refine g_aload_n hC d_To_keep_9 rfl ?_
  refine fg_To_41 hC lc_18 d_To_keep_10 ?_
  refine fp_To_44 hC lc_18 d_To_keep_13 (fun M2 => ?_)
  refine g_aload_n hC d_To_keep_16 rfl ?_
  refine g_aload_n hC d_To_keep_17 rfl ?_
  refine fg_To_47 hC lc_18 d_To_keep_18 ?_
  refine fp_To_50 hC lc_18 d_To_keep_21 (fun M3 => ?_)
  refine g_aload_n hC d_To_keep_24 rfl ?_
  refine g_aload_n hC d_To_keep_25 rfl ?_
  refine fg_To_53 hC lc_18 d_To_keep_26 ?_
  refine fp_To_56 hC lc_18 d_To_keep_29 (fun M4 => ?_)
  refine g_aload_n hC d_To_keep_32 rfl ?_
  refine g_aload_n hC d_To_keep_33 rfl ?_
  refine fg_To_59 hC lc_18 d_To_keep_34 ?_
  refine fp_To_62 hC lc_18 d_To_keep_37 (fun M5 => ?_)
  exact g_vret hC hR d_To_keep_40
theorem d_Re_passRun_0 : decode prog_8_method_7_code 0 = .ok (.aload_n 0, 1) := by decide +kernel
theorem d_Re_passRun_1 : decode prog_8_method_7_code 1 = .ok (.getfield 28, 3) := by decide +kernel
theorem d_Re_passRun_4 : decode prog_8_method_7_code 4 = .ok (.aload_n 0, 1) := by decide +kernel
theorem d_Re_passRun_5 : decode prog_8_method_7_code 5 = .ok (.getfield 19, 3) := by decide +kernel
theorem d_Re_passRun_8 : decode prog_8_method_7_code 8 = .ok (.if_icmp .ge 42, 3) := by decide +kernel
theorem d_Re_passRun_11 : decode prog_8_method_7_code 11 = .ok (.aload_n 0, 1) := by decide +kernel
theorem d_Re_passRun_12 : decode prog_8_method_7_code 12 = .ok (.getfield 9, 3) := by decide +kernel
theorem d_Re_passRun_15 : decode prog_8_method_7_code 15 = .ok (.aload_n 0, 1) := by decide +kernel
theorem d_Re_passRun_16 : decode prog_8_method_7_code 16 = .ok (.getfield 28, 3) := by decide +kernel
theorem d_Re_passRun_19 : decode prog_8_method_7_code 19 = .ok (.baload, 1) := by decide +kernel
theorem d_Re_passRun_20 : decode prog_8_method_7_code 20 = .ok (.iload_n 1, 1) := by decide +kernel
theorem d_Re_passRun_21 : decode prog_8_method_7_code 21 = .ok (.if_icmp .lt 29, 3) := by decide +kernel
theorem d_Re_passRun_24 : decode prog_8_method_7_code 24 = .ok (.aload_n 0, 1) := by decide +kernel
theorem d_Re_passRun_25 : decode prog_8_method_7_code 25 = .ok (.getfield 9, 3) := by decide +kernel
theorem d_Re_passRun_28 : decode prog_8_method_7_code 28 = .ok (.aload_n 0, 1) := by decide +kernel
theorem d_Re_passRun_29 : decode prog_8_method_7_code 29 = .ok (.getfield 28, 3) := by decide +kernel
theorem d_Re_passRun_32 : decode prog_8_method_7_code 32 = .ok (.baload, 1) := by decide +kernel
theorem d_Re_passRun_33 : decode prog_8_method_7_code 33 = .ok (.iload_n 2, 1) := by decide +kernel
theorem d_Re_passRun_34 : decode prog_8_method_7_code 34 = .ok (.if_icmp .gt 16, 3) := by decide +kernel
theorem d_Re_passRun_37 : decode prog_8_method_7_code 37 = .ok (.aload_n 0, 1) := by decide +kernel
theorem d_Re_passRun_38 : decode prog_8_method_7_code 38 = .ok (.dup, 1) := by decide +kernel
theorem d_Re_passRun_39 : decode prog_8_method_7_code 39 = .ok (.getfield 28, 3) := by decide +kernel
theorem d_Re_passRun_42 : decode prog_8_method_7_code 42 = .ok (.iconst 1, 1) := by decide +kernel
theorem d_Re_passRun_43 : decode prog_8_method_7_code 43 = .ok (.iadd, 1) := by decide +kernel
theorem d_Re_passRun_44 : decode prog_8_method_7_code 44 = .ok (.putfield 28, 3) := by decide +kernel
theorem d_Re_passRun_47 : decode prog_8_method_7_code 47 = .ok (.goto (-47), 3) := by decide +kernel
theorem d_Re_passRun_50 : decode prog_8_method_7_code 50 = .ok (.aload_n 0, 1) := by decide +kernel
theorem d_Re_passRun_51 : decode prog_8_method_7_code 51 = .ok (.getfield 28, 3) := by decide +kernel
theorem d_Re_passRun_54 : decode prog_8_method_7_code 54 = .ok (.aload_n 0, 1) := by decide +kernel
theorem d_Re_passRun_55 : decode prog_8_method_7_code 55 = .ok (.getfield 44, 3) := by decide +kernel
theorem d_Re_passRun_58 : decode prog_8_method_7_code 58 = .ok (.if_icmp .le 7, 3) := by decide +kernel
theorem d_Re_passRun_61 : decode prog_8_method_7_code 61 = .ok (.iconst 1, 1) := by decide +kernel
theorem d_Re_passRun_62 : decode prog_8_method_7_code 62 = .ok (.goto 4, 3) := by decide +kernel
theorem d_Re_passRun_65 : decode prog_8_method_7_code 65 = .ok (.iconst 0, 1) := by decide +kernel
theorem d_Re_passRun_66 : decode prog_8_method_7_code 66 = .ok (.ireturn, 1) := by decide +kernel
set_option maxHeartbeats 2000000 in
theorem Re_passRun_L0_g {κ : tv_Kt} (hC : tv_Cx κ "TiedViews$Reader" prog_8_method_7_code 3 0) (hR : tv_Re κ (some .boolean)) (F : Nat) : ∀ (n : Nat) (l1 : Int32) (l2 : Int32) (M : tv_M), tv_G κ 3 (tv_Qm κ tv_ei) 0 [some (.ref (κ.b + 68)), some (.int l1), some (.int l2)] [] M (Re_passRun_L0 F n l1 l2 M) := by
  intro n
  induction n with
  | zero => intro _ _ _; exact g_none
  | succ nn ih =>
    intro l1 l2 M
    rw [Re_passRun_L0]
    refine g_aload_n hC d_Re_passRun_0 rfl ?_
    refine fg_Re_28 hC lc_68 d_Re_passRun_1 ?_
    refine g_aload_n hC d_Re_passRun_4 rfl ?_
    refine fg_Re_19 hC lc_68 d_Re_passRun_5 ?_
    refine g_icmp_ge (tgt := 50) hC d_Re_passRun_8 (by decide) (fun _ => ?_) (fun _ => ?_)
    · refine g_aload_n hC d_Re_passRun_50 rfl ?_
      refine fg_Re_28 hC lc_68 d_Re_passRun_51 ?_
      refine g_aload_n hC d_Re_passRun_54 rfl ?_
      refine fg_Re_44 hC lc_68 d_Re_passRun_55 ?_
      refine g_icmp_le (tgt := 65) hC d_Re_passRun_58 (by decide) (fun _ => ?_) (fun _ => ?_)
      · refine g_iconst hC d_Re_passRun_65 k_i0 ?_
        exact g_zret hC hR tv_z0 d_Re_passRun_66
      · refine g_iconst hC d_Re_passRun_61 k_i1 ?_
        refine g_goto (tgt := 66) hC d_Re_passRun_62 (by decide) ?_
        exact g_zret hC hR tv_z1 d_Re_passRun_66
    · refine g_aload_n hC d_Re_passRun_11 rfl ?_
      refine fg_Re_9 hC lc_68 d_Re_passRun_12 p0_68_1 ?_
      refine g_aload_n hC d_Re_passRun_15 rfl ?_
      refine fg_Re_28 hC lc_68 d_Re_passRun_16 ?_
      refine gv_bald hC ly_69 d_Re_passRun_19 (fun x1 => ?_)
      refine g_iload_n hC d_Re_passRun_20 rfl ?_
      refine g_icmp_lt (tgt := 50) hC d_Re_passRun_21 (by decide) (fun _ => ?_) (fun _ => ?_)
      · refine g_aload_n hC d_Re_passRun_50 rfl ?_
        refine fg_Re_28 hC lc_68 d_Re_passRun_51 ?_
        refine g_aload_n hC d_Re_passRun_54 rfl ?_
        refine fg_Re_44 hC lc_68 d_Re_passRun_55 ?_
        refine g_icmp_le (tgt := 65) hC d_Re_passRun_58 (by decide) (fun _ => ?_) (fun _ => ?_)
        · refine g_iconst hC d_Re_passRun_65 k_i0 ?_
          exact g_zret hC hR tv_z0 d_Re_passRun_66
        · refine g_iconst hC d_Re_passRun_61 k_i1 ?_
          refine g_goto (tgt := 66) hC d_Re_passRun_62 (by decide) ?_
          exact g_zret hC hR tv_z1 d_Re_passRun_66
      · refine g_aload_n hC d_Re_passRun_24 rfl ?_
        refine fg_Re_9 hC lc_68 d_Re_passRun_25 p0_68_1 ?_
        refine g_aload_n hC d_Re_passRun_28 rfl ?_
        refine fg_Re_28 hC lc_68 d_Re_passRun_29 ?_
        refine gv_bald hC ly_69 d_Re_passRun_32 (fun x2 => ?_)
        refine g_iload_n hC d_Re_passRun_33 rfl ?_
        refine g_icmp_gt (tgt := 50) hC d_Re_passRun_34 (by decide) (fun _ => ?_) (fun _ => ?_)
        · refine g_aload_n hC d_Re_passRun_50 rfl ?_
          refine fg_Re_28 hC lc_68 d_Re_passRun_51 ?_
          refine g_aload_n hC d_Re_passRun_54 rfl ?_
          refine fg_Re_44 hC lc_68 d_Re_passRun_55 ?_
          refine g_icmp_le (tgt := 65) hC d_Re_passRun_58 (by decide) (fun _ => ?_) (fun _ => ?_)
          · refine g_iconst hC d_Re_passRun_65 k_i0 ?_
            exact g_zret hC hR tv_z0 d_Re_passRun_66
          · refine g_iconst hC d_Re_passRun_61 k_i1 ?_
            refine g_goto (tgt := 66) hC d_Re_passRun_62 (by decide) ?_
            exact g_zret hC hR tv_z1 d_Re_passRun_66
        · refine g_aload_n hC d_Re_passRun_37 rfl ?_
          refine g_dup hC d_Re_passRun_38 rfl ?_
          refine fg_Re_28 hC lc_68 d_Re_passRun_39 ?_
          refine g_iconst hC d_Re_passRun_42 k_i1 ?_
          refine g_iadd hC d_Re_passRun_43 ?_
          refine fp_Re_28 hC lc_68 d_Re_passRun_44 (fun M3 => ?_)
          refine g_goto (tgt := 0) hC d_Re_passRun_47 (by decide) ?_
          exact ih l1 l2 M3
set_option maxHeartbeats 2000000 in
theorem Re_passRun_c {l : Launch} {θ : tv_Th} (F : Nat) (a1 : Int32) (a2 : Int32) (M : tv_M) : tv_Ct l θ ⟨"TiedViews$Reader", "passRun", "(CC)Z"⟩ prog_8_method_7_code 3 (some .boolean) 0 tv_ei [.ref (θ.1 + 68), .int a1, .int a2] M (Re_passRun F a1 a2 M) := by
  refine tv_ofG [some (.ref (θ.1 + 68)), some (.int a1), some (.int a2)] rfl rfl (tv_ent 0 rfl) ?_
  intro κ hl ht hC hR
  subst hl; subst ht
  unfold Re_passRun
  exact Re_passRun_L0_g hC hR F F a1 a2 M
theorem d_Re_figuresValue_0 : decode prog_8_method_8_code 0 = .ok (.iconst 0, 1) := by decide +kernel
theorem d_Re_figuresValue_1 : decode prog_8_method_8_code 1 = .ok (.istore_n 1, 1) := by decide +kernel
theorem d_Re_figuresValue_2 : decode prog_8_method_8_code 2 = .ok (.aload_n 0, 1) := by decide +kernel
theorem d_Re_figuresValue_3 : decode prog_8_method_8_code 3 = .ok (.getfield 44, 3) := by decide +kernel
theorem d_Re_figuresValue_6 : decode prog_8_method_8_code 6 = .ok (.istore_n 2, 1) := by decide +kernel
theorem d_Re_figuresValue_7 : decode prog_8_method_8_code 7 = .ok (.iload_n 2, 1) := by decide +kernel
theorem d_Re_figuresValue_8 : decode prog_8_method_8_code 8 = .ok (.aload_n 0, 1) := by decide +kernel
theorem d_Re_figuresValue_9 : decode prog_8_method_8_code 9 = .ok (.getfield 28, 3) := by decide +kernel
theorem d_Re_figuresValue_12 : decode prog_8_method_8_code 12 = .ok (.if_icmp .ge 34, 3) := by decide +kernel
theorem d_Re_figuresValue_15 : decode prog_8_method_8_code 15 = .ok (.iload_n 2, 1) := by decide +kernel
theorem d_Re_figuresValue_16 : decode prog_8_method_8_code 16 = .ok (.aload_n 0, 1) := by decide +kernel
theorem d_Re_figuresValue_17 : decode prog_8_method_8_code 17 = .ok (.getfield 44, 3) := by decide +kernel
theorem d_Re_figuresValue_20 : decode prog_8_method_8_code 20 = .ok (.iconst 3, 1) := by decide +kernel
theorem d_Re_figuresValue_21 : decode prog_8_method_8_code 21 = .ok (.iadd, 1) := by decide +kernel
theorem d_Re_figuresValue_22 : decode prog_8_method_8_code 22 = .ok (.if_icmp .ge 24, 3) := by decide +kernel
theorem d_Re_figuresValue_25 : decode prog_8_method_8_code 25 = .ok (.iload_n 1, 1) := by decide +kernel
theorem d_Re_figuresValue_26 : decode prog_8_method_8_code 26 = .ok (.bipush 10, 2) := by decide +kernel
theorem d_Re_figuresValue_28 : decode prog_8_method_8_code 28 = .ok (.imul, 1) := by decide +kernel
theorem d_Re_figuresValue_29 : decode prog_8_method_8_code 29 = .ok (.aload_n 0, 1) := by decide +kernel
theorem d_Re_figuresValue_30 : decode prog_8_method_8_code 30 = .ok (.getfield 9, 3) := by decide +kernel
theorem d_Re_figuresValue_33 : decode prog_8_method_8_code 33 = .ok (.iload_n 2, 1) := by decide +kernel
theorem d_Re_figuresValue_34 : decode prog_8_method_8_code 34 = .ok (.baload, 1) := by decide +kernel
theorem d_Re_figuresValue_35 : decode prog_8_method_8_code 35 = .ok (.iadd, 1) := by decide +kernel
theorem d_Re_figuresValue_36 : decode prog_8_method_8_code 36 = .ok (.bipush 48, 2) := by decide +kernel
theorem d_Re_figuresValue_38 : decode prog_8_method_8_code 38 = .ok (.isub, 1) := by decide +kernel
theorem d_Re_figuresValue_39 : decode prog_8_method_8_code 39 = .ok (.istore_n 1, 1) := by decide +kernel
theorem d_Re_figuresValue_40 : decode prog_8_method_8_code 40 = .ok (.iinc 2 1, 3) := by decide +kernel
theorem d_Re_figuresValue_43 : decode prog_8_method_8_code 43 = .ok (.goto (-36), 3) := by decide +kernel
theorem d_Re_figuresValue_46 : decode prog_8_method_8_code 46 = .ok (.iload_n 1, 1) := by decide +kernel
theorem d_Re_figuresValue_47 : decode prog_8_method_8_code 47 = .ok (.ireturn, 1) := by decide +kernel
set_option maxHeartbeats 2000000 in
theorem Re_figuresValue_L7_g {κ : tv_Kt} (hC : tv_Cx κ "TiedViews$Reader" prog_8_method_8_code 3 0) (hR : tv_Re κ (some .int)) (F : Nat) : ∀ (n : Nat) (l1 : Int32) (l2 : Int32) (M : tv_M), tv_G κ 3 (tv_Qm κ tv_ei) 7 [some (.ref (κ.b + 68)), some (.int l1), some (.int l2)] [] M (Re_figuresValue_L7 F n l1 l2 M) := by
  intro n
  induction n with
  | zero => intro _ _ _; exact g_none
  | succ nn ih =>
    intro l1 l2 M
    rw [Re_figuresValue_L7]
    refine g_iload_n hC d_Re_figuresValue_7 rfl ?_
    refine g_aload_n hC d_Re_figuresValue_8 rfl ?_
    refine fg_Re_28 hC lc_68 d_Re_figuresValue_9 ?_
    refine g_icmp_ge (tgt := 46) hC d_Re_figuresValue_12 (by decide) (fun _ => ?_) (fun _ => ?_)
    · refine g_iload_n hC d_Re_figuresValue_46 rfl ?_
      exact g_iret hC hR d_Re_figuresValue_47
    · refine g_iload_n hC d_Re_figuresValue_15 rfl ?_
      refine g_aload_n hC d_Re_figuresValue_16 rfl ?_
      refine fg_Re_44 hC lc_68 d_Re_figuresValue_17 ?_
      refine g_iconst hC d_Re_figuresValue_20 k_i3 ?_
      refine g_iadd hC d_Re_figuresValue_21 ?_
      refine g_icmp_ge (tgt := 46) hC d_Re_figuresValue_22 (by decide) (fun _ => ?_) (fun _ => ?_)
      · refine g_iload_n hC d_Re_figuresValue_46 rfl ?_
        exact g_iret hC hR d_Re_figuresValue_47
      · refine g_iload_n hC d_Re_figuresValue_25 rfl ?_
        refine g_bipush hC d_Re_figuresValue_26 k_b10 ?_
        refine g_imul hC d_Re_figuresValue_28 ?_
        refine g_aload_n hC d_Re_figuresValue_29 rfl ?_
        refine fg_Re_9 hC lc_68 d_Re_figuresValue_30 p0_68_1 ?_
        refine g_iload_n hC d_Re_figuresValue_33 rfl ?_
        refine gv_bald hC ly_69 d_Re_figuresValue_34 (fun x1 => ?_)
        refine g_iadd hC d_Re_figuresValue_35 ?_
        refine g_bipush hC d_Re_figuresValue_36 k_b48 ?_
        refine g_isub hC d_Re_figuresValue_38 ?_
        refine g_istore_n (ls' := [some (.ref (κ.b + 68)), some (.int (((l1 * 10) + x1) - 48)), some (.int l2)]) hC d_Re_figuresValue_39 rfl rfl ?_
        refine g_iinc (ls' := [some (.ref (κ.b + 68)), some (.int (((l1 * 10) + x1) - 48)), some (.int (l2 + 1))]) hC d_Re_figuresValue_40 rfl k_i1 rfl rfl ?_
        refine g_goto (tgt := 7) hC d_Re_figuresValue_43 (by decide) ?_
        exact ih (((l1 * 10) + x1) - 48) (l2 + 1) M
set_option maxHeartbeats 2000000 in
theorem Re_figuresValue_c {l : Launch} {θ : tv_Th} (F : Nat) (M : tv_M) : tv_Ct l θ ⟨"TiedViews$Reader", "figuresValue", "()I"⟩ prog_8_method_8_code 3 (some .int) 0 tv_ei [.ref (θ.1 + 68)] M (Re_figuresValue F M) := by
  refine tv_ofG [some (.ref (θ.1 + 68)), none, none] rfl rfl (tv_ent 2 rfl) ?_
  intro κ hl ht hC hR
  subst hl; subst ht
  unfold Re_figuresValue
  refine g_iconst hC d_Re_figuresValue_0 k_i0 ?_
  refine g_istore_n (ls' := [some (.ref (κ.b + 68)), some (.int 0), none]) hC d_Re_figuresValue_1 rfl rfl ?_
  refine g_aload_n hC d_Re_figuresValue_2 rfl ?_
  refine fg_Re_44 hC lc_68 d_Re_figuresValue_3 ?_
  refine g_istore_n (ls' := [some (.ref (κ.b + 68)), some (.int 0), some (.int (M.1 68 5))]) hC d_Re_figuresValue_6 rfl rfl ?_
  exact Re_figuresValue_L7_g hC hR F F 0 (M.1 68 5) M
theorem d_Re_goOn_0 : decode prog_8_method_6_code 0 = .ok (.aload_n 0, 1) := by decide +kernel
theorem d_Re_goOn_1 : decode prog_8_method_6_code 1 = .ok (.getfield 28, 3) := by decide +kernel
theorem d_Re_goOn_4 : decode prog_8_method_6_code 4 = .ok (.aload_n 0, 1) := by decide +kernel
theorem d_Re_goOn_5 : decode prog_8_method_6_code 5 = .ok (.getfield 19, 3) := by decide +kernel
theorem d_Re_goOn_8 : decode prog_8_method_6_code 8 = .ok (.if_icmp .ge 44, 3) := by decide +kernel
theorem d_Re_goOn_11 : decode prog_8_method_6_code 11 = .ok (.aload_n 0, 1) := by decide +kernel
theorem d_Re_goOn_12 : decode prog_8_method_6_code 12 = .ok (.getfield 9, 3) := by decide +kernel
theorem d_Re_goOn_15 : decode prog_8_method_6_code 15 = .ok (.aload_n 0, 1) := by decide +kernel
theorem d_Re_goOn_16 : decode prog_8_method_6_code 16 = .ok (.getfield 28, 3) := by decide +kernel
theorem d_Re_goOn_19 : decode prog_8_method_6_code 19 = .ok (.baload, 1) := by decide +kernel
theorem d_Re_goOn_20 : decode prog_8_method_6_code 20 = .ok (.bipush 32, 2) := by decide +kernel
theorem d_Re_goOn_22 : decode prog_8_method_6_code 22 = .ok (.if_icmp .eq 17, 3) := by decide +kernel
theorem d_Re_goOn_25 : decode prog_8_method_6_code 25 = .ok (.aload_n 0, 1) := by decide +kernel
theorem d_Re_goOn_26 : decode prog_8_method_6_code 26 = .ok (.getfield 9, 3) := by decide +kernel
theorem d_Re_goOn_29 : decode prog_8_method_6_code 29 = .ok (.aload_n 0, 1) := by decide +kernel
theorem d_Re_goOn_30 : decode prog_8_method_6_code 30 = .ok (.getfield 28, 3) := by decide +kernel
theorem d_Re_goOn_33 : decode prog_8_method_6_code 33 = .ok (.baload, 1) := by decide +kernel
theorem d_Re_goOn_34 : decode prog_8_method_6_code 34 = .ok (.bipush 10, 2) := by decide +kernel
theorem d_Re_goOn_36 : decode prog_8_method_6_code 36 = .ok (.if_icmp .ne 16, 3) := by decide +kernel
theorem d_Re_goOn_39 : decode prog_8_method_6_code 39 = .ok (.aload_n 0, 1) := by decide +kernel
theorem d_Re_goOn_40 : decode prog_8_method_6_code 40 = .ok (.dup, 1) := by decide +kernel
theorem d_Re_goOn_41 : decode prog_8_method_6_code 41 = .ok (.getfield 28, 3) := by decide +kernel
theorem d_Re_goOn_44 : decode prog_8_method_6_code 44 = .ok (.iconst 1, 1) := by decide +kernel
theorem d_Re_goOn_45 : decode prog_8_method_6_code 45 = .ok (.iadd, 1) := by decide +kernel
theorem d_Re_goOn_46 : decode prog_8_method_6_code 46 = .ok (.putfield 28, 3) := by decide +kernel
theorem d_Re_goOn_49 : decode prog_8_method_6_code 49 = .ok (.goto (-49), 3) := by decide +kernel
theorem d_Re_goOn_52 : decode prog_8_method_6_code 52 = .ok (.aload_n 0, 1) := by decide +kernel
theorem d_Re_goOn_53 : decode prog_8_method_6_code 53 = .ok (.aload_n 0, 1) := by decide +kernel
theorem d_Re_goOn_54 : decode prog_8_method_6_code 54 = .ok (.getfield 28, 3) := by decide +kernel
theorem d_Re_goOn_57 : decode prog_8_method_6_code 57 = .ok (.putfield 44, 3) := by decide +kernel
theorem d_Re_goOn_60 : decode prog_8_method_6_code 60 = .ok (.aload_n 0, 1) := by decide +kernel
theorem d_Re_goOn_61 : decode prog_8_method_6_code 61 = .ok (.getfield 44, 3) := by decide +kernel
theorem d_Re_goOn_64 : decode prog_8_method_6_code 64 = .ok (.aload_n 0, 1) := by decide +kernel
theorem d_Re_goOn_65 : decode prog_8_method_6_code 65 = .ok (.getfield 19, 3) := by decide +kernel
theorem d_Re_goOn_68 : decode prog_8_method_6_code 68 = .ok (.if_icmp .lt 11, 3) := by decide +kernel
theorem d_Re_goOn_71 : decode prog_8_method_6_code 71 = .ok (.aload_n 0, 1) := by decide +kernel
theorem d_Re_goOn_72 : decode prog_8_method_6_code 72 = .ok (.iconst 0, 1) := by decide +kernel
theorem d_Re_goOn_73 : decode prog_8_method_6_code 73 = .ok (.putfield 34, 3) := by decide +kernel
theorem d_Re_goOn_76 : decode prog_8_method_6_code 76 = .ok (.goto 121, 3) := by decide +kernel
theorem d_Re_goOn_79 : decode prog_8_method_6_code 79 = .ok (.aload_n 0, 1) := by decide +kernel
theorem d_Re_goOn_80 : decode prog_8_method_6_code 80 = .ok (.bipush 97, 2) := by decide +kernel
theorem d_Re_goOn_82 : decode prog_8_method_6_code 82 = .ok (.bipush 122, 2) := by decide +kernel
theorem d_Re_goOn_84 : decode prog_8_method_6_code 84 = .ok (.invokevirtual 50, 3) := by decide +kernel
theorem d_Re_goOn_87 : decode prog_8_method_6_code 87 = .ok (.ifCond .eq 11, 3) := by decide +kernel
theorem d_Re_goOn_90 : decode prog_8_method_6_code 90 = .ok (.aload_n 0, 1) := by decide +kernel
theorem d_Re_goOn_91 : decode prog_8_method_6_code 91 = .ok (.iconst 1, 1) := by decide +kernel
theorem d_Re_goOn_92 : decode prog_8_method_6_code 92 = .ok (.putfield 34, 3) := by decide +kernel
theorem d_Re_goOn_95 : decode prog_8_method_6_code 95 = .ok (.goto 102, 3) := by decide +kernel
theorem d_Re_goOn_98 : decode prog_8_method_6_code 98 = .ok (.aload_n 0, 1) := by decide +kernel
theorem d_Re_goOn_99 : decode prog_8_method_6_code 99 = .ok (.bipush 48, 2) := by decide +kernel
theorem d_Re_goOn_101 : decode prog_8_method_6_code 101 = .ok (.bipush 57, 2) := by decide +kernel
theorem d_Re_goOn_103 : decode prog_8_method_6_code 103 = .ok (.invokevirtual 50, 3) := by decide +kernel
theorem d_Re_goOn_106 : decode prog_8_method_6_code 106 = .ok (.ifCond .eq 36, 3) := by decide +kernel
theorem d_Re_goOn_109 : decode prog_8_method_6_code 109 = .ok (.aload_n 0, 1) := by decide +kernel
theorem d_Re_goOn_110 : decode prog_8_method_6_code 110 = .ok (.aload_n 0, 1) := by decide +kernel
theorem d_Re_goOn_111 : decode prog_8_method_6_code 111 = .ok (.getfield 28, 3) := by decide +kernel
theorem d_Re_goOn_114 : decode prog_8_method_6_code 114 = .ok (.aload_n 0, 1) := by decide +kernel
theorem d_Re_goOn_115 : decode prog_8_method_6_code 115 = .ok (.getfield 44, 3) := by decide +kernel
theorem d_Re_goOn_118 : decode prog_8_method_6_code 118 = .ok (.isub, 1) := by decide +kernel
theorem d_Re_goOn_119 : decode prog_8_method_6_code 119 = .ok (.iconst 3, 1) := by decide +kernel
theorem d_Re_goOn_120 : decode prog_8_method_6_code 120 = .ok (.if_icmp .le 7, 3) := by decide +kernel
theorem d_Re_goOn_123 : decode prog_8_method_6_code 123 = .ok (.iconst 3, 1) := by decide +kernel
theorem d_Re_goOn_124 : decode prog_8_method_6_code 124 = .ok (.goto 4, 3) := by decide +kernel
theorem d_Re_goOn_127 : decode prog_8_method_6_code 127 = .ok (.iconst 2, 1) := by decide +kernel
theorem d_Re_goOn_128 : decode prog_8_method_6_code 128 = .ok (.putfield 34, 3) := by decide +kernel
theorem d_Re_goOn_131 : decode prog_8_method_6_code 131 = .ok (.aload_n 0, 1) := by decide +kernel
theorem d_Re_goOn_132 : decode prog_8_method_6_code 132 = .ok (.aload_n 0, 1) := by decide +kernel
theorem d_Re_goOn_133 : decode prog_8_method_6_code 133 = .ok (.invokevirtual 54, 3) := by decide +kernel
theorem d_Re_goOn_136 : decode prog_8_method_6_code 136 = .ok (.putfield 58, 3) := by decide +kernel
theorem d_Re_goOn_139 : decode prog_8_method_6_code 139 = .ok (.goto 58, 3) := by decide +kernel
theorem d_Re_goOn_142 : decode prog_8_method_6_code 142 = .ok (.aload_n 0, 1) := by decide +kernel
theorem d_Re_goOn_143 : decode prog_8_method_6_code 143 = .ok (.aload_n 0, 1) := by decide +kernel
theorem d_Re_goOn_144 : decode prog_8_method_6_code 144 = .ok (.getfield 9, 3) := by decide +kernel
theorem d_Re_goOn_147 : decode prog_8_method_6_code 147 = .ok (.aload_n 0, 1) := by decide +kernel
theorem d_Re_goOn_148 : decode prog_8_method_6_code 148 = .ok (.getfield 44, 3) := by decide +kernel
theorem d_Re_goOn_151 : decode prog_8_method_6_code 151 = .ok (.baload, 1) := by decide +kernel
theorem d_Re_goOn_152 : decode prog_8_method_6_code 152 = .ok (.bipush 59, 2) := by decide +kernel
theorem d_Re_goOn_154 : decode prog_8_method_6_code 154 = .ok (.if_icmp .eq 17, 3) := by decide +kernel
theorem d_Re_goOn_157 : decode prog_8_method_6_code 157 = .ok (.aload_n 0, 1) := by decide +kernel
theorem d_Re_goOn_158 : decode prog_8_method_6_code 158 = .ok (.getfield 9, 3) := by decide +kernel
theorem d_Re_goOn_161 : decode prog_8_method_6_code 161 = .ok (.aload_n 0, 1) := by decide +kernel
theorem d_Re_goOn_162 : decode prog_8_method_6_code 162 = .ok (.getfield 44, 3) := by decide +kernel
theorem d_Re_goOn_165 : decode prog_8_method_6_code 165 = .ok (.baload, 1) := by decide +kernel
theorem d_Re_goOn_166 : decode prog_8_method_6_code 166 = .ok (.bipush 44, 2) := by decide +kernel
theorem d_Re_goOn_168 : decode prog_8_method_6_code 168 = .ok (.if_icmp .ne 15, 3) := by decide +kernel
theorem d_Re_goOn_171 : decode prog_8_method_6_code 171 = .ok (.aload_n 0, 1) := by decide +kernel
theorem d_Re_goOn_172 : decode prog_8_method_6_code 172 = .ok (.getfield 9, 3) := by decide +kernel
theorem d_Re_goOn_175 : decode prog_8_method_6_code 175 = .ok (.aload_n 0, 1) := by decide +kernel
theorem d_Re_goOn_176 : decode prog_8_method_6_code 176 = .ok (.getfield 44, 3) := by decide +kernel
theorem d_Re_goOn_179 : decode prog_8_method_6_code 179 = .ok (.baload, 1) := by decide +kernel
theorem d_Re_goOn_180 : decode prog_8_method_6_code 180 = .ok (.goto 4, 3) := by decide +kernel
theorem d_Re_goOn_183 : decode prog_8_method_6_code 183 = .ok (.iconst 3, 1) := by decide +kernel
theorem d_Re_goOn_184 : decode prog_8_method_6_code 184 = .ok (.putfield 34, 3) := by decide +kernel
theorem d_Re_goOn_187 : decode prog_8_method_6_code 187 = .ok (.aload_n 0, 1) := by decide +kernel
theorem d_Re_goOn_188 : decode prog_8_method_6_code 188 = .ok (.aload_n 0, 1) := by decide +kernel
theorem d_Re_goOn_189 : decode prog_8_method_6_code 189 = .ok (.getfield 44, 3) := by decide +kernel
theorem d_Re_goOn_192 : decode prog_8_method_6_code 192 = .ok (.iconst 1, 1) := by decide +kernel
theorem d_Re_goOn_193 : decode prog_8_method_6_code 193 = .ok (.iadd, 1) := by decide +kernel
theorem d_Re_goOn_194 : decode prog_8_method_6_code 194 = .ok (.putfield 28, 3) := by decide +kernel
theorem d_Re_goOn_197 : decode prog_8_method_6_code 197 = .ok (.return_, 1) := by decide +kernel
set_option maxHeartbeats 2000000 in
theorem Re_goOn_L52_g {κ : tv_Kt} (hC : tv_Cx κ "TiedViews$Reader" prog_8_method_6_code 1 1) (hR : tv_Re κ none) (F : Nat) (M : tv_M) : tv_G κ 1 (tv_Qm κ tv_ev) 52 [some (.ref (κ.b + 68))] [] M (Re_goOn_L52 F M) := by
  rw [Re_goOn_L52]
  refine g_aload_n hC d_Re_goOn_52 rfl ?_
  refine g_aload_n hC d_Re_goOn_53 rfl ?_
  refine fg_Re_28 hC lc_68 d_Re_goOn_54 ?_
  refine fp_Re_44 hC lc_68 d_Re_goOn_57 (fun M5 => ?_)
  refine g_aload_n hC d_Re_goOn_60 rfl ?_
  refine fg_Re_44 hC lc_68 d_Re_goOn_61 ?_
  refine g_aload_n hC d_Re_goOn_64 rfl ?_
  refine fg_Re_19 hC lc_68 d_Re_goOn_65 ?_
  refine g_icmp_lt (tgt := 79) hC d_Re_goOn_68 (by decide) (fun _ => ?_) (fun _ => ?_)
  · refine g_aload_n hC d_Re_goOn_79 rfl ?_
    refine g_bipush hC d_Re_goOn_80 k_b97 ?_
    refine g_bipush hC d_Re_goOn_82 k_b122 ?_
    refine gv_callVi hC [.int 97, .int 122] cw_Re_50 (Re_passRun_c F 97 122 M5) lc_68 rfl rfl rfl rfl rfl rfl rfl d_Re_goOn_84 (fun r6 M7 => ?_)
    refine g_if_eq (tgt := 98) hC d_Re_goOn_87 (by decide) (fun _ => ?_) (fun _ => ?_)
    · refine g_aload_n hC d_Re_goOn_98 rfl ?_
      refine g_bipush hC d_Re_goOn_99 k_b48 ?_
      refine g_bipush hC d_Re_goOn_101 k_b57 ?_
      refine gv_callVi hC [.int 48, .int 57] cw_Re_50 (Re_passRun_c F 48 57 M7) lc_68 rfl rfl rfl rfl rfl rfl rfl d_Re_goOn_103 (fun r8 M9 => ?_)
      refine g_if_eq (tgt := 142) hC d_Re_goOn_106 (by decide) (fun _ => ?_) (fun _ => ?_)
      · refine g_aload_n hC d_Re_goOn_142 rfl ?_
        refine g_aload_n hC d_Re_goOn_143 rfl ?_
        refine fg_Re_9 hC lc_68 d_Re_goOn_144 p0_68_1 ?_
        refine g_aload_n hC d_Re_goOn_147 rfl ?_
        refine fg_Re_44 hC lc_68 d_Re_goOn_148 ?_
        refine gv_bald hC ly_69 d_Re_goOn_151 (fun x10 => ?_)
        refine g_bipush hC d_Re_goOn_152 k_b59 ?_
        refine g_icmp_eq (tgt := 171) hC d_Re_goOn_154 (by decide) (fun _ => ?_) (fun _ => ?_)
        · refine g_aload_n hC d_Re_goOn_171 rfl ?_
          refine fg_Re_9 hC lc_68 d_Re_goOn_172 p0_68_1 ?_
          refine g_aload_n hC d_Re_goOn_175 rfl ?_
          refine fg_Re_44 hC lc_68 d_Re_goOn_176 ?_
          refine gv_bald hC ly_69 d_Re_goOn_179 (fun x11 => ?_)
          refine g_goto (tgt := 184) hC d_Re_goOn_180 (by decide) ?_
          refine fp_Re_34 hC lc_68 d_Re_goOn_184 (fun M12 => ?_)
          refine g_aload_n hC d_Re_goOn_187 rfl ?_
          refine g_aload_n hC d_Re_goOn_188 rfl ?_
          refine fg_Re_44 hC lc_68 d_Re_goOn_189 ?_
          refine g_iconst hC d_Re_goOn_192 k_i1 ?_
          refine g_iadd hC d_Re_goOn_193 ?_
          refine fp_Re_28 hC lc_68 d_Re_goOn_194 (fun M13 => ?_)
          exact g_vret hC hR d_Re_goOn_197
        · refine g_aload_n hC d_Re_goOn_157 rfl ?_
          refine fg_Re_9 hC lc_68 d_Re_goOn_158 p0_68_1 ?_
          refine g_aload_n hC d_Re_goOn_161 rfl ?_
          refine fg_Re_44 hC lc_68 d_Re_goOn_162 ?_
          refine gv_bald hC ly_69 d_Re_goOn_165 (fun x14 => ?_)
          refine g_bipush hC d_Re_goOn_166 k_b44 ?_
          refine g_icmp_ne (tgt := 183) hC d_Re_goOn_168 (by decide) (fun _ => ?_) (fun _ => ?_)
          · refine g_iconst hC d_Re_goOn_183 k_i3 ?_
            refine fp_Re_34 hC lc_68 d_Re_goOn_184 (fun M15 => ?_)
            refine g_aload_n hC d_Re_goOn_187 rfl ?_
            refine g_aload_n hC d_Re_goOn_188 rfl ?_
            refine fg_Re_44 hC lc_68 d_Re_goOn_189 ?_
            refine g_iconst hC d_Re_goOn_192 k_i1 ?_
            refine g_iadd hC d_Re_goOn_193 ?_
            refine fp_Re_28 hC lc_68 d_Re_goOn_194 (fun M16 => ?_)
            exact g_vret hC hR d_Re_goOn_197
          · refine g_aload_n hC d_Re_goOn_171 rfl ?_
            refine fg_Re_9 hC lc_68 d_Re_goOn_172 p0_68_1 ?_
            refine g_aload_n hC d_Re_goOn_175 rfl ?_
            refine fg_Re_44 hC lc_68 d_Re_goOn_176 ?_
            refine gv_bald hC ly_69 d_Re_goOn_179 (fun x17 => ?_)
            refine g_goto (tgt := 184) hC d_Re_goOn_180 (by decide) ?_
            refine fp_Re_34 hC lc_68 d_Re_goOn_184 (fun M18 => ?_)
            refine g_aload_n hC d_Re_goOn_187 rfl ?_
            refine g_aload_n hC d_Re_goOn_188 rfl ?_
            refine fg_Re_44 hC lc_68 d_Re_goOn_189 ?_
            refine g_iconst hC d_Re_goOn_192 k_i1 ?_
            refine g_iadd hC d_Re_goOn_193 ?_
            refine fp_Re_28 hC lc_68 d_Re_goOn_194 (fun M19 => ?_)
            exact g_vret hC hR d_Re_goOn_197
      · refine g_aload_n hC d_Re_goOn_109 rfl ?_
        refine g_aload_n hC d_Re_goOn_110 rfl ?_
        refine fg_Re_28 hC lc_68 d_Re_goOn_111 ?_
        refine g_aload_n hC d_Re_goOn_114 rfl ?_
        refine fg_Re_44 hC lc_68 d_Re_goOn_115 ?_
        refine g_isub hC d_Re_goOn_118 ?_
        refine g_iconst hC d_Re_goOn_119 k_i3 ?_
        refine g_icmp_le (tgt := 127) hC d_Re_goOn_120 (by decide) (fun _ => ?_) (fun _ => ?_)
        · refine g_iconst hC d_Re_goOn_127 k_i2 ?_
          refine fp_Re_34 hC lc_68 d_Re_goOn_128 (fun M20 => ?_)
          refine g_aload_n hC d_Re_goOn_131 rfl ?_
          refine g_aload_n hC d_Re_goOn_132 rfl ?_
          refine gv_callVi hC [] cw_Re_54 (Re_figuresValue_c F M20) lc_68 rfl rfl rfl rfl rfl rfl rfl d_Re_goOn_133 (fun r21 M22 => ?_)
          refine fp_Re_58 hC lc_68 d_Re_goOn_136 (fun M23 => ?_)
          refine g_goto (tgt := 197) hC d_Re_goOn_139 (by decide) ?_
          exact g_vret hC hR d_Re_goOn_197
        · refine g_iconst hC d_Re_goOn_123 k_i3 ?_
          refine g_goto (tgt := 128) hC d_Re_goOn_124 (by decide) ?_
          refine fp_Re_34 hC lc_68 d_Re_goOn_128 (fun M24 => ?_)
          refine g_aload_n hC d_Re_goOn_131 rfl ?_
          refine g_aload_n hC d_Re_goOn_132 rfl ?_
          refine gv_callVi hC [] cw_Re_54 (Re_figuresValue_c F M24) lc_68 rfl rfl rfl rfl rfl rfl rfl d_Re_goOn_133 (fun r25 M26 => ?_)
          refine fp_Re_58 hC lc_68 d_Re_goOn_136 (fun M27 => ?_)
          refine g_goto (tgt := 197) hC d_Re_goOn_139 (by decide) ?_
          exact g_vret hC hR d_Re_goOn_197
    · refine g_aload_n hC d_Re_goOn_90 rfl ?_
      refine g_iconst hC d_Re_goOn_91 k_i1 ?_
      refine fp_Re_34 hC lc_68 d_Re_goOn_92 (fun M28 => ?_)
      refine g_goto (tgt := 197) hC d_Re_goOn_95 (by decide) ?_
      exact g_vret hC hR d_Re_goOn_197
  · refine g_aload_n hC d_Re_goOn_71 rfl ?_
    refine g_iconst hC d_Re_goOn_72 k_i0 ?_
    refine fp_Re_34 hC lc_68 d_Re_goOn_73 (fun M29 => ?_)
    refine g_goto (tgt := 197) hC d_Re_goOn_76 (by decide) ?_
    exact g_vret hC hR d_Re_goOn_197
set_option maxHeartbeats 2000000 in
theorem Re_goOn_L0_g {κ : tv_Kt} (hC : tv_Cx κ "TiedViews$Reader" prog_8_method_6_code 1 1) (hR : tv_Re κ none) (F : Nat) : ∀ (n : Nat) (M : tv_M), tv_G κ 1 (tv_Qm κ tv_ev) 0 [some (.ref (κ.b + 68))] [] M (Re_goOn_L0 F n M) := by
  intro n
  induction n with
  | zero => intro _; exact g_none
  | succ nn ih =>
    intro M
    rw [Re_goOn_L0]
    refine g_aload_n hC d_Re_goOn_0 rfl ?_
    refine fg_Re_28 hC lc_68 d_Re_goOn_1 ?_
    refine g_aload_n hC d_Re_goOn_4 rfl ?_
    refine fg_Re_19 hC lc_68 d_Re_goOn_5 ?_
    refine g_icmp_ge (tgt := 52) hC d_Re_goOn_8 (by decide) (fun _ => ?_) (fun _ => ?_)
    · exact Re_goOn_L52_g hC hR F M
    · refine g_aload_n hC d_Re_goOn_11 rfl ?_
      refine fg_Re_9 hC lc_68 d_Re_goOn_12 p0_68_1 ?_
      refine g_aload_n hC d_Re_goOn_15 rfl ?_
      refine fg_Re_28 hC lc_68 d_Re_goOn_16 ?_
      refine gv_bald hC ly_69 d_Re_goOn_19 (fun x1 => ?_)
      refine g_bipush hC d_Re_goOn_20 k_b32 ?_
      refine g_icmp_eq (tgt := 39) hC d_Re_goOn_22 (by decide) (fun _ => ?_) (fun _ => ?_)
      · refine g_aload_n hC d_Re_goOn_39 rfl ?_
        refine g_dup hC d_Re_goOn_40 rfl ?_
        refine fg_Re_28 hC lc_68 d_Re_goOn_41 ?_
        refine g_iconst hC d_Re_goOn_44 k_i1 ?_
        refine g_iadd hC d_Re_goOn_45 ?_
        refine fp_Re_28 hC lc_68 d_Re_goOn_46 (fun M2 => ?_)
        refine g_goto (tgt := 0) hC d_Re_goOn_49 (by decide) ?_
        exact ih M2
      · refine g_aload_n hC d_Re_goOn_25 rfl ?_
        refine fg_Re_9 hC lc_68 d_Re_goOn_26 p0_68_1 ?_
        refine g_aload_n hC d_Re_goOn_29 rfl ?_
        refine fg_Re_28 hC lc_68 d_Re_goOn_30 ?_
        refine gv_bald hC ly_69 d_Re_goOn_33 (fun x3 => ?_)
        refine g_bipush hC d_Re_goOn_34 k_b10 ?_
        refine g_icmp_ne (tgt := 52) hC d_Re_goOn_36 (by decide) (fun _ => ?_) (fun _ => ?_)
        · exact Re_goOn_L52_g hC hR F M
        · refine g_aload_n hC d_Re_goOn_39 rfl ?_
          refine g_dup hC d_Re_goOn_40 rfl ?_
          refine fg_Re_28 hC lc_68 d_Re_goOn_41 ?_
          refine g_iconst hC d_Re_goOn_44 k_i1 ?_
          refine g_iadd hC d_Re_goOn_45 ?_
          refine fp_Re_28 hC lc_68 d_Re_goOn_46 (fun M4 => ?_)
          refine g_goto (tgt := 0) hC d_Re_goOn_49 (by decide) ?_
          exact ih M4
set_option maxHeartbeats 2000000 in
theorem Re_goOn_c {l : Launch} {θ : tv_Th} (F : Nat) (M : tv_M) : tv_Ct l θ ⟨"TiedViews$Reader", "goOn", "()V"⟩ prog_8_method_6_code 1 none 1 tv_ev [.ref (θ.1 + 68)] M (Re_goOn F M) := by
  refine tv_ofG [some (.ref (θ.1 + 68))] rfl rfl (tv_ent 0 rfl) ?_
  intro κ hl ht hC hR
  subst hl; subst ht
  unfold Re_goOn
  exact Re_goOn_L0_g hC hR F F M
theorem d_Re_isWord_0 : decode prog_8_method_9_code 0 = .ok (.aload_n 0, 1) := by decide +kernel
theorem d_Re_isWord_1 : decode prog_8_method_9_code 1 = .ok (.getfield 34, 3) := by decide +kernel
theorem d_Re_isWord_4 : decode prog_8_method_9_code 4 = .ok (.iconst 1, 1) := by decide +kernel
theorem d_Re_isWord_5 : decode prog_8_method_9_code 5 = .ok (.if_icmp .ne 19, 3) := by decide +kernel
theorem d_Re_isWord_8 : decode prog_8_method_9_code 8 = .ok (.aload_n 0, 1) := by decide +kernel
theorem d_Re_isWord_9 : decode prog_8_method_9_code 9 = .ok (.getfield 28, 3) := by decide +kernel
theorem d_Re_isWord_12 : decode prog_8_method_9_code 12 = .ok (.aload_n 0, 1) := by decide +kernel
theorem d_Re_isWord_13 : decode prog_8_method_9_code 13 = .ok (.getfield 44, 3) := by decide +kernel
theorem d_Re_isWord_16 : decode prog_8_method_9_code 16 = .ok (.isub, 1) := by decide +kernel
theorem d_Re_isWord_17 : decode prog_8_method_9_code 17 = .ok (.aload_n 1, 1) := by decide +kernel
theorem d_Re_isWord_18 : decode prog_8_method_9_code 18 = .ok (.invokevirtual 61, 3) := by decide +kernel
theorem d_Re_isWord_21 : decode prog_8_method_9_code 21 = .ok (.if_icmp .eq 5, 3) := by decide +kernel
theorem d_Re_isWord_24 : decode prog_8_method_9_code 24 = .ok (.iconst 0, 1) := by decide +kernel
theorem d_Re_isWord_25 : decode prog_8_method_9_code 25 = .ok (.ireturn, 1) := by decide +kernel
theorem d_Re_isWord_26 : decode prog_8_method_9_code 26 = .ok (.iconst 0, 1) := by decide +kernel
theorem d_Re_isWord_27 : decode prog_8_method_9_code 27 = .ok (.istore_n 2, 1) := by decide +kernel
theorem d_Re_isWord_28 : decode prog_8_method_9_code 28 = .ok (.iload_n 2, 1) := by decide +kernel
theorem d_Re_isWord_29 : decode prog_8_method_9_code 29 = .ok (.aload_n 1, 1) := by decide +kernel
theorem d_Re_isWord_30 : decode prog_8_method_9_code 30 = .ok (.invokevirtual 61, 3) := by decide +kernel
theorem d_Re_isWord_33 : decode prog_8_method_9_code 33 = .ok (.if_icmp .ge 30, 3) := by decide +kernel
theorem d_Re_isWord_36 : decode prog_8_method_9_code 36 = .ok (.aload_n 0, 1) := by decide +kernel
theorem d_Re_isWord_37 : decode prog_8_method_9_code 37 = .ok (.getfield 9, 3) := by decide +kernel
theorem d_Re_isWord_40 : decode prog_8_method_9_code 40 = .ok (.aload_n 0, 1) := by decide +kernel
theorem d_Re_isWord_41 : decode prog_8_method_9_code 41 = .ok (.getfield 44, 3) := by decide +kernel
theorem d_Re_isWord_44 : decode prog_8_method_9_code 44 = .ok (.iload_n 2, 1) := by decide +kernel
theorem d_Re_isWord_45 : decode prog_8_method_9_code 45 = .ok (.iadd, 1) := by decide +kernel
theorem d_Re_isWord_46 : decode prog_8_method_9_code 46 = .ok (.baload, 1) := by decide +kernel
theorem d_Re_isWord_47 : decode prog_8_method_9_code 47 = .ok (.aload_n 1, 1) := by decide +kernel
theorem d_Re_isWord_48 : decode prog_8_method_9_code 48 = .ok (.iload_n 2, 1) := by decide +kernel
theorem d_Re_isWord_49 : decode prog_8_method_9_code 49 = .ok (.invokevirtual 65, 3) := by decide +kernel
theorem d_Re_isWord_52 : decode prog_8_method_9_code 52 = .ok (.if_icmp .eq 5, 3) := by decide +kernel
theorem d_Re_isWord_55 : decode prog_8_method_9_code 55 = .ok (.iconst 0, 1) := by decide +kernel
theorem d_Re_isWord_56 : decode prog_8_method_9_code 56 = .ok (.ireturn, 1) := by decide +kernel
theorem d_Re_isWord_57 : decode prog_8_method_9_code 57 = .ok (.iinc 2 1, 3) := by decide +kernel
theorem d_Re_isWord_60 : decode prog_8_method_9_code 60 = .ok (.goto (-32), 3) := by decide +kernel
theorem d_Re_isWord_63 : decode prog_8_method_9_code 63 = .ok (.iconst 1, 1) := by decide +kernel
theorem d_Re_isWord_64 : decode prog_8_method_9_code 64 = .ok (.ireturn, 1) := by decide +kernel
set_option maxHeartbeats 2000000 in
theorem Re_isWord_L28_g {κ : tv_Kt} (hC : tv_Cx κ "TiedViews$Reader" prog_8_method_9_code 3 4) (hR : tv_Re κ (some .boolean)) (F : Nat) : ∀ (n : Nat) (l1 : Nat) (l2 : Int32) (M : tv_M), tv_G κ 3 (tv_Qm κ tv_ei) 28 [some (.ref (κ.b + 68)), some (.ref (κ.th.2.2.2.1 l1)), some (.int l2)] [] M (Re_isWord_L28 F n l1 l2 M) := by
  intro n
  induction n with
  | zero => intro _ _ _; exact g_none
  | succ nn ih =>
    intro l1 l2 M
    rw [Re_isWord_L28]
    refine g_gs (fun hw => ?_)
    refine g_iload_n hC d_Re_isWord_28 rfl ?_
    refine g_aload_n hC d_Re_isWord_29 rfl ?_
    refine gv_callXi (w := l1) hC [] cw_Re_61 (Js_length_c F l1 M) hw rfl rfl rfl rfl rfl rfl d_Re_isWord_30 (fun r3 M4 => ?_)
    refine g_icmp_ge (tgt := 63) hC d_Re_isWord_33 (by decide) (fun _ => ?_) (fun _ => ?_)
    · refine g_iconst hC d_Re_isWord_63 k_i1 ?_
      exact g_zret hC hR tv_z1 d_Re_isWord_64
    · refine g_aload_n hC d_Re_isWord_36 rfl ?_
      refine fg_Re_9 hC lc_68 d_Re_isWord_37 p0_68_1 ?_
      refine g_aload_n hC d_Re_isWord_40 rfl ?_
      refine fg_Re_44 hC lc_68 d_Re_isWord_41 ?_
      refine g_iload_n hC d_Re_isWord_44 rfl ?_
      refine g_iadd hC d_Re_isWord_45 ?_
      refine gv_bald hC ly_69 d_Re_isWord_46 (fun x5 => ?_)
      refine g_aload_n hC d_Re_isWord_47 rfl ?_
      refine g_iload_n hC d_Re_isWord_48 rfl ?_
      refine gv_callXi (w := l1) hC [.int l2] cw_Re_65 (Js_charAt_c F l1 l2 M4) hw rfl rfl rfl rfl rfl rfl d_Re_isWord_49 (fun r6 M7 => ?_)
      refine g_icmp_eq (tgt := 57) hC d_Re_isWord_52 (by decide) (fun _ => ?_) (fun _ => ?_)
      · refine g_iinc (ls' := [some (.ref (κ.b + 68)), some (.ref (κ.th.2.2.2.1 l1)), some (.int (l2 + 1))]) hC d_Re_isWord_57 rfl k_i1 rfl rfl ?_
        refine g_goto (tgt := 28) hC d_Re_isWord_60 (by decide) ?_
        exact ih l1 (l2 + 1) M7
      · refine g_iconst hC d_Re_isWord_55 k_i0 ?_
        exact g_zret hC hR tv_z0 d_Re_isWord_56
set_option maxHeartbeats 2000000 in
theorem Re_isWord_c {l : Launch} {θ : tv_Th} (F : Nat) (a1 : Nat) (M : tv_M) : tv_Ct l θ ⟨"TiedViews$Reader", "isWord", "(Ljava/lang/String;)Z"⟩ prog_8_method_9_code 3 (some .boolean) 4 tv_ei [.ref (θ.1 + 68), .ref (θ.2.2.2.1 a1)] M (Re_isWord F a1 M) := by
  refine tv_ofG [some (.ref (θ.1 + 68)), some (.ref (θ.2.2.2.1 a1)), none] rfl rfl (tv_ent 1 rfl) ?_
  intro κ hl ht hC hR
  subst hl; subst ht
  unfold Re_isWord
  refine g_gs (fun hw => ?_)
  refine g_aload_n hC d_Re_isWord_0 rfl ?_
  refine fg_Re_34 hC lc_68 d_Re_isWord_1 ?_
  refine g_iconst hC d_Re_isWord_4 k_i1 ?_
  refine g_icmp_ne (tgt := 24) hC d_Re_isWord_5 (by decide) (fun _ => ?_) (fun _ => ?_)
  · refine g_iconst hC d_Re_isWord_24 k_i0 ?_
    exact g_zret hC hR tv_z0 d_Re_isWord_25
  · refine g_aload_n hC d_Re_isWord_8 rfl ?_
    refine fg_Re_28 hC lc_68 d_Re_isWord_9 ?_
    refine g_aload_n hC d_Re_isWord_12 rfl ?_
    refine fg_Re_44 hC lc_68 d_Re_isWord_13 ?_
    refine g_isub hC d_Re_isWord_16 ?_
    refine g_aload_n hC d_Re_isWord_17 rfl ?_
    refine gv_callXi (w := a1) hC [] cw_Re_61 (Js_length_c F a1 M) hw rfl rfl rfl rfl rfl rfl d_Re_isWord_18 (fun r1 M2 => ?_)
    refine g_icmp_eq (tgt := 26) hC d_Re_isWord_21 (by decide) (fun _ => ?_) (fun _ => ?_)
    · refine g_iconst hC d_Re_isWord_26 k_i0 ?_
      refine g_istore_n (ls' := [some (.ref (κ.b + 68)), some (.ref (κ.th.2.2.2.1 a1)), some (.int 0)]) hC d_Re_isWord_27 rfl rfl ?_
      exact Re_isWord_L28_g hC hR F F a1 0 M2
    · refine g_iconst hC d_Re_isWord_24 k_i0 ?_
      exact g_zret hC hR tv_z0 d_Re_isWord_25
theorem d_Re_fails_0 : decode prog_8_method_5_code 0 = .ok (.aload_n 0, 1) := by decide +kernel
theorem d_Re_fails_1 : decode prog_8_method_5_code 1 = .ok (.iload_n 1, 1) := by decide +kernel
theorem d_Re_fails_2 : decode prog_8_method_5_code 2 = .ok (.putfield 47, 3) := by decide +kernel
theorem d_Re_fails_5 : decode prog_8_method_5_code 5 = .ok (.iconst 0, 1) := by decide +kernel
theorem d_Re_fails_6 : decode prog_8_method_5_code 6 = .ok (.ireturn, 1) := by decide +kernel
set_option maxHeartbeats 2000000 in
theorem Re_fails_c {l : Launch} {θ : tv_Th} (F : Nat) (a1 : Int32) (M : tv_M) : tv_Ct l θ ⟨"TiedViews$Reader", "fails", "(I)Z"⟩ prog_8_method_5_code 2 (some .boolean) 0 tv_ei [.ref (θ.1 + 68), .int a1] M (Re_fails F a1 M) := by
  refine tv_ofG [some (.ref (θ.1 + 68)), some (.int a1)] rfl rfl (tv_ent 0 rfl) ?_
  intro κ hl ht hC hR
  subst hl; subst ht
  unfold Re_fails
  refine g_aload_n hC d_Re_fails_0 rfl ?_
  refine g_iload_n hC d_Re_fails_1 rfl ?_
  refine fp_Re_47 hC lc_68 d_Re_fails_2 (fun M1 => ?_)
  refine g_iconst hC d_Re_fails_5 k_i0 ?_
  exact g_zret hC hR tv_z0 d_Re_fails_6
theorem d_Re_takeSort_0 : decode prog_8_method_16_code 0 = .ok (.aload_n 0, 1) := by decide +kernel
theorem d_Re_takeSort_1 : decode prog_8_method_16_code 1 = .ok (.ldc 177, 2) := by decide +kernel
theorem d_Re_takeSort_3 : decode prog_8_method_16_code 3 = .ok (.invokevirtual 71, 3) := by decide +kernel
theorem d_Re_takeSort_6 : decode prog_8_method_16_code 6 = .ok (.ifCond .eq 11, 3) := by decide +kernel
theorem d_Re_takeSort_9 : decode prog_8_method_16_code 9 = .ok (.aload_n 0, 1) := by decide +kernel
theorem d_Re_takeSort_10 : decode prog_8_method_16_code 10 = .ok (.iconst 0, 1) := by decide +kernel
theorem d_Re_takeSort_11 : decode prog_8_method_16_code 11 = .ok (.putfield 98, 3) := by decide +kernel
theorem d_Re_takeSort_14 : decode prog_8_method_16_code 14 = .ok (.goto 60, 3) := by decide +kernel
theorem d_Re_takeSort_17 : decode prog_8_method_16_code 17 = .ok (.aload_n 0, 1) := by decide +kernel
theorem d_Re_takeSort_18 : decode prog_8_method_16_code 18 = .ok (.ldc 179, 2) := by decide +kernel
theorem d_Re_takeSort_20 : decode prog_8_method_16_code 20 = .ok (.invokevirtual 71, 3) := by decide +kernel
theorem d_Re_takeSort_23 : decode prog_8_method_16_code 23 = .ok (.ifCond .eq 11, 3) := by decide +kernel
theorem d_Re_takeSort_26 : decode prog_8_method_16_code 26 = .ok (.aload_n 0, 1) := by decide +kernel
theorem d_Re_takeSort_27 : decode prog_8_method_16_code 27 = .ok (.iconst 1, 1) := by decide +kernel
theorem d_Re_takeSort_28 : decode prog_8_method_16_code 28 = .ok (.putfield 98, 3) := by decide +kernel
theorem d_Re_takeSort_31 : decode prog_8_method_16_code 31 = .ok (.goto 43, 3) := by decide +kernel
theorem d_Re_takeSort_34 : decode prog_8_method_16_code 34 = .ok (.aload_n 0, 1) := by decide +kernel
theorem d_Re_takeSort_35 : decode prog_8_method_16_code 35 = .ok (.ldc 181, 2) := by decide +kernel
theorem d_Re_takeSort_37 : decode prog_8_method_16_code 37 = .ok (.invokevirtual 71, 3) := by decide +kernel
theorem d_Re_takeSort_40 : decode prog_8_method_16_code 40 = .ok (.ifCond .eq 11, 3) := by decide +kernel
theorem d_Re_takeSort_43 : decode prog_8_method_16_code 43 = .ok (.aload_n 0, 1) := by decide +kernel
theorem d_Re_takeSort_44 : decode prog_8_method_16_code 44 = .ok (.iconst 2, 1) := by decide +kernel
theorem d_Re_takeSort_45 : decode prog_8_method_16_code 45 = .ok (.putfield 98, 3) := by decide +kernel
theorem d_Re_takeSort_48 : decode prog_8_method_16_code 48 = .ok (.goto 26, 3) := by decide +kernel
theorem d_Re_takeSort_51 : decode prog_8_method_16_code 51 = .ok (.aload_n 0, 1) := by decide +kernel
theorem d_Re_takeSort_52 : decode prog_8_method_16_code 52 = .ok (.ldc 183, 2) := by decide +kernel
theorem d_Re_takeSort_54 : decode prog_8_method_16_code 54 = .ok (.invokevirtual 71, 3) := by decide +kernel
theorem d_Re_takeSort_57 : decode prog_8_method_16_code 57 = .ok (.ifCond .eq 11, 3) := by decide +kernel
theorem d_Re_takeSort_60 : decode prog_8_method_16_code 60 = .ok (.aload_n 0, 1) := by decide +kernel
theorem d_Re_takeSort_61 : decode prog_8_method_16_code 61 = .ok (.iconst 3, 1) := by decide +kernel
theorem d_Re_takeSort_62 : decode prog_8_method_16_code 62 = .ok (.putfield 98, 3) := by decide +kernel
theorem d_Re_takeSort_65 : decode prog_8_method_16_code 65 = .ok (.goto 9, 3) := by decide +kernel
theorem d_Re_takeSort_68 : decode prog_8_method_16_code 68 = .ok (.aload_n 0, 1) := by decide +kernel
theorem d_Re_takeSort_69 : decode prog_8_method_16_code 69 = .ok (.iconst 1, 1) := by decide +kernel
theorem d_Re_takeSort_70 : decode prog_8_method_16_code 70 = .ok (.invokevirtual 88, 3) := by decide +kernel
theorem d_Re_takeSort_73 : decode prog_8_method_16_code 73 = .ok (.ireturn, 1) := by decide +kernel
theorem d_Re_takeSort_74 : decode prog_8_method_16_code 74 = .ok (.aload_n 0, 1) := by decide +kernel
theorem d_Re_takeSort_75 : decode prog_8_method_16_code 75 = .ok (.invokevirtual 31, 3) := by decide +kernel
theorem d_Re_takeSort_78 : decode prog_8_method_16_code 78 = .ok (.iconst 1, 1) := by decide +kernel
theorem d_Re_takeSort_79 : decode prog_8_method_16_code 79 = .ok (.ireturn, 1) := by decide +kernel
set_option maxHeartbeats 2000000 in
theorem Re_takeSort_c {l : Launch} {θ : tv_Th} (F : Nat) (M : tv_M) : tv_Ct l θ ⟨"TiedViews$Reader", "takeSort", "()Z"⟩ prog_8_method_16_code 1 (some .boolean) 5 tv_ei [.ref (θ.1 + 68)] M (Re_takeSort F M) := by
  refine tv_ofG [some (.ref (θ.1 + 68))] rfl rfl (tv_ent 0 rfl) ?_
  intro κ hl ht hC hR
  subst hl; subst ht
  unfold Re_takeSort
  refine g_aload_n hC d_Re_takeSort_0 rfl ?_
  refine g_lds hC 1 rfl d_Re_takeSort_1 ?_
  refine gv_callVi hC [.ref (κ.th.2.2.2.1 1)] cw_Re_71 (Re_isWord_c F 1 M) lc_68 rfl rfl rfl rfl rfl rfl rfl d_Re_takeSort_3 (fun r1 M2 => ?_)
  refine g_if_eq (tgt := 17) hC d_Re_takeSort_6 (by decide) (fun _ => ?_) (fun _ => ?_)
  · refine g_aload_n hC d_Re_takeSort_17 rfl ?_
    refine g_lds hC 2 rfl d_Re_takeSort_18 ?_
    refine gv_callVi hC [.ref (κ.th.2.2.2.1 2)] cw_Re_71 (Re_isWord_c F 2 M2) lc_68 rfl rfl rfl rfl rfl rfl rfl d_Re_takeSort_20 (fun r3 M4 => ?_)
    refine g_if_eq (tgt := 34) hC d_Re_takeSort_23 (by decide) (fun _ => ?_) (fun _ => ?_)
    · refine g_aload_n hC d_Re_takeSort_34 rfl ?_
      refine g_lds hC 3 rfl d_Re_takeSort_35 ?_
      refine gv_callVi hC [.ref (κ.th.2.2.2.1 3)] cw_Re_71 (Re_isWord_c F 3 M4) lc_68 rfl rfl rfl rfl rfl rfl rfl d_Re_takeSort_37 (fun r5 M6 => ?_)
      refine g_if_eq (tgt := 51) hC d_Re_takeSort_40 (by decide) (fun _ => ?_) (fun _ => ?_)
      · refine g_aload_n hC d_Re_takeSort_51 rfl ?_
        refine g_lds hC 4 rfl d_Re_takeSort_52 ?_
        refine gv_callVi hC [.ref (κ.th.2.2.2.1 4)] cw_Re_71 (Re_isWord_c F 4 M6) lc_68 rfl rfl rfl rfl rfl rfl rfl d_Re_takeSort_54 (fun r7 M8 => ?_)
        refine g_if_eq (tgt := 68) hC d_Re_takeSort_57 (by decide) (fun _ => ?_) (fun _ => ?_)
        · refine g_aload_n hC d_Re_takeSort_68 rfl ?_
          refine g_iconst hC d_Re_takeSort_69 k_i1 ?_
          refine gv_callVi hC [.int 1] cw_Re_88 (Re_fails_c F 1 M8) lc_68 rfl rfl rfl rfl rfl rfl rfl d_Re_takeSort_70 (fun r9 M10 => ?_)
          refine g_zo (fun z11 => ?_)
          exact g_zret hC hR z11 d_Re_takeSort_73
        · refine g_aload_n hC d_Re_takeSort_60 rfl ?_
          refine g_iconst hC d_Re_takeSort_61 k_i3 ?_
          refine fp_Re_98 hC lc_68 d_Re_takeSort_62 (fun M12 => ?_)
          refine g_goto (tgt := 74) hC d_Re_takeSort_65 (by decide) ?_
          refine g_aload_n hC d_Re_takeSort_74 rfl ?_
          refine gv_callVv hC [] cw_Re_31 (Re_goOn_c F M12) lc_68 rfl rfl rfl rfl rfl rfl rfl d_Re_takeSort_75 (fun r13 M14 => ?_)
          refine g_iconst hC d_Re_takeSort_78 k_i1 ?_
          exact g_zret hC hR tv_z1 d_Re_takeSort_79
      · refine g_aload_n hC d_Re_takeSort_43 rfl ?_
        refine g_iconst hC d_Re_takeSort_44 k_i2 ?_
        refine fp_Re_98 hC lc_68 d_Re_takeSort_45 (fun M15 => ?_)
        refine g_goto (tgt := 74) hC d_Re_takeSort_48 (by decide) ?_
        refine g_aload_n hC d_Re_takeSort_74 rfl ?_
        refine gv_callVv hC [] cw_Re_31 (Re_goOn_c F M15) lc_68 rfl rfl rfl rfl rfl rfl rfl d_Re_takeSort_75 (fun r16 M17 => ?_)
        refine g_iconst hC d_Re_takeSort_78 k_i1 ?_
        exact g_zret hC hR tv_z1 d_Re_takeSort_79
    · refine g_aload_n hC d_Re_takeSort_26 rfl ?_
      refine g_iconst hC d_Re_takeSort_27 k_i1 ?_
      refine fp_Re_98 hC lc_68 d_Re_takeSort_28 (fun M18 => ?_)
      refine g_goto (tgt := 74) hC d_Re_takeSort_31 (by decide) ?_
      refine g_aload_n hC d_Re_takeSort_74 rfl ?_
      refine gv_callVv hC [] cw_Re_31 (Re_goOn_c F M18) lc_68 rfl rfl rfl rfl rfl rfl rfl d_Re_takeSort_75 (fun r19 M20 => ?_)
      refine g_iconst hC d_Re_takeSort_78 k_i1 ?_
      exact g_zret hC hR tv_z1 d_Re_takeSort_79
  · refine g_aload_n hC d_Re_takeSort_9 rfl ?_
    refine g_iconst hC d_Re_takeSort_10 k_i0 ?_
    refine fp_Re_98 hC lc_68 d_Re_takeSort_11 (fun M21 => ?_)
    refine g_goto (tgt := 74) hC d_Re_takeSort_14 (by decide) ?_
    refine g_aload_n hC d_Re_takeSort_74 rfl ?_
    refine gv_callVv hC [] cw_Re_31 (Re_goOn_c F M21) lc_68 rfl rfl rfl rfl rfl rfl rfl d_Re_takeSort_75 (fun r22 M23 => ?_)
    refine g_iconst hC d_Re_takeSort_78 k_i1 ?_
    exact g_zret hC hR tv_z1 d_Re_takeSort_79
theorem d_Re_takeNumber_0 : decode prog_8_method_17_code 0 = .ok (.aload_n 0, 1) := by decide +kernel
theorem d_Re_takeNumber_1 : decode prog_8_method_17_code 1 = .ok (.getfield 34, 3) := by decide +kernel
theorem d_Re_takeNumber_4 : decode prog_8_method_17_code 4 = .ok (.iconst 2, 1) := by decide +kernel
theorem d_Re_takeNumber_5 : decode prog_8_method_17_code 5 = .ok (.if_icmp .eq 9, 3) := by decide +kernel
theorem d_Re_takeNumber_8 : decode prog_8_method_17_code 8 = .ok (.aload_n 0, 1) := by decide +kernel
theorem d_Re_takeNumber_9 : decode prog_8_method_17_code 9 = .ok (.iconst 1, 1) := by decide +kernel
theorem d_Re_takeNumber_10 : decode prog_8_method_17_code 10 = .ok (.invokevirtual 88, 3) := by decide +kernel
theorem d_Re_takeNumber_13 : decode prog_8_method_17_code 13 = .ok (.ireturn, 1) := by decide +kernel
theorem d_Re_takeNumber_14 : decode prog_8_method_17_code 14 = .ok (.aload_n 0, 1) := by decide +kernel
theorem d_Re_takeNumber_15 : decode prog_8_method_17_code 15 = .ok (.getfield 58, 3) := by decide +kernel
theorem d_Re_takeNumber_18 : decode prog_8_method_17_code 18 = .ok (.iload_n 1, 1) := by decide +kernel
theorem d_Re_takeNumber_19 : decode prog_8_method_17_code 19 = .ok (.if_icmp .lt 11, 3) := by decide +kernel
theorem d_Re_takeNumber_22 : decode prog_8_method_17_code 22 = .ok (.aload_n 0, 1) := by decide +kernel
theorem d_Re_takeNumber_23 : decode prog_8_method_17_code 23 = .ok (.getfield 58, 3) := by decide +kernel
theorem d_Re_takeNumber_26 : decode prog_8_method_17_code 26 = .ok (.iload_n 2, 1) := by decide +kernel
theorem d_Re_takeNumber_27 : decode prog_8_method_17_code 27 = .ok (.if_icmp .le 9, 3) := by decide +kernel
theorem d_Re_takeNumber_30 : decode prog_8_method_17_code 30 = .ok (.aload_n 0, 1) := by decide +kernel
theorem d_Re_takeNumber_31 : decode prog_8_method_17_code 31 = .ok (.iconst 2, 1) := by decide +kernel
theorem d_Re_takeNumber_32 : decode prog_8_method_17_code 32 = .ok (.invokevirtual 88, 3) := by decide +kernel
theorem d_Re_takeNumber_35 : decode prog_8_method_17_code 35 = .ok (.ireturn, 1) := by decide +kernel
theorem d_Re_takeNumber_36 : decode prog_8_method_17_code 36 = .ok (.aload_n 0, 1) := by decide +kernel
theorem d_Re_takeNumber_37 : decode prog_8_method_17_code 37 = .ok (.aload_n 0, 1) := by decide +kernel
theorem d_Re_takeNumber_38 : decode prog_8_method_17_code 38 = .ok (.getfield 58, 3) := by decide +kernel
theorem d_Re_takeNumber_41 : decode prog_8_method_17_code 41 = .ok (.putfield 98, 3) := by decide +kernel
theorem d_Re_takeNumber_44 : decode prog_8_method_17_code 44 = .ok (.aload_n 0, 1) := by decide +kernel
theorem d_Re_takeNumber_45 : decode prog_8_method_17_code 45 = .ok (.invokevirtual 31, 3) := by decide +kernel
theorem d_Re_takeNumber_48 : decode prog_8_method_17_code 48 = .ok (.iconst 1, 1) := by decide +kernel
theorem d_Re_takeNumber_49 : decode prog_8_method_17_code 49 = .ok (.ireturn, 1) := by decide +kernel
set_option maxHeartbeats 2000000 in
theorem Re_takeNumber_c {l : Launch} {θ : tv_Th} (F : Nat) (a1 : Int32) (a2 : Int32) (M : tv_M) : tv_Ct l θ ⟨"TiedViews$Reader", "takeNumber", "(II)Z"⟩ prog_8_method_17_code 3 (some .boolean) 2 tv_ei [.ref (θ.1 + 68), .int a1, .int a2] M (Re_takeNumber F a1 a2 M) := by
  refine tv_ofG [some (.ref (θ.1 + 68)), some (.int a1), some (.int a2)] rfl rfl (tv_ent 0 rfl) ?_
  intro κ hl ht hC hR
  subst hl; subst ht
  unfold Re_takeNumber
  refine g_aload_n hC d_Re_takeNumber_0 rfl ?_
  refine fg_Re_34 hC lc_68 d_Re_takeNumber_1 ?_
  refine g_iconst hC d_Re_takeNumber_4 k_i2 ?_
  refine g_icmp_eq (tgt := 14) hC d_Re_takeNumber_5 (by decide) (fun _ => ?_) (fun _ => ?_)
  · refine g_aload_n hC d_Re_takeNumber_14 rfl ?_
    refine fg_Re_58 hC lc_68 d_Re_takeNumber_15 ?_
    refine g_iload_n hC d_Re_takeNumber_18 rfl ?_
    refine g_icmp_lt (tgt := 30) hC d_Re_takeNumber_19 (by decide) (fun _ => ?_) (fun _ => ?_)
    · refine g_aload_n hC d_Re_takeNumber_30 rfl ?_
      refine g_iconst hC d_Re_takeNumber_31 k_i2 ?_
      refine gv_callVi hC [.int 2] cw_Re_88 (Re_fails_c F 2 M) lc_68 rfl rfl rfl rfl rfl rfl rfl d_Re_takeNumber_32 (fun r1 M2 => ?_)
      refine g_zo (fun z3 => ?_)
      exact g_zret hC hR z3 d_Re_takeNumber_35
    · refine g_aload_n hC d_Re_takeNumber_22 rfl ?_
      refine fg_Re_58 hC lc_68 d_Re_takeNumber_23 ?_
      refine g_iload_n hC d_Re_takeNumber_26 rfl ?_
      refine g_icmp_le (tgt := 36) hC d_Re_takeNumber_27 (by decide) (fun _ => ?_) (fun _ => ?_)
      · refine g_aload_n hC d_Re_takeNumber_36 rfl ?_
        refine g_aload_n hC d_Re_takeNumber_37 rfl ?_
        refine fg_Re_58 hC lc_68 d_Re_takeNumber_38 ?_
        refine fp_Re_98 hC lc_68 d_Re_takeNumber_41 (fun M4 => ?_)
        refine g_aload_n hC d_Re_takeNumber_44 rfl ?_
        refine gv_callVv hC [] cw_Re_31 (Re_goOn_c F M4) lc_68 rfl rfl rfl rfl rfl rfl rfl d_Re_takeNumber_45 (fun r5 M6 => ?_)
        refine g_iconst hC d_Re_takeNumber_48 k_i1 ?_
        exact g_zret hC hR tv_z1 d_Re_takeNumber_49
      · refine g_aload_n hC d_Re_takeNumber_30 rfl ?_
        refine g_iconst hC d_Re_takeNumber_31 k_i2 ?_
        refine gv_callVi hC [.int 2] cw_Re_88 (Re_fails_c F 2 M) lc_68 rfl rfl rfl rfl rfl rfl rfl d_Re_takeNumber_32 (fun r7 M8 => ?_)
        refine g_zo (fun z9 => ?_)
        exact g_zret hC hR z9 d_Re_takeNumber_35
  · refine g_aload_n hC d_Re_takeNumber_8 rfl ?_
    refine g_iconst hC d_Re_takeNumber_9 k_i1 ?_
    refine gv_callVi hC [.int 1] cw_Re_88 (Re_fails_c F 1 M) lc_68 rfl rfl rfl rfl rfl rfl rfl d_Re_takeNumber_10 (fun r10 M11 => ?_)
    refine g_zo (fun z12 => ?_)
    exact g_zret hC hR z12 d_Re_takeNumber_13
theorem d_Re_takeSign_0 : decode prog_8_method_21_code 0 = .ok (.aload_n 0, 1) := by decide +kernel
theorem d_Re_takeSign_1 : decode prog_8_method_21_code 1 = .ok (.getfield 34, 3) := by decide +kernel
theorem d_Re_takeSign_4 : decode prog_8_method_21_code 4 = .ok (.iload_n 1, 1) := by decide +kernel
theorem d_Re_takeSign_5 : decode prog_8_method_21_code 5 = .ok (.if_icmp .eq 9, 3) := by decide +kernel
theorem d_Re_takeSign_8 : decode prog_8_method_21_code 8 = .ok (.aload_n 0, 1) := by decide +kernel
theorem d_Re_takeSign_9 : decode prog_8_method_21_code 9 = .ok (.iconst 1, 1) := by decide +kernel
theorem d_Re_takeSign_10 : decode prog_8_method_21_code 10 = .ok (.invokevirtual 88, 3) := by decide +kernel
theorem d_Re_takeSign_13 : decode prog_8_method_21_code 13 = .ok (.ireturn, 1) := by decide +kernel
theorem d_Re_takeSign_14 : decode prog_8_method_21_code 14 = .ok (.aload_n 0, 1) := by decide +kernel
theorem d_Re_takeSign_15 : decode prog_8_method_21_code 15 = .ok (.invokevirtual 31, 3) := by decide +kernel
theorem d_Re_takeSign_18 : decode prog_8_method_21_code 18 = .ok (.iconst 1, 1) := by decide +kernel
theorem d_Re_takeSign_19 : decode prog_8_method_21_code 19 = .ok (.ireturn, 1) := by decide +kernel
set_option maxHeartbeats 2000000 in
theorem Re_takeSign_c {l : Launch} {θ : tv_Th} (F : Nat) (a1 : Int32) (M : tv_M) : tv_Ct l θ ⟨"TiedViews$Reader", "takeSign", "(C)Z"⟩ prog_8_method_21_code 2 (some .boolean) 2 tv_ei [.ref (θ.1 + 68), .int a1] M (Re_takeSign F a1 M) := by
  refine tv_ofG [some (.ref (θ.1 + 68)), some (.int a1)] rfl rfl (tv_ent 0 rfl) ?_
  intro κ hl ht hC hR
  subst hl; subst ht
  unfold Re_takeSign
  refine g_aload_n hC d_Re_takeSign_0 rfl ?_
  refine fg_Re_34 hC lc_68 d_Re_takeSign_1 ?_
  refine g_iload_n hC d_Re_takeSign_4 rfl ?_
  refine g_icmp_eq (tgt := 14) hC d_Re_takeSign_5 (by decide) (fun _ => ?_) (fun _ => ?_)
  · refine g_aload_n hC d_Re_takeSign_14 rfl ?_
    refine gv_callVv hC [] cw_Re_31 (Re_goOn_c F M) lc_68 rfl rfl rfl rfl rfl rfl rfl d_Re_takeSign_15 (fun r1 M2 => ?_)
    refine g_iconst hC d_Re_takeSign_18 k_i1 ?_
    exact g_zret hC hR tv_z1 d_Re_takeSign_19
  · refine g_aload_n hC d_Re_takeSign_8 rfl ?_
    refine g_iconst hC d_Re_takeSign_9 k_i1 ?_
    refine gv_callVi hC [.int 1] cw_Re_88 (Re_fails_c F 1 M) lc_68 rfl rfl rfl rfl rfl rfl rfl d_Re_takeSign_10 (fun r3 M4 => ?_)
    refine g_zo (fun z5 => ?_)
    exact g_zret hC hR z5 d_Re_takeSign_13
theorem d_Ey_fullSet_0 : decode prog_6_method_4_code 0 = .ok (.iconst 1, 1) := by decide +kernel
theorem d_Ey_fullSet_1 : decode prog_6_method_4_code 1 = .ok (.aload_n 0, 1) := by decide +kernel
theorem d_Ey_fullSet_2 : decode prog_6_method_4_code 2 = .ok (.getfield 22, 3) := by decide +kernel
theorem d_Ey_fullSet_5 : decode prog_6_method_4_code 5 = .ok (.ishl, 1) := by decide +kernel
theorem d_Ey_fullSet_6 : decode prog_6_method_4_code 6 = .ok (.iconst 1, 1) := by decide +kernel
theorem d_Ey_fullSet_7 : decode prog_6_method_4_code 7 = .ok (.isub, 1) := by decide +kernel
theorem d_Ey_fullSet_8 : decode prog_6_method_4_code 8 = .ok (.ireturn, 1) := by decide +kernel
set_option maxHeartbeats 2000000 in
theorem Ey_fullSet_c {l : Launch} {θ : tv_Th} (F : Nat) (t : Nat) (M : tv_M) : tv_Ct l θ ⟨"TiedViews$Eye", "fullSet", "()I"⟩ prog_6_method_4_code 1 (some .int) 0 tv_ei [.ref (θ.1 + t)] M (Ey_fullSet F t M) := by
  refine tv_ofG [some (.ref (θ.1 + t))] rfl rfl (tv_ent 0 rfl) ?_
  intro κ hl ht hC hR
  subst hl; subst ht
  unfold Ey_fullSet
  refine g_gl (fun h1 => ?_)
  refine g_iconst hC d_Ey_fullSet_0 k_i1 ?_
  refine g_aload_n hC d_Ey_fullSet_1 rfl ?_
  refine fg_Ey_22 hC h1 d_Ey_fullSet_2 ?_
  refine g_ishl hC d_Ey_fullSet_5 ?_
  refine g_iconst hC d_Ey_fullSet_6 k_i1 ?_
  refine g_isub hC d_Ey_fullSet_7 ?_
  exact g_iret hC hR d_Ey_fullSet_8
theorem d_Ey_begin_0 : decode prog_6_method_2_code 0 = .ok (.aload_n 0, 1) := by decide +kernel
theorem d_Ey_begin_1 : decode prog_6_method_2_code 1 = .ok (.iload_n 1, 1) := by decide +kernel
theorem d_Ey_begin_2 : decode prog_6_method_2_code 2 = .ok (.putfield 19, 3) := by decide +kernel
theorem d_Ey_begin_5 : decode prog_6_method_2_code 5 = .ok (.aload_n 0, 1) := by decide +kernel
theorem d_Ey_begin_6 : decode prog_6_method_2_code 6 = .ok (.iload_n 2, 1) := by decide +kernel
theorem d_Ey_begin_7 : decode prog_6_method_2_code 7 = .ok (.putfield 22, 3) := by decide +kernel
theorem d_Ey_begin_10 : decode prog_6_method_2_code 10 = .ok (.aload_n 0, 1) := by decide +kernel
theorem d_Ey_begin_11 : decode prog_6_method_2_code 11 = .ok (.iload_n 3, 1) := by decide +kernel
theorem d_Ey_begin_12 : decode prog_6_method_2_code 12 = .ok (.putfield 25, 3) := by decide +kernel
theorem d_Ey_begin_15 : decode prog_6_method_2_code 15 = .ok (.aload_n 0, 1) := by decide +kernel
theorem d_Ey_begin_16 : decode prog_6_method_2_code 16 = .ok (.aload_n 0, 1) := by decide +kernel
theorem d_Ey_begin_17 : decode prog_6_method_2_code 17 = .ok (.invokevirtual 28, 3) := by decide +kernel
theorem d_Ey_begin_20 : decode prog_6_method_2_code 20 = .ok (.putfield 32, 3) := by decide +kernel
theorem d_Ey_begin_23 : decode prog_6_method_2_code 23 = .ok (.aload_n 0, 1) := by decide +kernel
theorem d_Ey_begin_24 : decode prog_6_method_2_code 24 = .ok (.iconst 0, 1) := by decide +kernel
theorem d_Ey_begin_25 : decode prog_6_method_2_code 25 = .ok (.putfield 35, 3) := by decide +kernel
theorem d_Ey_begin_28 : decode prog_6_method_2_code 28 = .ok (.return_, 1) := by decide +kernel
set_option maxHeartbeats 2000000 in
theorem Ey_begin_c {l : Launch} {θ : tv_Th} (F : Nat) (t : Nat) (a1 : Int32) (a2 : Int32) (a3 : Int32) (M : tv_M) : tv_Ct l θ ⟨"TiedViews$Eye", "begin", "(III)V"⟩ prog_6_method_2_code 4 none 1 tv_ev [.ref (θ.1 + t), .int a1, .int a2, .int a3] M (Ey_begin F t a1 a2 a3 M) := by
  refine tv_ofG [some (.ref (θ.1 + t)), some (.int a1), some (.int a2), some (.int a3)] rfl rfl (tv_ent 0 rfl) ?_
  intro κ hl ht hC hR
  subst hl; subst ht
  unfold Ey_begin
  refine g_gl (fun h1 => ?_)
  refine g_aload_n hC d_Ey_begin_0 rfl ?_
  refine g_iload_n hC d_Ey_begin_1 rfl ?_
  refine fp_Ey_19 hC h1 d_Ey_begin_2 (fun M2 => ?_)
  refine g_aload_n hC d_Ey_begin_5 rfl ?_
  refine g_iload_n hC d_Ey_begin_6 rfl ?_
  refine fp_Ey_22 hC h1 d_Ey_begin_7 (fun M3 => ?_)
  refine g_aload_n hC d_Ey_begin_10 rfl ?_
  refine g_iload_n hC d_Ey_begin_11 rfl ?_
  refine fp_Ey_25 hC h1 d_Ey_begin_12 (fun M4 => ?_)
  refine g_aload_n hC d_Ey_begin_15 rfl ?_
  refine g_aload_n hC d_Ey_begin_16 rfl ?_
  refine gv_callVi hC [] cw_Ey_28 (Ey_fullSet_c F t M4) h1 rfl rfl rfl rfl rfl rfl rfl d_Ey_begin_17 (fun r5 M6 => ?_)
  refine fp_Ey_32 hC h1 d_Ey_begin_20 (fun M7 => ?_)
  refine g_aload_n hC d_Ey_begin_23 rfl ?_
  refine g_iconst hC d_Ey_begin_24 k_i0 ?_
  refine fp_Ey_35 hC h1 tv_z0 d_Ey_begin_25 (fun M8 => ?_)
  exact g_vret hC hR d_Ey_begin_28
theorem d_To_addEye_0 : decode prog_12_method_12_code 0 = .ok (.aload_n 0, 1) := by decide +kernel
theorem d_To_addEye_1 : decode prog_12_method_12_code 1 = .ok (.getfield 35, 3) := by decide +kernel
theorem d_To_addEye_4 : decode prog_12_method_12_code 4 = .ok (.bipush 8, 2) := by decide +kernel
theorem d_To_addEye_6 : decode prog_12_method_12_code 6 = .ok (.if_icmp .lt 4, 3) := by decide +kernel
theorem d_To_addEye_9 : decode prog_12_method_12_code 9 = .ok (.return_, 1) := by decide +kernel
theorem d_To_addEye_10 : decode prog_12_method_12_code 10 = .ok (.aload_n 0, 1) := by decide +kernel
theorem d_To_addEye_11 : decode prog_12_method_12_code 11 = .ok (.getfield 11, 3) := by decide +kernel
theorem d_To_addEye_14 : decode prog_12_method_12_code 14 = .ok (.aload_n 0, 1) := by decide +kernel
theorem d_To_addEye_15 : decode prog_12_method_12_code 15 = .ok (.getfield 35, 3) := by decide +kernel
theorem d_To_addEye_18 : decode prog_12_method_12_code 18 = .ok (.aaload, 1) := by decide +kernel
theorem d_To_addEye_19 : decode prog_12_method_12_code 19 = .ok (.iload_n 1, 1) := by decide +kernel
theorem d_To_addEye_20 : decode prog_12_method_12_code 20 = .ok (.iload_n 2, 1) := by decide +kernel
theorem d_To_addEye_21 : decode prog_12_method_12_code 21 = .ok (.aload_n 0, 1) := by decide +kernel
theorem d_To_addEye_22 : decode prog_12_method_12_code 22 = .ok (.getfield 53, 3) := by decide +kernel
theorem d_To_addEye_25 : decode prog_12_method_12_code 25 = .ok (.invokevirtual 81, 3) := by decide +kernel
theorem d_To_addEye_28 : decode prog_12_method_12_code 28 = .ok (.aload_n 0, 1) := by decide +kernel
theorem d_To_addEye_29 : decode prog_12_method_12_code 29 = .ok (.dup, 1) := by decide +kernel
theorem d_To_addEye_30 : decode prog_12_method_12_code 30 = .ok (.getfield 35, 3) := by decide +kernel
theorem d_To_addEye_33 : decode prog_12_method_12_code 33 = .ok (.iconst 1, 1) := by decide +kernel
theorem d_To_addEye_34 : decode prog_12_method_12_code 34 = .ok (.iadd, 1) := by decide +kernel
theorem d_To_addEye_35 : decode prog_12_method_12_code 35 = .ok (.putfield 35, 3) := by decide +kernel
theorem d_To_addEye_38 : decode prog_12_method_12_code 38 = .ok (.iload_n 1, 1) := by decide +kernel
theorem d_To_addEye_39 : decode prog_12_method_12_code 39 = .ok (.iconst 3, 1) := by decide +kernel
theorem d_To_addEye_40 : decode prog_12_method_12_code 40 = .ok (.if_icmp .eq 13, 3) := by decide +kernel
theorem d_To_addEye_43 : decode prog_12_method_12_code 43 = .ok (.aload_n 0, 1) := by decide +kernel
theorem d_To_addEye_44 : decode prog_12_method_12_code 44 = .ok (.dup, 1) := by decide +kernel
theorem d_To_addEye_45 : decode prog_12_method_12_code 45 = .ok (.getfield 53, 3) := by decide +kernel
theorem d_To_addEye_48 : decode prog_12_method_12_code 48 = .ok (.iload_n 2, 1) := by decide +kernel
theorem d_To_addEye_49 : decode prog_12_method_12_code 49 = .ok (.iadd, 1) := by decide +kernel
theorem d_To_addEye_50 : decode prog_12_method_12_code 50 = .ok (.putfield 53, 3) := by decide +kernel
theorem d_To_addEye_53 : decode prog_12_method_12_code 53 = .ok (.return_, 1) := by decide +kernel
set_option maxHeartbeats 2000000 in
theorem To_addEye_c {l : Launch} {θ : tv_Th} (F : Nat) (a1 : Int32) (a2 : Int32) (M : tv_M) : tv_Ct l θ ⟨"TiedViews$Told", "addEye", "(II)V"⟩ prog_12_method_12_code 3 none 2 tv_ev [.ref (θ.1 + 18), .int a1, .int a2] M (To_addEye F a1 a2 M) := by
  refine tv_ofG [some (.ref (θ.1 + 18)), some (.int a1), some (.int a2)] rfl rfl (tv_ent 0 rfl) ?_
  intro κ hl ht hC hR
  subst hl; subst ht
  unfold To_addEye
  refine g_aload_n hC d_To_addEye_0 rfl ?_
  refine fg_To_35 hC lc_18 d_To_addEye_1 ?_
  refine g_bipush hC d_To_addEye_4 k_b8 ?_
  refine g_icmp_lt (tgt := 10) hC d_To_addEye_6 (by decide) (fun _ => ?_) (fun _ => ?_)
  · refine g_aload_n hC d_To_addEye_10 rfl ?_
    refine fg_To_11 hC lc_18 d_To_addEye_11 p0_18_1 ?_
    refine g_aload_n hC d_To_addEye_14 rfl ?_
    refine fg_To_35 hC lc_18 d_To_addEye_15 ?_
    refine gv_aald hC 1 ly_19 rfl d_To_addEye_18 (fun p1 => ?_)
    refine g_gl (fun h2 => ?_)
    refine g_iload_n hC d_To_addEye_19 rfl ?_
    refine g_iload_n hC d_To_addEye_20 rfl ?_
    refine g_aload_n hC d_To_addEye_21 rfl ?_
    refine fg_To_53 hC lc_18 d_To_addEye_22 ?_
    refine gv_callVv hC [.int a1, .int a2, .int (M.1 18 7)] cw_To_81 (Ey_begin_c F p1 a1 a2 (M.1 18 7) M) h2 rfl rfl rfl rfl rfl rfl rfl d_To_addEye_25 (fun r3 M4 => ?_)
    refine g_aload_n hC d_To_addEye_28 rfl ?_
    refine g_dup hC d_To_addEye_29 rfl ?_
    refine fg_To_35 hC lc_18 d_To_addEye_30 ?_
    refine g_iconst hC d_To_addEye_33 k_i1 ?_
    refine g_iadd hC d_To_addEye_34 ?_
    refine fp_To_35 hC lc_18 d_To_addEye_35 (fun M5 => ?_)
    refine g_iload_n hC d_To_addEye_38 rfl ?_
    refine g_iconst hC d_To_addEye_39 k_i3 ?_
    refine g_icmp_eq (tgt := 53) hC d_To_addEye_40 (by decide) (fun _ => ?_) (fun _ => ?_)
    · exact g_vret hC hR d_To_addEye_53
    · refine g_aload_n hC d_To_addEye_43 rfl ?_
      refine g_dup hC d_To_addEye_44 rfl ?_
      refine fg_To_53 hC lc_18 d_To_addEye_45 ?_
      refine g_iload_n hC d_To_addEye_48 rfl ?_
      refine g_iadd hC d_To_addEye_49 ?_
      refine fp_To_53 hC lc_18 d_To_addEye_50 (fun M6 => ?_)
      exact g_vret hC hR d_To_addEye_53
  · exact g_vret hC hR d_To_addEye_9
theorem d_Re_takeEyeSentence_0 : decode prog_8_method_11_code 0 = .ok (.aload_n 0, 1) := by decide +kernel
theorem d_Re_takeEyeSentence_1 : decode prog_8_method_11_code 1 = .ok (.getfield 15, 3) := by decide +kernel
theorem d_Re_takeEyeSentence_4 : decode prog_8_method_11_code 4 = .ok (.getfield 92, 3) := by decide +kernel
theorem d_Re_takeEyeSentence_7 : decode prog_8_method_11_code 7 = .ok (.bipush 8, 2) := by decide +kernel
theorem d_Re_takeEyeSentence_9 : decode prog_8_method_11_code 9 = .ok (.if_icmp .lt 9, 3) := by decide +kernel
theorem d_Re_takeEyeSentence_12 : decode prog_8_method_11_code 12 = .ok (.aload_n 0, 1) := by decide +kernel
theorem d_Re_takeEyeSentence_13 : decode prog_8_method_11_code 13 = .ok (.iconst 3, 1) := by decide +kernel
theorem d_Re_takeEyeSentence_14 : decode prog_8_method_11_code 14 = .ok (.invokevirtual 88, 3) := by decide +kernel
theorem d_Re_takeEyeSentence_17 : decode prog_8_method_11_code 17 = .ok (.ireturn, 1) := by decide +kernel
theorem d_Re_takeEyeSentence_18 : decode prog_8_method_11_code 18 = .ok (.aload_n 0, 1) := by decide +kernel
theorem d_Re_takeEyeSentence_19 : decode prog_8_method_11_code 19 = .ok (.invokevirtual 31, 3) := by decide +kernel
theorem d_Re_takeEyeSentence_22 : decode prog_8_method_11_code 22 = .ok (.aload_n 0, 1) := by decide +kernel
theorem d_Re_takeEyeSentence_23 : decode prog_8_method_11_code 23 = .ok (.invokevirtual 95, 3) := by decide +kernel
theorem d_Re_takeEyeSentence_26 : decode prog_8_method_11_code 26 = .ok (.ifCond .ne 5, 3) := by decide +kernel
theorem d_Re_takeEyeSentence_29 : decode prog_8_method_11_code 29 = .ok (.iconst 0, 1) := by decide +kernel
theorem d_Re_takeEyeSentence_30 : decode prog_8_method_11_code 30 = .ok (.ireturn, 1) := by decide +kernel
theorem d_Re_takeEyeSentence_31 : decode prog_8_method_11_code 31 = .ok (.aload_n 0, 1) := by decide +kernel
theorem d_Re_takeEyeSentence_32 : decode prog_8_method_11_code 32 = .ok (.getfield 98, 3) := by decide +kernel
theorem d_Re_takeEyeSentence_35 : decode prog_8_method_11_code 35 = .ok (.istore_n 1, 1) := by decide +kernel
theorem d_Re_takeEyeSentence_36 : decode prog_8_method_11_code 36 = .ok (.aload_n 0, 1) := by decide +kernel
theorem d_Re_takeEyeSentence_37 : decode prog_8_method_11_code 37 = .ok (.iconst 1, 1) := by decide +kernel
theorem d_Re_takeEyeSentence_38 : decode prog_8_method_11_code 38 = .ok (.iload_n 1, 1) := by decide +kernel
theorem d_Re_takeEyeSentence_39 : decode prog_8_method_11_code 39 = .ok (.iconst 3, 1) := by decide +kernel
theorem d_Re_takeEyeSentence_40 : decode prog_8_method_11_code 40 = .ok (.if_icmp .ne 7, 3) := by decide +kernel
theorem d_Re_takeEyeSentence_43 : decode prog_8_method_11_code 43 = .ok (.iconst 4, 1) := by decide +kernel
theorem d_Re_takeEyeSentence_44 : decode prog_8_method_11_code 44 = .ok (.goto 4, 3) := by decide +kernel
theorem d_Re_takeEyeSentence_47 : decode prog_8_method_11_code 47 = .ok (.iconst 3, 1) := by decide +kernel
theorem d_Re_takeEyeSentence_48 : decode prog_8_method_11_code 48 = .ok (.invokevirtual 101, 3) := by decide +kernel
theorem d_Re_takeEyeSentence_51 : decode prog_8_method_11_code 51 = .ok (.ifCond .ne 5, 3) := by decide +kernel
theorem d_Re_takeEyeSentence_54 : decode prog_8_method_11_code 54 = .ok (.iconst 0, 1) := by decide +kernel
theorem d_Re_takeEyeSentence_55 : decode prog_8_method_11_code 55 = .ok (.ireturn, 1) := by decide +kernel
theorem d_Re_takeEyeSentence_56 : decode prog_8_method_11_code 56 = .ok (.aload_n 0, 1) := by decide +kernel
theorem d_Re_takeEyeSentence_57 : decode prog_8_method_11_code 57 = .ok (.getfield 98, 3) := by decide +kernel
theorem d_Re_takeEyeSentence_60 : decode prog_8_method_11_code 60 = .ok (.istore_n 2, 1) := by decide +kernel
theorem d_Re_takeEyeSentence_61 : decode prog_8_method_11_code 61 = .ok (.aload_n 0, 1) := by decide +kernel
theorem d_Re_takeEyeSentence_62 : decode prog_8_method_11_code 62 = .ok (.bipush 59, 2) := by decide +kernel
theorem d_Re_takeEyeSentence_64 : decode prog_8_method_11_code 64 = .ok (.invokevirtual 105, 3) := by decide +kernel
theorem d_Re_takeEyeSentence_67 : decode prog_8_method_11_code 67 = .ok (.ifCond .ne 5, 3) := by decide +kernel
theorem d_Re_takeEyeSentence_70 : decode prog_8_method_11_code 70 = .ok (.iconst 0, 1) := by decide +kernel
theorem d_Re_takeEyeSentence_71 : decode prog_8_method_11_code 71 = .ok (.ireturn, 1) := by decide +kernel
theorem d_Re_takeEyeSentence_72 : decode prog_8_method_11_code 72 = .ok (.aload_n 0, 1) := by decide +kernel
theorem d_Re_takeEyeSentence_73 : decode prog_8_method_11_code 73 = .ok (.getfield 15, 3) := by decide +kernel
theorem d_Re_takeEyeSentence_76 : decode prog_8_method_11_code 76 = .ok (.iload_n 1, 1) := by decide +kernel
theorem d_Re_takeEyeSentence_77 : decode prog_8_method_11_code 77 = .ok (.iload_n 2, 1) := by decide +kernel
theorem d_Re_takeEyeSentence_78 : decode prog_8_method_11_code 78 = .ok (.invokevirtual 109, 3) := by decide +kernel
theorem d_Re_takeEyeSentence_81 : decode prog_8_method_11_code 81 = .ok (.iconst 1, 1) := by decide +kernel
theorem d_Re_takeEyeSentence_82 : decode prog_8_method_11_code 82 = .ok (.ireturn, 1) := by decide +kernel
set_option maxHeartbeats 2000000 in
theorem Re_takeEyeSentence_L48_g {κ : tv_Kt} (hC : tv_Cx κ "TiedViews$Reader" prog_8_method_11_code 3 6) (hR : tv_Re κ (some .boolean)) (F : Nat) (l1 : Int32) (s0 : Int32) (s1 : Int32) (M : tv_M) : tv_G κ 3 (tv_Qm κ tv_ei) 48 [some (.ref (κ.b + 68)), some (.int l1), none] [.int s0, .int s1, .ref (κ.b + 68)] M (Re_takeEyeSentence_L48 F l1 s0 s1 M) := by
  rw [Re_takeEyeSentence_L48]
  refine gv_callVi hC [.int s1, .int s0] cw_Re_101 (Re_takeNumber_c F s1 s0 M) lc_68 rfl rfl rfl rfl rfl rfl rfl d_Re_takeEyeSentence_48 (fun r8 M9 => ?_)
  refine g_if_ne (tgt := 56) hC d_Re_takeEyeSentence_51 (by decide) (fun _ => ?_) (fun _ => ?_)
  · refine g_aload_n hC d_Re_takeEyeSentence_56 rfl ?_
    refine fg_Re_98 hC lc_68 d_Re_takeEyeSentence_57 ?_
    refine g_istore_n (ls' := [some (.ref (κ.b + 68)), some (.int l1), some (.int (M9.1 68 8))]) hC d_Re_takeEyeSentence_60 rfl rfl ?_
    refine g_aload_n hC d_Re_takeEyeSentence_61 rfl ?_
    refine g_bipush hC d_Re_takeEyeSentence_62 k_b59 ?_
    refine gv_callVi hC [.int 59] cw_Re_105 (Re_takeSign_c F 59 M9) lc_68 rfl rfl rfl rfl rfl rfl rfl d_Re_takeEyeSentence_64 (fun r10 M11 => ?_)
    refine g_if_ne (tgt := 72) hC d_Re_takeEyeSentence_67 (by decide) (fun _ => ?_) (fun _ => ?_)
    · refine g_aload_n hC d_Re_takeEyeSentence_72 rfl ?_
      refine fg_Re_15 hC lc_68 d_Re_takeEyeSentence_73 p0_68_0 ?_
      refine g_iload_n hC d_Re_takeEyeSentence_76 rfl ?_
      refine g_iload_n hC d_Re_takeEyeSentence_77 rfl ?_
      refine gv_callVv hC [.int l1, .int (M9.1 68 8)] cw_Re_109 (To_addEye_c F l1 (M9.1 68 8) M11) lc_18 rfl rfl rfl rfl rfl rfl rfl d_Re_takeEyeSentence_78 (fun r12 M13 => ?_)
      refine g_iconst hC d_Re_takeEyeSentence_81 k_i1 ?_
      exact g_zret hC hR tv_z1 d_Re_takeEyeSentence_82
    · refine g_iconst hC d_Re_takeEyeSentence_70 k_i0 ?_
      exact g_zret hC hR tv_z0 d_Re_takeEyeSentence_71
  · refine g_iconst hC d_Re_takeEyeSentence_54 k_i0 ?_
    exact g_zret hC hR tv_z0 d_Re_takeEyeSentence_55
set_option maxHeartbeats 2000000 in
theorem Re_takeEyeSentence_c {l : Launch} {θ : tv_Th} (F : Nat) (M : tv_M) : tv_Ct l θ ⟨"TiedViews$Reader", "takeEyeSentence", "()Z"⟩ prog_8_method_11_code 3 (some .boolean) 6 tv_ei [.ref (θ.1 + 68)] M (Re_takeEyeSentence F M) := by
  refine tv_ofG [some (.ref (θ.1 + 68)), none, none] rfl rfl (tv_ent 2 rfl) ?_
  intro κ hl ht hC hR
  subst hl; subst ht
  unfold Re_takeEyeSentence
  refine g_aload_n hC d_Re_takeEyeSentence_0 rfl ?_
  refine fg_Re_15 hC lc_68 d_Re_takeEyeSentence_1 p0_68_0 ?_
  refine fg_Re_92 hC lc_18 d_Re_takeEyeSentence_4 ?_
  refine g_bipush hC d_Re_takeEyeSentence_7 k_b8 ?_
  refine g_icmp_lt (tgt := 18) hC d_Re_takeEyeSentence_9 (by decide) (fun _ => ?_) (fun _ => ?_)
  · refine g_aload_n hC d_Re_takeEyeSentence_18 rfl ?_
    refine gv_callVv hC [] cw_Re_31 (Re_goOn_c F M) lc_68 rfl rfl rfl rfl rfl rfl rfl d_Re_takeEyeSentence_19 (fun r1 M2 => ?_)
    refine g_aload_n hC d_Re_takeEyeSentence_22 rfl ?_
    refine gv_callVi hC [] cw_Re_95 (Re_takeSort_c F M2) lc_68 rfl rfl rfl rfl rfl rfl rfl d_Re_takeEyeSentence_23 (fun r3 M4 => ?_)
    refine g_if_ne (tgt := 31) hC d_Re_takeEyeSentence_26 (by decide) (fun _ => ?_) (fun _ => ?_)
    · refine g_aload_n hC d_Re_takeEyeSentence_31 rfl ?_
      refine fg_Re_98 hC lc_68 d_Re_takeEyeSentence_32 ?_
      refine g_istore_n (ls' := [some (.ref (κ.b + 68)), some (.int (M4.1 68 8)), none]) hC d_Re_takeEyeSentence_35 rfl rfl ?_
      refine g_aload_n hC d_Re_takeEyeSentence_36 rfl ?_
      refine g_iconst hC d_Re_takeEyeSentence_37 k_i1 ?_
      refine g_iload_n hC d_Re_takeEyeSentence_38 rfl ?_
      refine g_iconst hC d_Re_takeEyeSentence_39 k_i3 ?_
      refine g_icmp_ne (tgt := 47) hC d_Re_takeEyeSentence_40 (by decide) (fun _ => ?_) (fun _ => ?_)
      · refine g_iconst hC d_Re_takeEyeSentence_47 k_i3 ?_
        exact Re_takeEyeSentence_L48_g hC hR F (M4.1 68 8) 3 1 M4
      · refine g_iconst hC d_Re_takeEyeSentence_43 k_i4 ?_
        refine g_goto (tgt := 48) hC d_Re_takeEyeSentence_44 (by decide) ?_
        exact Re_takeEyeSentence_L48_g hC hR F (M4.1 68 8) 4 1 M4
    · refine g_iconst hC d_Re_takeEyeSentence_29 k_i0 ?_
      exact g_zret hC hR tv_z0 d_Re_takeEyeSentence_30
  · refine g_aload_n hC d_Re_takeEyeSentence_12 rfl ?_
    refine g_iconst hC d_Re_takeEyeSentence_13 k_i3 ?_
    refine gv_callVi hC [.int 3] cw_Re_88 (Re_fails_c F 3 M) lc_68 rfl rfl rfl rfl rfl rfl rfl d_Re_takeEyeSentence_14 (fun r5 M6 => ?_)
    refine g_zo (fun z7 => ?_)
    exact g_zret hC hR z7 d_Re_takeEyeSentence_17
theorem d_To_nextTie_0 : decode prog_12_method_13_code 0 = .ok (.aload_n 0, 1) := by decide +kernel
theorem d_To_nextTie_1 : decode prog_12_method_13_code 1 = .ok (.getfield 41, 3) := by decide +kernel
theorem d_To_nextTie_4 : decode prog_12_method_13_code 4 = .ok (.bipush 10, 2) := by decide +kernel
theorem d_To_nextTie_6 : decode prog_12_method_13_code 6 = .ok (.if_icmp .lt 7, 3) := by decide +kernel
theorem d_To_nextTie_9 : decode prog_12_method_13_code 9 = .ok (.aconst_null, 1) := by decide +kernel
theorem d_To_nextTie_10 : decode prog_12_method_13_code 10 = .ok (.goto 12, 3) := by decide +kernel
theorem d_To_nextTie_13 : decode prog_12_method_13_code 13 = .ok (.aload_n 0, 1) := by decide +kernel
theorem d_To_nextTie_14 : decode prog_12_method_13_code 14 = .ok (.getfield 19, 3) := by decide +kernel
theorem d_To_nextTie_17 : decode prog_12_method_13_code 17 = .ok (.aload_n 0, 1) := by decide +kernel
theorem d_To_nextTie_18 : decode prog_12_method_13_code 18 = .ok (.getfield 41, 3) := by decide +kernel
theorem d_To_nextTie_21 : decode prog_12_method_13_code 21 = .ok (.aaload, 1) := by decide +kernel
theorem d_To_nextTie_22 : decode prog_12_method_13_code 22 = .ok (.areturn, 1) := by decide +kernel
set_option maxHeartbeats 2000000 in
theorem To_nextTie_c {l : Launch} {θ : tv_Th} (F : Nat) (M : tv_M) : tv_Ct l θ ⟨"TiedViews$Told", "nextTie", "()LTiedViews$Tie;"⟩ prog_12_method_13_code 1 (some (.object "TiedViews$Tie")) 0 (tv_er θ.1) [.ref (θ.1 + 18)] M (To_nextTie F M) := by
  refine tv_ofG [some (.ref (θ.1 + 18))] rfl rfl (tv_ent 0 rfl) ?_
  intro κ hl ht hC hR
  subst hl; subst ht
  unfold To_nextTie
  refine g_aload_n hC d_To_nextTie_0 rfl ?_
  refine fg_To_41 hC lc_18 d_To_nextTie_1 ?_
  refine g_bipush hC d_To_nextTie_4 k_b10 ?_
  refine g_icmp_lt (tgt := 13) hC d_To_nextTie_6 (by decide) (fun _ => ?_) (fun _ => ?_)
  · refine g_aload_n hC d_To_nextTie_13 rfl ?_
    refine fg_To_19 hC lc_18 d_To_nextTie_14 p0_18_2 ?_
    refine g_aload_n hC d_To_nextTie_17 rfl ?_
    refine fg_To_41 hC lc_18 d_To_nextTie_18 ?_
    refine gv_aald hC 2 ly_20 rfl d_To_nextTie_21 (fun p1 => ?_)
    refine g_gl (fun h2 => ?_)
    exact g_aret hC hR (Or.inl ⟨_, rfl⟩) (some p1) d_To_nextTie_22
  · refine g_null hC d_To_nextTie_9 ?_
    refine g_goto (tgt := 22) hC d_To_nextTie_10 (by decide) ?_
    exact g_aret hC hR (Or.inl ⟨_, rfl⟩) (none) d_To_nextTie_22
theorem d_To_eyeAt_0 : decode prog_12_method_4_code 0 = .ok (.iload_n 1, 1) := by decide +kernel
theorem d_To_eyeAt_1 : decode prog_12_method_4_code 1 = .ok (.ifCond .lt 11, 3) := by decide +kernel
theorem d_To_eyeAt_4 : decode prog_12_method_4_code 4 = .ok (.iload_n 1, 1) := by decide +kernel
theorem d_To_eyeAt_5 : decode prog_12_method_4_code 5 = .ok (.aload_n 0, 1) := by decide +kernel
theorem d_To_eyeAt_6 : decode prog_12_method_4_code 6 = .ok (.getfield 35, 3) := by decide +kernel
theorem d_To_eyeAt_9 : decode prog_12_method_4_code 9 = .ok (.if_icmp .lt 7, 3) := by decide +kernel
theorem d_To_eyeAt_12 : decode prog_12_method_4_code 12 = .ok (.aconst_null, 1) := by decide +kernel
theorem d_To_eyeAt_13 : decode prog_12_method_4_code 13 = .ok (.goto 9, 3) := by decide +kernel
theorem d_To_eyeAt_16 : decode prog_12_method_4_code 16 = .ok (.aload_n 0, 1) := by decide +kernel
theorem d_To_eyeAt_17 : decode prog_12_method_4_code 17 = .ok (.getfield 11, 3) := by decide +kernel
theorem d_To_eyeAt_20 : decode prog_12_method_4_code 20 = .ok (.iload_n 1, 1) := by decide +kernel
theorem d_To_eyeAt_21 : decode prog_12_method_4_code 21 = .ok (.aaload, 1) := by decide +kernel
theorem d_To_eyeAt_22 : decode prog_12_method_4_code 22 = .ok (.areturn, 1) := by decide +kernel
set_option maxHeartbeats 2000000 in
theorem To_eyeAt_c {l : Launch} {θ : tv_Th} (F : Nat) (a1 : Int32) (M : tv_M) : tv_Ct l θ ⟨"TiedViews$Told", "eyeAt", "(I)LTiedViews$Eye;"⟩ prog_12_method_4_code 2 (some (.object "TiedViews$Eye")) 0 (tv_er θ.1) [.ref (θ.1 + 18), .int a1] M (To_eyeAt F a1 M) := by
  refine tv_ofG [some (.ref (θ.1 + 18)), some (.int a1)] rfl rfl (tv_ent 0 rfl) ?_
  intro κ hl ht hC hR
  subst hl; subst ht
  unfold To_eyeAt
  refine g_iload_n hC d_To_eyeAt_0 rfl ?_
  refine g_if_lt (tgt := 12) hC d_To_eyeAt_1 (by decide) (fun _ => ?_) (fun _ => ?_)
  · refine g_null hC d_To_eyeAt_12 ?_
    refine g_goto (tgt := 22) hC d_To_eyeAt_13 (by decide) ?_
    exact g_aret hC hR (Or.inl ⟨_, rfl⟩) (none) d_To_eyeAt_22
  · refine g_iload_n hC d_To_eyeAt_4 rfl ?_
    refine g_aload_n hC d_To_eyeAt_5 rfl ?_
    refine fg_To_35 hC lc_18 d_To_eyeAt_6 ?_
    refine g_icmp_lt (tgt := 16) hC d_To_eyeAt_9 (by decide) (fun _ => ?_) (fun _ => ?_)
    · refine g_aload_n hC d_To_eyeAt_16 rfl ?_
      refine fg_To_11 hC lc_18 d_To_eyeAt_17 p0_18_1 ?_
      refine g_iload_n hC d_To_eyeAt_20 rfl ?_
      refine gv_aald hC 1 ly_19 rfl d_To_eyeAt_21 (fun p1 => ?_)
      refine g_gl (fun h2 => ?_)
      exact g_aret hC hR (Or.inl ⟨_, rfl⟩) (some p1) d_To_eyeAt_22
    · refine g_null hC d_To_eyeAt_12 ?_
      refine g_goto (tgt := 22) hC d_To_eyeAt_13 (by decide) ?_
      exact g_aret hC hR (Or.inl ⟨_, rfl⟩) (none) d_To_eyeAt_22
theorem d_Ey_isChoice_0 : decode prog_6_method_3_code 0 = .ok (.aload_n 0, 1) := by decide +kernel
theorem d_Ey_isChoice_1 : decode prog_6_method_3_code 1 = .ok (.getfield 19, 3) := by decide +kernel
theorem d_Ey_isChoice_4 : decode prog_6_method_3_code 4 = .ok (.iconst 3, 1) := by decide +kernel
theorem d_Ey_isChoice_5 : decode prog_6_method_3_code 5 = .ok (.if_icmp .ne 7, 3) := by decide +kernel
theorem d_Ey_isChoice_8 : decode prog_6_method_3_code 8 = .ok (.iconst 1, 1) := by decide +kernel
theorem d_Ey_isChoice_9 : decode prog_6_method_3_code 9 = .ok (.goto 4, 3) := by decide +kernel
theorem d_Ey_isChoice_12 : decode prog_6_method_3_code 12 = .ok (.iconst 0, 1) := by decide +kernel
theorem d_Ey_isChoice_13 : decode prog_6_method_3_code 13 = .ok (.ireturn, 1) := by decide +kernel
set_option maxHeartbeats 2000000 in
theorem Ey_isChoice_c {l : Launch} {θ : tv_Th} (F : Nat) (t : Nat) (M : tv_M) : tv_Ct l θ ⟨"TiedViews$Eye", "isChoice", "()Z"⟩ prog_6_method_3_code 1 (some .boolean) 0 tv_ei [.ref (θ.1 + t)] M (Ey_isChoice F t M) := by
  refine tv_ofG [some (.ref (θ.1 + t))] rfl rfl (tv_ent 0 rfl) ?_
  intro κ hl ht hC hR
  subst hl; subst ht
  unfold Ey_isChoice
  refine g_gl (fun h1 => ?_)
  refine g_aload_n hC d_Ey_isChoice_0 rfl ?_
  refine fg_Ey_19 hC h1 d_Ey_isChoice_1 ?_
  refine g_iconst hC d_Ey_isChoice_4 k_i3 ?_
  refine g_icmp_ne (tgt := 12) hC d_Ey_isChoice_5 (by decide) (fun _ => ?_) (fun _ => ?_)
  · refine g_iconst hC d_Ey_isChoice_12 k_i0 ?_
    exact g_zret hC hR tv_z0 d_Ey_isChoice_13
  · refine g_iconst hC d_Ey_isChoice_8 k_i1 ?_
    refine g_goto (tgt := 13) hC d_Ey_isChoice_9 (by decide) ?_
    exact g_zret hC hR tv_z1 d_Ey_isChoice_13
theorem d_Re_takeEye_0 : decode prog_8_method_18_code 0 = .ok (.aload_n 0, 1) := by decide +kernel
theorem d_Re_takeEye_1 : decode prog_8_method_18_code 1 = .ok (.getfield 34, 3) := by decide +kernel
theorem d_Re_takeEye_4 : decode prog_8_method_18_code 4 = .ok (.iconst 2, 1) := by decide +kernel
theorem d_Re_takeEye_5 : decode prog_8_method_18_code 5 = .ok (.if_icmp .eq 9, 3) := by decide +kernel
theorem d_Re_takeEye_8 : decode prog_8_method_18_code 8 = .ok (.aload_n 0, 1) := by decide +kernel
theorem d_Re_takeEye_9 : decode prog_8_method_18_code 9 = .ok (.iconst 1, 1) := by decide +kernel
theorem d_Re_takeEye_10 : decode prog_8_method_18_code 10 = .ok (.invokevirtual 88, 3) := by decide +kernel
theorem d_Re_takeEye_13 : decode prog_8_method_18_code 13 = .ok (.ireturn, 1) := by decide +kernel
theorem d_Re_takeEye_14 : decode prog_8_method_18_code 14 = .ok (.aload_n 0, 1) := by decide +kernel
theorem d_Re_takeEye_15 : decode prog_8_method_18_code 15 = .ok (.getfield 15, 3) := by decide +kernel
theorem d_Re_takeEye_18 : decode prog_8_method_18_code 18 = .ok (.aload_n 0, 1) := by decide +kernel
theorem d_Re_takeEye_19 : decode prog_8_method_18_code 19 = .ok (.getfield 58, 3) := by decide +kernel
theorem d_Re_takeEye_22 : decode prog_8_method_18_code 22 = .ok (.invokevirtual 185, 3) := by decide +kernel
theorem d_Re_takeEye_25 : decode prog_8_method_18_code 25 = .ok (.astore_n 3, 1) := by decide +kernel
theorem d_Re_takeEye_26 : decode prog_8_method_18_code 26 = .ok (.aload_n 3, 1) := by decide +kernel
theorem d_Re_takeEye_27 : decode prog_8_method_18_code 27 = .ok (.ifnull 19, 3) := by decide +kernel
theorem d_Re_takeEye_30 : decode prog_8_method_18_code 30 = .ok (.aload_n 3, 1) := by decide +kernel
theorem d_Re_takeEye_31 : decode prog_8_method_18_code 31 = .ok (.invokevirtual 188, 3) := by decide +kernel
theorem d_Re_takeEye_34 : decode prog_8_method_18_code 34 = .ok (.iload_n 1, 1) := by decide +kernel
theorem d_Re_takeEye_35 : decode prog_8_method_18_code 35 = .ok (.if_icmp .ne 11, 3) := by decide +kernel
theorem d_Re_takeEye_38 : decode prog_8_method_18_code 38 = .ok (.aload_n 0, 1) := by decide +kernel
theorem d_Re_takeEye_39 : decode prog_8_method_18_code 39 = .ok (.getfield 58, 3) := by decide +kernel
theorem d_Re_takeEye_42 : decode prog_8_method_18_code 42 = .ok (.iload_n 2, 1) := by decide +kernel
theorem d_Re_takeEye_43 : decode prog_8_method_18_code 43 = .ok (.if_icmp .ne 9, 3) := by decide +kernel
theorem d_Re_takeEye_46 : decode prog_8_method_18_code 46 = .ok (.aload_n 0, 1) := by decide +kernel
theorem d_Re_takeEye_47 : decode prog_8_method_18_code 47 = .ok (.iconst 2, 1) := by decide +kernel
theorem d_Re_takeEye_48 : decode prog_8_method_18_code 48 = .ok (.invokevirtual 88, 3) := by decide +kernel
theorem d_Re_takeEye_51 : decode prog_8_method_18_code 51 = .ok (.ireturn, 1) := by decide +kernel
theorem d_Re_takeEye_52 : decode prog_8_method_18_code 52 = .ok (.aload_n 0, 1) := by decide +kernel
theorem d_Re_takeEye_53 : decode prog_8_method_18_code 53 = .ok (.aload_n 0, 1) := by decide +kernel
theorem d_Re_takeEye_54 : decode prog_8_method_18_code 54 = .ok (.getfield 58, 3) := by decide +kernel
theorem d_Re_takeEye_57 : decode prog_8_method_18_code 57 = .ok (.putfield 98, 3) := by decide +kernel
theorem d_Re_takeEye_60 : decode prog_8_method_18_code 60 = .ok (.aload_n 0, 1) := by decide +kernel
theorem d_Re_takeEye_61 : decode prog_8_method_18_code 61 = .ok (.invokevirtual 31, 3) := by decide +kernel
theorem d_Re_takeEye_64 : decode prog_8_method_18_code 64 = .ok (.iconst 1, 1) := by decide +kernel
theorem d_Re_takeEye_65 : decode prog_8_method_18_code 65 = .ok (.ireturn, 1) := by decide +kernel
set_option maxHeartbeats 2000000 in
theorem Re_takeEye_c {l : Launch} {θ : tv_Th} (F : Nat) (a1 : Int32) (a2 : Int32) (M : tv_M) : tv_Ct l θ ⟨"TiedViews$Reader", "takeEye", "(ZI)Z"⟩ prog_8_method_18_code 4 (some .boolean) 2 tv_ei [.ref (θ.1 + 68), .int a1, .int a2] M (Re_takeEye F a1 a2 M) := by
  refine tv_ofG [some (.ref (θ.1 + 68)), some (.int a1), some (.int a2), none] rfl rfl (tv_ent 1 rfl) ?_
  intro κ hl ht hC hR
  subst hl; subst ht
  unfold Re_takeEye
  refine g_aload_n hC d_Re_takeEye_0 rfl ?_
  refine fg_Re_34 hC lc_68 d_Re_takeEye_1 ?_
  refine g_iconst hC d_Re_takeEye_4 k_i2 ?_
  refine g_icmp_eq (tgt := 14) hC d_Re_takeEye_5 (by decide) (fun _ => ?_) (fun _ => ?_)
  · refine g_aload_n hC d_Re_takeEye_14 rfl ?_
    refine fg_Re_15 hC lc_68 d_Re_takeEye_15 p0_68_0 ?_
    refine g_aload_n hC d_Re_takeEye_18 rfl ?_
    refine fg_Re_58 hC lc_68 d_Re_takeEye_19 ?_
    refine gv_callVr hC [.int (M.1 68 7)] cw_Re_185 (To_eyeAt_c F (M.1 68 7) M) lc_18 rfl rfl rfl rfl rfl rfl rfl d_Re_takeEye_22 (fun r1 M2 => ?_)
    refine g_astore_nQ (ls' := [some (.ref (κ.b + 68)), some (.int a1), some (.int a2), some (tv_re κ.b r1)]) hC d_Re_takeEye_25 rfl rfl ?_
    refine g_aload_nQ hC d_Re_takeEye_26 rfl ?_
    rcases r1 with _ | p3
    · refine g_ifnullN (tgt := 46) hC d_Re_takeEye_27 (by decide) ?_
      refine g_aload_n hC d_Re_takeEye_46 rfl ?_
      refine g_iconst hC d_Re_takeEye_47 k_i2 ?_
      refine gv_callVi hC [.int 2] cw_Re_88 (Re_fails_c F 2 M2) lc_68 rfl rfl rfl rfl rfl rfl rfl d_Re_takeEye_48 (fun r4 M5 => ?_)
      refine g_zo (fun z6 => ?_)
      exact g_zret hC hR z6 d_Re_takeEye_51
    · refine g_ifnullR hC d_Re_takeEye_27 ?_
      refine g_gl (fun h7 => ?_)
      refine g_aload_n hC d_Re_takeEye_30 rfl ?_
      refine gv_callVi hC [] cw_Re_188 (Ey_isChoice_c F p3 M2) h7 rfl rfl rfl rfl rfl rfl rfl d_Re_takeEye_31 (fun r8 M9 => ?_)
      refine g_iload_n hC d_Re_takeEye_34 rfl ?_
      refine g_icmp_ne (tgt := 46) hC d_Re_takeEye_35 (by decide) (fun _ => ?_) (fun _ => ?_)
      · refine g_aload_n hC d_Re_takeEye_46 rfl ?_
        refine g_iconst hC d_Re_takeEye_47 k_i2 ?_
        refine gv_callVi hC [.int 2] cw_Re_88 (Re_fails_c F 2 M9) lc_68 rfl rfl rfl rfl rfl rfl rfl d_Re_takeEye_48 (fun r10 M11 => ?_)
        refine g_zo (fun z12 => ?_)
        exact g_zret hC hR z12 d_Re_takeEye_51
      · refine g_aload_n hC d_Re_takeEye_38 rfl ?_
        refine fg_Re_58 hC lc_68 d_Re_takeEye_39 ?_
        refine g_iload_n hC d_Re_takeEye_42 rfl ?_
        refine g_icmp_ne (tgt := 52) hC d_Re_takeEye_43 (by decide) (fun _ => ?_) (fun _ => ?_)
        · refine g_aload_n hC d_Re_takeEye_52 rfl ?_
          refine g_aload_n hC d_Re_takeEye_53 rfl ?_
          refine fg_Re_58 hC lc_68 d_Re_takeEye_54 ?_
          refine fp_Re_98 hC lc_68 d_Re_takeEye_57 (fun M13 => ?_)
          refine g_aload_n hC d_Re_takeEye_60 rfl ?_
          refine gv_callVv hC [] cw_Re_31 (Re_goOn_c F M13) lc_68 rfl rfl rfl rfl rfl rfl rfl d_Re_takeEye_61 (fun r14 M15 => ?_)
          refine g_iconst hC d_Re_takeEye_64 k_i1 ?_
          exact g_zret hC hR tv_z1 d_Re_takeEye_65
        · refine g_aload_n hC d_Re_takeEye_46 rfl ?_
          refine g_iconst hC d_Re_takeEye_47 k_i2 ?_
          refine gv_callVi hC [.int 2] cw_Re_88 (Re_fails_c F 2 M9) lc_68 rfl rfl rfl rfl rfl rfl rfl d_Re_takeEye_48 (fun r16 M17 => ?_)
          refine g_zo (fun z18 => ?_)
          exact g_zret hC hR z18 d_Re_takeEye_51
  · refine g_aload_n hC d_Re_takeEye_8 rfl ?_
    refine g_iconst hC d_Re_takeEye_9 k_i1 ?_
    refine gv_callVi hC [.int 1] cw_Re_88 (Re_fails_c F 1 M) lc_68 rfl rfl rfl rfl rfl rfl rfl d_Re_takeEye_10 (fun r19 M20 => ?_)
    refine g_zo (fun z21 => ?_)
    exact g_zret hC hR z21 d_Re_takeEye_13
theorem d_Re_takeEyes_0 : decode prog_8_method_13_code 0 = .ok (.aload_n 0, 1) := by decide +kernel
theorem d_Re_takeEyes_1 : decode prog_8_method_13_code 1 = .ok (.iconst 0, 1) := by decide +kernel
theorem d_Re_takeEyes_2 : decode prog_8_method_13_code 2 = .ok (.ldc 146, 2) := by decide +kernel
theorem d_Re_takeEyes_4 : decode prog_8_method_13_code 4 = .ok (.invokevirtual 147, 3) := by decide +kernel
theorem d_Re_takeEyes_7 : decode prog_8_method_13_code 7 = .ok (.ifCond .ne 5, 3) := by decide +kernel
theorem d_Re_takeEyes_10 : decode prog_8_method_13_code 10 = .ok (.iconst 0, 1) := by decide +kernel
theorem d_Re_takeEyes_11 : decode prog_8_method_13_code 11 = .ok (.ireturn, 1) := by decide +kernel
theorem d_Re_takeEyes_12 : decode prog_8_method_13_code 12 = .ok (.aload_n 1, 1) := by decide +kernel
theorem d_Re_takeEyes_13 : decode prog_8_method_13_code 13 = .ok (.aload_n 0, 1) := by decide +kernel
theorem d_Re_takeEyes_14 : decode prog_8_method_13_code 14 = .ok (.getfield 98, 3) := by decide +kernel
theorem d_Re_takeEyes_17 : decode prog_8_method_13_code 17 = .ok (.putfield 131, 3) := by decide +kernel
theorem d_Re_takeEyes_20 : decode prog_8_method_13_code 20 = .ok (.aload_n 0, 1) := by decide +kernel
theorem d_Re_takeEyes_21 : decode prog_8_method_13_code 21 = .ok (.iconst 0, 1) := by decide +kernel
theorem d_Re_takeEyes_22 : decode prog_8_method_13_code 22 = .ok (.aload_n 1, 1) := by decide +kernel
theorem d_Re_takeEyes_23 : decode prog_8_method_13_code 23 = .ok (.getfield 131, 3) := by decide +kernel
theorem d_Re_takeEyes_26 : decode prog_8_method_13_code 26 = .ok (.invokevirtual 147, 3) := by decide +kernel
theorem d_Re_takeEyes_29 : decode prog_8_method_13_code 29 = .ok (.ifCond .ne 5, 3) := by decide +kernel
theorem d_Re_takeEyes_32 : decode prog_8_method_13_code 32 = .ok (.iconst 0, 1) := by decide +kernel
theorem d_Re_takeEyes_33 : decode prog_8_method_13_code 33 = .ok (.ireturn, 1) := by decide +kernel
theorem d_Re_takeEyes_34 : decode prog_8_method_13_code 34 = .ok (.aload_n 1, 1) := by decide +kernel
theorem d_Re_takeEyes_35 : decode prog_8_method_13_code 35 = .ok (.aload_n 0, 1) := by decide +kernel
theorem d_Re_takeEyes_36 : decode prog_8_method_13_code 36 = .ok (.getfield 98, 3) := by decide +kernel
theorem d_Re_takeEyes_39 : decode prog_8_method_13_code 39 = .ok (.putfield 140, 3) := by decide +kernel
theorem d_Re_takeEyes_42 : decode prog_8_method_13_code 42 = .ok (.iconst 1, 1) := by decide +kernel
theorem d_Re_takeEyes_43 : decode prog_8_method_13_code 43 = .ok (.ireturn, 1) := by decide +kernel
set_option maxHeartbeats 2000000 in
theorem Re_takeEyes_c {l : Launch} {θ : tv_Th} (F : Nat) (a1 : Nat) (M : tv_M) : tv_Ct l θ ⟨"TiedViews$Reader", "takeEyes", "(LTiedViews$Tie;)Z"⟩ prog_8_method_13_code 2 (some .boolean) 3 tv_ei [.ref (θ.1 + 68), .ref (θ.1 + a1)] M (Re_takeEyes F a1 M) := by
  refine tv_ofG [some (.ref (θ.1 + 68)), some (.ref (θ.1 + a1))] rfl rfl (tv_ent 0 rfl) ?_
  intro κ hl ht hC hR
  subst hl; subst ht
  unfold Re_takeEyes
  refine g_gl (fun h1 => ?_)
  refine g_aload_n hC d_Re_takeEyes_0 rfl ?_
  refine g_iconst hC d_Re_takeEyes_1 k_i0 ?_
  refine g_ldc hC d_Re_takeEyes_2 wk_Re_146 ?_
  refine gv_callVi hC [.int 0, .int (-1000000)] cw_Re_147 (Re_takeEye_c F 0 (-1000000) M) lc_68 rfl rfl rfl rfl rfl rfl rfl d_Re_takeEyes_4 (fun r2 M3 => ?_)
  refine g_if_ne (tgt := 12) hC d_Re_takeEyes_7 (by decide) (fun _ => ?_) (fun _ => ?_)
  · refine g_aload_n hC d_Re_takeEyes_12 rfl ?_
    refine g_aload_n hC d_Re_takeEyes_13 rfl ?_
    refine fg_Re_98 hC lc_68 d_Re_takeEyes_14 ?_
    refine fp_Re_131 hC h1 d_Re_takeEyes_17 (fun M4 => ?_)
    refine g_aload_n hC d_Re_takeEyes_20 rfl ?_
    refine g_iconst hC d_Re_takeEyes_21 k_i0 ?_
    refine g_aload_n hC d_Re_takeEyes_22 rfl ?_
    refine fg_Re_131 hC h1 d_Re_takeEyes_23 ?_
    refine gv_callVi hC [.int 0, .int (M4.1 a1 0)] cw_Re_147 (Re_takeEye_c F 0 (M4.1 a1 0) M4) lc_68 rfl rfl rfl rfl rfl rfl rfl d_Re_takeEyes_26 (fun r5 M6 => ?_)
    refine g_if_ne (tgt := 34) hC d_Re_takeEyes_29 (by decide) (fun _ => ?_) (fun _ => ?_)
    · refine g_aload_n hC d_Re_takeEyes_34 rfl ?_
      refine g_aload_n hC d_Re_takeEyes_35 rfl ?_
      refine fg_Re_98 hC lc_68 d_Re_takeEyes_36 ?_
      refine fp_Re_140 hC h1 d_Re_takeEyes_39 (fun M7 => ?_)
      refine g_iconst hC d_Re_takeEyes_42 k_i1 ?_
      exact g_zret hC hR tv_z1 d_Re_takeEyes_43
    · refine g_iconst hC d_Re_takeEyes_32 k_i0 ?_
      exact g_zret hC hR tv_z0 d_Re_takeEyes_33
  · refine g_iconst hC d_Re_takeEyes_10 k_i0 ?_
    exact g_zret hC hR tv_z0 d_Re_takeEyes_11
theorem d_Re_takeWord_0 : decode prog_8_method_20_code 0 = .ok (.aload_n 0, 1) := by decide +kernel
theorem d_Re_takeWord_1 : decode prog_8_method_20_code 1 = .ok (.aload_n 1, 1) := by decide +kernel
theorem d_Re_takeWord_2 : decode prog_8_method_20_code 2 = .ok (.invokevirtual 71, 3) := by decide +kernel
theorem d_Re_takeWord_5 : decode prog_8_method_20_code 5 = .ok (.ifCond .ne 9, 3) := by decide +kernel
theorem d_Re_takeWord_8 : decode prog_8_method_20_code 8 = .ok (.aload_n 0, 1) := by decide +kernel
theorem d_Re_takeWord_9 : decode prog_8_method_20_code 9 = .ok (.iconst 1, 1) := by decide +kernel
theorem d_Re_takeWord_10 : decode prog_8_method_20_code 10 = .ok (.invokevirtual 88, 3) := by decide +kernel
theorem d_Re_takeWord_13 : decode prog_8_method_20_code 13 = .ok (.ireturn, 1) := by decide +kernel
theorem d_Re_takeWord_14 : decode prog_8_method_20_code 14 = .ok (.aload_n 0, 1) := by decide +kernel
theorem d_Re_takeWord_15 : decode prog_8_method_20_code 15 = .ok (.invokevirtual 31, 3) := by decide +kernel
theorem d_Re_takeWord_18 : decode prog_8_method_20_code 18 = .ok (.iconst 1, 1) := by decide +kernel
theorem d_Re_takeWord_19 : decode prog_8_method_20_code 19 = .ok (.ireturn, 1) := by decide +kernel
set_option maxHeartbeats 2000000 in
theorem Re_takeWord_c {l : Launch} {θ : tv_Th} (F : Nat) (a1 : Nat) (M : tv_M) : tv_Ct l θ ⟨"TiedViews$Reader", "takeWord", "(Ljava/lang/String;)Z"⟩ prog_8_method_20_code 2 (some .boolean) 5 tv_ei [.ref (θ.1 + 68), .ref (θ.2.2.2.1 a1)] M (Re_takeWord F a1 M) := by
  refine tv_ofG [some (.ref (θ.1 + 68)), some (.ref (θ.2.2.2.1 a1))] rfl rfl (tv_ent 0 rfl) ?_
  intro κ hl ht hC hR
  subst hl; subst ht
  unfold Re_takeWord
  refine g_gs (fun hw => ?_)
  refine g_aload_n hC d_Re_takeWord_0 rfl ?_
  refine g_aload_n hC d_Re_takeWord_1 rfl ?_
  refine gv_callVi hC [.ref (κ.th.2.2.2.1 a1)] cw_Re_71 (Re_isWord_c F a1 M) lc_68 rfl rfl rfl rfl rfl rfl rfl d_Re_takeWord_2 (fun r1 M2 => ?_)
  refine g_if_ne (tgt := 14) hC d_Re_takeWord_5 (by decide) (fun _ => ?_) (fun _ => ?_)
  · refine g_aload_n hC d_Re_takeWord_14 rfl ?_
    refine gv_callVv hC [] cw_Re_31 (Re_goOn_c F M2) lc_68 rfl rfl rfl rfl rfl rfl rfl d_Re_takeWord_15 (fun r3 M4 => ?_)
    refine g_iconst hC d_Re_takeWord_18 k_i1 ?_
    exact g_zret hC hR tv_z1 d_Re_takeWord_19
  · refine g_aload_n hC d_Re_takeWord_8 rfl ?_
    refine g_iconst hC d_Re_takeWord_9 k_i1 ?_
    refine gv_callVi hC [.int 1] cw_Re_88 (Re_fails_c F 1 M2) lc_68 rfl rfl rfl rfl rfl rfl rfl d_Re_takeWord_10 (fun r5 M6 => ?_)
    refine g_zo (fun z7 => ?_)
    exact g_zret hC hR z7 d_Re_takeWord_13
theorem d_To_linearAt_0 : decode prog_12_method_5_code 0 = .ok (.aload_n 0, 1) := by decide +kernel
theorem d_To_linearAt_1 : decode prog_12_method_5_code 1 = .ok (.iload_n 1, 1) := by decide +kernel
theorem d_To_linearAt_2 : decode prog_12_method_5_code 2 = .ok (.invokevirtual 65, 3) := by decide +kernel
theorem d_To_linearAt_5 : decode prog_12_method_5_code 5 = .ok (.astore_n 2, 1) := by decide +kernel
theorem d_To_linearAt_6 : decode prog_12_method_5_code 6 = .ok (.aload_n 2, 1) := by decide +kernel
theorem d_To_linearAt_7 : decode prog_12_method_5_code 7 = .ok (.ifnull 10, 3) := by decide +kernel
theorem d_To_linearAt_10 : decode prog_12_method_5_code 10 = .ok (.aload_n 2, 1) := by decide +kernel
theorem d_To_linearAt_11 : decode prog_12_method_5_code 11 = .ok (.invokevirtual 69, 3) := by decide +kernel
theorem d_To_linearAt_14 : decode prog_12_method_5_code 14 = .ok (.ifCond .eq 7, 3) := by decide +kernel
theorem d_To_linearAt_17 : decode prog_12_method_5_code 17 = .ok (.aconst_null, 1) := by decide +kernel
theorem d_To_linearAt_18 : decode prog_12_method_5_code 18 = .ok (.goto 4, 3) := by decide +kernel
theorem d_To_linearAt_21 : decode prog_12_method_5_code 21 = .ok (.aload_n 2, 1) := by decide +kernel
theorem d_To_linearAt_22 : decode prog_12_method_5_code 22 = .ok (.areturn, 1) := by decide +kernel
set_option maxHeartbeats 2000000 in
theorem To_linearAt_c {l : Launch} {θ : tv_Th} (F : Nat) (a1 : Int32) (M : tv_M) : tv_Ct l θ ⟨"TiedViews$Told", "linearAt", "(I)LTiedViews$Eye;"⟩ prog_12_method_5_code 3 (some (.object "TiedViews$Eye")) 1 (tv_er θ.1) [.ref (θ.1 + 18), .int a1] M (To_linearAt F a1 M) := by
  refine tv_ofG [some (.ref (θ.1 + 18)), some (.int a1), none] rfl rfl (tv_ent 1 rfl) ?_
  intro κ hl ht hC hR
  subst hl; subst ht
  unfold To_linearAt
  refine g_aload_n hC d_To_linearAt_0 rfl ?_
  refine g_iload_n hC d_To_linearAt_1 rfl ?_
  refine gv_callVr hC [.int a1] cw_To_65 (To_eyeAt_c F a1 M) lc_18 rfl rfl rfl rfl rfl rfl rfl d_To_linearAt_2 (fun r1 M2 => ?_)
  refine g_astore_nQ (ls' := [some (.ref (κ.b + 18)), some (.int a1), some (tv_re κ.b r1)]) hC d_To_linearAt_5 rfl rfl ?_
  refine g_aload_nQ hC d_To_linearAt_6 rfl ?_
  rcases r1 with _ | p3
  · refine g_ifnullN (tgt := 17) hC d_To_linearAt_7 (by decide) ?_
    refine g_null hC d_To_linearAt_17 ?_
    refine g_goto (tgt := 22) hC d_To_linearAt_18 (by decide) ?_
    exact g_aret hC hR (Or.inl ⟨_, rfl⟩) (none) d_To_linearAt_22
  · refine g_ifnullR hC d_To_linearAt_7 ?_
    refine g_gl (fun h4 => ?_)
    refine g_aload_n hC d_To_linearAt_10 rfl ?_
    refine gv_callVi hC [] cw_To_69 (Ey_isChoice_c F p3 M2) h4 rfl rfl rfl rfl rfl rfl rfl d_To_linearAt_11 (fun r5 M6 => ?_)
    refine g_if_eq (tgt := 21) hC d_To_linearAt_14 (by decide) (fun _ => ?_) (fun _ => ?_)
    · refine g_aload_n hC d_To_linearAt_21 rfl ?_
      exact g_aret hC hR (Or.inl ⟨_, rfl⟩) (some p3) d_To_linearAt_22
    · refine g_null hC d_To_linearAt_17 ?_
      refine g_goto (tgt := 22) hC d_To_linearAt_18 (by decide) ?_
      exact g_aret hC hR (Or.inl ⟨_, rfl⟩) (none) d_To_linearAt_22
theorem d_Ti_tableOf_0 : decode prog_11_method_3_code 0 = .ok (.iload_n 1, 1) := by decide +kernel
theorem d_Ti_tableOf_1 : decode prog_11_method_3_code 1 = .ok (.aload_n 0, 1) := by decide +kernel
theorem d_Ti_tableOf_2 : decode prog_11_method_3_code 2 = .ok (.getfield 18, 3) := by decide +kernel
theorem d_Ti_tableOf_5 : decode prog_11_method_3_code 5 = .ok (.if_icmp .ne 10, 3) := by decide +kernel
theorem d_Ti_tableOf_8 : decode prog_11_method_3_code 8 = .ok (.aload_n 0, 1) := by decide +kernel
theorem d_Ti_tableOf_9 : decode prog_11_method_3_code 9 = .ok (.getfield 9, 3) := by decide +kernel
theorem d_Ti_tableOf_12 : decode prog_11_method_3_code 12 = .ok (.goto 7, 3) := by decide +kernel
theorem d_Ti_tableOf_15 : decode prog_11_method_3_code 15 = .ok (.aload_n 0, 1) := by decide +kernel
theorem d_Ti_tableOf_16 : decode prog_11_method_3_code 16 = .ok (.getfield 15, 3) := by decide +kernel
theorem d_Ti_tableOf_19 : decode prog_11_method_3_code 19 = .ok (.areturn, 1) := by decide +kernel
set_option maxHeartbeats 2000000 in
theorem Ti_tableOf_c {l : Launch} {θ : tv_Th} (F : Nat) (t : Nat) (a1 : Int32) (M : tv_M) : tv_Ct l θ ⟨"TiedViews$Tie", "tableOf", "(I)[I"⟩ prog_11_method_3_code 2 (some (.array .int)) 0 (tv_er θ.1) [.ref (θ.1 + t), .int a1] M (Ti_tableOf F t a1 M) := by
  refine tv_ofG [some (.ref (θ.1 + t)), some (.int a1)] rfl rfl (tv_ent 0 rfl) ?_
  intro κ hl ht hC hR
  subst hl; subst ht
  unfold Ti_tableOf
  refine g_gl (fun h1 => ?_)
  refine g_iload_n hC d_Ti_tableOf_0 rfl ?_
  refine g_aload_n hC d_Ti_tableOf_1 rfl ?_
  refine fg_Ti_18 hC h1 d_Ti_tableOf_2 ?_
  refine g_icmp_ne (tgt := 15) hC d_Ti_tableOf_5 (by decide) (fun _ => ?_) (fun _ => ?_)
  · refine g_aload_n hC d_Ti_tableOf_15 rfl ?_
    refine g_nn (fun p2 e5 => ?_)
    refine fg_Ti_15 hC h1 d_Ti_tableOf_16 e5 ?_
    refine g_gn (fun n4 h3 => ?_)
    exact g_aret hC hR (Or.inr ⟨_, rfl⟩) (some p2) d_Ti_tableOf_19
  · refine g_aload_n hC d_Ti_tableOf_8 rfl ?_
    refine g_nn (fun p6 e9 => ?_)
    refine fg_Ti_9 hC h1 d_Ti_tableOf_9 e9 ?_
    refine g_gn (fun n8 h7 => ?_)
    refine g_goto (tgt := 19) hC d_Ti_tableOf_12 (by decide) ?_
    exact g_aret hC hR (Or.inr ⟨_, rfl⟩) (some p6) d_Ti_tableOf_19
end
