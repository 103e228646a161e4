section
-- ===== PART A: goes FIRST, ahead of the names: the tables' words, and 'selects' of the private methods out of them =====
/-- a private method of a class that the tables say can be made, by its rows of tables_1 -/
def lw_okq (q : MethodName × Nat) : Prop := (q.1.cls ≠ "java/lang/invoke/MethodHandle" ∧ q.1.cls ≠ "java/lang/invoke/VarHandle") ∧ Cond.instantiable q.1.cls q.2 ∈ tables_1 ∧ Cond.privateMethod q.1 ∈ tables_1 ∧ Cond.instanceMethod q.1 ∈ tables_1
theorem lw_p0 : lw_okq (⟨"TiedViews", "sheetAt", "(I)LTiedViews$Sheet;"⟩, 10) := ⟨⟨by decide +kernel, by decide +kernel⟩, List.mem_of_getElem? (i := 23) (by decide +kernel), List.mem_of_getElem? (i := 493) (by decide +kernel), List.mem_of_getElem? (i := 494) (by decide +kernel)⟩
theorem lw_p1 : lw_okq (⟨"TiedViews", "found", "(I)I"⟩, 10) := ⟨⟨by decide +kernel, by decide +kernel⟩, List.mem_of_getElem? (i := 23) (by decide +kernel), List.mem_of_getElem? (i := 498) (by decide +kernel), List.mem_of_getElem? (i := 499) (by decide +kernel)⟩
theorem lw_p2 : lw_okq (⟨"TiedViews", "passed", "(I)I"⟩, 10) := ⟨⟨by decide +kernel, by decide +kernel⟩, List.mem_of_getElem? (i := 23) (by decide +kernel), List.mem_of_getElem? (i := 508) (by decide +kernel), List.mem_of_getElem? (i := 509) (by decide +kernel)⟩
theorem lw_p3 : lw_okq (⟨"TiedViews$Sheet", "cut", "(I)I"⟩, 3) := ⟨⟨by decide +kernel, by decide +kernel⟩, List.mem_of_getElem? (i := 35) (by decide +kernel), List.mem_of_getElem? (i := 530) (by decide +kernel), List.mem_of_getElem? (i := 531) (by decide +kernel)⟩
theorem lw_p4 : lw_okq (⟨"TiedViews$Reader", "goOn", "()V"⟩, 9) := ⟨⟨by decide +kernel, by decide +kernel⟩, List.mem_of_getElem? (i := 221) (by decide +kernel), List.mem_of_getElem? (i := 570) (by decide +kernel), List.mem_of_getElem? (i := 571) (by decide +kernel)⟩
theorem lw_p5 : lw_okq (⟨"TiedViews$Reader", "passRun", "(CC)Z"⟩, 9) := ⟨⟨by decide +kernel, by decide +kernel⟩, List.mem_of_getElem? (i := 221) (by decide +kernel), List.mem_of_getElem? (i := 574) (by decide +kernel), List.mem_of_getElem? (i := 575) (by decide +kernel)⟩
theorem lw_p6 : lw_okq (⟨"TiedViews$Reader", "figuresValue", "()I"⟩, 9) := ⟨⟨by decide +kernel, by decide +kernel⟩, List.mem_of_getElem? (i := 221) (by decide +kernel), List.mem_of_getElem? (i := 578) (by decide +kernel), List.mem_of_getElem? (i := 579) (by decide +kernel)⟩
theorem lw_p7 : lw_okq (⟨"TiedViews$Reader", "takeSentence", "()Z"⟩, 9) := ⟨⟨by decide +kernel, by decide +kernel⟩, List.mem_of_getElem? (i := 221) (by decide +kernel), List.mem_of_getElem? (i := 582) (by decide +kernel), List.mem_of_getElem? (i := 583) (by decide +kernel)⟩
theorem lw_p8 : lw_okq (⟨"TiedViews$Reader", "isWord", "(Ljava/lang/String;)Z"⟩, 9) := ⟨⟨by decide +kernel, by decide +kernel⟩, List.mem_of_getElem? (i := 221) (by decide +kernel), List.mem_of_getElem? (i := 587) (by decide +kernel), List.mem_of_getElem? (i := 588) (by decide +kernel)⟩
theorem lw_p9 : lw_okq (⟨"TiedViews$Reader", "takeEyeSentence", "()Z"⟩, 9) := ⟨⟨by decide +kernel, by decide +kernel⟩, List.mem_of_getElem? (i := 221) (by decide +kernel), List.mem_of_getElem? (i := 639) (by decide +kernel), List.mem_of_getElem? (i := 640) (by decide +kernel)⟩
theorem lw_p10 : lw_okq (⟨"TiedViews$Reader", "fails", "(I)Z"⟩, 9) := ⟨⟨by decide +kernel, by decide +kernel⟩, List.mem_of_getElem? (i := 221) (by decide +kernel), List.mem_of_getElem? (i := 643) (by decide +kernel), List.mem_of_getElem? (i := 644) (by decide +kernel)⟩
theorem lw_p11 : lw_okq (⟨"TiedViews$Reader", "takeSort", "()Z"⟩, 9) := ⟨⟨by decide +kernel, by decide +kernel⟩, List.mem_of_getElem? (i := 221) (by decide +kernel), List.mem_of_getElem? (i := 647) (by decide +kernel), List.mem_of_getElem? (i := 648) (by decide +kernel)⟩
theorem lw_p12 : lw_okq (⟨"TiedViews$Reader", "takeNumber", "(II)Z"⟩, 9) := ⟨⟨by decide +kernel, by decide +kernel⟩, List.mem_of_getElem? (i := 221) (by decide +kernel), List.mem_of_getElem? (i := 655) (by decide +kernel), List.mem_of_getElem? (i := 656) (by decide +kernel)⟩
theorem lw_p13 : lw_okq (⟨"TiedViews$Reader", "takeSign", "(C)Z"⟩, 9) := ⟨⟨by decide +kernel, by decide +kernel⟩, List.mem_of_getElem? (i := 221) (by decide +kernel), List.mem_of_getElem? (i := 659) (by decide +kernel), List.mem_of_getElem? (i := 660) (by decide +kernel)⟩
theorem lw_p14 : lw_okq (⟨"TiedViews$Reader", "takeTieSentence", "()Z"⟩, 9) := ⟨⟨by decide +kernel, by decide +kernel⟩, List.mem_of_getElem? (i := 221) (by decide +kernel), List.mem_of_getElem? (i := 676) (by decide +kernel), List.mem_of_getElem? (i := 677) (by decide +kernel)⟩
theorem lw_p15 : lw_okq (⟨"TiedViews$Reader", "takeEyes", "(LTiedViews$Tie;)Z"⟩, 9) := ⟨⟨by decide +kernel, by decide +kernel⟩, List.mem_of_getElem? (i := 221) (by decide +kernel), List.mem_of_getElem? (i := 684) (by decide +kernel), List.mem_of_getElem? (i := 685) (by decide +kernel)⟩
def lw_privs_1 : List (MethodName × Nat) := [(⟨"TiedViews", "sheetAt", "(I)LTiedViews$Sheet;"⟩, 10), (⟨"TiedViews", "found", "(I)I"⟩, 10), (⟨"TiedViews", "passed", "(I)I"⟩, 10), (⟨"TiedViews$Sheet", "cut", "(I)I"⟩, 3), (⟨"TiedViews$Reader", "goOn", "()V"⟩, 9), (⟨"TiedViews$Reader", "passRun", "(CC)Z"⟩, 9), (⟨"TiedViews$Reader", "figuresValue", "()I"⟩, 9), (⟨"TiedViews$Reader", "takeSentence", "()Z"⟩, 9), (⟨"TiedViews$Reader", "isWord", "(Ljava/lang/String;)Z"⟩, 9), (⟨"TiedViews$Reader", "takeEyeSentence", "()Z"⟩, 9), (⟨"TiedViews$Reader", "fails", "(I)Z"⟩, 9), (⟨"TiedViews$Reader", "takeSort", "()Z"⟩, 9), (⟨"TiedViews$Reader", "takeNumber", "(II)Z"⟩, 9), (⟨"TiedViews$Reader", "takeSign", "(C)Z"⟩, 9), (⟨"TiedViews$Reader", "takeTieSentence", "()Z"⟩, 9), (⟨"TiedViews$Reader", "takeEyes", "(LTiedViews$Tie;)Z"⟩, 9)]
theorem lw_r1 : ∀ q ∈ lw_privs_1, lw_okq q := List.forall_mem_cons.mpr ⟨lw_p0, List.forall_mem_cons.mpr ⟨lw_p1, List.forall_mem_cons.mpr ⟨lw_p2, List.forall_mem_cons.mpr ⟨lw_p3, List.forall_mem_cons.mpr ⟨lw_p4, List.forall_mem_cons.mpr ⟨lw_p5, List.forall_mem_cons.mpr ⟨lw_p6, List.forall_mem_cons.mpr ⟨lw_p7, List.forall_mem_cons.mpr ⟨lw_p8, List.forall_mem_cons.mpr ⟨lw_p9, List.forall_mem_cons.mpr ⟨lw_p10, List.forall_mem_cons.mpr ⟨lw_p11, List.forall_mem_cons.mpr ⟨lw_p12, List.forall_mem_cons.mpr ⟨lw_p13, List.forall_mem_cons.mpr ⟨lw_p14, List.forall_mem_cons.mpr ⟨lw_p15, fun _ h => absurd h List.not_mem_nil⟩⟩⟩⟩⟩⟩⟩⟩⟩⟩⟩⟩⟩⟩⟩⟩
theorem lw_p16 : lw_okq (⟨"TiedViews$Reader", "takeEye", "(ZI)Z"⟩, 9) := ⟨⟨by decide +kernel, by decide +kernel⟩, List.mem_of_getElem? (i := 221) (by decide +kernel), List.mem_of_getElem? (i := 689) (by decide +kernel), List.mem_of_getElem? (i := 690) (by decide +kernel)⟩
theorem lw_p17 : lw_okq (⟨"TiedViews$Reader", "takeWord", "(Ljava/lang/String;)Z"⟩, 9) := ⟨⟨by decide +kernel, by decide +kernel⟩, List.mem_of_getElem? (i := 221) (by decide +kernel), List.mem_of_getElem? (i := 702) (by decide +kernel), List.mem_of_getElem? (i := 703) (by decide +kernel)⟩
theorem lw_p18 : lw_okq (⟨"TiedViews$Reader", "takeTable", "(LTiedViews$Tie;I)Z"⟩, 9) := ⟨⟨by decide +kernel, by decide +kernel⟩, List.mem_of_getElem? (i := 221) (by decide +kernel), List.mem_of_getElem? (i := 706) (by decide +kernel), List.mem_of_getElem? (i := 707) (by decide +kernel)⟩
theorem lw_p19 : lw_okq (⟨"TiedViews$Reader", "takeBarSentence", "()Z"⟩, 9) := ⟨⟨by decide +kernel, by decide +kernel⟩, List.mem_of_getElem? (i := 221) (by decide +kernel), List.mem_of_getElem? (i := 726) (by decide +kernel), List.mem_of_getElem? (i := 727) (by decide +kernel)⟩
theorem lw_p20 : lw_okq (⟨"TiedViews$Reader", "takeValueOf", "(I)Z"⟩, 9) := ⟨⟨by decide +kernel, by decide +kernel⟩, List.mem_of_getElem? (i := 221) (by decide +kernel), List.mem_of_getElem? (i := 730) (by decide +kernel), List.mem_of_getElem? (i := 731) (by decide +kernel)⟩
theorem lw_p21 : lw_okq (⟨"TiedViews$Agreement", "addLines", "(LTiedViews$Steps;IZ)V"⟩, 5) := ⟨⟨by decide +kernel, by decide +kernel⟩, List.mem_of_getElem? (i := 258) (by decide +kernel), List.mem_of_getElem? (i := 758) (by decide +kernel), List.mem_of_getElem? (i := 759) (by decide +kernel)⟩
theorem lw_p22 : lw_okq (⟨"TiedViews$Steps", "leastLineAt", "(I)I"⟩, 11) := ⟨⟨by decide +kernel, by decide +kernel⟩, List.mem_of_getElem? (i := 264) (by decide +kernel), List.mem_of_getElem? (i := 779) (by decide +kernel), List.mem_of_getElem? (i := 780) (by decide +kernel)⟩
theorem lw_p23 : lw_okq (⟨"TiedViews$Steps", "makeOneAt", "(II)V"⟩, 11) := ⟨⟨by decide +kernel, by decide +kernel⟩, List.mem_of_getElem? (i := 264) (by decide +kernel), List.mem_of_getElem? (i := 783) (by decide +kernel), List.mem_of_getElem? (i := 784) (by decide +kernel)⟩
theorem lw_p24 : lw_okq (⟨"TiedViews$Steps", "takeOffOthers", "(II)V"⟩, 11) := ⟨⟨by decide +kernel, by decide +kernel⟩, List.mem_of_getElem? (i := 264) (by decide +kernel), List.mem_of_getElem? (i := 792) (by decide +kernel), List.mem_of_getElem? (i := 793) (by decide +kernel)⟩
theorem lw_p25 : lw_okq (⟨"TiedViews$Choices", "bar", "(IIII)V"⟩, 7) := ⟨⟨by decide +kernel, by decide +kernel⟩, List.mem_of_getElem? (i := 412) (by decide +kernel), List.mem_of_getElem? (i := 808) (by decide +kernel), List.mem_of_getElem? (i := 809) (by decide +kernel)⟩
theorem lw_p26 : lw_okq (⟨"TiedViews", "forgetReadings", "()V"⟩, 10) := ⟨⟨by decide +kernel, by decide +kernel⟩, List.mem_of_getElem? (i := 23) (by decide +kernel), List.mem_of_getElem? (i := 885) (by decide +kernel), List.mem_of_getElem? (i := 886) (by decide +kernel)⟩
theorem lw_p27 : lw_okq (⟨"TiedViews$Agreement", "learnFill", "()V"⟩, 5) := ⟨⟨by decide +kernel, by decide +kernel⟩, List.mem_of_getElem? (i := 258) (by decide +kernel), List.mem_of_getElem? (i := 905) (by decide +kernel), List.mem_of_getElem? (i := 906) (by decide +kernel)⟩
theorem lw_p28 : lw_okq (⟨"TiedViews$Agreement", "addReadings", "()V"⟩, 5) := ⟨⟨by decide +kernel, by decide +kernel⟩, List.mem_of_getElem? (i := 258) (by decide +kernel), List.mem_of_getElem? (i := 909) (by decide +kernel), List.mem_of_getElem? (i := 910) (by decide +kernel)⟩
theorem lw_p29 : lw_okq (⟨"TiedViews$Agreement", "noLineWantsTheImpossible", "()Z"⟩, 5) := ⟨⟨by decide +kernel, by decide +kernel⟩, List.mem_of_getElem? (i := 258) (by decide +kernel), List.mem_of_getElem? (i := 913) (by decide +kernel), List.mem_of_getElem? (i := 914) (by decide +kernel)⟩
theorem lw_p30 : lw_okq (⟨"TiedViews$Dropping", "searchFrom", "(II)V"⟩, 9) := ⟨⟨by decide +kernel, by decide +kernel⟩, List.mem_of_getElem? (i := 324) (by decide +kernel), List.mem_of_getElem? (i := 948) (by decide +kernel), List.mem_of_getElem? (i := 949) (by decide +kernel)⟩
theorem lw_p31 : lw_okq (⟨"TiedViews$Dropping", "addReading", "(LTiedViews$Eye;)Z"⟩, 9) := ⟨⟨by decide +kernel, by decide +kernel⟩, List.mem_of_getElem? (i := 324) (by decide +kernel), List.mem_of_getElem? (i := 959) (by decide +kernel), List.mem_of_getElem? (i := 960) (by decide +kernel)⟩
def lw_privs_2 : List (MethodName × Nat) := [(⟨"TiedViews$Reader", "takeEye", "(ZI)Z"⟩, 9), (⟨"TiedViews$Reader", "takeWord", "(Ljava/lang/String;)Z"⟩, 9), (⟨"TiedViews$Reader", "takeTable", "(LTiedViews$Tie;I)Z"⟩, 9), (⟨"TiedViews$Reader", "takeBarSentence", "()Z"⟩, 9), (⟨"TiedViews$Reader", "takeValueOf", "(I)Z"⟩, 9), (⟨"TiedViews$Agreement", "addLines", "(LTiedViews$Steps;IZ)V"⟩, 5), (⟨"TiedViews$Steps", "leastLineAt", "(I)I"⟩, 11), (⟨"TiedViews$Steps", "makeOneAt", "(II)V"⟩, 11), (⟨"TiedViews$Steps", "takeOffOthers", "(II)V"⟩, 11), (⟨"TiedViews$Choices", "bar", "(IIII)V"⟩, 7), (⟨"TiedViews", "forgetReadings", "()V"⟩, 10), (⟨"TiedViews$Agreement", "learnFill", "()V"⟩, 5), (⟨"TiedViews$Agreement", "addReadings", "()V"⟩, 5), (⟨"TiedViews$Agreement", "noLineWantsTheImpossible", "()Z"⟩, 5), (⟨"TiedViews$Dropping", "searchFrom", "(II)V"⟩, 9), (⟨"TiedViews$Dropping", "addReading", "(LTiedViews$Eye;)Z"⟩, 9)]
theorem lw_r2 : ∀ q ∈ lw_privs_2, lw_okq q := List.forall_mem_cons.mpr ⟨lw_p16, List.forall_mem_cons.mpr ⟨lw_p17, List.forall_mem_cons.mpr ⟨lw_p18, List.forall_mem_cons.mpr ⟨lw_p19, List.forall_mem_cons.mpr ⟨lw_p20, List.forall_mem_cons.mpr ⟨lw_p21, List.forall_mem_cons.mpr ⟨lw_p22, List.forall_mem_cons.mpr ⟨lw_p23, List.forall_mem_cons.mpr ⟨lw_p24, List.forall_mem_cons.mpr ⟨lw_p25, List.forall_mem_cons.mpr ⟨lw_p26, List.forall_mem_cons.mpr ⟨lw_p27, List.forall_mem_cons.mpr ⟨lw_p28, List.forall_mem_cons.mpr ⟨lw_p29, List.forall_mem_cons.mpr ⟨lw_p30, List.forall_mem_cons.mpr ⟨lw_p31, fun _ h => absurd h List.not_mem_nil⟩⟩⟩⟩⟩⟩⟩⟩⟩⟩⟩⟩⟩⟩⟩⟩
theorem lw_p32 : lw_okq (⟨"TiedViews$Dropping", "addEquation", "(II)Z"⟩, 9) := ⟨⟨by decide +kernel, by decide +kernel⟩, List.mem_of_getElem? (i := 324) (by decide +kernel), List.mem_of_getElem? (i := 963) (by decide +kernel), List.mem_of_getElem? (i := 964) (by decide +kernel)⟩
theorem lw_p33 : lw_okq (⟨"TiedViews$Dropping", "takeOffOthers", "([I)V"⟩, 9) := ⟨⟨by decide +kernel, by decide +kernel⟩, List.mem_of_getElem? (i := 324) (by decide +kernel), List.mem_of_getElem? (i := 968) (by decide +kernel), List.mem_of_getElem? (i := 969) (by decide +kernel)⟩
theorem lw_p34 : lw_okq (⟨"TiedViews$Dropping", "firstNotNought", "([I)I"⟩, 9) := ⟨⟨by decide +kernel, by decide +kernel⟩, List.mem_of_getElem? (i := 324) (by decide +kernel), List.mem_of_getElem? (i := 973) (by decide +kernel), List.mem_of_getElem? (i := 974) (by decide +kernel)⟩
theorem lw_p35 : lw_okq (⟨"TiedViews$Agreement", "wantOf", "(ILTiedViews$Sheet;I)I"⟩, 5) := ⟨⟨by decide +kernel, by decide +kernel⟩, List.mem_of_getElem? (i := 258) (by decide +kernel), List.mem_of_getElem? (i := 988) (by decide +kernel), List.mem_of_getElem? (i := 989) (by decide +kernel)⟩
theorem lw_p36 : lw_okq (⟨"TiedViews$Hearsay", "hearAll", "([I)V"⟩, 13) := ⟨⟨by decide +kernel, by decide +kernel⟩, List.mem_of_getElem? (i := 359) (by decide +kernel), List.mem_of_getElem? (i := 1041) (by decide +kernel), List.mem_of_getElem? (i := 1042) (by decide +kernel)⟩
theorem lw_p37 : lw_okq (⟨"TiedViews$Hearsay", "hearOne", "(LTiedViews$Eye;[I)V"⟩, 13) := ⟨⟨by decide +kernel, by decide +kernel⟩, List.mem_of_getElem? (i := 359) (by decide +kernel), List.mem_of_getElem? (i := 1046) (by decide +kernel), List.mem_of_getElem? (i := 1047) (by decide +kernel)⟩
theorem lw_p38 : lw_okq (⟨"TiedViews$Hearsay", "settle", "()V"⟩, 13) := ⟨⟨by decide +kernel, by decide +kernel⟩, List.mem_of_getElem? (i := 359) (by decide +kernel), List.mem_of_getElem? (i := 1070) (by decide +kernel), List.mem_of_getElem? (i := 1071) (by decide +kernel)⟩
theorem lw_p39 : lw_okq (⟨"TiedViews$Hearsay", "packed", "(I)J"⟩, 13) := ⟨⟨by decide +kernel, by decide +kernel⟩, List.mem_of_getElem? (i := 359) (by decide +kernel), List.mem_of_getElem? (i := 1074) (by decide +kernel), List.mem_of_getElem? (i := 1075) (by decide +kernel)⟩
theorem lw_p40 : lw_okq (⟨"TiedViews$Hearsay", "firstLike", "(I)I"⟩, 13) := ⟨⟨by decide +kernel, by decide +kernel⟩, List.mem_of_getElem? (i := 359) (by decide +kernel), List.mem_of_getElem? (i := 1078) (by decide +kernel), List.mem_of_getElem? (i := 1079) (by decide +kernel)⟩
theorem lw_p41 : lw_okq (⟨"TiedViews$Choices", "narrowOne", "(I)I"⟩, 7) := ⟨⟨by decide +kernel, by decide +kernel⟩, List.mem_of_getElem? (i := 412) (by decide +kernel), List.mem_of_getElem? (i := 1100) (by decide +kernel), List.mem_of_getElem? (i := 1101) (by decide +kernel)⟩
theorem lw_p42 : lw_okq (⟨"TiedViews$Choices", "goesWithAll", "(II)Z"⟩, 7) := ⟨⟨by decide +kernel, by decide +kernel⟩, List.mem_of_getElem? (i := 412) (by decide +kernel), List.mem_of_getElem? (i := 1105) (by decide +kernel), List.mem_of_getElem? (i := 1106) (by decide +kernel)⟩
theorem lw_p43 : lw_okq (⟨"TiedViews$Choices", "waysFrom", "(I)I"⟩, 7) := ⟨⟨by decide +kernel, by decide +kernel⟩, List.mem_of_getElem? (i := 412) (by decide +kernel), List.mem_of_getElem? (i := 1118) (by decide +kernel), List.mem_of_getElem? (i := 1119) (by decide +kernel)⟩
theorem lw_p44 : lw_okq (⟨"TiedViews$Choices", "leavesLaterOpen", "(II)Z"⟩, 7) := ⟨⟨by decide +kernel, by decide +kernel⟩, List.mem_of_getElem? (i := 412) (by decide +kernel), List.mem_of_getElem? (i := 1125) (by decide +kernel), List.mem_of_getElem? (i := 1126) (by decide +kernel)⟩
theorem lw_p45 : lw_okq (⟨"TiedViews$Choices", "findFirst", "(I)Z"⟩, 7) := ⟨⟨by decide +kernel, by decide +kernel⟩, List.mem_of_getElem? (i := 412) (by decide +kernel), List.mem_of_getElem? (i := 1129) (by decide +kernel), List.mem_of_getElem? (i := 1130) (by decide +kernel)⟩
theorem lw_p46 : lw_okq (⟨"TiedViews$Bodies", "answerAnew", "(LTiedViews$Eye;II)I"⟩, 3) := ⟨⟨by decide +kernel, by decide +kernel⟩, List.mem_of_getElem? (i := 442) (by decide +kernel), List.mem_of_getElem? (i := 1165) (by decide +kernel), List.mem_of_getElem? (i := 1166) (by decide +kernel)⟩
theorem lw_p47 : lw_okq (⟨"TiedViews$Bodies", "give", "(LTiedViews$Eye;II)I"⟩, 3) := ⟨⟨by decide +kernel, by decide +kernel⟩, List.mem_of_getElem? (i := 442) (by decide +kernel), List.mem_of_getElem? (i := 1176) (by decide +kernel), List.mem_of_getElem? (i := 1177) (by decide +kernel)⟩
def lw_privs_3 : List (MethodName × Nat) := [(⟨"TiedViews$Dropping", "addEquation", "(II)Z"⟩, 9), (⟨"TiedViews$Dropping", "takeOffOthers", "([I)V"⟩, 9), (⟨"TiedViews$Dropping", "firstNotNought", "([I)I"⟩, 9), (⟨"TiedViews$Agreement", "wantOf", "(ILTiedViews$Sheet;I)I"⟩, 5), (⟨"TiedViews$Hearsay", "hearAll", "([I)V"⟩, 13), (⟨"TiedViews$Hearsay", "hearOne", "(LTiedViews$Eye;[I)V"⟩, 13), (⟨"TiedViews$Hearsay", "settle", "()V"⟩, 13), (⟨"TiedViews$Hearsay", "packed", "(I)J"⟩, 13), (⟨"TiedViews$Hearsay", "firstLike", "(I)I"⟩, 13), (⟨"TiedViews$Choices", "narrowOne", "(I)I"⟩, 7), (⟨"TiedViews$Choices", "goesWithAll", "(II)Z"⟩, 7), (⟨"TiedViews$Choices", "waysFrom", "(I)I"⟩, 7), (⟨"TiedViews$Choices", "leavesLaterOpen", "(II)Z"⟩, 7), (⟨"TiedViews$Choices", "findFirst", "(I)Z"⟩, 7), (⟨"TiedViews$Bodies", "answerAnew", "(LTiedViews$Eye;II)I"⟩, 3), (⟨"TiedViews$Bodies", "give", "(LTiedViews$Eye;II)I"⟩, 3)]
theorem lw_r3 : ∀ q ∈ lw_privs_3, lw_okq q := List.forall_mem_cons.mpr ⟨lw_p32, List.forall_mem_cons.mpr ⟨lw_p33, List.forall_mem_cons.mpr ⟨lw_p34, List.forall_mem_cons.mpr ⟨lw_p35, List.forall_mem_cons.mpr ⟨lw_p36, List.forall_mem_cons.mpr ⟨lw_p37, List.forall_mem_cons.mpr ⟨lw_p38, List.forall_mem_cons.mpr ⟨lw_p39, List.forall_mem_cons.mpr ⟨lw_p40, List.forall_mem_cons.mpr ⟨lw_p41, List.forall_mem_cons.mpr ⟨lw_p42, List.forall_mem_cons.mpr ⟨lw_p43, List.forall_mem_cons.mpr ⟨lw_p44, List.forall_mem_cons.mpr ⟨lw_p45, List.forall_mem_cons.mpr ⟨lw_p46, List.forall_mem_cons.mpr ⟨lw_p47, fun _ h => absurd h List.not_mem_nil⟩⟩⟩⟩⟩⟩⟩⟩⟩⟩⟩⟩⟩⟩⟩⟩
theorem lw_p48 : lw_okq (⟨"TiedViews$Bodies", "leaveTrace", "(I)V"⟩, 3) := ⟨⟨by decide +kernel, by decide +kernel⟩, List.mem_of_getElem? (i := 442) (by decide +kernel), List.mem_of_getElem? (i := 1180) (by decide +kernel), List.mem_of_getElem? (i := 1181) (by decide +kernel)⟩
theorem lw_p49 : lw_okq (⟨"TiedViews", "sheetsThere", "()I"⟩, 10) := ⟨⟨by decide +kernel, by decide +kernel⟩, List.mem_of_getElem? (i := 23) (by decide +kernel), List.mem_of_getElem? (i := 1199) (by decide +kernel), List.mem_of_getElem? (i := 1200) (by decide +kernel)⟩
theorem lw_p50 : lw_okq (⟨"TiedViewsModel", "finding", "(I)I"⟩, 55) := ⟨⟨by decide +kernel, by decide +kernel⟩, List.mem_of_getElem? (i := 1218) (by decide +kernel), List.mem_of_getElem? (i := 1403) (by decide +kernel), List.mem_of_getElem? (i := 1404) (by decide +kernel)⟩
theorem lw_p51 : lw_okq (⟨"TiedViewsModel", "step", "()V"⟩, 55) := ⟨⟨by decide +kernel, by decide +kernel⟩, List.mem_of_getElem? (i := 1218) (by decide +kernel), List.mem_of_getElem? (i := 1431) (by decide +kernel), List.mem_of_getElem? (i := 1432) (by decide +kernel)⟩
theorem lw_p52 : lw_okq (⟨"TiedViewsModel", "byteAt", "(I)I"⟩, 55) := ⟨⟨by decide +kernel, by decide +kernel⟩, List.mem_of_getElem? (i := 1218) (by decide +kernel), List.mem_of_getElem? (i := 1435) (by decide +kernel), List.mem_of_getElem? (i := 1436) (by decide +kernel)⟩
theorem lw_p53 : lw_okq (⟨"TiedViewsModel", "word", "()J"⟩, 55) := ⟨⟨by decide +kernel, by decide +kernel⟩, List.mem_of_getElem? (i := 1218) (by decide +kernel), List.mem_of_getElem? (i := 1446) (by decide +kernel), List.mem_of_getElem? (i := 1447) (by decide +kernel)⟩
theorem lw_p54 : lw_okq (⟨"TiedViewsModel", "bad", "(I)V"⟩, 55) := ⟨⟨by decide +kernel, by decide +kernel⟩, List.mem_of_getElem? (i := 1218) (by decide +kernel), List.mem_of_getElem? (i := 1453) (by decide +kernel), List.mem_of_getElem? (i := 1454) (by decide +kernel)⟩
theorem lw_p55 : lw_okq (⟨"TiedViewsModel", "must", "(Z)V"⟩, 55) := ⟨⟨by decide +kernel, by decide +kernel⟩, List.mem_of_getElem? (i := 1218) (by decide +kernel), List.mem_of_getElem? (i := 1457) (by decide +kernel), List.mem_of_getElem? (i := 1458) (by decide +kernel)⟩
theorem lw_p56 : lw_okq (⟨"TiedViewsModel", "readEye", "()V"⟩, 55) := ⟨⟨by decide +kernel, by decide +kernel⟩, List.mem_of_getElem? (i := 1218) (by decide +kernel), List.mem_of_getElem? (i := 1461) (by decide +kernel), List.mem_of_getElem? (i := 1462) (by decide +kernel)⟩
theorem lw_p57 : lw_okq (⟨"TiedViewsModel", "numberIn", "(II)I"⟩, 55) := ⟨⟨by decide +kernel, by decide +kernel⟩, List.mem_of_getElem? (i := 1218) (by decide +kernel), List.mem_of_getElem? (i := 1469) (by decide +kernel), List.mem_of_getElem? (i := 1470) (by decide +kernel)⟩
theorem lw_p58 : lw_okq (⟨"TiedViewsModel", "numberHere", "()I"⟩, 55) := ⟨⟨by decide +kernel, by decide +kernel⟩, List.mem_of_getElem? (i := 1218) (by decide +kernel), List.mem_of_getElem? (i := 1473) (by decide +kernel), List.mem_of_getElem? (i := 1474) (by decide +kernel)⟩
theorem lw_p59 : lw_okq (⟨"TiedViewsModel", "readTie", "()V"⟩, 55) := ⟨⟨by decide +kernel, by decide +kernel⟩, List.mem_of_getElem? (i := 1218) (by decide +kernel), List.mem_of_getElem? (i := 1477) (by decide +kernel), List.mem_of_getElem? (i := 1478) (by decide +kernel)⟩
theorem lw_p60 : lw_okq (⟨"TiedViewsModel", "eyeHere", "(ZI)I"⟩, 55) := ⟨⟨by decide +kernel, by decide +kernel⟩, List.mem_of_getElem? (i := 1218) (by decide +kernel), List.mem_of_getElem? (i := 1481) (by decide +kernel), List.mem_of_getElem? (i := 1482) (by decide +kernel)⟩
theorem lw_p61 : lw_okq (⟨"TiedViewsModel", "readTable", "(III)V"⟩, 55) := ⟨⟨by decide +kernel, by decide +kernel⟩, List.mem_of_getElem? (i := 1218) (by decide +kernel), List.mem_of_getElem? (i := 1486) (by decide +kernel), List.mem_of_getElem? (i := 1487) (by decide +kernel)⟩
theorem lw_p62 : lw_okq (⟨"TiedViewsModel", "is", "(I)Z"⟩, 55) := ⟨⟨by decide +kernel, by decide +kernel⟩, List.mem_of_getElem? (i := 1218) (by decide +kernel), List.mem_of_getElem? (i := 1490) (by decide +kernel), List.mem_of_getElem? (i := 1491) (by decide +kernel)⟩
theorem lw_p63 : lw_okq (⟨"TiedViewsModel", "readBar", "()V"⟩, 55) := ⟨⟨by decide +kernel, by decide +kernel⟩, List.mem_of_getElem? (i := 1218) (by decide +kernel), List.mem_of_getElem? (i := 1495) (by decide +kernel), List.mem_of_getElem? (i := 1496) (by decide +kernel)⟩
def lw_privs_4 : List (MethodName × Nat) := [(⟨"TiedViews$Bodies", "leaveTrace", "(I)V"⟩, 3), (⟨"TiedViews", "sheetsThere", "()I"⟩, 10), (⟨"TiedViewsModel", "finding", "(I)I"⟩, 55), (⟨"TiedViewsModel", "step", "()V"⟩, 55), (⟨"TiedViewsModel", "byteAt", "(I)I"⟩, 55), (⟨"TiedViewsModel", "word", "()J"⟩, 55), (⟨"TiedViewsModel", "bad", "(I)V"⟩, 55), (⟨"TiedViewsModel", "must", "(Z)V"⟩, 55), (⟨"TiedViewsModel", "readEye", "()V"⟩, 55), (⟨"TiedViewsModel", "numberIn", "(II)I"⟩, 55), (⟨"TiedViewsModel", "numberHere", "()I"⟩, 55), (⟨"TiedViewsModel", "readTie", "()V"⟩, 55), (⟨"TiedViewsModel", "eyeHere", "(ZI)I"⟩, 55), (⟨"TiedViewsModel", "readTable", "(III)V"⟩, 55), (⟨"TiedViewsModel", "is", "(I)Z"⟩, 55), (⟨"TiedViewsModel", "readBar", "()V"⟩, 55)]
theorem lw_r4 : ∀ q ∈ lw_privs_4, lw_okq q := List.forall_mem_cons.mpr ⟨lw_p48, List.forall_mem_cons.mpr ⟨lw_p49, List.forall_mem_cons.mpr ⟨lw_p50, List.forall_mem_cons.mpr ⟨lw_p51, List.forall_mem_cons.mpr ⟨lw_p52, List.forall_mem_cons.mpr ⟨lw_p53, List.forall_mem_cons.mpr ⟨lw_p54, List.forall_mem_cons.mpr ⟨lw_p55, List.forall_mem_cons.mpr ⟨lw_p56, List.forall_mem_cons.mpr ⟨lw_p57, List.forall_mem_cons.mpr ⟨lw_p58, List.forall_mem_cons.mpr ⟨lw_p59, List.forall_mem_cons.mpr ⟨lw_p60, List.forall_mem_cons.mpr ⟨lw_p61, List.forall_mem_cons.mpr ⟨lw_p62, List.forall_mem_cons.mpr ⟨lw_p63, fun _ h => absurd h List.not_mem_nil⟩⟩⟩⟩⟩⟩⟩⟩⟩⟩⟩⟩⟩⟩⟩⟩
theorem lw_p64 : lw_okq (⟨"TiedViewsModel", "isEye", "(I)Z"⟩, 55) := ⟨⟨by decide +kernel, by decide +kernel⟩, List.mem_of_getElem? (i := 1218) (by decide +kernel), List.mem_of_getElem? (i := 1508) (by decide +kernel), List.mem_of_getElem? (i := 1509) (by decide +kernel)⟩
theorem lw_p65 : lw_okq (⟨"TiedViewsModel", "tiesOf", "(I)I"⟩, 55) := ⟨⟨by decide +kernel, by decide +kernel⟩, List.mem_of_getElem? (i := 1218) (by decide +kernel), List.mem_of_getElem? (i := 1513) (by decide +kernel), List.mem_of_getElem? (i := 1514) (by decide +kernel)⟩
theorem lw_p66 : lw_okq (⟨"TiedViewsModel", "layTies", "(I)V"⟩, 55) := ⟨⟨by decide +kernel, by decide +kernel⟩, List.mem_of_getElem? (i := 1218) (by decide +kernel), List.mem_of_getElem? (i := 1522) (by decide +kernel), List.mem_of_getElem? (i := 1523) (by decide +kernel)⟩
theorem lw_p67 : lw_okq (⟨"TiedViewsModel", "addLine", "()V"⟩, 55) := ⟨⟨by decide +kernel, by decide +kernel⟩, List.mem_of_getElem? (i := 1218) (by decide +kernel), List.mem_of_getElem? (i := 1526) (by decide +kernel), List.mem_of_getElem? (i := 1527) (by decide +kernel)⟩
theorem lw_p68 : lw_okq (⟨"TiedViewsModel", "takeSteps", "()V"⟩, 55) := ⟨⟨by decide +kernel, by decide +kernel⟩, List.mem_of_getElem? (i := 1218) (by decide +kernel), List.mem_of_getElem? (i := 1530) (by decide +kernel), List.mem_of_getElem? (i := 1531) (by decide +kernel)⟩
theorem lw_p69 : lw_okq (⟨"TiedViewsModel", "turned", "(I)I"⟩, 55) := ⟨⟨by decide +kernel, by decide +kernel⟩, List.mem_of_getElem? (i := 1218) (by decide +kernel), List.mem_of_getElem? (i := 1534) (by decide +kernel), List.mem_of_getElem? (i := 1535) (by decide +kernel)⟩
theorem lw_p70 : lw_okq (⟨"TiedViewsModel", "leaders", "()I"⟩, 55) := ⟨⟨by decide +kernel, by decide +kernel⟩, List.mem_of_getElem? (i := 1218) (by decide +kernel), List.mem_of_getElem? (i := 1538) (by decide +kernel), List.mem_of_getElem? (i := 1539) (by decide +kernel)⟩
theorem lw_p71 : lw_okq (⟨"TiedViewsModel", "isColumn", "(I)Z"⟩, 55) := ⟨⟨by decide +kernel, by decide +kernel⟩, List.mem_of_getElem? (i := 1218) (by decide +kernel), List.mem_of_getElem? (i := 1546) (by decide +kernel), List.mem_of_getElem? (i := 1547) (by decide +kernel)⟩
theorem lw_p72 : lw_okq (⟨"TiedViewsModel", "isLinear", "(I)Z"⟩, 55) := ⟨⟨by decide +kernel, by decide +kernel⟩, List.mem_of_getElem? (i := 1218) (by decide +kernel), List.mem_of_getElem? (i := 1554) (by decide +kernel), List.mem_of_getElem? (i := 1555) (by decide +kernel)⟩
theorem lw_p73 : lw_okq (⟨"TiedViewsModel", "lookRests", "(III)I"⟩, 55) := ⟨⟨by decide +kernel, by decide +kernel⟩, List.mem_of_getElem? (i := 1218) (by decide +kernel), List.mem_of_getElem? (i := 1558) (by decide +kernel), List.mem_of_getElem? (i := 1559) (by decide +kernel)⟩
theorem lw_p74 : lw_okq (⟨"TiedViewsModel", "isRest", "(I)Z"⟩, 55) := ⟨⟨by decide +kernel, by decide +kernel⟩, List.mem_of_getElem? (i := 1218) (by decide +kernel), List.mem_of_getElem? (i := 1562) (by decide +kernel), List.mem_of_getElem? (i := 1563) (by decide +kernel)⟩
theorem lw_p75 : lw_okq (⟨"TiedViewsModel", "readingSet", "()I"⟩, 55) := ⟨⟨by decide +kernel, by decide +kernel⟩, List.mem_of_getElem? (i := 1218) (by decide +kernel), List.mem_of_getElem? (i := 1574) (by decide +kernel), List.mem_of_getElem? (i := 1575) (by decide +kernel)⟩
theorem lw_p76 : lw_okq (⟨"TiedViewsModel", "areFit", "(I)Z"⟩, 55) := ⟨⟨by decide +kernel, by decide +kernel⟩, List.mem_of_getElem? (i := 1218) (by decide +kernel), List.mem_of_getElem? (i := 1578) (by decide +kernel), List.mem_of_getElem? (i := 1579) (by decide +kernel)⟩
theorem lw_p77 : lw_okq (⟨"TiedViewsModel", "wantsInVain", "()I"⟩, 55) := ⟨⟨by decide +kernel, by decide +kernel⟩, List.mem_of_getElem? (i := 1218) (by decide +kernel), List.mem_of_getElem? (i := 1582) (by decide +kernel), List.mem_of_getElem? (i := 1583) (by decide +kernel)⟩
theorem lw_p78 : lw_okq (⟨"TiedViewsModel", "isNumberOf", "(II)Z"⟩, 55) := ⟨⟨by decide +kernel, by decide +kernel⟩, List.mem_of_getElem? (i := 1218) (by decide +kernel), List.mem_of_getElem? (i := 1614) (by decide +kernel), List.mem_of_getElem? (i := 1615) (by decide +kernel)⟩
theorem lw_p79 : lw_okq (⟨"TiedViewsModel", "tickOnce", "()V"⟩, 55) := ⟨⟨by decide +kernel, by decide +kernel⟩, List.mem_of_getElem? (i := 1218) (by decide +kernel), List.mem_of_getElem? (i := 1623) (by decide +kernel), List.mem_of_getElem? (i := 1624) (by decide +kernel)⟩
def lw_privs_5 : List (MethodName × Nat) := [(⟨"TiedViewsModel", "isEye", "(I)Z"⟩, 55), (⟨"TiedViewsModel", "tiesOf", "(I)I"⟩, 55), (⟨"TiedViewsModel", "layTies", "(I)V"⟩, 55), (⟨"TiedViewsModel", "addLine", "()V"⟩, 55), (⟨"TiedViewsModel", "takeSteps", "()V"⟩, 55), (⟨"TiedViewsModel", "turned", "(I)I"⟩, 55), (⟨"TiedViewsModel", "leaders", "()I"⟩, 55), (⟨"TiedViewsModel", "isColumn", "(I)Z"⟩, 55), (⟨"TiedViewsModel", "isLinear", "(I)Z"⟩, 55), (⟨"TiedViewsModel", "lookRests", "(III)I"⟩, 55), (⟨"TiedViewsModel", "isRest", "(I)Z"⟩, 55), (⟨"TiedViewsModel", "readingSet", "()I"⟩, 55), (⟨"TiedViewsModel", "areFit", "(I)Z"⟩, 55), (⟨"TiedViewsModel", "wantsInVain", "()I"⟩, 55), (⟨"TiedViewsModel", "isNumberOf", "(II)Z"⟩, 55), (⟨"TiedViewsModel", "tickOnce", "()V"⟩, 55)]
theorem lw_r5 : ∀ q ∈ lw_privs_5, lw_okq q := List.forall_mem_cons.mpr ⟨lw_p64, List.forall_mem_cons.mpr ⟨lw_p65, List.forall_mem_cons.mpr ⟨lw_p66, List.forall_mem_cons.mpr ⟨lw_p67, List.forall_mem_cons.mpr ⟨lw_p68, List.forall_mem_cons.mpr ⟨lw_p69, List.forall_mem_cons.mpr ⟨lw_p70, List.forall_mem_cons.mpr ⟨lw_p71, List.forall_mem_cons.mpr ⟨lw_p72, List.forall_mem_cons.mpr ⟨lw_p73, List.forall_mem_cons.mpr ⟨lw_p74, List.forall_mem_cons.mpr ⟨lw_p75, List.forall_mem_cons.mpr ⟨lw_p76, List.forall_mem_cons.mpr ⟨lw_p77, List.forall_mem_cons.mpr ⟨lw_p78, List.forall_mem_cons.mpr ⟨lw_p79, fun _ h => absurd h List.not_mem_nil⟩⟩⟩⟩⟩⟩⟩⟩⟩⟩⟩⟩⟩⟩⟩⟩
theorem lw_p80 : lw_okq (⟨"TiedViewsModel", "isRow", "(I)Z"⟩, 55) := ⟨⟨by decide +kernel, by decide +kernel⟩, List.mem_of_getElem? (i := 1218) (by decide +kernel), List.mem_of_getElem? (i := 1635) (by decide +kernel), List.mem_of_getElem? (i := 1636) (by decide +kernel)⟩
theorem lw_p81 : lw_okq (⟨"TiedViewsModel", "isChoice", "(I)Z"⟩, 55) := ⟨⟨by decide +kernel, by decide +kernel⟩, List.mem_of_getElem? (i := 1218) (by decide +kernel), List.mem_of_getElem? (i := 1643) (by decide +kernel), List.mem_of_getElem? (i := 1644) (by decide +kernel)⟩
theorem lw_p82 : lw_okq (⟨"TiedViewsModel", "hasAll", "(II)Z"⟩, 55) := ⟨⟨by decide +kernel, by decide +kernel⟩, List.mem_of_getElem? (i := 1218) (by decide +kernel), List.mem_of_getElem? (i := 1651) (by decide +kernel), List.mem_of_getElem? (i := 1652) (by decide +kernel)⟩
theorem lw_p83 : lw_okq (⟨"TiedViewsModel", "isBarred", "(IIII)Z"⟩, 55) := ⟨⟨by decide +kernel, by decide +kernel⟩, List.mem_of_getElem? (i := 1218) (by decide +kernel), List.mem_of_getElem? (i := 1655) (by decide +kernel), List.mem_of_getElem? (i := 1656) (by decide +kernel)⟩
theorem lw_p84 : lw_okq (⟨"TiedViewsModel", "ways", "()I"⟩, 55) := ⟨⟨by decide +kernel, by decide +kernel⟩, List.mem_of_getElem? (i := 1218) (by decide +kernel), List.mem_of_getElem? (i := 1663) (by decide +kernel), List.mem_of_getElem? (i := 1664) (by decide +kernel)⟩
theorem lw_p85 : lw_okq (⟨"TiedViewsModel", "mayStand", "(I)Z"⟩, 55) := ⟨⟨by decide +kernel, by decide +kernel⟩, List.mem_of_getElem? (i := 1218) (by decide +kernel), List.mem_of_getElem? (i := 1667) (by decide +kernel), List.mem_of_getElem? (i := 1668) (by decide +kernel)⟩
theorem lw_p86 : lw_okq (⟨"TiedViewsModel", "kindOf", "(I)I"⟩, 55) := ⟨⟨by decide +kernel, by decide +kernel⟩, List.mem_of_getElem? (i := 1218) (by decide +kernel), List.mem_of_getElem? (i := 1675) (by decide +kernel), List.mem_of_getElem? (i := 1676) (by decide +kernel)⟩
theorem lw_p87 : lw_okq (⟨"TiedViewsModel", "sizeOf", "(I)I"⟩, 55) := ⟨⟨by decide +kernel, by decide +kernel⟩, List.mem_of_getElem? (i := 1218) (by decide +kernel), List.mem_of_getElem? (i := 1690) (by decide +kernel), List.mem_of_getElem? (i := 1691) (by decide +kernel)⟩
theorem lw_p88 : lw_okq (⟨"TiedViewsModel", "modSize", "(I)I"⟩, 55) := ⟨⟨by decide +kernel, by decide +kernel⟩, List.mem_of_getElem? (i := 1218) (by decide +kernel), List.mem_of_getElem? (i := 1694) (by decide +kernel), List.mem_of_getElem? (i := 1695) (by decide +kernel)⟩
theorem lw_p89 : lw_okq (⟨"TiedViewsModel", "began", "(I)V"⟩, 55) := ⟨⟨by decide +kernel, by decide +kernel⟩, List.mem_of_getElem? (i := 1218) (by decide +kernel), List.mem_of_getElem? (i := 1698) (by decide +kernel), List.mem_of_getElem? (i := 1699) (by decide +kernel)⟩
theorem lw_p90 : lw_okq (⟨"TiedViewsModel", "linearSize", "(I)I"⟩, 55) := ⟨⟨by decide +kernel, by decide +kernel⟩, List.mem_of_getElem? (i := 1218) (by decide +kernel), List.mem_of_getElem? (i := 1702) (by decide +kernel), List.mem_of_getElem? (i := 1703) (by decide +kernel)⟩
theorem lw_p91 : lw_okq (⟨"TiedViewsModel", "markOf", "(I)I"⟩, 55) := ⟨⟨by decide +kernel, by decide +kernel⟩, List.mem_of_getElem? (i := 1218) (by decide +kernel), List.mem_of_getElem? (i := 1706) (by decide +kernel), List.mem_of_getElem? (i := 1707) (by decide +kernel)⟩
def lw_privs_6 : List (MethodName × Nat) := [(⟨"TiedViewsModel", "isRow", "(I)Z"⟩, 55), (⟨"TiedViewsModel", "isChoice", "(I)Z"⟩, 55), (⟨"TiedViewsModel", "hasAll", "(II)Z"⟩, 55), (⟨"TiedViewsModel", "isBarred", "(IIII)Z"⟩, 55), (⟨"TiedViewsModel", "ways", "()I"⟩, 55), (⟨"TiedViewsModel", "mayStand", "(I)Z"⟩, 55), (⟨"TiedViewsModel", "kindOf", "(I)I"⟩, 55), (⟨"TiedViewsModel", "sizeOf", "(I)I"⟩, 55), (⟨"TiedViewsModel", "modSize", "(I)I"⟩, 55), (⟨"TiedViewsModel", "began", "(I)V"⟩, 55), (⟨"TiedViewsModel", "linearSize", "(I)I"⟩, 55), (⟨"TiedViewsModel", "markOf", "(I)I"⟩, 55)]
theorem lw_r6 : ∀ q ∈ lw_privs_6, lw_okq q := List.forall_mem_cons.mpr ⟨lw_p80, List.forall_mem_cons.mpr ⟨lw_p81, List.forall_mem_cons.mpr ⟨lw_p82, List.forall_mem_cons.mpr ⟨lw_p83, List.forall_mem_cons.mpr ⟨lw_p84, List.forall_mem_cons.mpr ⟨lw_p85, List.forall_mem_cons.mpr ⟨lw_p86, List.forall_mem_cons.mpr ⟨lw_p87, List.forall_mem_cons.mpr ⟨lw_p88, List.forall_mem_cons.mpr ⟨lw_p89, List.forall_mem_cons.mpr ⟨lw_p90, List.forall_mem_cons.mpr ⟨lw_p91, fun _ h => absurd h List.not_mem_nil⟩⟩⟩⟩⟩⟩⟩⟩⟩⟩⟩⟩
def lw_privs : List (MethodName × Nat) := lw_privs_1 ++ (lw_privs_2 ++ (lw_privs_3 ++ (lw_privs_4 ++ (lw_privs_5 ++ (lw_privs_6)))))
def lw_tbl : List Cond := k2_sels lw_privs ++ tables_1
theorem lw_privs_ok : ∀ q ∈ lw_privs, lw_okq q := by
  show ∀ q ∈ lw_privs_1 ++ (lw_privs_2 ++ (lw_privs_3 ++ (lw_privs_4 ++ (lw_privs_5 ++ (lw_privs_6))))), lw_okq q
  exact List.forall_mem_append.mpr ⟨lw_r1, List.forall_mem_append.mpr ⟨lw_r2, List.forall_mem_append.mpr ⟨lw_r3, List.forall_mem_append.mpr ⟨lw_r4, List.forall_mem_append.mpr ⟨lw_r5, lw_r6⟩⟩⟩⟩⟩
end
section
def tv_R0 : String := "TiedViews"
def tv_T0 : u_T := fun k => match k with
  | 0 => ("TiedViews", "prime", "I", true)
  | 1 => ("TiedViews", "sheets", "[LTiedViews$Sheet;", true)
  | 2 => ("TiedViews", "told", "LTiedViews$Told;", true)
  | 3 => ("TiedViews", "reader", "LTiedViews$Reader;", true)
  | 4 => ("TiedViews", "agreement", "LTiedViews$Agreement;", true)
  | 5 => ("TiedViews", "dropping", "LTiedViews$Dropping;", true)
  | 6 => ("TiedViews", "hearsay", "LTiedViews$Hearsay;", true)
  | 7 => ("TiedViews", "choices", "LTiedViews$Choices;", true)
  | 8 => ("TiedViews", "bodies", "LTiedViews$Bodies;", true)
  | _ => ("TiedViews", "latestFinding", "I", false)
def tv_ty0 : Nat → FieldType := fun k => match k with
  | 0 => .int
  | 1 => .array (.object "TiedViews$Sheet")
  | 2 => .object "TiedViews$Told"
  | 3 => .object "TiedViews$Reader"
  | 4 => .object "TiedViews$Agreement"
  | 5 => .object "TiedViews$Dropping"
  | 6 => .object "TiedViews$Hearsay"
  | 7 => .object "TiedViews$Choices"
  | 8 => .object "TiedViews$Bodies"
  | _ => .int
def tv_R1 : String := "TiedViews$Sheet"
def tv_T1 : u_T := fun k => match k with
  | 0 => ("TiedViews$Sheet", "lane", "I", false)
  | 1 => ("TiedViews$Sheet", "length", "I", false)
  | _ => ("TiedViews$Sheet", "items", "[I", true)
def tv_ty1 : Nat → FieldType := fun k => match k with
  | 0 => .int
  | 1 => .int
  | _ => .array .int
def tv_R2 : String := "TiedViews$Told"
def tv_T2 : u_T := fun k => match k with
  | 0 => ("TiedViews$Told", "prime", "I", true)
  | 1 => ("TiedViews$Told", "eyes", "[LTiedViews$Eye;", true)
  | 2 => ("TiedViews$Told", "ties", "[LTiedViews$Tie;", true)
  | 3 => ("TiedViews$Told", "bars", "[I", true)
  | 4 => ("TiedViews$Told", "eyeCount", "I", false)
  | 5 => ("TiedViews$Told", "tieCount", "I", false)
  | 6 => ("TiedViews$Told", "barCount", "I", false)
  | 7 => ("TiedViews$Told", "columns", "I", false)
  | 8 => ("TiedViews$Told", "lines", "I", false)
  | 9 => ("TiedViews$Told", "keptEyes", "I", false)
  | 10 => ("TiedViews$Told", "keptTies", "I", false)
  | 11 => ("TiedViews$Told", "keptBars", "I", false)
  | 12 => ("TiedViews$Told", "keptColumns", "I", false)
  | _ => ("TiedViews$Told", "keptLines", "I", false)
def tv_ty2 : Nat → FieldType := fun k => match k with
  | 0 => .int
  | 1 => .array (.object "TiedViews$Eye")
  | 2 => .array (.object "TiedViews$Tie")
  | 3 => .array .int
  | 4 => .int
  | 5 => .int
  | 6 => .int
  | 7 => .int
  | 8 => .int
  | 9 => .int
  | 10 => .int
  | 11 => .int
  | 12 => .int
  | _ => .int
def tv_R3 : String := "TiedViews$Eye"
def tv_T3 : u_T := fun k => match k with
  | 0 => ("TiedViews$Eye", "number", "I", true)
  | 1 => ("TiedViews$Eye", "sort", "I", false)
  | 2 => ("TiedViews$Eye", "size", "I", false)
  | 3 => ("TiedViews$Eye", "column", "I", false)
  | 4 => ("TiedViews$Eye", "choiceSet", "I", false)
  | 5 => ("TiedViews$Eye", "hasReading", "Z", false)
  | _ => ("TiedViews$Eye", "numbers", "[I", true)
def tv_ty3 : Nat → FieldType := fun k => match k with
  | 0 => .int
  | 1 => .int
  | 2 => .int
  | 3 => .int
  | 4 => .int
  | 5 => .boolean
  | _ => .array .int
def tv_R4 : String := "TiedViews$Tie"
def tv_T4 : u_T := fun k => match k with
  | 0 => ("TiedViews$Tie", "firstEye", "I", false)
  | 1 => ("TiedViews$Tie", "secondEye", "I", false)
  | 2 => ("TiedViews$Tie", "rows", "I", false)
  | 3 => ("TiedViews$Tie", "firstTable", "[I", true)
  | _ => ("TiedViews$Tie", "secondTable", "[I", true)
def tv_ty4 : Nat → FieldType := fun k => match k with
  | 0 => .int
  | 1 => .int
  | 2 => .int
  | 3 => .array .int
  | _ => .array .int
def tv_R5 : String := "TiedViews$Reader"
def tv_T5 : u_T := fun k => match k with
  | 0 => ("TiedViews$Reader", "told", "LTiedViews$Told;", true)
  | 1 => ("TiedViews$Reader", "tape", "[B", true)
  | 2 => ("TiedViews$Reader", "length", "I", false)
  | 3 => ("TiedViews$Reader", "latestFault", "I", false)
  | 4 => ("TiedViews$Reader", "token", "I", false)
  | 5 => ("TiedViews$Reader", "begin", "I", false)
  | 6 => ("TiedViews$Reader", "behind", "I", false)
  | 7 => ("TiedViews$Reader", "value", "I", false)
  | _ => ("TiedViews$Reader", "taken", "I", false)
def tv_ty5 : Nat → FieldType := fun k => match k with
  | 0 => .object "TiedViews$Told"
  | 1 => .array .byte
  | 2 => .int
  | 3 => .int
  | 4 => .int
  | 5 => .int
  | 6 => .int
  | 7 => .int
  | _ => .int
def tv_R6 : String := "TiedViews$Agreement"
def tv_T6 : u_T := fun k => match k with
  | 0 => ("TiedViews$Agreement", "told", "LTiedViews$Told;", true)
  | 1 => ("TiedViews$Agreement", "lines", "LTiedViews$Steps;", true)
  | 2 => ("TiedViews$Agreement", "wanting", "LTiedViews$Steps;", true)
  | 3 => ("TiedViews$Agreement", "fillKnown", "Z", false)
  | _ => ("TiedViews$Agreement", "fit", "Z", false)
def tv_ty6 : Nat → FieldType := fun k => match k with
  | 0 => .object "TiedViews$Told"
  | 1 => .object "TiedViews$Steps"
  | 2 => .object "TiedViews$Steps"
  | 3 => .boolean
  | _ => .boolean
def tv_R7 : String := "TiedViews$Steps"
def tv_T7 : u_T := fun k => match k with
  | 0 => ("TiedViews$Steps", "prime", "I", true)
  | 1 => ("TiedViews$Steps", "mostExtras", "I", true)
  | 2 => ("TiedViews$Steps", "rows", "[[I", true)
  | 3 => ("TiedViews$Steps", "leaderOf", "[I", true)
  | 4 => ("TiedViews$Steps", "freeAt", "[I", true)
  | 5 => ("TiedViews$Steps", "leads", "[I", true)
  | 6 => ("TiedViews$Steps", "lineCount", "I", false)
  | 7 => ("TiedViews$Steps", "columnCount", "I", false)
  | 8 => ("TiedViews$Steps", "leaderCount", "I", false)
  | 9 => ("TiedViews$Steps", "freeCount", "I", false)
  | _ => ("TiedViews$Steps", "width", "I", false)
def tv_ty7 : Nat → FieldType := fun k => match k with
  | 0 => .int
  | 1 => .int
  | 2 => .array (.array .int)
  | 3 => .array .int
  | 4 => .array .int
  | 5 => .array .int
  | 6 => .int
  | 7 => .int
  | 8 => .int
  | 9 => .int
  | _ => .int
def tv_R8 : String := "TiedViews$Dropping"
def tv_T8 : u_T := fun k => match k with
  | 0 => ("TiedViews$Dropping", "told", "LTiedViews$Told;", true)
  | 1 => ("TiedViews$Dropping", "agreement", "LTiedViews$Agreement;", true)
  | 2 => ("TiedViews$Dropping", "equations", "[[I", true)
  | 3 => ("TiedViews$Dropping", "ledBy", "[I", true)
  | 4 => ("TiedViews$Dropping", "equationCount", "I", false)
  | 5 => ("TiedViews$Dropping", "unknowns", "I", false)
  | 6 => ("TiedViews$Dropping", "best", "I", false)
  | 7 => ("TiedViews$Dropping", "bestCount", "I", false)
  | _ => ("TiedViews$Dropping", "known", "Z", false)
def tv_ty8 : Nat → FieldType := fun k => match k with
  | 0 => .object "TiedViews$Told"
  | 1 => .object "TiedViews$Agreement"
  | 2 => .array (.array .int)
  | 3 => .array .int
  | 4 => .int
  | 5 => .int
  | 6 => .int
  | 7 => .int
  | _ => .boolean
def tv_R9 : String := "TiedViews$Hearsay"
def tv_T9 : u_T := fun k => match k with
  | 0 => ("TiedViews$Hearsay", "told", "LTiedViews$Told;", true)
  | 1 => ("TiedViews$Hearsay", "takesOf", "[I", true)
  | 2 => ("TiedViews$Hearsay", "takesBy", "[I", true)
  | 3 => ("TiedViews$Hearsay", "ruleCount", "I", false)
  | 4 => ("TiedViews$Hearsay", "row", "[I", true)
  | 5 => ("TiedViews$Hearsay", "walker", "[I", true)
  | 6 => ("TiedViews$Hearsay", "heard", "[I", true)
  | 7 => ("TiedViews$Hearsay", "lowSeen", "[J", true)
  | 8 => ("TiedViews$Hearsay", "highSeen", "[J", true)
  | 9 => ("TiedViews$Hearsay", "settledBehind", "I", false)
  | 10 => ("TiedViews$Hearsay", "settledLater", "I", false)
  | 11 => ("TiedViews$Hearsay", "spent", "Z", false)
  | _ => ("TiedViews$Hearsay", "known", "Z", false)
def tv_ty9 : Nat → FieldType := fun k => match k with
  | 0 => .object "TiedViews$Told"
  | 1 => .array .int
  | 2 => .array .int
  | 3 => .int
  | 4 => .array .int
  | 5 => .array .int
  | 6 => .array .int
  | 7 => .array .long
  | 8 => .array .long
  | 9 => .int
  | 10 => .int
  | 11 => .boolean
  | _ => .boolean
def tv_R10 : String := "TiedViews$Choices"
def tv_T10 : u_T := fun k => match k with
  | 0 => ("TiedViews$Choices", "told", "LTiedViews$Told;", true)
  | 1 => ("TiedViews$Choices", "goesWith", "[[I", true)
  | 2 => ("TiedViews$Choices", "barsLater", "[Z", true)
  | 3 => ("TiedViews$Choices", "open", "[[I", true)
  | 4 => ("TiedViews$Choices", "first", "[I", true)
  | 5 => ("TiedViews$Choices", "wayCount", "I", false)
  | _ => ("TiedViews$Choices", "known", "Z", false)
def tv_ty10 : Nat → FieldType := fun k => match k with
  | 0 => .object "TiedViews$Told"
  | 1 => .array (.array .int)
  | 2 => .array .boolean
  | 3 => .array (.array .int)
  | 4 => .array .int
  | 5 => .int
  | _ => .boolean
def tv_R11 : String := "TiedViews$Bodies"
def tv_T11 : u_T := fun k => match k with
  | 0 => ("TiedViews$Bodies", "told", "LTiedViews$Told;", true)
  | 1 => ("TiedViews$Bodies", "traced", "[I", true)
  | _ => ("TiedViews$Bodies", "tracedCount", "I", false)
def tv_ty11 : Nat → FieldType := fun k => match k with
  | 0 => .object "TiedViews$Told"
  | 1 => .array .int
  | _ => .int
def tv_R12 : String := "TiedViewsModel"
def tv_T12 : u_T := fun k => match k with
  | 0 => ("TiedViewsModel", "thrown", "I", false)
  | 1 => ("TiedViewsModel", "status", "I", false)
  | 2 => ("TiedViewsModel", "prime", "I", true)
  | 3 => ("TiedViewsModel", "lane", "[I", true)
  | 4 => ("TiedViewsModel", "many", "[I", true)
  | 5 => ("TiedViewsModel", "item", "[I", true)
  | 6 => ("TiedViewsModel", "eyes", "I", false)
  | 7 => ("TiedViewsModel", "sort", "[I", true)
  | 8 => ("TiedViewsModel", "dims", "[I", true)
  | 9 => ("TiedViewsModel", "column", "[I", true)
  | 10 => ("TiedViewsModel", "columns", "I", false)
  | 11 => ("TiedViewsModel", "ties", "I", false)
  | 12 => ("TiedViewsModel", "tieOne", "[I", true)
  | 13 => ("TiedViewsModel", "tieOther", "[I", true)
  | 14 => ("TiedViewsModel", "tieRows", "[I", true)
  | 15 => ("TiedViewsModel", "table", "[I", true)
  | 16 => ("TiedViewsModel", "bars", "I", false)
  | 17 => ("TiedViewsModel", "barOne", "[I", true)
  | 18 => ("TiedViewsModel", "barOther", "[I", true)
  | 19 => ("TiedViewsModel", "barValue", "[I", true)
  | 20 => ("TiedViewsModel", "barWith", "[I", true)
  | 21 => ("TiedViewsModel", "barred", "[I", true)
  | 22 => ("TiedViewsModel", "choice", "[I", true)
  | 23 => ("TiedViewsModel", "tape", "[I", true)
  | 24 => ("TiedViewsModel", "taped", "I", false)
  | 25 => ("TiedViewsModel", "latest", "I", false)
  | 26 => ("TiedViewsModel", "size", "I", false)
  | 27 => ("TiedViewsModel", "cursor", "I", false)
  | 28 => ("TiedViewsModel", "token", "I", false)
  | 29 => ("TiedViewsModel", "from", "I", false)
  | 30 => ("TiedViewsModel", "till", "I", false)
  | 31 => ("TiedViewsModel", "fault", "I", false)
  | 32 => ("TiedViewsModel", "faultAt", "I", false)
  | 33 => ("TiedViewsModel", "newEyes", "I", false)
  | 34 => ("TiedViewsModel", "newColumns", "I", false)
  | 35 => ("TiedViewsModel", "newTies", "I", false)
  | 36 => ("TiedViewsModel", "newBars", "I", false)
  | 37 => ("TiedViewsModel", "lines", "I", false)
  | 38 => ("TiedViewsModel", "line", "[I", true)
  | 39 => ("TiedViewsModel", "isLeader", "[Z", true)
  | 40 => ("TiedViewsModel", "leader", "[I", true)
  | 41 => ("TiedViewsModel", "hasReading", "[Z", true)
  | 42 => ("TiedViewsModel", "reads", "[I", true)
  | 43 => ("TiedViewsModel", "rules", "I", false)
  | 44 => ("TiedViewsModel", "ruleTie", "[I", true)
  | 45 => ("TiedViewsModel", "ruleFrom", "[I", true)
  | 46 => ("TiedViewsModel", "now", "[I", true)
  | 47 => ("TiedViewsModel", "then", "[I", true)
  | 48 => ("TiedViewsModel", "rows", "[I", true)
  | 49 => ("TiedViewsModel", "choices", "I", false)
  | 50 => ("TiedViewsModel", "whose", "[I", true)
  | 51 => ("TiedViewsModel", "given", "[I", true)
  | 52 => ("TiedViewsModel", "first", "[I", true)
  | 53 => ("TiedViewsModel", "trace", "[I", true)
  | _ => ("TiedViewsModel", "traced", "I", false)
def tv_ty12 : Nat → FieldType := fun k => match k with
  | 0 => .int
  | 1 => .int
  | 2 => .int
  | 3 => .array .int
  | 4 => .array .int
  | 5 => .array .int
  | 6 => .int
  | 7 => .array .int
  | 8 => .array .int
  | 9 => .array .int
  | 10 => .int
  | 11 => .int
  | 12 => .array .int
  | 13 => .array .int
  | 14 => .array .int
  | 15 => .array .int
  | 16 => .int
  | 17 => .array .int
  | 18 => .array .int
  | 19 => .array .int
  | 20 => .array .int
  | 21 => .array .int
  | 22 => .array .int
  | 23 => .array .int
  | 24 => .int
  | 25 => .int
  | 26 => .int
  | 27 => .int
  | 28 => .int
  | 29 => .int
  | 30 => .int
  | 31 => .int
  | 32 => .int
  | 33 => .int
  | 34 => .int
  | 35 => .int
  | 36 => .int
  | 37 => .int
  | 38 => .array .int
  | 39 => .array .boolean
  | 40 => .array .int
  | 41 => .array .boolean
  | 42 => .array .int
  | 43 => .int
  | 44 => .array .int
  | 45 => .array .int
  | 46 => .array .int
  | 47 => .array .int
  | 48 => .array .int
  | 49 => .int
  | 50 => .array .int
  | 51 => .array .int
  | 52 => .array .int
  | 53 => .array .int
  | _ => .int
abbrev tv_cl : List vw_C := [(tv_R0, tv_T0, 10), (tv_R1, tv_T1, 3), (tv_R2, tv_T2, 14), (tv_R3, tv_T3, 7), (tv_R4, tv_T4, 5), (tv_R5, tv_T5, 9), (tv_R6, tv_T6, 5), (tv_R7, tv_T7, 11), (tv_R8, tv_T8, 9), (tv_R9, tv_T9, 13), (tv_R10, tv_T10, 7), (tv_R11, tv_T11, 3), (tv_R12, tv_T12, 55)]
/-- number of fields; which of them are references -/
def tv_nf : List Nat := [10, 3, 14, 7, 5, 9, 5, 11, 9, 13, 7, 3, 55]
def tv_rf : List (List Bool) := [[false, true, true, true, true, true, true, true, true, false], [false, false, true], [false, true, true, true, false, false, false, false, false, false, false, false, false, false], [false, false, false, false, false, false, true], [false, false, false, true, true], [true, true, false, false, false, false, false, false, false], [true, true, true, false, false], [false, false, true, true, true, true, false, false, false, false, false], [true, true, true, true, false, false, false, false, false], [true, true, true, false, true, true, true, true, true, false, false, false, false], [true, true, true, true, true, false, false], [true, true, false], [false, false, false, true, true, true, false, true, true, true, false, false, true, true, true, true, false, true, true, true, true, true, true, true, false, false, false, false, false, false, false, false, false, false, false, false, false, false, true, true, true, true, true, false, true, true, true, true, true, false, true, true, true, true, false]]
/-- the cells in the order in which they are made: class number, or 20 + the array's type; length -/
def tv_lay : List (Nat × Nat) := [(0, 10), (24, 8), (1, 3), (20, 40), (1, 3), (20, 40), (1, 3), (20, 40), (1, 3), (20, 40), (1, 3), (20, 40), (1, 3), (20, 40), (1, 3), (20, 40), (1, 3), (20, 40), (2, 14), (25, 8), (26, 10), (20, 120), (3, 7), (20, 3), (3, 7), (20, 3), (3, 7), (20, 3), (3, 7), (20, 3), (3, 7), (20, 3), (3, 7), (20, 3), (3, 7), (20, 3), (3, 7), (20, 3), (4, 5), (20, 9), (20, 9), (4, 5), (20, 9), (20, 9), (4, 5), (20, 9), (20, 9), (4, 5), (20, 9), (20, 9), (4, 5), (20, 9), (20, 9), (4, 5), (20, 9), (20, 9), (4, 5), (20, 9), (20, 9), (4, 5), (20, 9), (20, 9), (4, 5), (20, 9), (20, 9), (4, 5), (20, 9), (20, 9), (5, 9), (21, 500), (6, 5), (7, 11), (20, 24), (20, 24), (27, 30), (20, 54), (20, 54), (20, 54), (20, 54), (20, 54), (20, 54), (20, 54), (20, 54), (20, 54), (20, 54), (20, 54), (20, 54), (20, 54), (20, 54), (20, 54), (20, 54), (20, 54), (20, 54), (20, 54), (20, 54), (20, 54), (20, 54), (20, 54), (20, 54), (20, 54), (20, 54), (20, 54), (20, 54), (20, 54), (20, 54), (20, 30), (7, 11), (20, 24), (20, 24), (27, 54), (20, 25), (20, 25), (20, 25), (20, 25), (20, 25), (20, 25), (20, 25), (20, 25), (20, 25), (20, 25), (20, 25), (20, 25), (20, 25), (20, 25), (20, 25), (20, 25), (20, 25), (20, 25), (20, 25), (20, 25), (20, 25), (20, 25), (20, 25), (20, 25), (20, 25), (20, 25), (20, 25), (20, 25), (20, 25), (20, 25), (20, 25), (20, 25), (20, 25), (20, 25), (20, 25), (20, 25), (20, 25), (20, 25), (20, 25), (20, 25), (20, 25), (20, 25), (20, 25), (20, 25), (20, 25), (20, 25), (20, 25), (20, 25), (20, 25), (20, 25), (20, 25), (20, 25), (20, 25), (20, 25), (20, 54), (8, 9), (27, 25), (20, 25), (20, 25), (20, 25), (20, 25), (20, 25), (20, 25), (20, 25), (20, 25), (20, 25), (20, 25), (20, 25), (20, 25), (20, 25), (20, 25), (20, 25), (20, 25), (20, 25), (20, 25), (20, 25), (20, 25), (20, 25), (20, 25), (20, 25), (20, 25), (20, 25), (20, 25), (9, 13), (20, 8), (20, 8), (20, 24), (20, 24), (20, 24), (23, 301), (23, 301), (10, 7), (27, 32), (20, 8), (20, 8), (20, 8), (20, 8), (20, 8), (20, 8), (20, 8), (20, 8), (20, 8), (20, 8), (20, 8), (20, 8), (20, 8), (20, 8), (20, 8), (20, 8), (20, 8), (20, 8), (20, 8), (20, 8), (20, 8), (20, 8), (20, 8), (20, 8), (20, 8), (20, 8), (20, 8), (20, 8), (20, 8), (20, 8), (20, 8), (20, 8), (22, 8), (27, 9), (20, 8), (20, 8), (20, 8), (20, 8), (20, 8), (20, 8), (20, 8), (20, 8), (20, 8), (20, 8), (11, 3), (20, 16), (12, 55), (20, 8), (20, 8), (20, 320), (20, 8), (20, 8), (20, 8), (20, 10), (20, 10), (20, 10), (20, 180), (20, 30), (20, 30), (20, 30), (20, 30), (20, 256), (20, 8), (20, 500), (20, 2970), (22, 54), (20, 24), (22, 8), (20, 24), (20, 8), (20, 8), (20, 24), (20, 24), (20, 7224), (20, 8), (20, 8), (20, 8), (20, 16)]
def tv_n : Nat := 281
def tv_pt : List (List (Option Nat)) := [[none, some 1, some 18, some 68, some 70, some 165, some 193, some 201, some 247, none], [some 2, some 4, some 6, some 8, some 10, some 12, some 14, some 16], [none, none, some 3], [], [none, none, some 5], [], [none, none, some 7], [], [none, none, some 9], [], [none, none, some 11], [], [none, none, some 13], [], [none, none, some 15], [], [none, none, some 17], [], [none, some 19, some 20, some 21, none, none, none, none, none, none, none, none, none, none], [some 22, some 24, some 26, some 28, some 30, some 32, some 34, some 36], [some 38, some 41, some 44, some 47, some 50, some 53, some 56, some 59, some 62, some 65], [], [none, none, none, none, none, none, some 23], [], [none, none, none, none, none, none, some 25], [], [none, none, none, none, none, none, some 27], [], [none, none, none, none, none, none, some 29], [], [none, none, none, none, none, none, some 31], [], [none, none, none, none, none, none, some 33], [], [none, none, none, none, none, none, some 35], [], [none, none, none, none, none, none, some 37], [], [none, none, none, some 39, some 40], [], [], [none, none, none, some 42, some 43], [], [], [none, none, none, some 45, some 46], [], [], [none, none, none, some 48, some 49], [], [], [none, none, none, some 51, some 52], [], [], [none, none, none, some 54, some 55], [], [], [none, none, none, some 57, some 58], [], [], [none, none, none, some 60, some 61], [], [], [none, none, none, some 63, some 64], [], [], [none, none, none, some 66, some 67], [], [], [some 18, some 69, none, none, none, none, none, none, none], [], [some 18, some 71, some 106, none, none], [none, none, some 74, some 72, some 73, some 105, none, none, none, none, none], [], [], [some 75, some 76, some 77, some 78, some 79, some 80, some 81, some 82, some 83, some 84, some 85, some 86, some 87, some 88, some 89, some 90, some 91, some 92, some 93, some 94, some 95, some 96, some 97, some 98, some 99, some 100, some 101, some 102, some 103, some 104], [], [], [], [], [], [], [], [], [], [], [], [], [], [], [], [], [], [], [], [], [], [], [], [], [], [], [], [], [], [], [], [none, none, some 109, some 107, some 108, some 164, none, none, none, none, none], [], [], [some 110, some 111, some 112, some 113, some 114, some 115, some 116, some 117, some 118, some 119, some 120, some 121, some 122, some 123, some 124, some 125, some 126, some 127, some 128, some 129, some 130, some 131, some 132, some 133, some 134, some 135, some 136, some 137, some 138, some 139, some 140, some 141, some 142, some 143, some 144, some 145, some 146, some 147, some 148, some 149, some 150, some 151, some 152, some 153, some 154, some 155, some 156, some 157, some 158, some 159, some 160, some 161, some 162, some 163], [], [], [], [], [], [], [], [], [], [], [], [], [], [], [], [], [], [], [], [], [], [], [], [], [], [], [], [], [], [], [], [], [], [], [], [], [], [], [], [], [], [], [], [], [], [], [], [], [], [], [], [], [], [], [], [some 18, some 70, some 166, some 192, none, none, none, none, none], [some 167, some 168, some 169, some 170, some 171, some 172, some 173, some 174, some 175, some 176, some 177, some 178, some 179, some 180, some 181, some 182, some 183, some 184, some 185, some 186, some 187, some 188, some 189, some 190, some 191], [], [], [], [], [], [], [], [], [], [], [], [], [], [], [], [], [], [], [], [], [], [], [], [], [], [], [some 18, some 194, some 195, none, some 196, some 197, some 198, some 199, some 200, none, none, none, none], [], [], [], [], [], [], [], [some 18, some 202, some 235, some 236, some 246, none, none], [some 203, some 204, some 205, some 206, some 207, some 208, some 209, some 210, some 211, some 212, some 213, some 214, some 215, some 216, some 217, some 218, some 219, some 220, some 221, some 222, some 223, some 224, some 225, some 226, some 227, some 228, some 229, some 230, some 231, some 232, some 233, some 234], [], [], [], [], [], [], [], [], [], [], [], [], [], [], [], [], [], [], [], [], [], [], [], [], [], [], [], [], [], [], [], [], [], [some 237, some 238, some 239, some 240, some 241, some 242, some 243, some 244, some 245], [], [], [], [], [], [], [], [], [], [], [some 18, some 248, none], [], [none, none, none, some 250, some 251, some 252, none, some 253, some 254, some 255, none, none, some 256, some 257, some 258, some 259, none, some 260, some 261, some 262, some 263, some 264, some 265, some 266, none, none, none, none, none, none, none, none, none, none, none, none, none, none, some 267, some 268, some 269, some 270, some 271, none, some 272, some 273, some 274, some 275, some 276, none, some 277, some 278, some 279, some 280, none], [], [], [], [], [], [], [], [], [], [], [], [], [], [], [], [], [], [], [], [], [], [], [], [], [], [], [], [], [], [], []]
def tv_P0 (k j : Nat) : Option Nat := (tv_pt.getD k []).getD j none
theorem tv_nm0 : ∀ a, a < 10 → ∀ b, b < 10 → a ≠ b → (tv_T0 a).2.1 ≠ (tv_T0 b).2.1 := by decide +kernel
theorem tv_tk0 : ∀ k, k < 10 → parseFieldDescriptor (tv_T0 k).2.2.1 = some (tv_ty0 k) := by decide +kernel
theorem tv_nm1 : ∀ a, a < 3 → ∀ b, b < 3 → a ≠ b → (tv_T1 a).2.1 ≠ (tv_T1 b).2.1 := by decide +kernel
theorem tv_tk1 : ∀ k, k < 3 → parseFieldDescriptor (tv_T1 k).2.2.1 = some (tv_ty1 k) := by decide +kernel
theorem tv_nm2 : ∀ a, a < 14 → ∀ b, b < 14 → a ≠ b → (tv_T2 a).2.1 ≠ (tv_T2 b).2.1 := by decide +kernel
theorem tv_tk2 : ∀ k, k < 14 → parseFieldDescriptor (tv_T2 k).2.2.1 = some (tv_ty2 k) := by decide +kernel
theorem tv_nm3 : ∀ a, a < 7 → ∀ b, b < 7 → a ≠ b → (tv_T3 a).2.1 ≠ (tv_T3 b).2.1 := by decide +kernel
theorem tv_tk3 : ∀ k, k < 7 → parseFieldDescriptor (tv_T3 k).2.2.1 = some (tv_ty3 k) := by decide +kernel
theorem tv_nm4 : ∀ a, a < 5 → ∀ b, b < 5 → a ≠ b → (tv_T4 a).2.1 ≠ (tv_T4 b).2.1 := by decide +kernel
theorem tv_tk4 : ∀ k, k < 5 → parseFieldDescriptor (tv_T4 k).2.2.1 = some (tv_ty4 k) := by decide +kernel
theorem tv_nm5 : ∀ a, a < 9 → ∀ b, b < 9 → a ≠ b → (tv_T5 a).2.1 ≠ (tv_T5 b).2.1 := by decide +kernel
theorem tv_tk5 : ∀ k, k < 9 → parseFieldDescriptor (tv_T5 k).2.2.1 = some (tv_ty5 k) := by decide +kernel
theorem tv_nm6 : ∀ a, a < 5 → ∀ b, b < 5 → a ≠ b → (tv_T6 a).2.1 ≠ (tv_T6 b).2.1 := by decide +kernel
theorem tv_tk6 : ∀ k, k < 5 → parseFieldDescriptor (tv_T6 k).2.2.1 = some (tv_ty6 k) := by decide +kernel
theorem tv_nm7 : ∀ a, a < 11 → ∀ b, b < 11 → a ≠ b → (tv_T7 a).2.1 ≠ (tv_T7 b).2.1 := by decide +kernel
theorem tv_tk7 : ∀ k, k < 11 → parseFieldDescriptor (tv_T7 k).2.2.1 = some (tv_ty7 k) := by decide +kernel
theorem tv_nm8 : ∀ a, a < 9 → ∀ b, b < 9 → a ≠ b → (tv_T8 a).2.1 ≠ (tv_T8 b).2.1 := by decide +kernel
theorem tv_tk8 : ∀ k, k < 9 → parseFieldDescriptor (tv_T8 k).2.2.1 = some (tv_ty8 k) := by decide +kernel
theorem tv_nm9 : ∀ a, a < 13 → ∀ b, b < 13 → a ≠ b → (tv_T9 a).2.1 ≠ (tv_T9 b).2.1 := by decide +kernel
theorem tv_tk9 : ∀ k, k < 13 → parseFieldDescriptor (tv_T9 k).2.2.1 = some (tv_ty9 k) := by decide +kernel
theorem tv_nm10 : ∀ a, a < 7 → ∀ b, b < 7 → a ≠ b → (tv_T10 a).2.1 ≠ (tv_T10 b).2.1 := by decide +kernel
theorem tv_tk10 : ∀ k, k < 7 → parseFieldDescriptor (tv_T10 k).2.2.1 = some (tv_ty10 k) := by decide +kernel
theorem tv_nm11 : ∀ a, a < 3 → ∀ b, b < 3 → a ≠ b → (tv_T11 a).2.1 ≠ (tv_T11 b).2.1 := by decide +kernel
theorem tv_tk11 : ∀ k, k < 3 → parseFieldDescriptor (tv_T11 k).2.2.1 = some (tv_ty11 k) := by decide +kernel
theorem tv_nm12 : ∀ a, a < 55 → ∀ b, b < 55 → a ≠ b → (tv_T12 a).2.1 ≠ (tv_T12 b).2.1 := by decide +kernel
theorem tv_tk12 : ∀ k, k < 55 → parseFieldDescriptor (tv_T12 k).2.2.1 = some (tv_ty12 k) := by decide +kernel
theorem tv_in0 : ∀ w ∈ u_ws tv_R0 tv_T0 10, w ∈ tables_1 := by
  have h : u_ws tv_R0 tv_T0 10 = ([467, 469, 471, 473, 475, 477, 479, 481, 483, 485] : List Nat).filterMap (fun i => tables_1[i]?) := by decide +kernel
  intro w hw
  rw [h] at hw
  obtain ⟨i, -, hi⟩ := List.mem_filterMap.mp hw
  exact List.mem_of_getElem? hi
theorem tv_in1 : ∀ w ∈ u_ws tv_R1 tv_T1 3, w ∈ tables_1 := by
  have h : u_ws tv_R1 tv_T1 3 = ([48, 50, 52] : List Nat).filterMap (fun i => tables_1[i]?) := by decide +kernel
  intro w hw
  rw [h] at hw
  obtain ⟨i, -, hi⟩ := List.mem_filterMap.mp hw
  exact List.mem_of_getElem? hi
theorem tv_in2 : ∀ w ∈ u_ws tv_R2 tv_T2 14, w ∈ tables_1 := by
  have h : u_ws tv_R2 tv_T2 14 = ([191, 193, 195, 197, 199, 201, 203, 205, 207, 209, 211, 213, 215, 217] : List Nat).filterMap (fun i => tables_1[i]?) := by decide +kernel
  intro w hw
  rw [h] at hw
  obtain ⟨i, -, hi⟩ := List.mem_filterMap.mp hw
  exact List.mem_of_getElem? hi
theorem tv_in3 : ∀ w ∈ u_ws tv_R3 tv_T3 7, w ∈ tables_1 := by
  have h : u_ws tv_R3 tv_T3 7 = ([106, 108, 110, 112, 114, 116, 118] : List Nat).filterMap (fun i => tables_1[i]?) := by decide +kernel
  intro w hw
  rw [h] at hw
  obtain ⟨i, -, hi⟩ := List.mem_filterMap.mp hw
  exact List.mem_of_getElem? hi
theorem tv_in4 : ∀ w ∈ u_ws tv_R4 tv_T4 5, w ∈ tables_1 := by
  have h : u_ws tv_R4 tv_T4 5 = ([140, 142, 144, 146, 148] : List Nat).filterMap (fun i => tables_1[i]?) := by decide +kernel
  intro w hw
  rw [h] at hw
  obtain ⟨i, -, hi⟩ := List.mem_filterMap.mp hw
  exact List.mem_of_getElem? hi
theorem tv_in5 : ∀ w ∈ u_ws tv_R5 tv_T5 9, w ∈ tables_1 := by
  have h : u_ws tv_R5 tv_T5 9 = ([237, 239, 241, 243, 245, 247, 249, 251, 253] : List Nat).filterMap (fun i => tables_1[i]?) := by decide +kernel
  intro w hw
  rw [h] at hw
  obtain ⟨i, -, hi⟩ := List.mem_filterMap.mp hw
  exact List.mem_of_getElem? hi
theorem tv_in6 : ∀ w ∈ u_ws tv_R6 tv_T6 5, w ∈ tables_1 := by
  have h : u_ws tv_R6 tv_T6 5 = ([312, 314, 316, 318, 320] : List Nat).filterMap (fun i => tables_1[i]?) := by decide +kernel
  intro w hw
  rw [h] at hw
  obtain ⟨i, -, hi⟩ := List.mem_filterMap.mp hw
  exact List.mem_of_getElem? hi
theorem tv_in7 : ∀ w ∈ u_ws tv_R7 tv_T7 11, w ∈ tables_1 := by
  have h : u_ws tv_R7 tv_T7 11 = ([284, 286, 288, 290, 292, 294, 296, 298, 300, 302, 304] : List Nat).filterMap (fun i => tables_1[i]?) := by decide +kernel
  intro w hw
  rw [h] at hw
  obtain ⟨i, -, hi⟩ := List.mem_filterMap.mp hw
  exact List.mem_of_getElem? hi
theorem tv_in8 : ∀ w ∈ u_ws tv_R8 tv_T8 9, w ∈ tables_1 := by
  have h : u_ws tv_R8 tv_T8 9 = ([339, 341, 343, 345, 347, 349, 351, 353, 355] : List Nat).filterMap (fun i => tables_1[i]?) := by decide +kernel
  intro w hw
  rw [h] at hw
  obtain ⟨i, -, hi⟩ := List.mem_filterMap.mp hw
  exact List.mem_of_getElem? hi
theorem tv_in9 : ∀ w ∈ u_ws tv_R9 tv_T9 13, w ∈ tables_1 := by
  have h : u_ws tv_R9 tv_T9 13 = ([383, 385, 387, 389, 391, 393, 395, 397, 399, 401, 403, 405, 407] : List Nat).filterMap (fun i => tables_1[i]?) := by decide +kernel
  intro w hw
  rw [h] at hw
  obtain ⟨i, -, hi⟩ := List.mem_filterMap.mp hw
  exact List.mem_of_getElem? hi
theorem tv_in10 : ∀ w ∈ u_ws tv_R10 tv_T10 7, w ∈ tables_1 := by
  have h : u_ws tv_R10 tv_T10 7 = ([425, 427, 429, 431, 433, 435, 437] : List Nat).filterMap (fun i => tables_1[i]?) := by decide +kernel
  intro w hw
  rw [h] at hw
  obtain ⟨i, -, hi⟩ := List.mem_filterMap.mp hw
  exact List.mem_of_getElem? hi
theorem tv_in11 : ∀ w ∈ u_ws tv_R11 tv_T11 3, w ∈ tables_1 := by
  have h : u_ws tv_R11 tv_T11 3 = ([450, 452, 454] : List Nat).filterMap (fun i => tables_1[i]?) := by decide +kernel
  intro w hw
  rw [h] at hw
  obtain ⟨i, -, hi⟩ := List.mem_filterMap.mp hw
  exact List.mem_of_getElem? hi
theorem tv_in12 : ∀ w ∈ u_ws tv_R12 tv_T12 55, w ∈ tables_1 := by
  have h : u_ws tv_R12 tv_T12 55 = ([1278, 1280, 1282, 1284, 1286, 1288, 1290, 1292, 1294, 1296, 1298, 1300, 1302, 1304, 1306, 1308, 1310, 1312, 1314, 1316, 1318, 1320, 1322, 1324, 1326, 1328, 1330, 1332, 1334, 1336, 1338, 1340, 1342, 1344, 1346, 1348, 1350, 1352, 1354, 1356, 1358, 1360, 1362, 1364, 1366, 1368, 1370, 1372, 1374, 1376, 1378, 1380, 1382, 1384, 1386] : List Nat).filterMap (fun i => tables_1[i]?) := by decide +kernel
  intro w hw
  rw [h] at hw
  obtain ⟨i, -, hi⟩ := List.mem_filterMap.mp hw
  exact List.mem_of_getElem? hi
end
section
/-! THE MEMORY: ints and longs by cell and place; the references between the cells never change once all is made: tv_P0 -/
abbrev tv_M : Type := (Nat → Nat → Int32) × (Nat → Nat → Int64)
def tv_w (M : tv_M) (k j : Nat) (x : Int32) : tv_M := (fun a i => if a = k ∧ i = j then x else M.1 a i, M.2)
def tv_wl (M : tv_M) (k j : Nat) (x : Int64) : tv_M := (M.1, fun a i => if a = k ∧ i = j then x else M.2 a i)
/-- a stretch of a row written -/
def tv_wc (M : tv_M) (k : Nat) (f : Nat → Int32) : tv_M := (fun a i => if a = k then f i else M.1 a i, M.2)
def tv_re (b : Nat) (r : Option Nat) : Value := va_rf (r.map (fun x => b + x))
def tv_ob (b ci N : Nat) (I : Nat → Nat → Int32) (P : Nat → Nat → Option Nat) (k : Nat) : List Value := (List.range N).map (fun j => if (tv_rf.getD ci []).getD j false then tv_re b (P k j) else .int (I k j))
def tv_E (b : Nat) (cA : Nat → ClassId) (I : Nat → Nat → Int32) (J : Nat → Nat → Int64) (P : Nat → Nat → Option Nat) (k : Nat) (q : Nat × Nat) : va_E :=
  if q.1 < 13 then .inr (q.1, tv_ob b q.1 (tv_nf.getD q.1 0) I P k)
  else if q.1 < 23 then .inl (cA (q.1 - 20), q.2, .inl (I k))
  else if q.1 = 23 then .inl (cA 3, q.2, .inr (.inl (J k)))
  else .inl (cA (q.1 - 20), q.2, .inr (.inr (.inr (.inr (fun j => (P k j).map (fun x => b + x))))))
def tv_ws (b : Nat) (cA : Nat → ClassId) (n : Nat) (I : Nat → Nat → Int32) (J : Nat → Nat → Int64) (P : Nat → Nat → Option Nat) : va_W := (List.range n).map (fun k => (b + k, tv_E b cA I J P k (tv_lay.getD k (99, 0))))
def tv_tys (cA : Nat → ClassId) : List (ClassId × FieldType) := [(cA 0, .int), (cA 1, .byte), (cA 2, .boolean), (cA 3, .long), (cA 4, .object "TiedViews$Sheet"), (cA 5, .object "TiedViews$Eye"), (cA 6, .object "TiedViews$Tie"), (cA 7, .array .int)]
section TVW
variable {b n k m ci : Nat} {cA : Nat → ClassId} {I I' : Nat → Nat → Int32} {J J' : Nat → Nat → Int64} {P P' : Nat → Nat → Option Nat}
theorem tv_get {q : Nat × Nat} (hk : k < n) (hq : tv_lay[k]? = some q) : (tv_ws b cA n I J P)[k]? = some (b + k, tv_E b cA I J P k q) := by
  unfold tv_ws
  rw [List.getElem?_map, List.getElem?_range hk]
  simp [List.getD_eq_getElem?_getD, hq]
theorem tv_len : (tv_ws b cA n I J P).length = n := by simp [tv_ws]
theorem tv_ws_at {i : Nat} {q : Nat × va_E} (h : (tv_ws b cA n I J P)[i]? = some q) : i < n ∧ q.1 = b + i := by
  have hl := (List.getElem?_eq_some_iff.mp h).1
  rw [tv_len] at hl
  unfold tv_ws at h
  rw [List.getElem?_map, List.getElem?_range hl] at h
  cases h
  exact ⟨hl, rfl⟩
def tv_A (b : Nat) : Nat → Prop := fun q => b ≤ q
theorem tv_D : va_D (tv_A b) (tv_ws b cA n I J P) := by
  refine ⟨fun i j x y hi hj hxy => ?_, fun i x hi => ?_⟩
  · have h1 := (tv_ws_at hi).2
    have h2 := (tv_ws_at hj).2
    omega
  · have h1 := (tv_ws_at hi).2
    rw [h1]
    exact Nat.le_add_right b i
theorem tv_E_eq (q : Nat × Nat) (h1 : I' k = I k) (h2 : J' k = J k) (h3 : P' k = P k) : tv_E b cA I' J' P' k q = tv_E b cA I J P k q := by
  unfold tv_E tv_ob
  simp only [h1, h2, h3]
theorem tv_set {q : Nat × Nat} {E : va_E} (hq : tv_lay[k]? = some q) (hE : tv_E b cA I' J' P' k q = E) (ho : ∀ a, a ≠ k → I' a = I a ∧ J' a = J a ∧ P' a = P a) : (tv_ws b cA n I J P).set k (b + k, E) = tv_ws b cA n I' J' P' := by
  apply List.ext_getElem?
  intro i
  by_cases hi : i < n
  · by_cases hik : i = k
    · subst hik
      rw [List.getElem?_set_self (by rw [tv_len]; exact hi), tv_get hi hq, hE]
    · rw [List.getElem?_set_ne (Ne.symm hik)]
      unfold tv_ws
      rw [List.getElem?_map, List.getElem?_map, List.getElem?_range hi]
      obtain ⟨h1, h2, h3⟩ := ho i hik
      simp only [Option.map_some]
      rw [tv_E_eq _ h1 h2 h3]
  · rw [List.getElem?_eq_none (by rw [List.length_set, tv_len]; omega), List.getElem?_eq_none (by rw [tv_len]; omega)]
theorem tv_E_ob (h : ci < 13) : tv_E b cA I J P k (ci, m) = .inr (ci, tv_ob b ci (tv_nf.getD ci 0) I P k) := by simp [tv_E, h]
theorem tv_E_i : tv_E b cA I J P k (20, m) = .inl (cA 0, m, .inl (I k)) := rfl
theorem tv_E_b : tv_E b cA I J P k (21, m) = .inl (cA 1, m, .inl (I k)) := rfl
theorem tv_E_z : tv_E b cA I J P k (22, m) = .inl (cA 2, m, .inl (I k)) := rfl
theorem tv_E_l : tv_E b cA I J P k (23, m) = .inl (cA 3, m, .inr (.inl (J k))) := rfl
theorem tv_E_q (t : Nat) : tv_E b cA I J P k (24 + t, m) = .inl (cA (4 + t), m, .inr (.inr (.inr (.inr (fun j => (P k j).map (fun x => b + x)))))) := by
  unfold tv_E
  rw [if_neg (by omega), if_neg (by omega), if_neg (by omega)]
  simp [show 24 + t - 20 = 4 + t by omega]
theorem tv_ob_i {j N : Nat} (hj : j < N) (hr : (tv_rf.getD ci []).getD j false = false) : (tv_ob b ci N I P k)[j]? = some (.int (I k j)) := by
  unfold tv_ob
  rw [List.getElem?_map, List.getElem?_range hj]
  simp only [Option.map_some, hr]
  rfl
theorem tv_ob_r {j N : Nat} (hj : j < N) (hr : (tv_rf.getD ci []).getD j false = true) : (tv_ob b ci N I P k)[j]? = some (tv_re b (P k j)) := by
  unfold tv_ob
  rw [List.getElem?_map, List.getElem?_range hj]
  simp only [Option.map_some, hr]
  rfl
theorem tv_ob_set {j N : Nat} {x : Int32} (hj : j < N) (hr : (tv_rf.getD ci []).getD j false = false) (h1 : ∀ i, i ≠ j → I' k i = I k i) (h2 : I' k j = x) : tv_ob b ci N I' P k = (tv_ob b ci N I P k).set j (.int x) := by
  apply List.ext_getElem?
  intro i
  by_cases hi : i < N
  · by_cases hij : i = j
    · subst hij
      rw [List.getElem?_set_self (by simp [tv_ob]; exact hi), tv_ob_i hi hr, h2]
    · rw [List.getElem?_set_ne (Ne.symm hij)]
      unfold tv_ob
      rw [List.getElem?_map, List.getElem?_map, List.getElem?_range hi]
      simp only [Option.map_some, h1 i hij]
  · rw [List.getElem?_eq_none (by simp [tv_ob]; omega), List.getElem?_eq_none (by simp [tv_ob]; omega)]
end TVW
theorem tv_w_ne {M : tv_M} {k j : Nat} {x : Int32} : ∀ a, a ≠ k → (tv_w M k j x).1 a = M.1 a ∧ (tv_w M k j x).2 a = M.2 a ∧ tv_P0 a = tv_P0 a := fun a h => ⟨funext fun i => by simp [tv_w, h], rfl, rfl⟩
theorem tv_w_row {M : tv_M} {k j : Nat} {x : Int32} : (tv_w M k j x).1 k = upd (M.1 k) j x := funext fun i => by simp [tv_w, upd]
theorem tv_wc_ne {M : tv_M} {k : Nat} {f : Nat → Int32} : ∀ a, a ≠ k → (tv_wc M k f).1 a = M.1 a ∧ (tv_wc M k f).2 a = M.2 a ∧ tv_P0 a = tv_P0 a := fun a h => ⟨funext fun i => by simp [tv_wc, h], rfl, rfl⟩
theorem tv_wc_row {M : tv_M} {k : Nat} {f : Nat → Int32} : (tv_wc M k f).1 k = f := funext fun i => by simp [tv_wc]
theorem tv_wl_ne {M : tv_M} {k j : Nat} {x : Int64} : ∀ a, a ≠ k → (tv_wl M k j x).1 a = M.1 a ∧ (tv_wl M k j x).2 a = M.2 a ∧ tv_P0 a = tv_P0 a := fun a h => ⟨rfl, funext fun i => by simp [tv_wl, h], rfl⟩
theorem tv_wl_row {M : tv_M} {k j : Nat} {x : Int64} : (tv_wl M k j x).2 k = vp_updL (M.2 k) j x := funext fun i => by simp [tv_wl, vp_updL]
/-! THE LOCALS, place by place -/
def tv_lo (sl : Array Slot) (nL : Nat) (ls : List (Option Value)) : Prop := sl.size = nL ∧ lv_wf sl ∧ ∀ (i : Nat) (v : Value), ls[i]? = some (some v) → sl[i]? = some (.val v)
def tv_as : Nat → List (Option Value) → List (Nat × Value)
  | _, [] => []
  | i, none :: r => tv_as (i + 1) r
  | i, some v :: r => (i, v) :: tv_as (i + 1) r
theorem tv_as_mem : ∀ (ls : List (Option Value)) (n : Nat) (q : Nat × Value), q ∈ tv_as n ls ↔ ∃ i, ls[i]? = some (some q.2) ∧ q.1 = n + i := by
  intro ls
  induction ls with
  | nil => intro n q; simp [tv_as]
  | cons a r ih =>
    intro n q
    cases a with
    | none =>
      rw [tv_as, ih (n + 1) q]
      constructor
      · rintro ⟨i, h1, h2⟩
        exact ⟨i + 1, by simpa using h1, by omega⟩
      · rintro ⟨i, h1, h2⟩
        cases i with
        | zero => simp at h1
        | succ i => exact ⟨i, by simpa using h1, by omega⟩
    | some v =>
      rw [tv_as, List.mem_cons, ih (n + 1) q]
      constructor
      · rintro (h | ⟨i, h1, h2⟩)
        · subst h
          exact ⟨0, by simp, by simp⟩
        · exact ⟨i + 1, by simpa using h1, by omega⟩
      · rintro ⟨i, h1, h2⟩
        cases i with
        | zero =>
          left
          simp at h1
          obtain ⟨a, w⟩ := q
          simp at h1 h2
          rw [h1, h2]
        | succ i => exact Or.inr ⟨i, by simpa using h1, by omega⟩
theorem tv_lo_has {sl : Array Slot} {nL : Nat} {ls : List (Option Value)} : tv_lo sl nL ls ↔ lv_has sl nL (tv_as 0 ls) := by
  constructor
  · rintro ⟨h1, h2, h3⟩
    refine ⟨h1, h2, fun q hq => ?_⟩
    obtain ⟨i, h4, h5⟩ := (tv_as_mem ls 0 q).mp hq
    rw [show q.1 = i by omega]
    exact h3 i q.2 h4
  · rintro ⟨h1, h2, h3⟩
    refine ⟨h1, h2, fun i v h => ?_⟩
    exact h3 (i, v) ((tv_as_mem ls 0 (i, v)).mpr ⟨i, h, by simp⟩)
def tv_clr (a : Option Value) : Option Value := match a with
  | some w => if w.category = 2 then none else some w
  | none => none
def tv_sto : List (Option Value) → Nat → Value → List (Option Value)
  | [], _, _ => []
  | _ :: r, 0, v => some v :: r
  | a :: r, 1, v => tv_clr a :: tv_sto r 0 v
  | a :: r, i + 2, v => a :: tv_sto r (i + 1) v
theorem tv_sto_at (v w : Value) : ∀ (ls : List (Option Value)) (i j : Nat), (tv_sto ls i v)[j]? = some (some w) → (j = i ∧ w = v) ∨ (j ≠ i ∧ ¬ (j + 1 = i ∧ w.category = 2) ∧ ls[j]? = some (some w))
  | [], i, j, h => by simp [tv_sto] at h
  | a :: r, 0, 0, h => by simp [tv_sto] at h; exact Or.inl ⟨rfl, h.symm⟩
  | a :: r, 0, j + 1, h => by simp [tv_sto] at h; exact Or.inr ⟨by omega, by omega, by simpa using h⟩
  | a :: r, 1, 0, h => by
    rw [tv_sto] at h
    simp only [List.getElem?_cons_zero, Option.some.injEq] at h
    refine Or.inr ⟨by omega, fun hc => ?_, ?_⟩
    · cases a with
      | none => simp [tv_clr] at h
      | some u =>
        by_cases hu : u.category = 2
        · simp [tv_clr, hu] at h
        · simp [tv_clr, hu] at h
          exact hu (h ▸ hc.2)
    · cases a with
      | none => simp [tv_clr] at h
      | some u =>
        by_cases hu : u.category = 2
        · simp [tv_clr, hu] at h
        · simp [tv_clr, hu] at h
          simp [h]
  | a :: r, 1, j + 1, h => by
    rw [tv_sto] at h
    rcases tv_sto_at v w r 0 j (by simpa using h) with ⟨h1, h2⟩ | ⟨h1, h2, h3⟩
    · exact Or.inl ⟨by omega, h2⟩
    · exact Or.inr ⟨by omega, by omega, by simpa using h3⟩
  | a :: r, i + 2, 0, h => by
    rw [tv_sto] at h
    exact Or.inr ⟨by omega, by omega, by simpa using h⟩
  | a :: r, i + 2, j + 1, h => by
    rw [tv_sto] at h
    rcases tv_sto_at v w r (i + 1) j (by simpa using h) with ⟨h1, h2⟩ | ⟨h1, h2, h3⟩
    · exact Or.inl ⟨by omega, h2⟩
    · exact Or.inr ⟨by omega, fun hc => h2 ⟨by omega, hc.2⟩, by simpa using h3⟩
theorem tv_store1 {sl : Array Slot} {nL : Nat} {ls : List (Option Value)} {i : Nat} {v : Value} (h : tv_lo sl nL ls) (hi : i < nL) (hc : v.category = 1) : ∃ sl', storeLocals sl i v = some sl' ∧ tv_lo sl' nL (tv_sto ls i v) := by
  obtain ⟨sl', h1, h2, h3, h4⟩ := lv_store1 (tv_lo_has.mp h) hi hc
  refine ⟨sl', h1, h2, h3, fun j w hw => ?_⟩
  rcases tv_sto_at v w ls i j hw with ⟨g1, g2⟩ | ⟨g1, g2, g3⟩
  · subst g1; subst g2
    exact h4 (j, w) List.mem_cons_self
  · refine h4 (j, w) (List.mem_cons_of_mem _ (List.mem_filter.mpr ⟨(tv_as_mem ls 0 (j, w)).mpr ⟨j, g3, by simp⟩, ?_⟩))
    simp only [Bool.and_eq_true, Bool.not_eq_true', beq_eq_false_iff_ne, Bool.and_eq_false_iff]
    refine ⟨g1, ?_⟩
    by_cases hj : j + 1 = i
    · right
      exact fun hc => g2 ⟨hj, hc⟩
    · left
      exact hj
/-- a long: its second half goes too -/
def tv_sto2 (ls : List (Option Value)) (i : Nat) (v : Value) : List (Option Value) := (tv_sto ls i v).set (i + 1) none
theorem tv_store2 {sl : Array Slot} {nL : Nat} {ls : List (Option Value)} {i : Nat} {v : Value} (h : tv_lo sl nL ls) (hi : i + 1 < nL) (hc : v.category = 2) : ∃ sl', storeLocals sl i v = some sl' ∧ tv_lo sl' nL (tv_sto2 ls i v) := by
  obtain ⟨sl', h1, h2, h3, h4⟩ := lv_store2 (tv_lo_has.mp h) hi hc
  refine ⟨sl', h1, h2, h3, fun j w hw => ?_⟩
  unfold tv_sto2 at hw
  have hj1 : j ≠ i + 1 := by
    intro e
    subst e
    rw [List.getElem?_set] at hw
    simp at hw
  rw [List.getElem?_set_ne (Ne.symm hj1)] at hw
  rcases tv_sto_at v w ls i j hw with ⟨g1, g2⟩ | ⟨g1, g2, g3⟩
  · subst g1; subst g2
    exact h4 (j, w) List.mem_cons_self
  · refine h4 (j, w) (List.mem_cons_of_mem _ (List.mem_filter.mpr ⟨(tv_as_mem ls 0 (j, w)).mpr ⟨j, g3, by simp⟩, ?_⟩))
    simp only [Bool.and_eq_true, Bool.not_eq_true', beq_eq_false_iff_ne, Bool.and_eq_false_iff]
    refine ⟨g1, hj1, ?_⟩
    by_cases hj : j + 1 = i
    · right
      exact fun hc => g2 ⟨hj, hc⟩
    · left
      exact hj
/-- fewer known locals -/
def tv_mask : List Bool → List (Option Value) → List (Option Value)
  | [], _ => []
  | _, [] => []
  | true :: m, a :: r => a :: tv_mask m r
  | false :: m, _ :: r => none :: tv_mask m r
theorem tv_mask_at (w : Value) : ∀ (m : List Bool) (ls : List (Option Value)) (j : Nat), (tv_mask m ls)[j]? = some (some w) → ls[j]? = some (some w)
  | [], ls, j, h => by simp [tv_mask] at h
  | true :: m, [], j, h => by simp [tv_mask] at h
  | false :: m, [], j, h => by simp [tv_mask] at h
  | true :: m, a :: r, 0, h => by simpa [tv_mask] using h
  | false :: m, a :: r, 0, h => by simp [tv_mask] at h
  | true :: m, a :: r, j + 1, h => by simpa using tv_mask_at w m r j (by simpa [tv_mask] using h)
  | false :: m, a :: r, j + 1, h => by simpa using tv_mask_at w m r j (by simpa [tv_mask] using h)
theorem tv_lo_mask {sl : Array Slot} {nL : Nat} {ls : List (Option Value)} (m : List Bool) (h : tv_lo sl nL ls) : tv_lo sl nL (tv_mask m ls) := ⟨h.1, h.2.1, fun i v hv => h.2.2 i v (tv_mask_at v m ls i hv)⟩
end
section
/-! WHAT STANDS OUTSIDE: nest links, String constants, the static tables -/
def tv_nests : List (String × Nat × MethodName × String) := [("TiedViews", 23, ⟨"TiedViews$Sheet", "<init>", "()V"⟩, "TiedViews"), ("TiedViews$Agreement", 58, ⟨"TiedViews", "restOf", "(II)I"⟩, "TiedViews"), ("TiedViews$Dropping", 112, ⟨"TiedViews", "inverseOf", "(II)I"⟩, "TiedViews"), ("TiedViews$Dropping", 115, ⟨"TiedViews", "restOf", "(II)I"⟩, "TiedViews"), ("TiedViews$Dropping", 118, ⟨"TiedViews", "addTimes", "([I[IIII)V"⟩, "TiedViews"), ("TiedViews$Hearsay", 119, ⟨"TiedViews", "restOf", "(II)I"⟩, "TiedViews"), ("TiedViews$Steps", 71, ⟨"TiedViews", "inverseOf", "(II)I"⟩, "TiedViews"), ("TiedViews$Steps", 74, ⟨"TiedViews", "restOf", "(II)I"⟩, "TiedViews"), ("TiedViews$Steps", 77, ⟨"TiedViews", "addTimes", "([I[IIII)V"⟩, "TiedViews"), ("TiedViews$Told", 34, ⟨"TiedViews$Tie", "<init>", "()V"⟩, "TiedViews"), ("TiedViews$Told", 109, ⟨"TiedViews", "restOf", "(II)I"⟩, "TiedViews")]
def tv_strs : List (String × Nat × String) := [("TiedViews$Reader", 69, "eye"), ("TiedViews$Reader", 177, "view"), ("TiedViews$Reader", 179, "mod"), ("TiedViews$Reader", 181, "held"), ("TiedViews$Reader", 183, "choice"), ("TiedViews$Reader", 78, "tie"), ("TiedViews$Reader", 126, "by"), ("TiedViews$Reader", 138, "and"), ("TiedViews$Reader", 83, "bar")]
def tv_slen : List Nat := [3, 4, 3, 4, 6, 3, 2, 3, 3]
def tv_sbyt : List (List Int32) := [[101, 121, 101], [118, 105, 101, 119], [109, 111, 100], [104, 101, 108, 100], [99, 104, 111, 105, 99, 101], [116, 105, 101], [98, 121], [97, 110, 100], [98, 97, 114]]
def tv_stat : List (String × List Int32) := [("KIND_OF_SORT", [1, 2, 3, 4]), ("KIND_ABOVE", [-1, 0, 1, 1, 0]), ("SIZE_BODY", [10, 11, 12, 13, 14]), ("MARK_BODY", [20, 21, 22, 0, 23])]
def tv_tb : List Cond := lw_tbl.filter goodWord
def tv_X (b : Nat) (adK adV tS : Nat → Nat) (U : State) (H : Heap) : Prop :=
  (∀ q ∈ tv_nests, va_Nw (.methodLinkNest q.1 q.2.1 q.2.2.1 q.2.2.2) U) ∧ (∀ (i : Nat) (q : String × Nat × String), tv_strs[i]? = some q → vk_R q.1 q.2.1 q.2.2 (adK i) U) ∧ vk_S 9 tv_slen tv_sbyt adK adV (tv_A b) U H ∧ va_Z "java/lang/String" "COMPACT_STRINGS" "Z" (.int 1) (tv_A b) U H ∧
  (∀ (i : Nat) (q : String × List Int32), tv_stat[i]? = some q → va_Z "TiedViews$Bodies" q.1 "[I" (.ref (tS i)) (tv_A b) U H ∧ va_T .int (tS i) q.2.length (fun j => .int (q.2.getD j 0)) (tv_A b) U H) ∧ va_Zq "jdk/internal/util/Preconditions" "SIOOBE_FORMATTER" "Ljava/util/function/BiFunction;" (tv_A b) U H
theorem tv_X.warm {b : Nat} {adK adV tS : Nat → Nat} {s U : State} {H : Heap} (hW : s.WarmedH U.vm) (h : tv_X b adK adV tS s H) : tv_X b adK adV tS U H :=
  ⟨fun q hq => va_Nw.warmM hW (h.1 q hq), fun i q hq => vk_R.warm hW (h.2.1 i q hq), h.2.2.1.moved hW.alike, h.2.2.2.1.moved hW.alike, fun i q hq => ⟨(h.2.2.2.2.1 i q hq).1.moved hW.alike, (h.2.2.2.2.1 i q hq).2.moved hW.alike⟩, h.2.2.2.2.2.moved hW.alike⟩
theorem tv_X.same {b : Nat} {adK adV tS : Nat → Nat} {s U : State} {H : Heap} (hv : U.vm = s.vm) (h : tv_X b adK adV tS s H) : tv_X b adK adV tS U H := by
  have ha : s.vm.Alike U.vm := by rw [hv]; exact Vm.Alike.refl _
  exact ⟨fun q hq => va_Nw.same rfl hv.symm (h.1 q hq), fun i q hq => vk_R.same hv (h.2.1 i q hq), h.2.2.1.moved ha, h.2.2.2.1.moved ha, fun i q hq => ⟨(h.2.2.2.2.1 i q hq).1.moved ha, (h.2.2.2.2.1 i q hq).2.moved ha⟩, h.2.2.2.2.2.moved ha⟩
theorem tv_X.kept {b : Nat} {adK adV tS : Nat → Nat} {U : State} {H H1 : Heap} (h : tv_X b adK adV tS U H) (hq : ∀ a : Nat, a < H.size → ¬ tv_A b a → H1[a]? = H[a]?) : tv_X b adK adV tS U H1 :=
  ⟨h.1, h.2.1, h.2.2.1.kept hq, h.2.2.2.1.kept hq, fun i q hi => ⟨(h.2.2.2.2.1 i q hi).1.kept hq, (h.2.2.2.2.1 i q hi).2.kept hq⟩, h.2.2.2.2.2.kept hq⟩
/-- what all methods share: the first cell, class numbers, array classes, addresses of what stands outside -/
abbrev tv_Th : Type := Nat × va_G × (Nat → ClassId) × (Nat → Nat) × (Nat → Nat) × (Nat → Nat)
def tv_V (θ : tv_Th) (M : tv_M) (H : Heap) : Prop := va_P θ.2.1 tv_cl (tv_ws θ.1 θ.2.2.1 tv_n M.1 M.2 tv_P0) H
def tv_St (θ : tv_Th) (M : tv_M) (U : State) : Prop := tv_V θ M U.heap ∧ va_K θ.2.1 tv_cl (tv_tys θ.2.2.1) U ∧ tv_X θ.1 θ.2.2.2.1 θ.2.2.2.2.1 θ.2.2.2.2.2 U U.heap
/-- a walk's surroundings -/
abbrev tv_Kt : Type := Program × Launch × Env × Room × State × MethodId × Array Value × List Frame × Method × Code × tv_Th × Nat × Nat
abbrev tv_Kt.l (κ : tv_Kt) : Launch := κ.2.1
abbrev tv_Kt.s (κ : tv_Kt) : State := κ.2.2.2.2.1
abbrev tv_Kt.th (κ : tv_Kt) : tv_Th := κ.2.2.2.2.2.2.2.2.2.2.1
abbrev tv_Kt.ce (κ : tv_Kt) : Nat := κ.2.2.2.2.2.2.2.2.2.2.2.1
abbrev tv_Kt.sz (κ : tv_Kt) : Nat := κ.2.2.2.2.2.2.2.2.2.2.2.2
abbrev tv_Kt.b (κ : tv_Kt) : Nat := κ.th.1
abbrev tv_W (κ : tv_Kt) (H : Heap) (locs : List Loc) (Q : State → Prop) (pc : Nat) (sl : Array Slot) (st : List Value) : Prop := W κ.1 κ.2.1 κ.2.2.1 κ.2.2.2.1 κ.2.2.2.2.1 κ.2.2.2.2.2.1 κ.2.2.2.2.2.2.1 κ.2.2.2.2.2.2.2.1 κ.2.2.2.2.2.2.2.2.1 κ.2.2.2.2.2.2.2.2.2.1 H locs κ.ce κ.sz Q (F0 κ.2.2.2.2.2.1 pc sl st)
def tv_Cx (κ : tv_Kt) (own : String) (cc : ByteArray) (nL d : Nat) : Prop :=
  (κ.1.tables.exec = Jvm.exec ∧ κ.2.2.2.2.2.2.2.2.2.1.code = cc ∧ κ.2.2.2.2.2.2.2.2.2.1.maxLocals = nL ∧ κ.s.vm.findClass own = some κ.2.2.2.2.2.1.cls ∧ ∀ w ∈ tv_tb, w.before κ.2.2.2.2.2.2.1 κ.s = true) ∧ va_K κ.th.2.1 tv_cl (tv_tys κ.th.2.2.1) κ.s ∧ tv_X κ.th.1 κ.th.2.2.2.1 κ.th.2.2.2.2.1 κ.th.2.2.2.2.2 κ.s κ.s.heap ∧ d ≤ κ.2.2.2.1.frames ∧ 40 * d ≤ κ.2.2.2.1.locals ∧ κ.ce ≤ κ.2.2.2.1.cells ∧ κ.sz ≤ κ.2.2.2.1.slots
/-- THE JUDGEMENT: if the function's outcome o is (r, M'), the machine goes from here to Q r M' -/
def tv_G {β : Type} (κ : tv_Kt) (nL : Nat) (Q : β → tv_M → State → Prop) (pc : Nat) (ls : List (Option Value)) (st : List Value) (M : tv_M) (o : Option (β × tv_M)) : Prop :=
  ∀ (r : β) (M' : tv_M), o = some (r, M') → ∀ (H : Heap) (locs : List Loc) (sl : Array Slot), tv_V κ.th M H → va_S (tv_A κ.b) κ.s.heap H locs → tv_lo sl nL ls → tv_W κ H locs (Q r M') pc sl st
/-! the functions' words -/
def tv_inb (i : Int32) (n : Nat) : Bool := decide (¬ (i < 0 ∨ n ≤ i.toNatClampNeg))
def tv_rd {α : Type} (M : tv_M) (k n : Nat) (i : Int32) (f : Int32 → Option α) : Option α := if tv_inb i n then f (M.1 k i.toNatClampNeg) else none
def tv_rdl {α : Type} (M : tv_M) (k n : Nat) (i : Int32) (f : Int64 → Option α) : Option α := if tv_inb i n then f (M.2 k i.toNatClampNeg) else none
def tv_wr {α : Type} (M : tv_M) (k n : Nat) (i x : Int32) (f : tv_M → Option α) : Option α := if tv_inb i n then f (tv_w M k i.toNatClampNeg x) else none
def tv_wrl {α : Type} (M : tv_M) (k n : Nat) (i : Int32) (x : Int64) (f : tv_M → Option α) : Option α := if tv_inb i n then f (tv_wl M k i.toNatClampNeg x) else none
def tv_nn {α : Type} (r : Option Nat) (f : Nat → Option α) : Option α := match r with
  | none => none
  | some k => f k
def tv_ap {α : Type} (a n : Nat) (i : Int32) (f : Nat → Option α) : Option α := if tv_inb i n then tv_nn (tv_P0 a i.toNatClampNeg) f else none
def tv_gl {α : Type} (k ci : Nat) (o : Option α) : Option α := if (tv_lay[k]?).map Prod.fst = some ci then o else none
def tv_gn {α : Type} (k t : Nat) (f : Nat → Option α) : Option α := match tv_lay[k]? with
  | some q => if q.1 = t then f q.2 else none
  | none => none
def tv_nz {α : Type} (y : Int32) (o : Option α) : Option α := if y = 0 then none else o
def tv_zo {α : Type} (x : Int32) (o : Option α) : Option α := if x = 0 ∨ x = 1 then o else none
def tv_cb {α β : Type} (c : Option (β × tv_M)) (f : β → tv_M → Option α) : Option α := match c with
  | none => none
  | some q => f q.1 q.2
def tv_nl {α : Type} (r : Option Nat) (o : Option α) (f : Nat → Option α) : Option α := match r with
  | none => o
  | some k => f k
/-- the remainder as the machine has it -/
abbrev tv_rem (x y : Int32) : Int32 := x - x / y * y
/-- arraycopy between int rows -/
def tv_cpy {α : Type} (M : tv_M) (a n0 : Nat) (sp : Int32) (k n1 : Nat) (dp n : Int32) (f : tv_M → Option α) : Option α :=
  if 0 ≤ sp ∧ 0 ≤ dp ∧ 0 ≤ n ∧ sp.toNatClampNeg + n.toNatClampNeg ≤ n0 ∧ dp.toNatClampNeg + n.toNatClampNeg ≤ n1 then f (tv_wc M k (va_cpy (M.1 a) (M.1 k) sp.toNatClampNeg dp.toNatClampNeg n.toNatClampNeg)) else none
theorem tv_inbP {i : Int32} {n : Nat} (h : tv_inb i n = true) : vp_in i n := by
  unfold tv_inb at h
  exact (of_decide_eq_true h : ¬ (i < 0 ∨ n ≤ i.toNatClampNeg))
section TVR
variable {β : Type} {κ : tv_Kt} {own : String} {cc : ByteArray} {nL d pc : Nat} {Q : β → tv_M → State → Prop} {ls ls' : List (Option Value)} {st : List Value} {M : tv_M} {o o1 o2 : Option (β × tv_M)} {x y : Int32} {u v : Int64}
theorem g_iconst (hC : tv_Cx κ own cc nL d) {n : Int} (hd : decode cc pc = .ok (.iconst n, 1)) (hv : Int32.ofInt n = x) (k : tv_G κ nL Q (pc + 1) ls (.int x :: st) M o) : tv_G κ nL Q pc ls st M o := fun r M' ho H locs sl hP hS hl => lv_iconst hC.1.1 hC.1.2.1 hd hv (k r M' ho H locs sl hP hS hl)
theorem g_bipush (hC : tv_Cx κ own cc nL d) {n : Int} (hd : decode cc pc = .ok (.bipush n, 2)) (hv : (Int8.ofInt n).toInt32 = x) (k : tv_G κ nL Q (pc + 2) ls (.int x :: st) M o) : tv_G κ nL Q pc ls st M o := fun r M' ho H locs sl hP hS hl => lv_bipush hC.1.1 hC.1.2.1 hd hv (k r M' ho H locs sl hP hS hl)
theorem g_sipush (hC : tv_Cx κ own cc nL d) {n : Int} (hd : decode cc pc = .ok (.sipush n, 3)) (hv : (Int16.ofInt n).toInt32 = x) (k : tv_G κ nL Q (pc + 3) ls (.int x :: st) M o) : tv_G κ nL Q pc ls st M o := fun r M' ho H locs sl hP hS hl => lv_sipush hC.1.1 hC.1.2.1 hd hv (k r M' ho H locs sl hP hS hl)
theorem g_lconst (hC : tv_Cx κ own cc nL d) {n : Fin 2} (hd : decode cc pc = .ok (.lconst n, 1)) (hv : Int64.ofNat (n : Nat) = u) (k : tv_G κ nL Q (pc + 1) ls (.long u :: st) M o) : tv_G κ nL Q pc ls st M o := fun r M' ho H locs sl hP hS hl => lv_lconst hC.1.1 hC.1.2.1 hd hv (k r M' ho H locs sl hP hS hl)
theorem g_ldc (hC : tv_Cx κ own cc nL d) {i : Nat} (hd : decode cc pc = .ok (.ldc i, 2)) (hw : Cond.constant own i x ∈ tv_tb) (k : tv_G κ nL Q (pc + 2) ls (.int x :: st) M o) : tv_G κ nL Q pc ls st M o := fun r M' ho H locs sl hP hS hl => lv_ldc hC.1.1 hC.1.2.1 hC.1.2.2.2.1 (hC.1.2.2.2.2 _ hw) hd (k r M' ho H locs sl hP hS hl)
theorem g_ldcw (hC : tv_Cx κ own cc nL d) {i : Nat} (hd : decode cc pc = .ok (.ldc_w i, 3)) (hw : Cond.constant own i x ∈ tv_tb) (k : tv_G κ nL Q (pc + 3) ls (.int x :: st) M o) : tv_G κ nL Q pc ls st M o := fun r M' ho H locs sl hP hS hl => lv_ldcw hC.1.1 hC.1.2.1 hC.1.2.2.2.1 (hC.1.2.2.2.2 _ hw) hd (k r M' ho H locs sl hP hS hl)
theorem g_ldc2 (hC : tv_Cx κ own cc nL d) {i : Nat} (hd : decode cc pc = .ok (.ldc2_w i, 3)) (hw : Cond.constantLong own i u ∈ tv_tb) (k : tv_G κ nL Q (pc + 3) ls (.long u :: st) M o) : tv_G κ nL Q pc ls st M o := fun r M' ho H locs sl hP hS hl => lv_ldc2 hC.1.1 hC.1.2.1 hC.1.2.2.2.1 (hC.1.2.2.2.2 _ hw) hd (k r M' ho H locs sl hP hS hl)
theorem g_null (hC : tv_Cx κ own cc nL d) (hd : decode cc pc = .ok (.aconst_null, 1)) (k : tv_G κ nL Q (pc + 1) ls (.null :: st) M o) : tv_G κ nL Q pc ls st M o := fun r M' ho H locs sl hP hS hl => lv_null hC.1.1 hC.1.2.1 hd (k r M' ho H locs sl hP hS hl)
theorem g_iload_n (hC : tv_Cx κ own cc nL d) {i : Fin 4} (hd : decode cc pc = .ok (.iload_n i, 1)) (hv : ls[(i : Nat)]? = some (some (.int x))) (k : tv_G κ nL Q (pc + 1) ls (.int x :: st) M o) : tv_G κ nL Q pc ls st M o := fun r M' ho H locs sl hP hS hl => lv_iload_n hC.1.1 hC.1.2.1 hd rfl (hl.2.2 _ _ hv) (k r M' ho H locs sl hP hS hl)
theorem g_iload (hC : tv_Cx κ own cc nL d) {i : Nat} (hd : decode cc pc = .ok (.iload i, 2)) (hv : ls[i]? = some (some (.int x))) (k : tv_G κ nL Q (pc + 2) ls (.int x :: st) M o) : tv_G κ nL Q pc ls st M o := fun r M' ho H locs sl hP hS hl => lv_iload hC.1.1 hC.1.2.1 hd (hl.2.2 _ _ hv) (k r M' ho H locs sl hP hS hl)
theorem g_lload_n (hC : tv_Cx κ own cc nL d) {i : Fin 4} (hd : decode cc pc = .ok (.lload_n i, 1)) (hv : ls[(i : Nat)]? = some (some (.long u))) (k : tv_G κ nL Q (pc + 1) ls (.long u :: st) M o) : tv_G κ nL Q pc ls st M o := fun r M' ho H locs sl hP hS hl => lv_lload_n hC.1.1 hC.1.2.1 hd rfl (hl.2.2 _ _ hv) (k r M' ho H locs sl hP hS hl)
theorem g_lload (hC : tv_Cx κ own cc nL d) {i : Nat} (hd : decode cc pc = .ok (.lload i, 2)) (hv : ls[i]? = some (some (.long u))) (k : tv_G κ nL Q (pc + 2) ls (.long u :: st) M o) : tv_G κ nL Q pc ls st M o := fun r M' ho H locs sl hP hS hl => lv_lload hC.1.1 hC.1.2.1 hd (hl.2.2 _ _ hv) (k r M' ho H locs sl hP hS hl)
theorem g_aload_n (hC : tv_Cx κ own cc nL d) {i : Fin 4} {a : Nat} (hd : decode cc pc = .ok (.aload_n i, 1)) (hv : ls[(i : Nat)]? = some (some (.ref a))) (k : tv_G κ nL Q (pc + 1) ls (.ref a :: st) M o) : tv_G κ nL Q pc ls st M o := fun r M' ho H locs sl hP hS hl => lv_aload_n hC.1.1 hC.1.2.1 hd rfl (hl.2.2 _ _ hv) (k r M' ho H locs sl hP hS hl)
theorem g_aload (hC : tv_Cx κ own cc nL d) {i a : Nat} (hd : decode cc pc = .ok (.aload i, 2)) (hv : ls[i]? = some (some (.ref a))) (k : tv_G κ nL Q (pc + 2) ls (.ref a :: st) M o) : tv_G κ nL Q pc ls st M o := fun r M' ho H locs sl hP hS hl => lv_aload hC.1.1 hC.1.2.1 hd (hl.2.2 _ _ hv) (k r M' ho H locs sl hP hS hl)
theorem g_aload_nQ (hC : tv_Cx κ own cc nL d) {i : Fin 4} {b : Nat} {a : Option Nat} (hd : decode cc pc = .ok (.aload_n i, 1)) (hv : ls[(i : Nat)]? = some (some (tv_re b a))) (k : tv_G κ nL Q (pc + 1) ls (tv_re b a :: st) M o) : tv_G κ nL Q pc ls st M o := by
  cases a with
  | none => exact fun r M' ho H locs sl hP hS hl => lv_aload_nN hC.1.1 hC.1.2.1 hd rfl (hl.2.2 _ _ hv) (k r M' ho H locs sl hP hS hl)
  | some a => exact g_aload_n hC hd hv k
theorem g_aloadQ (hC : tv_Cx κ own cc nL d) {i b : Nat} {a : Option Nat} (hd : decode cc pc = .ok (.aload i, 2)) (hv : ls[i]? = some (some (tv_re b a))) (k : tv_G κ nL Q (pc + 2) ls (tv_re b a :: st) M o) : tv_G κ nL Q pc ls st M o := by
  cases a with
  | none => exact fun r M' ho H locs sl hP hS hl => lv_aloadN hC.1.1 hC.1.2.1 hd (hl.2.2 _ _ hv) (k r M' ho H locs sl hP hS hl)
  | some a => exact g_aload hC hd hv k
theorem g_istore_n (hC : tv_Cx κ own cc nL d) {i : Fin 4} (hd : decode cc pc = .ok (.istore_n i, 1)) (hs : tv_sto ls (i : Nat) (.int x) = ls') (hn : Nat.blt (i : Nat) nL = true) (k : tv_G κ nL Q (pc + 1) ls' st M o) : tv_G κ nL Q pc ls (.int x :: st) M o := by
  intro r M' ho H locs sl hP hS hl
  obtain ⟨sl', e', h'⟩ := tv_store1 (v := .int x) hl (by simpa using hn) rfl
  intro T hT X
  obtain ⟨t, a, b⟩ := k r M' ho H locs sl' hP hS (hs ▸ h') T hT X
  refine ⟨t, ?_, b⟩
  have hx := hC.1.1
  have hb := hC.1.2.1
  jvm_step X.here [X.here.top, ↓top_set X.here.top, hx, hb, hd, e']
  exact a
theorem g_istore (hC : tv_Cx κ own cc nL d) {i : Nat} (hd : decode cc pc = .ok (.istore i, 2)) (hs : tv_sto ls i (.int x) = ls') (hn : Nat.blt i nL = true) (k : tv_G κ nL Q (pc + 2) ls' st M o) : tv_G κ nL Q pc ls (.int x :: st) M o := by
  intro r M' ho H locs sl hP hS hl
  obtain ⟨sl', e', h'⟩ := tv_store1 (v := .int x) hl (by simpa using hn) rfl
  intro T hT X
  obtain ⟨t, a, b⟩ := k r M' ho H locs sl' hP hS (hs ▸ h') T hT X
  refine ⟨t, ?_, b⟩
  have hx := hC.1.1
  have hb := hC.1.2.1
  jvm_step X.here [X.here.top, ↓top_set X.here.top, hx, hb, hd, e']
  exact a
theorem g_astore_n (hC : tv_Cx κ own cc nL d) {i : Fin 4} {a : Nat} (hd : decode cc pc = .ok (.astore_n i, 1)) (hs : tv_sto ls (i : Nat) (.ref a) = ls') (hn : Nat.blt (i : Nat) nL = true) (k : tv_G κ nL Q (pc + 1) ls' st M o) : tv_G κ nL Q pc ls (.ref a :: st) M o := by
  intro r M' ho H locs sl hP hS hl
  obtain ⟨sl', e', h'⟩ := tv_store1 (v := .ref a) hl (by simpa using hn) rfl
  intro T hT X
  obtain ⟨t, a, b⟩ := k r M' ho H locs sl' hP hS (hs ▸ h') T hT X
  refine ⟨t, ?_, b⟩
  have hx := hC.1.1
  have hb := hC.1.2.1
  jvm_step X.here [X.here.top, ↓top_set X.here.top, hx, hb, hd, e']
  exact ⟨rfl, a⟩
theorem g_astore (hC : tv_Cx κ own cc nL d) {i a : Nat} (hd : decode cc pc = .ok (.astore i, 2)) (hs : tv_sto ls i (.ref a) = ls') (hn : Nat.blt i nL = true) (k : tv_G κ nL Q (pc + 2) ls' st M o) : tv_G κ nL Q pc ls (.ref a :: st) M o := by
  intro r M' ho H locs sl hP hS hl
  obtain ⟨sl', e', h'⟩ := tv_store1 (v := .ref a) hl (by simpa using hn) rfl
  intro T hT X
  obtain ⟨t, a, b⟩ := k r M' ho H locs sl' hP hS (hs ▸ h') T hT X
  refine ⟨t, ?_, b⟩
  have hx := hC.1.1
  have hb := hC.1.2.1
  jvm_step X.here [X.here.top, ↓top_set X.here.top, hx, hb, hd, e']
  exact ⟨rfl, a⟩
theorem g_astore_nQ (hC : tv_Cx κ own cc nL d) {i : Fin 4} {b : Nat} {a : Option Nat} (hd : decode cc pc = .ok (.astore_n i, 1)) (hs : tv_sto ls (i : Nat) (tv_re b a) = ls') (hn : Nat.blt (i : Nat) nL = true) (k : tv_G κ nL Q (pc + 1) ls' st M o) : tv_G κ nL Q pc ls (tv_re b a :: st) M o := by
  cases a with
  | some a => exact g_astore_n hC hd hs hn k
  | none =>
    intro r M' ho H locs sl hP hS hl
    obtain ⟨sl', e', h'⟩ := tv_store1 (v := .null) hl (by simpa using hn) rfl
    intro T hT X
    obtain ⟨t, a, b⟩ := k r M' ho H locs sl' hP hS (hs ▸ h') T hT X
    refine ⟨t, ?_, b⟩
    have hx := hC.1.1
    have hb := hC.1.2.1
    show Steps _ _ _ (T.setTop (F0 _ pc sl (.null :: st))) t
    jvm_step X.here [X.here.top, ↓top_set X.here.top, hx, hb, hd, e']
    exact ⟨rfl, a⟩
theorem g_astoreQ (hC : tv_Cx κ own cc nL d) {i b : Nat} {a : Option Nat} (hd : decode cc pc = .ok (.astore i, 2)) (hs : tv_sto ls i (tv_re b a) = ls') (hn : Nat.blt i nL = true) (k : tv_G κ nL Q (pc + 2) ls' st M o) : tv_G κ nL Q pc ls (tv_re b a :: st) M o := by
  cases a with
  | some a => exact g_astore hC hd hs hn k
  | none =>
    intro r M' ho H locs sl hP hS hl
    obtain ⟨sl', e', h'⟩ := tv_store1 (v := .null) hl (by simpa using hn) rfl
    intro T hT X
    obtain ⟨t, a, b⟩ := k r M' ho H locs sl' hP hS (hs ▸ h') T hT X
    refine ⟨t, ?_, b⟩
    have hx := hC.1.1
    have hb := hC.1.2.1
    show Steps _ _ _ (T.setTop (F0 _ pc sl (.null :: st))) t
    jvm_step X.here [X.here.top, ↓top_set X.here.top, hx, hb, hd, e']
    exact ⟨rfl, a⟩
theorem g_lstore_n (hC : tv_Cx κ own cc nL d) {i : Fin 4} (hd : decode cc pc = .ok (.lstore_n i, 1)) (hs : tv_sto2 ls (i : Nat) (.long u) = ls') (hn : Nat.blt ((i : Nat) + 1) nL = true) (k : tv_G κ nL Q (pc + 1) ls' st M o) : tv_G κ nL Q pc ls (.long u :: st) M o := by
  intro r M' ho H locs sl hP hS hl
  obtain ⟨sl', e', h'⟩ := tv_store2 (v := .long u) hl (by simpa using hn) rfl
  intro T hT X
  obtain ⟨t, a, b⟩ := k r M' ho H locs sl' hP hS (hs ▸ h') T hT X
  refine ⟨t, ?_, b⟩
  have hx := hC.1.1
  have hb := hC.1.2.1
  jvm_step X.here [X.here.top, ↓top_set X.here.top, hx, hb, hd, e']
  exact a
theorem g_lstore (hC : tv_Cx κ own cc nL d) {i : Nat} (hd : decode cc pc = .ok (.lstore i, 2)) (hs : tv_sto2 ls i (.long u) = ls') (hn : Nat.blt (i + 1) nL = true) (k : tv_G κ nL Q (pc + 2) ls' st M o) : tv_G κ nL Q pc ls (.long u :: st) M o := by
  intro r M' ho H locs sl hP hS hl
  obtain ⟨sl', e', h'⟩ := tv_store2 (v := .long u) hl (by simpa using hn) rfl
  intro T hT X
  obtain ⟨t, a, b⟩ := k r M' ho H locs sl' hP hS (hs ▸ h') T hT X
  refine ⟨t, ?_, b⟩
  have hx := hC.1.1
  have hb := hC.1.2.1
  jvm_step X.here [X.here.top, ↓top_set X.here.top, hx, hb, hd, e']
  exact a
theorem g_iinc (hC : tv_Cx κ own cc nL d) {i : Nat} {n : Int} (hd : decode cc pc = .ok (.iinc i n, 3)) (hv : ls[i]? = some (some (.int x))) (hi : Int32.ofInt n = y) (hs : tv_sto ls i (.int (x + y)) = ls') (hn : Nat.blt i nL = true) (k : tv_G κ nL Q (pc + 3) ls' st M o) : tv_G κ nL Q pc ls st M o := by
  intro r M' ho H locs sl hP hS hl
  subst hi
  have hg := hl.2.2 _ _ hv
  obtain ⟨sl', e', h'⟩ := tv_store1 (v := .int (x + Int32.ofInt n)) hl (by simpa using hn) rfl
  intro T hT X
  obtain ⟨t, a, b⟩ := k r M' ho H locs sl' hP hS (hs ▸ h') T hT X
  refine ⟨t, ?_, b⟩
  have hx := hC.1.1
  have hb := hC.1.2.1
  jvm_step X.here [X.here.top, ↓top_set X.here.top, hx, hb, hd, hg, e']
  exact a
theorem g_iadd (hC : tv_Cx κ own cc nL d) (hd : decode cc pc = .ok (.iadd, 1)) (k : tv_G κ nL Q (pc + 1) ls (.int (x + y) :: st) M o) : tv_G κ nL Q pc ls (.int y :: .int x :: st) M o := fun r M' ho H locs sl hP hS hl => lv_iadd hC.1.1 hC.1.2.1 hd (k r M' ho H locs sl hP hS hl)
theorem g_isub (hC : tv_Cx κ own cc nL d) (hd : decode cc pc = .ok (.isub, 1)) (k : tv_G κ nL Q (pc + 1) ls (.int (x - y) :: st) M o) : tv_G κ nL Q pc ls (.int y :: .int x :: st) M o := fun r M' ho H locs sl hP hS hl => lv_isub hC.1.1 hC.1.2.1 hd (k r M' ho H locs sl hP hS hl)
theorem g_imul (hC : tv_Cx κ own cc nL d) (hd : decode cc pc = .ok (.imul, 1)) (k : tv_G κ nL Q (pc + 1) ls (.int (x * y) :: st) M o) : tv_G κ nL Q pc ls (.int y :: .int x :: st) M o := fun r M' ho H locs sl hP hS hl => lv_imul hC.1.1 hC.1.2.1 hd (k r M' ho H locs sl hP hS hl)
theorem g_iand (hC : tv_Cx κ own cc nL d) (hd : decode cc pc = .ok (.iand, 1)) (k : tv_G κ nL Q (pc + 1) ls (.int (x &&& y) :: st) M o) : tv_G κ nL Q pc ls (.int y :: .int x :: st) M o := fun r M' ho H locs sl hP hS hl => lv_iand hC.1.1 hC.1.2.1 hd (k r M' ho H locs sl hP hS hl)
theorem g_ior (hC : tv_Cx κ own cc nL d) (hd : decode cc pc = .ok (.ior, 1)) (k : tv_G κ nL Q (pc + 1) ls (.int (x ||| y) :: st) M o) : tv_G κ nL Q pc ls (.int y :: .int x :: st) M o := fun r M' ho H locs sl hP hS hl => lv_ior hC.1.1 hC.1.2.1 hd (k r M' ho H locs sl hP hS hl)
theorem g_ixor (hC : tv_Cx κ own cc nL d) (hd : decode cc pc = .ok (.ixor, 1)) (k : tv_G κ nL Q (pc + 1) ls (.int (x ^^^ y) :: st) M o) : tv_G κ nL Q pc ls (.int y :: .int x :: st) M o := fun r M' ho H locs sl hP hS hl => lv_ixor hC.1.1 hC.1.2.1 hd (k r M' ho H locs sl hP hS hl)
theorem g_ishl (hC : tv_Cx κ own cc nL d) (hd : decode cc pc = .ok (.ishl, 1)) (k : tv_G κ nL Q (pc + 1) ls (.int (x <<< (y &&& 31)) :: st) M o) : tv_G κ nL Q pc ls (.int y :: .int x :: st) M o := fun r M' ho H locs sl hP hS hl => lv_ishl hC.1.1 hC.1.2.1 hd (k r M' ho H locs sl hP hS hl)
theorem g_ishr (hC : tv_Cx κ own cc nL d) (hd : decode cc pc = .ok (.ishr, 1)) (k : tv_G κ nL Q (pc + 1) ls (.int (x >>> (y &&& 31)) :: st) M o) : tv_G κ nL Q pc ls (.int y :: .int x :: st) M o := fun r M' ho H locs sl hP hS hl => lv_ishr hC.1.1 hC.1.2.1 hd (k r M' ho H locs sl hP hS hl)
theorem g_iushr (hC : tv_Cx κ own cc nL d) (hd : decode cc pc = .ok (.iushr, 1)) (k : tv_G κ nL Q (pc + 1) ls (.int ((x.toUInt32 >>> (y.toUInt32 &&& Int32.toUInt32 31)).toInt32) :: st) M o) : tv_G κ nL Q pc ls (.int y :: .int x :: st) M o := fun r M' ho H locs sl hP hS hl => lv_iushr hC.1.1 hC.1.2.1 hd rfl (k r M' ho H locs sl hP hS hl)
theorem g_irem (hC : tv_Cx κ own cc nL d) (hd : decode cc pc = .ok (.irem, 1)) (k : tv_G κ nL Q (pc + 1) ls (.int (tv_rem x y) :: st) M o) : tv_G κ nL Q pc ls (.int y :: .int x :: st) M (tv_nz y o) := by
  intro r M' ho H locs sl hP hS hl
  unfold tv_nz at ho
  by_cases hy : y = 0
  · rw [if_pos hy] at ho; cases ho
  · rw [if_neg hy] at ho
    exact lv_irem hC.1.1 hC.1.2.1 hd hy (k r M' ho H locs sl hP hS hl)
theorem g_ladd (hC : tv_Cx κ own cc nL d) (hd : decode cc pc = .ok (.ladd, 1)) (k : tv_G κ nL Q (pc + 1) ls (.long (u + v) :: st) M o) : tv_G κ nL Q pc ls (.long v :: .long u :: st) M o := fun r M' ho H locs sl hP hS hl => lv_ladd hC.1.1 hC.1.2.1 hd (k r M' ho H locs sl hP hS hl)
theorem g_lsub (hC : tv_Cx κ own cc nL d) (hd : decode cc pc = .ok (.lsub, 1)) (k : tv_G κ nL Q (pc + 1) ls (.long (u - v) :: st) M o) : tv_G κ nL Q pc ls (.long v :: .long u :: st) M o := fun r M' ho H locs sl hP hS hl => lv_lsub hC.1.1 hC.1.2.1 hd (k r M' ho H locs sl hP hS hl)
theorem g_land (hC : tv_Cx κ own cc nL d) (hd : decode cc pc = .ok (.land, 1)) (k : tv_G κ nL Q (pc + 1) ls (.long (u &&& v) :: st) M o) : tv_G κ nL Q pc ls (.long v :: .long u :: st) M o := fun r M' ho H locs sl hP hS hl => lv_land hC.1.1 hC.1.2.1 hd (k r M' ho H locs sl hP hS hl)
theorem g_lor (hC : tv_Cx κ own cc nL d) (hd : decode cc pc = .ok (.lor, 1)) (k : tv_G κ nL Q (pc + 1) ls (.long (u ||| v) :: st) M o) : tv_G κ nL Q pc ls (.long v :: .long u :: st) M o := fun r M' ho H locs sl hP hS hl => lv_lor hC.1.1 hC.1.2.1 hd (k r M' ho H locs sl hP hS hl)
theorem g_lshl (hC : tv_Cx κ own cc nL d) (hd : decode cc pc = .ok (.lshl, 1)) (k : tv_G κ nL Q (pc + 1) ls (.long (u <<< (y.toInt64 &&& 63)) :: st) M o) : tv_G κ nL Q pc ls (.int y :: .long u :: st) M o := fun r M' ho H locs sl hP hS hl => lv_lshl hC.1.1 hC.1.2.1 hd rfl (k r M' ho H locs sl hP hS hl)
theorem g_lshr (hC : tv_Cx κ own cc nL d) (hd : decode cc pc = .ok (.lshr, 1)) (k : tv_G κ nL Q (pc + 1) ls (.long (u >>> (y.toInt64 &&& 63)) :: st) M o) : tv_G κ nL Q pc ls (.int y :: .long u :: st) M o := fun r M' ho H locs sl hP hS hl => lv_lshr hC.1.1 hC.1.2.1 hd rfl (k r M' ho H locs sl hP hS hl)
theorem g_lcmp (hC : tv_Cx κ own cc nL d) (hd : decode cc pc = .ok (.lcmp, 1)) (k : tv_G κ nL Q (pc + 1) ls (.int (lg_cmp u v) :: st) M o) : tv_G κ nL Q pc ls (.long v :: .long u :: st) M o := fun r M' ho H locs sl hP hS hl => W.lcmp hC.1.1 hC.1.2.1 hd (k r M' ho H locs sl hP hS hl)
theorem g_i2l (hC : tv_Cx κ own cc nL d) (hd : decode cc pc = .ok (.i2l, 1)) (k : tv_G κ nL Q (pc + 1) ls (.long (x.toInt64) :: st) M o) : tv_G κ nL Q pc ls (.int x :: st) M o := fun r M' ho H locs sl hP hS hl => lv_i2l hC.1.1 hC.1.2.1 hd rfl (k r M' ho H locs sl hP hS hl)
theorem g_l2i (hC : tv_Cx κ own cc nL d) (hd : decode cc pc = .ok (.l2i, 1)) (k : tv_G κ nL Q (pc + 1) ls (.int (u.toInt32) :: st) M o) : tv_G κ nL Q pc ls (.long u :: st) M o := fun r M' ho H locs sl hP hS hl => lv_l2i hC.1.1 hC.1.2.1 hd rfl (k r M' ho H locs sl hP hS hl)
theorem g_i2b (hC : tv_Cx κ own cc nL d) (hd : decode cc pc = .ok (.i2b, 1)) (k : tv_G κ nL Q (pc + 1) ls (.int (x.toInt8.toInt32) :: st) M o) : tv_G κ nL Q pc ls (.int x :: st) M o := fun r M' ho H locs sl hP hS hl => lv_i2b hC.1.1 hC.1.2.1 hd rfl (k r M' ho H locs sl hP hS hl)
theorem g_i2s (hC : tv_Cx κ own cc nL d) (hd : decode cc pc = .ok (.i2s, 1)) (k : tv_G κ nL Q (pc + 1) ls (.int (x.toInt16.toInt32) :: st) M o) : tv_G κ nL Q pc ls (.int x :: st) M o := fun r M' ho H locs sl hP hS hl => lv_i2s hC.1.1 hC.1.2.1 hd rfl (k r M' ho H locs sl hP hS hl)
theorem g_i2c (hC : tv_Cx κ own cc nL d) (hd : decode cc pc = .ok (.i2c, 1)) (k : tv_G κ nL Q (pc + 1) ls (.int ((x.toUInt32 % 65536).toInt32) :: st) M o) : tv_G κ nL Q pc ls (.int x :: st) M o := fun r M' ho H locs sl hP hS hl => lv_i2c hC.1.1 hC.1.2.1 hd rfl (k r M' ho H locs sl hP hS hl)
theorem g_dup (hC : tv_Cx κ own cc nL d) {w : Value} (hd : decode cc pc = .ok (.dup, 1)) (hw : w.category = 1) (k : tv_G κ nL Q (pc + 1) ls (w :: w :: st) M o) : tv_G κ nL Q pc ls (w :: st) M o := fun r M' ho H locs sl hP hS hl => lv_dup hC.1.1 hC.1.2.1 hd hw (k r M' ho H locs sl hP hS hl)
theorem g_dup2 (hC : tv_Cx κ own cc nL d) {w w2 : Value} (hd : decode cc pc = .ok (.dup2, 1)) (hw : w.category = 1) (hw2 : w2.category = 1) (k : tv_G κ nL Q (pc + 1) ls (w :: w2 :: w :: w2 :: st) M o) : tv_G κ nL Q pc ls (w :: w2 :: st) M o := fun r M' ho H locs sl hP hS hl => lv_dup2_11 hC.1.1 hC.1.2.1 hd hw hw2 (k r M' ho H locs sl hP hS hl)
theorem g_dup_x1 (hC : tv_Cx κ own cc nL d) {w w2 : Value} (hd : decode cc pc = .ok (.dup_x1, 1)) (hw : w.category = 1) (hw2 : w2.category = 1) (k : tv_G κ nL Q (pc + 1) ls (w :: w2 :: w :: st) M o) : tv_G κ nL Q pc ls (w :: w2 :: st) M o := fun r M' ho H locs sl hP hS hl => lv_dup_x1 hC.1.1 hC.1.2.1 hd hw hw2 (k r M' ho H locs sl hP hS hl)
theorem g_pop (hC : tv_Cx κ own cc nL d) {w : Value} (hd : decode cc pc = .ok (.pop, 1)) (hw : w.category = 1) (k : tv_G κ nL Q (pc + 1) ls st M o) : tv_G κ nL Q pc ls (w :: st) M o := fun r M' ho H locs sl hP hS hl => lv_pop hC.1.1 hC.1.2.1 hd hw (k r M' ho H locs sl hP hS hl)
theorem g_goto (hC : tv_Cx κ own cc nL d) {off : Int} {tgt : Nat} (hd : decode cc pc = .ok (.goto off, 3)) (ht : (pc : Int) + off = (tgt : Int)) (k : tv_G κ nL Q tgt ls st M o) : tv_G κ nL Q pc ls st M o := fun r M' ho H locs sl hP hS hl => lv_goto hC.1.1 hC.1.2.1 hd ht (k r M' ho H locs sl hP hS hl)
theorem g_icmp_eq (hC : tv_Cx κ own cc nL d) {off : Int} {tgt : Nat} (hd : decode cc pc = .ok (.if_icmp .eq off, 3)) (ht : (pc : Int) + off = (tgt : Int)) (k1 : x = y → tv_G κ nL Q tgt ls st M o1) (k2 : ¬ x = y → tv_G κ nL Q (pc + 3) ls st M o2) : tv_G κ nL Q pc ls (.int y :: .int x :: st) M (if x = y then o1 else o2) := by
  intro r M' ho H locs sl hP hS hl
  refine lv_icmp_eq hC.1.1 hC.1.2.1 hd ht (fun hc => k1 hc r M' ?_ H locs sl hP hS hl) (fun hc => k2 hc r M' ?_ H locs sl hP hS hl)
  · rw [if_pos hc] at ho; exact ho
  · rw [if_neg hc] at ho; exact ho
theorem g_icmp_ne (hC : tv_Cx κ own cc nL d) {off : Int} {tgt : Nat} (hd : decode cc pc = .ok (.if_icmp .ne off, 3)) (ht : (pc : Int) + off = (tgt : Int)) (k1 : ¬ x = y → tv_G κ nL Q tgt ls st M o1) (k2 : x = y → tv_G κ nL Q (pc + 3) ls st M o2) : tv_G κ nL Q pc ls (.int y :: .int x :: st) M (if x = y then o2 else o1) := by
  intro r M' ho H locs sl hP hS hl
  refine lv_icmp_ne hC.1.1 hC.1.2.1 hd ht (fun hc => k1 hc r M' ?_ H locs sl hP hS hl) (fun hc => k2 hc r M' ?_ H locs sl hP hS hl)
  · rw [if_neg hc] at ho; exact ho
  · rw [if_pos hc] at ho; exact ho
theorem g_icmp_lt (hC : tv_Cx κ own cc nL d) {off : Int} {tgt : Nat} (hd : decode cc pc = .ok (.if_icmp .lt off, 3)) (ht : (pc : Int) + off = (tgt : Int)) (k1 : x < y → tv_G κ nL Q tgt ls st M o1) (k2 : ¬ x < y → tv_G κ nL Q (pc + 3) ls st M o2) : tv_G κ nL Q pc ls (.int y :: .int x :: st) M (if x < y then o1 else o2) := by
  intro r M' ho H locs sl hP hS hl
  refine lv_icmp_lt hC.1.1 hC.1.2.1 hd ht (fun hc => k1 hc r M' ?_ H locs sl hP hS hl) (fun hc => k2 hc r M' ?_ H locs sl hP hS hl)
  · rw [if_pos hc] at ho; exact ho
  · rw [if_neg hc] at ho; exact ho
theorem g_icmp_ge (hC : tv_Cx κ own cc nL d) {off : Int} {tgt : Nat} (hd : decode cc pc = .ok (.if_icmp .ge off, 3)) (ht : (pc : Int) + off = (tgt : Int)) (k1 : y ≤ x → tv_G κ nL Q tgt ls st M o1) (k2 : ¬ y ≤ x → tv_G κ nL Q (pc + 3) ls st M o2) : tv_G κ nL Q pc ls (.int y :: .int x :: st) M (if y ≤ x then o1 else o2) := by
  intro r M' ho H locs sl hP hS hl
  refine lv_icmp_ge hC.1.1 hC.1.2.1 hd ht (fun hc => k1 hc r M' ?_ H locs sl hP hS hl) (fun hc => k2 hc r M' ?_ H locs sl hP hS hl)
  · rw [if_pos hc] at ho; exact ho
  · rw [if_neg hc] at ho; exact ho
theorem g_icmp_gt (hC : tv_Cx κ own cc nL d) {off : Int} {tgt : Nat} (hd : decode cc pc = .ok (.if_icmp .gt off, 3)) (ht : (pc : Int) + off = (tgt : Int)) (k1 : y < x → tv_G κ nL Q tgt ls st M o1) (k2 : ¬ y < x → tv_G κ nL Q (pc + 3) ls st M o2) : tv_G κ nL Q pc ls (.int y :: .int x :: st) M (if y < x then o1 else o2) := by
  intro r M' ho H locs sl hP hS hl
  refine lv_icmp_gt hC.1.1 hC.1.2.1 hd ht (fun hc => k1 hc r M' ?_ H locs sl hP hS hl) (fun hc => k2 hc r M' ?_ H locs sl hP hS hl)
  · rw [if_pos hc] at ho; exact ho
  · rw [if_neg hc] at ho; exact ho
theorem g_icmp_le (hC : tv_Cx κ own cc nL d) {off : Int} {tgt : Nat} (hd : decode cc pc = .ok (.if_icmp .le off, 3)) (ht : (pc : Int) + off = (tgt : Int)) (k1 : x ≤ y → tv_G κ nL Q tgt ls st M o1) (k2 : ¬ x ≤ y → tv_G κ nL Q (pc + 3) ls st M o2) : tv_G κ nL Q pc ls (.int y :: .int x :: st) M (if x ≤ y then o1 else o2) := by
  intro r M' ho H locs sl hP hS hl
  refine lv_icmp_le hC.1.1 hC.1.2.1 hd ht (fun hc => k1 hc r M' ?_ H locs sl hP hS hl) (fun hc => k2 hc r M' ?_ H locs sl hP hS hl)
  · rw [if_pos hc] at ho; exact ho
  · rw [if_neg hc] at ho; exact ho
theorem g_if_eq (hC : tv_Cx κ own cc nL d) {off : Int} {tgt : Nat} (hd : decode cc pc = .ok (.ifCond .eq off, 3)) (ht : (pc : Int) + off = (tgt : Int)) (k1 : x = 0 → tv_G κ nL Q tgt ls st M o1) (k2 : ¬ x = 0 → tv_G κ nL Q (pc + 3) ls st M o2) : tv_G κ nL Q pc ls (.int x :: st) M (if x = 0 then o1 else o2) := by
  intro r M' ho H locs sl hP hS hl
  refine lv_if_eq hC.1.1 hC.1.2.1 hd ht (fun hc => k1 hc r M' ?_ H locs sl hP hS hl) (fun hc => k2 hc r M' ?_ H locs sl hP hS hl)
  · rw [if_pos hc] at ho; exact ho
  · rw [if_neg hc] at ho; exact ho
theorem g_if_ne (hC : tv_Cx κ own cc nL d) {off : Int} {tgt : Nat} (hd : decode cc pc = .ok (.ifCond .ne off, 3)) (ht : (pc : Int) + off = (tgt : Int)) (k1 : ¬ x = 0 → tv_G κ nL Q tgt ls st M o1) (k2 : x = 0 → tv_G κ nL Q (pc + 3) ls st M o2) : tv_G κ nL Q pc ls (.int x :: st) M (if x = 0 then o2 else o1) := by
  intro r M' ho H locs sl hP hS hl
  refine lv_if_ne hC.1.1 hC.1.2.1 hd ht (fun hc => k1 hc r M' ?_ H locs sl hP hS hl) (fun hc => k2 hc r M' ?_ H locs sl hP hS hl)
  · rw [if_neg hc] at ho; exact ho
  · rw [if_pos hc] at ho; exact ho
theorem g_if_lt (hC : tv_Cx κ own cc nL d) {off : Int} {tgt : Nat} (hd : decode cc pc = .ok (.ifCond .lt off, 3)) (ht : (pc : Int) + off = (tgt : Int)) (k1 : x < 0 → tv_G κ nL Q tgt ls st M o1) (k2 : ¬ x < 0 → tv_G κ nL Q (pc + 3) ls st M o2) : tv_G κ nL Q pc ls (.int x :: st) M (if x < 0 then o1 else o2) := by
  intro r M' ho H locs sl hP hS hl
  refine lv_if_lt hC.1.1 hC.1.2.1 hd ht (fun hc => k1 hc r M' ?_ H locs sl hP hS hl) (fun hc => k2 hc r M' ?_ H locs sl hP hS hl)
  · rw [if_pos hc] at ho; exact ho
  · rw [if_neg hc] at ho; exact ho
theorem g_if_ge (hC : tv_Cx κ own cc nL d) {off : Int} {tgt : Nat} (hd : decode cc pc = .ok (.ifCond .ge off, 3)) (ht : (pc : Int) + off = (tgt : Int)) (k1 : 0 ≤ x → tv_G κ nL Q tgt ls st M o1) (k2 : ¬ 0 ≤ x → tv_G κ nL Q (pc + 3) ls st M o2) : tv_G κ nL Q pc ls (.int x :: st) M (if 0 ≤ x then o1 else o2) := by
  intro r M' ho H locs sl hP hS hl
  refine lv_if_ge hC.1.1 hC.1.2.1 hd ht (fun hc => k1 hc r M' ?_ H locs sl hP hS hl) (fun hc => k2 hc r M' ?_ H locs sl hP hS hl)
  · rw [if_pos hc] at ho; exact ho
  · rw [if_neg hc] at ho; exact ho
theorem g_if_gt (hC : tv_Cx κ own cc nL d) {off : Int} {tgt : Nat} (hd : decode cc pc = .ok (.ifCond .gt off, 3)) (ht : (pc : Int) + off = (tgt : Int)) (k1 : 0 < x → tv_G κ nL Q tgt ls st M o1) (k2 : ¬ 0 < x → tv_G κ nL Q (pc + 3) ls st M o2) : tv_G κ nL Q pc ls (.int x :: st) M (if 0 < x then o1 else o2) := by
  intro r M' ho H locs sl hP hS hl
  refine lv_if_gt hC.1.1 hC.1.2.1 hd ht (fun hc => k1 hc r M' ?_ H locs sl hP hS hl) (fun hc => k2 hc r M' ?_ H locs sl hP hS hl)
  · rw [if_pos hc] at ho; exact ho
  · rw [if_neg hc] at ho; exact ho
theorem g_if_le (hC : tv_Cx κ own cc nL d) {off : Int} {tgt : Nat} (hd : decode cc pc = .ok (.ifCond .le off, 3)) (ht : (pc : Int) + off = (tgt : Int)) (k1 : x ≤ 0 → tv_G κ nL Q tgt ls st M o1) (k2 : ¬ x ≤ 0 → tv_G κ nL Q (pc + 3) ls st M o2) : tv_G κ nL Q pc ls (.int x :: st) M (if x ≤ 0 then o1 else o2) := by
  intro r M' ho H locs sl hP hS hl
  refine lv_if_le hC.1.1 hC.1.2.1 hd ht (fun hc => k1 hc r M' ?_ H locs sl hP hS hl) (fun hc => k2 hc r M' ?_ H locs sl hP hS hl)
  · rw [if_pos hc] at ho; exact ho
  · rw [if_neg hc] at ho; exact ho
theorem g_ifnullR (hC : tv_Cx κ own cc nL d) {off : Int} {a : Nat} (hd : decode cc pc = .ok (.ifnull off, 3)) (k : tv_G κ nL Q (pc + 3) ls st M o) : tv_G κ nL Q pc ls (.ref a :: st) M o := fun r M' ho H locs sl hP hS hl => lv_ifnull hC.1.1 hC.1.2.1 hd (k r M' ho H locs sl hP hS hl)
theorem g_ifnullN (hC : tv_Cx κ own cc nL d) {off : Int} {tgt : Nat} (hd : decode cc pc = .ok (.ifnull off, 3)) (ht : (pc : Int) + off = (tgt : Int)) (k : tv_G κ nL Q tgt ls st M o) : tv_G κ nL Q pc ls (.null :: st) M o := fun r M' ho H locs sl hP hS hl => lv_ifnullN hC.1.1 hC.1.2.1 hd ht (k r M' ho H locs sl hP hS hl)
theorem g_ifnonnullR (hC : tv_Cx κ own cc nL d) {off : Int} {a tgt : Nat} (hd : decode cc pc = .ok (.ifnonnull off, 3)) (ht : (pc : Int) + off = (tgt : Int)) (k : tv_G κ nL Q tgt ls st M o) : tv_G κ nL Q pc ls (.ref a :: st) M o := fun r M' ho H locs sl hP hS hl => lv_ifnonnull hC.1.1 hC.1.2.1 hd ht (k r M' ho H locs sl hP hS hl)
theorem g_ifnonnullN (hC : tv_Cx κ own cc nL d) {off : Int} (hd : decode cc pc = .ok (.ifnonnull off, 3)) (k : tv_G κ nL Q (pc + 3) ls st M o) : tv_G κ nL Q pc ls (.null :: st) M o := fun r M' ho H locs sl hP hS hl => lv_ifnonnullN hC.1.1 hC.1.2.1 hd (k r M' ho H locs sl hP hS hl)
theorem g_mask (m : List Bool) (hm : tv_mask m ls = ls') (k : tv_G κ nL Q pc ls' st M o) : tv_G κ nL Q pc ls st M o := fun r M' ho H locs sl hP hS hl => k r M' ho H locs sl hP hS (hm ▸ tv_lo_mask m hl)
theorem g_none : tv_G κ nL Q pc ls st M none := fun r M' ho => by cases ho
theorem g_gl {k ci : Nat} (h : (tv_lay[k]?).map Prod.fst = some ci → tv_G κ nL Q pc ls st M o) : tv_G κ nL Q pc ls st M (tv_gl k ci o) := by
  unfold tv_gl
  split
  · exact h (by assumption)
  · exact g_none
theorem g_gn {k t : Nat} {f : Nat → Option (β × tv_M)} (h : ∀ n, tv_lay[k]? = some (t, n) → tv_G κ nL Q pc ls st M (f n)) : tv_G κ nL Q pc ls st M (tv_gn k t f) := by
  unfold tv_gn
  cases hq : tv_lay[k]? with
  | none => exact g_none
  | some q =>
    by_cases ht : q.1 = t
    · simp only [ht, if_true]
      exact h q.2 (by rw [hq, ← ht])
    · simp only [ht, if_false]
      exact g_none
theorem g_nn {r : Option Nat} {f : Nat → Option (β × tv_M)} (h : ∀ k, r = some k → tv_G κ nL Q pc ls st M (f k)) : tv_G κ nL Q pc ls st M (tv_nn r f) := by
  cases r with
  | none => exact g_none
  | some k => exact h k rfl
theorem g_zo (h : x = 0 ∨ x = 1 → tv_G κ nL Q pc ls st M o) : tv_G κ nL Q pc ls st M (tv_zo x o) := by
  unfold tv_zo
  split
  · exact h (by assumption)
  · exact g_none
end TVR
end
section
theorem tv_lay_n : tv_lay.length = tv_n := by decide +kernel
theorem tv_lay_lt {k : Nat} {q : Nat × Nat} (h : tv_lay[k]? = some q) : k < tv_n := by
  rw [← tv_lay_n]
  exact (List.getElem?_eq_some_iff.mp h).1
theorem tv_lay_of {k ci : Nat} (h : (tv_lay[k]?).map Prod.fst = some ci) : ∃ n, tv_lay[k]? = some (ci, n) := by
  cases hq : tv_lay[k]? with
  | none => rw [hq] at h; cases h
  | some q =>
    rw [hq] at h
    cases h
    exact ⟨q.2, rfl⟩
theorem tv_mem_tb {w : Cond} (h : w ∈ tables_1) (hg : goodWord w = true) : w ∈ tv_tb := List.mem_filter.mpr ⟨List.mem_append_right _ h, hg⟩
theorem tv_at {w : Cond} (i : Nat) (h : tables_1[i]? = some w) (hg : goodWord w = true) : w ∈ tv_tb := tv_mem_tb (List.mem_of_getElem? h) hg
def tv_tyf (ci : Nat) : Nat → FieldType := match ci with
  | 0 => tv_ty0
  | 1 => tv_ty1
  | 2 => tv_ty2
  | 3 => tv_ty3
  | 4 => tv_ty4
  | 5 => tv_ty5
  | 6 => tv_ty6
  | 7 => tv_ty7
  | 8 => tv_ty8
  | 9 => tv_ty9
  | 10 => tv_ty10
  | 11 => tv_ty11
  | _ => tv_ty12
def tv_okc (ci : Nat) (r : vw_C) : Prop := ci < 13 ∧ tv_nf.getD ci 0 = r.2.2 ∧ (∀ w ∈ u_ws r.1 r.2.1 r.2.2, w ∈ tv_tb) ∧ (∀ a, a < r.2.2 → ∀ b, b < r.2.2 → a ≠ b → (r.2.1 a).2.1 ≠ (r.2.1 b).2.1) ∧ ∀ k, k < r.2.2 → parseFieldDescriptor (r.2.1 k).2.2.1 = some (tv_tyf ci k)
theorem tv_good_lay {C : String} {T : u_T} {N : Nat} (h : ∀ w ∈ u_ws C T N, w ∈ tables_1) : ∀ w ∈ u_ws C T N, w ∈ tv_tb := by
  intro w hw
  refine tv_mem_tb (h w hw) ?_
  obtain ⟨k, -, rfl⟩ := List.mem_map.mp hw
  unfold u_lay
  split <;> rfl
theorem tv_okc_all {ci : Nat} {r : vw_C} (h : tv_cl[ci]? = some r) : tv_okc ci r := by
  match ci, h with
  | 0, h => cases h; exact ⟨by decide, by decide, tv_good_lay tv_in0, tv_nm0, tv_tk0⟩
  | 1, h => cases h; exact ⟨by decide, by decide, tv_good_lay tv_in1, tv_nm1, tv_tk1⟩
  | 2, h => cases h; exact ⟨by decide, by decide, tv_good_lay tv_in2, tv_nm2, tv_tk2⟩
  | 3, h => cases h; exact ⟨by decide, by decide, tv_good_lay tv_in3, tv_nm3, tv_tk3⟩
  | 4, h => cases h; exact ⟨by decide, by decide, tv_good_lay tv_in4, tv_nm4, tv_tk4⟩
  | 5, h => cases h; exact ⟨by decide, by decide, tv_good_lay tv_in5, tv_nm5, tv_tk5⟩
  | 6, h => cases h; exact ⟨by decide, by decide, tv_good_lay tv_in6, tv_nm6, tv_tk6⟩
  | 7, h => cases h; exact ⟨by decide, by decide, tv_good_lay tv_in7, tv_nm7, tv_tk7⟩
  | 8, h => cases h; exact ⟨by decide, by decide, tv_good_lay tv_in8, tv_nm8, tv_tk8⟩
  | 9, h => cases h; exact ⟨by decide, by decide, tv_good_lay tv_in9, tv_nm9, tv_tk9⟩
  | 10, h => cases h; exact ⟨by decide, by decide, tv_good_lay tv_in10, tv_nm10, tv_tk10⟩
  | 11, h => cases h; exact ⟨by decide, by decide, tv_good_lay tv_in11, tv_nm11, tv_tk11⟩
  | 12, h => cases h; exact ⟨by decide, by decide, tv_good_lay tv_in12, tv_nm12, tv_tk12⟩
  | _ + 13, h => simp [tv_cl] at h
theorem tv_nar0 : narrow .boolean (.int 0) = .int 0 := by decide
theorem tv_nar1 : narrow .boolean (.int 1) = .int 1 := by decide
theorem tv_narZ {x : Int32} (h : x = 0 ∨ x = 1) : narrow .boolean (.int x) = .int x := by
  rcases h with h | h <;> subst h
  · exact tv_nar0
  · exact tv_nar1
section TVF
variable {β : Type} {κ : tv_Kt} {own : String} {cc : ByteArray} {nL d pc : Nat} {Q : β → tv_M → State → Prop} {ls ls' : List (Option Value)} {st : List Value} {M : tv_M} {o o1 o2 : Option (β × tv_M)} {x y : Int32} {u v : Int64}
theorem g_getI (hC : tv_Cx κ own cc nL d) {idx k : Nat} (ci j : Nat) {r : vw_C} (hk : (tv_lay[k]?).map Prod.fst = some ci) (hr : tv_cl[ci]? = some r) (hj : Nat.blt j r.2.2 = true) (hf : (tv_rf.getD ci []).getD j false = false) (hw : Cond.fieldLink own idx (r.2.1 j).1 (r.2.1 j).2.1 (r.2.1 j).2.2.1 ∈ tv_tb) (hd : decode cc pc = .ok (.getfield idx, 3)) (kk : tv_G κ nL Q (pc + 3) ls (.int (M.1 k j) :: st) M o) : tv_G κ nL Q pc ls (.ref (κ.b + k) :: st) M o := by
  obtain ⟨n, hn⟩ := tv_lay_of hk
  obtain ⟨h1, h2, h3, h4, h5⟩ := tv_okc_all hr
  have hj' : j < r.2.2 := by simpa using hj
  intro r0 M' ho H locs sl hP hS hl
  have he := tv_get (b := κ.b) (cA := κ.th.2.2.1) (I := M.1) (J := M.2) (P := tv_P0) (tv_lay_lt hn) hn
  rw [tv_E_ob h1, h2] at he
  exact va_get hC.1.1 hC.1.2.1 hC.1.2.2.2.2 h3 hC.1.2.2.2.1 hC.2.1 hP k he hr j hj' (hC.1.2.2.2.2 _ hw) (fun _ h => h) (tv_ob_i hj' hf) hd (kk r0 M' ho H locs sl hP hS hl)
theorem g_getP (hC : tv_Cx κ own cc nL d) {idx k : Nat} (ci j : Nat) {r : vw_C} {p : Option Nat} (hk : (tv_lay[k]?).map Prod.fst = some ci) (hr : tv_cl[ci]? = some r) (hj : Nat.blt j r.2.2 = true) (hf : (tv_rf.getD ci []).getD j false = true) (hw : Cond.fieldLink own idx (r.2.1 j).1 (r.2.1 j).2.1 (r.2.1 j).2.2.1 ∈ tv_tb) (hd : decode cc pc = .ok (.getfield idx, 3)) (hp : tv_P0 k j = p) (kk : tv_G κ nL Q (pc + 3) ls (tv_re κ.b p :: st) M o) : tv_G κ nL Q pc ls (.ref (κ.b + k) :: st) M o := by
  obtain ⟨n, hn⟩ := tv_lay_of hk
  obtain ⟨h1, h2, h3, h4, h5⟩ := tv_okc_all hr
  have hj' : j < r.2.2 := by simpa using hj
  subst hp
  intro r0 M' ho H locs sl hP hS hl
  have he := tv_get (b := κ.b) (cA := κ.th.2.2.1) (I := M.1) (J := M.2) (P := tv_P0) (tv_lay_lt hn) hn
  rw [tv_E_ob h1, h2] at he
  exact va_get hC.1.1 hC.1.2.1 hC.1.2.2.2.2 h3 hC.1.2.2.2.1 hC.2.1 hP k he hr j hj' (hC.1.2.2.2.2 _ hw) (fun _ h => h) (tv_ob_r hj' hf) hd (kk r0 M' ho H locs sl hP hS hl)
theorem g_putT (hC : tv_Cx κ own cc nL d) {idx k : Nat} (ci j : Nat) {r : vw_C} {ty : FieldType} (hk : (tv_lay[k]?).map Prod.fst = some ci) (hr : tv_cl[ci]? = some r) (hj : Nat.blt j r.2.2 = true) (hf : (tv_rf.getD ci []).getD j false = false) (hw : Cond.fieldLink own idx (r.2.1 j).1 (r.2.1 j).2.1 (r.2.1 j).2.2.1 ∈ tv_tb) (hfin : (r.2.1 j).2.2.2 = false) (hty : tv_tyf ci j = ty) (hnr : narrow ty (.int x) = .int x) (hft : fits ty (.int x) = true) (hd : decode cc pc = .ok (.putfield idx, 3)) (kk : tv_G κ nL Q (pc + 3) ls st (tv_w M k j x) o) : tv_G κ nL Q pc ls (.int x :: .ref (κ.b + k) :: st) M o := by
  obtain ⟨n, hn⟩ := tv_lay_of hk
  obtain ⟨h1, h2, h3, h4, h5⟩ := tv_okc_all hr
  have hj' : j < r.2.2 := by simpa using hj
  intro r0 M' ho H locs sl hP hS hl
  have he := tv_get (b := κ.b) (cA := κ.th.2.2.1) (I := M.1) (J := M.2) (P := tv_P0) (tv_lay_lt hn) hn
  rw [tv_E_ob h1, h2] at he
  refine va_put hC.1.1 hC.1.2.1 hC.1.2.2.2.2 h3 (tv_tyf ci) h5 h4 hC.1.2.2.2.1 hC.2.1 hP tv_D hS k he hr j hj' (hC.1.2.2.2.2 _ hw) (fun _ h => h) hfin (by rw [h5 j hj', hty]) hnr hft (by simp [tv_ob]; exact hj') hd (fun H1 locs1 hP1 hD1 hS1 => ?_)
  refine kk r0 M' ho H1 locs1 sl ?_ hS1 hl
  have e := tv_set (b := κ.b) (cA := κ.th.2.2.1) (n := tv_n) (I := M.1) (J := M.2) (P := tv_P0) (I' := (tv_w M k j x).1) (J' := (tv_w M k j x).2) (P' := tv_P0) (E := .inr (ci, (tv_ob κ.b ci r.2.2 M.1 tv_P0 k).set j (.int x))) hn (by rw [tv_E_ob h1, h2, tv_ob_set (I := M.1) (x := x) hj' hf (fun i hi => by simp [tv_w, hi]) (by simp [tv_w])]) tv_w_ne
  rw [e] at hP1
  exact hP1
theorem g_putI (hC : tv_Cx κ own cc nL d) {idx k : Nat} (ci j : Nat) {r : vw_C} (hk : (tv_lay[k]?).map Prod.fst = some ci) (hr : tv_cl[ci]? = some r) (hj : Nat.blt j r.2.2 = true) (hf : (tv_rf.getD ci []).getD j false = false) (hw : Cond.fieldLink own idx (r.2.1 j).1 (r.2.1 j).2.1 (r.2.1 j).2.2.1 ∈ tv_tb) (hfin : (r.2.1 j).2.2.2 = false) (hty : tv_tyf ci j = .int) (hd : decode cc pc = .ok (.putfield idx, 3)) (kk : tv_G κ nL Q (pc + 3) ls st (tv_w M k j x) o) : tv_G κ nL Q pc ls (.int x :: .ref (κ.b + k) :: st) M o := g_putT hC ci j hk hr hj hf hw hfin hty rfl rfl hd kk
theorem g_putZ (hC : tv_Cx κ own cc nL d) {idx k : Nat} (ci j : Nat) {r : vw_C} (hk : (tv_lay[k]?).map Prod.fst = some ci) (hr : tv_cl[ci]? = some r) (hj : Nat.blt j r.2.2 = true) (hf : (tv_rf.getD ci []).getD j false = false) (hw : Cond.fieldLink own idx (r.2.1 j).1 (r.2.1 j).2.1 (r.2.1 j).2.2.1 ∈ tv_tb) (hfin : (r.2.1 j).2.2.2 = false) (hty : tv_tyf ci j = .boolean) (hx : x = 0 ∨ x = 1) (hd : decode cc pc = .ok (.putfield idx, 3)) (kk : tv_G κ nL Q (pc + 3) ls st (tv_w M k j x) o) : tv_G κ nL Q pc ls (.int x :: .ref (κ.b + k) :: st) M o := g_putT hC ci j hk hr hj hf hw hfin hty (tv_narZ hx) (by rcases hx with h | h <;> subst h <;> decide) hd kk
theorem g_iald (hC : tv_Cx κ own cc nL d) {k n : Nat} {i : Int32} {f : Int32 → Option (β × tv_M)} (hk : tv_lay[k]? = some (20, n)) (hd : decode cc pc = .ok (.iaload, 1)) (kk : tv_inb i n = true → tv_G κ nL Q (pc + 1) ls (.int (M.1 k i.toNatClampNeg) :: st) M (f (M.1 k i.toNatClampNeg))) : tv_G κ nL Q pc ls (.int i :: .ref (κ.b + k) :: st) M (tv_rd M k n i f) := by
  intro r0 M' ho H locs sl hP hS hl
  unfold tv_rd at ho
  by_cases hi : tv_inb i n = true
  · rw [if_pos hi] at ho
    have he := tv_get (b := κ.b) (cA := κ.th.2.2.1) (I := M.1) (J := M.2) (P := tv_P0) (tv_lay_lt hk) hk
    rw [tv_E_i] at he
    exact va_iald hC.1.1 hC.1.2.1 hC.2.1 hP k 0 he rfl (tv_inbP hi) hd (kk hi r0 M' ho H locs sl hP hS hl)
  · rw [if_neg hi] at ho
    cases ho
theorem g_bald (hC : tv_Cx κ own cc nL d) {k n : Nat} {i : Int32} {f : Int32 → Option (β × tv_M)} (hk : tv_lay[k]? = some (21, n)) (hd : decode cc pc = .ok (.baload, 1)) (kk : tv_inb i n = true → tv_G κ nL Q (pc + 1) ls (.int (M.1 k i.toNatClampNeg) :: st) M (f (M.1 k i.toNatClampNeg))) : tv_G κ nL Q pc ls (.int i :: .ref (κ.b + k) :: st) M (tv_rd M k n i f) := by
  intro r0 M' ho H locs sl hP hS hl
  unfold tv_rd at ho
  by_cases hi : tv_inb i n = true
  · rw [if_pos hi] at ho
    have he := tv_get (b := κ.b) (cA := κ.th.2.2.1) (I := M.1) (J := M.2) (P := tv_P0) (tv_lay_lt hk) hk
    rw [tv_E_b] at he
    exact va_bald hC.1.1 hC.1.2.1 hC.2.1 hP k 1 he rfl (tv_inbP hi) hd (kk hi r0 M' ho H locs sl hP hS hl)
  · rw [if_neg hi] at ho
    cases ho
theorem g_zald (hC : tv_Cx κ own cc nL d) {k n : Nat} {i : Int32} {f : Int32 → Option (β × tv_M)} (hk : tv_lay[k]? = some (22, n)) (hd : decode cc pc = .ok (.baload, 1)) (kk : tv_inb i n = true → tv_G κ nL Q (pc + 1) ls (.int (M.1 k i.toNatClampNeg) :: st) M (f (M.1 k i.toNatClampNeg))) : tv_G κ nL Q pc ls (.int i :: .ref (κ.b + k) :: st) M (tv_rd M k n i f) := by
  intro r0 M' ho H locs sl hP hS hl
  unfold tv_rd at ho
  by_cases hi : tv_inb i n = true
  · rw [if_pos hi] at ho
    have he := tv_get (b := κ.b) (cA := κ.th.2.2.1) (I := M.1) (J := M.2) (P := tv_P0) (tv_lay_lt hk) hk
    rw [tv_E_z] at he
    exact va_zald hC.1.1 hC.1.2.1 hC.2.1 hP k 2 he rfl (tv_inbP hi) hd (kk hi r0 M' ho H locs sl hP hS hl)
  · rw [if_neg hi] at ho
    cases ho
theorem g_lald (hC : tv_Cx κ own cc nL d) {k n : Nat} {i : Int32} {f : Int64 → Option (β × tv_M)} (hk : tv_lay[k]? = some (23, n)) (hd : decode cc pc = .ok (.laload, 1)) (kk : tv_inb i n = true → tv_G κ nL Q (pc + 1) ls (.long (M.2 k i.toNatClampNeg) :: st) M (f (M.2 k i.toNatClampNeg))) : tv_G κ nL Q pc ls (.int i :: .ref (κ.b + k) :: st) M (tv_rdl M k n i f) := by
  intro r0 M' ho H locs sl hP hS hl
  unfold tv_rdl at ho
  by_cases hi : tv_inb i n = true
  · rw [if_pos hi] at ho
    have he := tv_get (b := κ.b) (cA := κ.th.2.2.1) (I := M.1) (J := M.2) (P := tv_P0) (tv_lay_lt hk) hk
    rw [tv_E_l] at he
    exact va_lald hC.1.1 hC.1.2.1 hC.2.1 hP k 3 he rfl (tv_inbP hi) hd (kk hi r0 M' ho H locs sl hP hS hl)
  · rw [if_neg hi] at ho
    cases ho
theorem g_iast (hC : tv_Cx κ own cc nL d) {k n : Nat} {i : Int32} {f : tv_M → Option (β × tv_M)} (hk : tv_lay[k]? = some (20, n)) (hd : decode cc pc = .ok (.iastore, 1)) (kk : tv_inb i n = true → tv_G κ nL Q (pc + 1) ls st (tv_w M k i.toNatClampNeg x) (f (tv_w M k i.toNatClampNeg x))) : tv_G κ nL Q pc ls (.int x :: .int i :: .ref (κ.b + k) :: st) M (tv_wr M k n i x f) := by
  intro r0 M' ho H locs sl hP hS hl
  unfold tv_wr at ho
  by_cases hi : tv_inb i n = true
  · rw [if_pos hi] at ho
    have he := tv_get (b := κ.b) (cA := κ.th.2.2.1) (I := M.1) (J := M.2) (P := tv_P0) (tv_lay_lt hk) hk
    rw [tv_E_i] at he
    refine va_iast hC.1.1 hC.1.2.1 hC.2.1 hP tv_D hS k 0 he rfl (tv_inbP hi) hd (fun H1 locs1 hP1 hD1 hS1 => ?_)
    refine kk hi r0 M' ho H1 locs1 sl ?_ hS1 hl
    rw [tv_set (I' := (tv_w M k i.toNatClampNeg x).1) (J' := (tv_w M k i.toNatClampNeg x).2) (P' := tv_P0) hk (by rw [tv_E_i, tv_w_row]) tv_w_ne] at hP1
    exact hP1
  · rw [if_neg hi] at ho
    cases ho
theorem g_bast (hC : tv_Cx κ own cc nL d) {k n : Nat} {i : Int32} {f : tv_M → Option (β × tv_M)} (hk : tv_lay[k]? = some (21, n)) (hd : decode cc pc = .ok (.bastore, 1)) (kk : tv_inb i n = true → tv_G κ nL Q (pc + 1) ls st (tv_w M k i.toNatClampNeg (vp_nar .byte x)) (f (tv_w M k i.toNatClampNeg (vp_nar .byte x)))) : tv_G κ nL Q pc ls (.int x :: .int i :: .ref (κ.b + k) :: st) M (tv_wr M k n i (vp_nar .byte x) f) := by
  intro r0 M' ho H locs sl hP hS hl
  unfold tv_wr at ho
  by_cases hi : tv_inb i n = true
  · rw [if_pos hi] at ho
    have he := tv_get (b := κ.b) (cA := κ.th.2.2.1) (I := M.1) (J := M.2) (P := tv_P0) (tv_lay_lt hk) hk
    rw [tv_E_b] at he
    refine va_bast hC.1.1 hC.1.2.1 hC.2.1 hP tv_D hS k 1 he rfl (tv_inbP hi) hd (fun H1 locs1 hP1 hD1 hS1 => ?_)
    refine kk hi r0 M' ho H1 locs1 sl ?_ hS1 hl
    rw [tv_set (I' := (tv_w M k i.toNatClampNeg (vp_nar .byte x)).1) (J' := (tv_w M k i.toNatClampNeg (vp_nar .byte x)).2) (P' := tv_P0) hk (by rw [tv_E_b, tv_w_row]) tv_w_ne] at hP1
    exact hP1
  · rw [if_neg hi] at ho
    cases ho
theorem g_zast (hC : tv_Cx κ own cc nL d) {k n : Nat} {i : Int32} {f : tv_M → Option (β × tv_M)} (hk : tv_lay[k]? = some (22, n)) (hd : decode cc pc = .ok (.bastore, 1)) (kk : tv_inb i n = true → tv_G κ nL Q (pc + 1) ls st (tv_w M k i.toNatClampNeg (vp_nar .boolean x)) (f (tv_w M k i.toNatClampNeg (vp_nar .boolean x)))) : tv_G κ nL Q pc ls (.int x :: .int i :: .ref (κ.b + k) :: st) M (tv_wr M k n i (vp_nar .boolean x) f) := by
  intro r0 M' ho H locs sl hP hS hl
  unfold tv_wr at ho
  by_cases hi : tv_inb i n = true
  · rw [if_pos hi] at ho
    have he := tv_get (b := κ.b) (cA := κ.th.2.2.1) (I := M.1) (J := M.2) (P := tv_P0) (tv_lay_lt hk) hk
    rw [tv_E_z] at he
    refine va_zast hC.1.1 hC.1.2.1 hC.2.1 hP tv_D hS k 2 he rfl (tv_inbP hi) hd (fun H1 locs1 hP1 hD1 hS1 => ?_)
    refine kk hi r0 M' ho H1 locs1 sl ?_ hS1 hl
    rw [tv_set (I' := (tv_w M k i.toNatClampNeg (vp_nar .boolean x)).1) (J' := (tv_w M k i.toNatClampNeg (vp_nar .boolean x)).2) (P' := tv_P0) hk (by rw [tv_E_z, tv_w_row]) tv_w_ne] at hP1
    exact hP1
  · rw [if_neg hi] at ho
    cases ho
theorem g_last (hC : tv_Cx κ own cc nL d) {k n : Nat} {i : Int32} {f : tv_M → Option (β × tv_M)} (hk : tv_lay[k]? = some (23, n)) (hd : decode cc pc = .ok (.lastore, 1)) (kk : tv_inb i n = true → tv_G κ nL Q (pc + 1) ls st (tv_wl M k i.toNatClampNeg u) (f (tv_wl M k i.toNatClampNeg u))) : tv_G κ nL Q pc ls (.long u :: .int i :: .ref (κ.b + k) :: st) M (tv_wrl M k n i u f) := by
  intro r0 M' ho H locs sl hP hS hl
  unfold tv_wrl at ho
  by_cases hi : tv_inb i n = true
  · rw [if_pos hi] at ho
    have he := tv_get (b := κ.b) (cA := κ.th.2.2.1) (I := M.1) (J := M.2) (P := tv_P0) (tv_lay_lt hk) hk
    rw [tv_E_l] at he
    refine va_last hC.1.1 hC.1.2.1 hC.2.1 hP tv_D hS k 3 he rfl (tv_inbP hi) hd (fun H1 locs1 hP1 hD1 hS1 => ?_)
    refine kk hi r0 M' ho H1 locs1 sl ?_ hS1 hl
    rw [tv_set (I' := (tv_wl M k i.toNatClampNeg u).1) (J' := (tv_wl M k i.toNatClampNeg u).2) (P' := tv_P0) hk (by rw [tv_E_l, tv_wl_row]) tv_wl_ne] at hP1
    exact hP1
  · rw [if_neg hi] at ho
    cases ho
theorem tv_tys_q {cA : Nat → ClassId} {t : Nat} (ht : t < 4) : ∃ ty : FieldType, (tv_tys cA)[4 + t]? = some (cA (4 + t), ty) ∧ ty.isReference = true := by
  match t, ht with
  | 0, _ => exact ⟨_, rfl, rfl⟩
  | 1, _ => exact ⟨_, rfl, rfl⟩
  | 2, _ => exact ⟨_, rfl, rfl⟩
  | 3, _ => exact ⟨_, rfl, rfl⟩
theorem g_aald (hC : tv_Cx κ own cc nL d) {k n : Nat} (t : Nat) {i : Int32} {f : Nat → Option (β × tv_M)} (hk : tv_lay[k]? = some (24 + t, n)) (ht : Nat.blt t 4 = true) (hd : decode cc pc = .ok (.aaload, 1)) (kk : ∀ a : Nat, tv_inb i n = true → tv_P0 k i.toNatClampNeg = some a → tv_G κ nL Q (pc + 1) ls (.ref (κ.b + a) :: st) M (f a)) : tv_G κ nL Q pc ls (.int i :: .ref (κ.b + k) :: st) M (tv_ap k n i f) := by
  intro r0 M' ho H locs sl hP hS hl
  unfold tv_ap at ho
  by_cases hi : tv_inb i n = true
  · rw [if_pos hi] at ho
    cases hq : tv_P0 k i.toNatClampNeg with
    | none => rw [hq] at ho; cases ho
    | some a =>
      rw [hq] at ho
      have he := tv_get (b := κ.b) (cA := κ.th.2.2.1) (I := M.1) (J := M.2) (P := tv_P0) (tv_lay_lt hk) hk
      rw [tv_E_q] at he
      obtain ⟨ty, ht1, ht2⟩ := tv_tys_q (cA := κ.th.2.2.1) (t := t) (by simpa using ht)
      have hin := tv_inbP hi
      have hlt : i.toNatClampNeg < n := Nat.not_le.mp fun q => hin (Or.inr q)
      have w := kk a hi hq r0 M' ho H locs sl hP hS hl
      exact W.aald (v := .ref (κ.b + a)) (ty := ty) hC.1.1 hC.1.2.1 (hP k _ he) ((hC.2.1.2 (4 + t) _ ht1).1 n (fun j => va_rf ((tv_P0 k j).map (fun x => κ.b + x)))) ht2 (fun q => by cases q) (by show ¬ (i < 0 ∨ (arrV _ _ _).slots.size ≤ _); rw [arrV_size]; exact hin) (by show (arrV _ _ _).slots[_]? = _; rw [arrV_read _ _ hlt]; show some (va_rf (Option.map _ (tv_P0 k i.toNatClampNeg))) = _; rw [hq]; rfl) rfl rfl hd w
  · rw [if_neg hi] at ho
    cases ho
theorem g_alen (hC : tv_Cx κ own cc nL d) {k n : Nat} (t : Nat) (hk : tv_lay[k]? = some (t, n)) (ht : t = 20 ∨ t = 27) (hd : decode cc pc = .ok (.arraylength, 1)) (hx : Int32.ofNat n = x) (kk : tv_G κ nL Q (pc + 1) ls (.int x :: st) M o) : tv_G κ nL Q pc ls (.ref (κ.b + k) :: st) M o := by
  subst hx
  intro r0 M' ho H locs sl hP hS hl
  have he := tv_get (b := κ.b) (cA := κ.th.2.2.1) (I := M.1) (J := M.2) (P := tv_P0) (tv_lay_lt hk) hk
  rcases ht with rfl | rfl
  · rw [tv_E_i] at he
    exact va_alen hC.1.1 hC.1.2.1 hC.2.1 hP k 0 he rfl rfl hd (kk r0 M' ho H locs sl hP hS hl)
  · rw [show (27 : Nat) = 24 + 3 from rfl, tv_E_q] at he
    exact va_alen hC.1.1 hC.1.2.1 hC.2.1 hP k 7 he rfl rfl hd (kk r0 M' ho H locs sl hP hS hl)
/-- a static table of Bodies: its reference, a place of it, its length -/
theorem g_gets (hC : tv_Cx κ own cc nL d) {idx : Nat} (i : Nat) {q : String × List Int32} (hq : tv_stat[i]? = some q) (hw : Cond.fieldLink own idx "TiedViews$Bodies" q.1 "[I" ∈ tv_tb) (hd : decode cc pc = .ok (.getstatic idx, 3)) (kk : tv_G κ nL Q (pc + 3) ls (.ref (κ.th.2.2.2.2.2 i) :: st) M o) : tv_G κ nL Q pc ls st M o := fun r0 M' ho H locs sl hP hS hl => va_gets hC.1.1 hC.1.2.1 (hC.2.2.1.2.2.2.2.1 i q hq).1 hS hC.1.2.2.2.1 (hC.1.2.2.2.2 _ hw) (fun _ h => h) hd (kk r0 M' ho H locs sl hP hS hl)
def tv_rds {α : Type} (q : List Int32) (i : Int32) (f : Int32 → Option α) : Option α := if tv_inb i q.length then f (q.getD i.toNatClampNeg 0) else none
theorem g_sald (hC : tv_Cx κ own cc nL d) (a : Nat) {q : String × List Int32} {i : Int32} {f : Int32 → Option (β × tv_M)} (hq : tv_stat[a]? = some q) (hd : decode cc pc = .ok (.iaload, 1)) (kk : tv_inb i q.2.length = true → tv_G κ nL Q (pc + 1) ls (.int (q.2.getD i.toNatClampNeg 0) :: st) M (f (q.2.getD i.toNatClampNeg 0))) : tv_G κ nL Q pc ls (.int i :: .ref (κ.th.2.2.2.2.2 a) :: st) M (tv_rds q.2 i f) := by
  intro r0 M' ho H locs sl hP hS hl
  unfold tv_rds at ho
  by_cases hi : tv_inb i q.2.length = true
  · rw [if_pos hi] at ho
    exact va_ti hC.1.1 hC.1.2.1 (hC.2.2.1.2.2.2.2.1 a q hq).2 hS (tv_inbP hi) rfl hd (kk hi r0 M' ho H locs sl hP hS hl)
  · rw [if_neg hi] at ho
    cases ho
theorem g_slen (hC : tv_Cx κ own cc nL d) (a : Nat) {q : String × List Int32} (hq : tv_stat[a]? = some q) (hd : decode cc pc = .ok (.arraylength, 1)) (hx : Int32.ofNat q.2.length = x) (kk : tv_G κ nL Q (pc + 1) ls (.int x :: st) M o) : tv_G κ nL Q pc ls (.ref (κ.th.2.2.2.2.2 a) :: st) M o := fun r0 M' ho H locs sl hP hS hl => va_tlen hC.1.1 hC.1.2.1 (hC.2.2.1.2.2.2.2.1 a q hq).2 hS hx hd (kk r0 M' ho H locs sl hP hS hl)
end TVF
end
section
/-! RETURNS, CALLS, the way from a walk to a contract -/
def tv_Qc {β : Type} (θ : tv_Th) (emb : β → Option Value) (r : β) (M' : tv_M) : Array Value → State → Outcome → State → Prop := fun _ st oc t => oc = .returned (emb r) ∧ tv_V θ M' t.heap ∧ va_F (tv_A θ.1) st t
def tv_Qm {β : Type} (κ : tv_Kt) (emb : β → Option Value) (r : β) (M' : tv_M) : State → Prop := MQ κ.2.2.2.2.2.2.2.1 (tv_Qc κ.th emb r M') κ.2.2.2.2.2.2.1 κ.s κ.ce κ.sz (tv_A κ.b)
def tv_Re (κ : tv_Kt) (ret : Option FieldType) : Prop := κ.2.2.2.2.2.2.2.2.1.sig.returnType = ret ∧ κ.2.2.2.2.2.2.2.2.1.locks = false
def tv_ei : Int32 → Option Value := fun x => some (.int x)
def tv_el : Int64 → Option Value := fun x => some (.long x)
def tv_ev : Unit → Option Value := fun _ => none
def tv_er (b : Nat) : Option Nat → Option Value := fun x => some (tv_re b x)
def tv_rm (d : Nat) : Room := { frames := d, cells := 0, slots := 0, locals := 40 * d }
/-- the contract: a function's outcome is the method's -/
def tv_Ct {β : Type} (l : Launch) (θ : tv_Th) (y : MethodName) (cc : ByteArray) (maxL : Nat) (ret : Option FieldType) (d : Nat) (emb : β → Option Value) (av : List Value) (M : tv_M) (o : Option (β × tv_M)) : Prop :=
  ∀ (r : β) (M' : tv_M), o = some (r, M') → Met l y (Cond.code y cc maxL ret :: tv_tb) (tv_rm d) (va_Pc av (tv_St θ M)) (tv_Qc θ emb r M') 0 0 (tv_A θ.1)
theorem tv_St.blind {θ : tv_Th} {M : tv_M} {av : List Value} : FrameBlind (va_Pc av (tv_St θ M)) := fun a U g mk h => ⟨h.1, h.2.1, va_K.moved (u := U) (U := U.calling g mk a) (Vm.Alike.refl U.vm) h.2.2.1, tv_X.same (s := U) (U := U.calling g mk a) rfl h.2.2.2⟩
theorem tv_tb_good {w : Cond} (h : w ∈ tv_tb) : w ∈ tv_tb ∧ ((w.onTables && w.keeps) = true ∨ ∃ ty, w = .arrayClass ty) := ⟨h, good_of_word (List.mem_filter.mp h).2⟩
theorem tv_atl {w : Cond} (i : Nat) (h : lw_tbl[i]? = some w) (hg : goodWord w = true) : w ∈ tv_tb := List.mem_filter.mpr ⟨List.mem_of_getElem? h, hg⟩
section TVC
variable {β β' : Type} {κ : tv_Kt} {own : String} {cc : ByteArray} {nL d pc : Nat} {Q : β → tv_M → State → Prop} {ls ls' : List (Option Value)} {st stk : List Value} {M : tv_M} {o o1 o2 : Option (β × tv_M)} {x y : Int32} {u v : Int64}
theorem g_iret (hC : tv_Cx κ own cc nL d) (hR : tv_Re κ (some .int)) (hd : decode cc pc = .ok (.ireturn, 1)) : tv_G κ nL (tv_Qm κ tv_ei) pc ls [.int x] M (some (x, M)) := by
  intro r M' ho H locs sl hP hS hl
  cases ho
  exact W.iret hC.1.1 hC.1.2.1 hR.1 (fun t ht hW => ⟨rfl, by rw [ht]; exact hP, hS.F ht⟩) hS.2.2 hd hR.2
theorem g_zret (hC : tv_Cx κ own cc nL d) (hR : tv_Re κ (some .boolean)) (hx : x = 0 ∨ x = 1) (hd : decode cc pc = .ok (.ireturn, 1)) : tv_G κ nL (tv_Qm κ tv_ei) pc ls [.int x] M (some (x, M)) := by
  intro r M' ho H locs sl hP hS hl
  cases ho
  exact W.zret hC.1.1 hC.1.2.1 hR.1 (tv_narZ hx) (fun t ht hW => ⟨rfl, by rw [ht]; exact hP, hS.F ht⟩) hS.2.2 hd hR.2
theorem g_lret (hC : tv_Cx κ own cc nL d) (hR : tv_Re κ (some .long)) (hd : decode cc pc = .ok (.lreturn, 1)) : tv_G κ nL (tv_Qm κ tv_el) pc ls [.long u] M (some (u, M)) := by
  intro r M' ho H locs sl hP hS hl
  cases ho
  exact W.lret hC.1.1 hC.1.2.1 hR.1 (fun t ht hW => ⟨rfl, by rw [ht]; exact hP, hS.F ht⟩) hS.2.2 hd hR.2
theorem g_vret (hC : tv_Cx κ own cc nL d) (hR : tv_Re κ none) (hd : decode cc pc = .ok (.return_, 1)) : tv_G κ nL (tv_Qm κ tv_ev) pc ls [] M (some ((), M)) := by
  intro r M' ho H locs sl hP hS hl
  cases ho
  exact W.vret hC.1.1 hC.1.2.1 hR.1 (fun t ht hW => ⟨rfl, by rw [ht]; exact hP, hS.F ht⟩) hS.2.2 hd hR.2
theorem g_aret (hC : tv_Cx κ own cc nL d) {rt : FieldType} (hR : tv_Re κ (some rt)) (hrt : (∃ n, rt = .object n) ∨ ∃ t, rt = .array t) (r0 : Option Nat) (hd : decode cc pc = .ok (.areturn, 1)) : tv_G κ nL (tv_Qm κ (tv_er κ.b)) pc ls [tv_re κ.b r0] M (some (r0, M)) := by
  intro r M' ho H locs sl hP hS hl
  cases ho
  exact W.aret hC.1.1 hC.1.2.1 hR.1 hrt (by cases r0 with | none => exact Or.inl rfl | some a => exact Or.inr ⟨_, rfl⟩) (fun t ht hW => ⟨rfl, by rw [ht]; exact hP, hS.F ht⟩) hS.2.2 hd hR.2
theorem tv_cont {emb : β' → Option Value} {oc : Option (β' × tv_M)} {f : β' → tv_M → Option (β × tv_M)} {rest : List Value} {a : Array Value}
    (hrun : ∀ (r1 : β') (M1 : tv_M), oc = some (r1, M1) → ∀ (H : Heap) (locs : List Loc) (sl : Array Slot), tv_V κ.th M H → va_S (tv_A κ.b) κ.s.heap H locs → tv_lo sl nL ls → va_Run κ.1 κ.2.1 κ.2.2.1 κ.2.2.2.1 κ.2.2.2.2.1 κ.2.2.2.2.2.1 κ.2.2.2.2.2.2.1 κ.2.2.2.2.2.2.2.1 κ.2.2.2.2.2.2.2.2.1 κ.2.2.2.2.2.2.2.2.2.1 H locs κ.ce κ.sz 0 0 (F0 κ.2.2.2.2.2.1 pc sl stk) rest (tv_Qc κ.th emb r1 M1 a) (tv_A κ.b))
    (kk : ∀ (r1 : β') (M1 : tv_M), tv_G κ nL Q (pc + 3) ls ((emb r1).toList ++ rest) M1 (f r1 M1)) : tv_G κ nL Q pc ls stk M (tv_cb oc f) := by
  intro r M' ho H locs sl hP hS hl
  cases hoc : oc with
  | none => rw [hoc] at ho; cases ho
  | some q =>
    obtain ⟨r1, M1⟩ := q
    rw [hoc] at ho
    have ho : f r1 M1 = some (r, M') := ho
    intro T hT X
    obtain ⟨w, st₀, t, T', L, h0, X', hL, e1, e2, ⟨hv, hV, hz, hk⟩, stp⟩ := hrun r1 M1 hoc H locs sl hP hS hl T hT X
    cases hv
    rw [h0] at hz hk
    obtain ⟨t2, a1, b1⟩ := kk r1 M1 r M' ho T'.heap (locs ++ L) sl (by rw [e1]; exact hV) ⟨Nat.le_trans hS.1 (by rw [e1]; exact hz), fun q h1 h2 => by rw [e1, hk q (Nat.lt_of_lt_of_le h1 hS.1) h2]; exact hS.2.1 q h1 h2, fun q hq => by
      rcases List.mem_append.mp hq with h | h
      · exact hS.2.2 q h
      · exact hL q h⟩ hl T' rfl X'
    exact ⟨t2, stp t2 a1, b1⟩
/-- the state in which a callee begins -/
theorem tv_begin (hC : tv_Cx κ own cc nL d) {H : Heap} {locs : List Loc} (hP : tv_V κ.th M H) (hS : va_S (tv_A κ.b) κ.s.heap H locs) (av : List Value) : ∀ U : State, U.heap = H → κ.s.WarmedH U.vm → va_Pc av (tv_St κ.th M) av.toArray U := fun U hU hW => ⟨rfl, by rw [hU]; exact hP, va_K.moved hW.alike hC.2.1, by
  rw [hU]
  exact (hC.2.2.1.warm hW).kept hS.2.1⟩
def tv_Vw (own : String) (idx : Nat) (y : MethodName) (bytes : ByteArray) (maxL : Nat) (ret : Option FieldType) (n : Nat) : Prop := Cond.methodLink own idx y ∈ tv_tb ∧ Cond.instanceMethod y ∈ tv_tb ∧ Cond.selects y.cls y y ∈ tv_tb ∧ Cond.initialized y.cls ∈ tv_tb ∧ Cond.code y bytes maxL ret ∈ tv_tb ∧ (y.cls ≠ "java/lang/invoke/MethodHandle" ∧ y.cls ≠ "java/lang/invoke/VarHandle" ∧ (parseMethodDescriptor y.desc).map (fun d => d.parameters.length) = some n)
def tv_Sw (own : String) (idx : Nat) (y : MethodName) (bytes : ByteArray) (maxL : Nat) (ret : Option FieldType) (n : Nat) : Prop := Cond.methodLink own idx y ∈ tv_tb ∧ Cond.static y ∈ tv_tb ∧ Cond.initialized y.cls ∈ tv_tb ∧ Cond.code y bytes maxL ret ∈ tv_tb ∧ (y.cls ≠ "java/lang/invoke/MethodHandle" ∧ y.cls ≠ "java/lang/invoke/VarHandle" ∧ (parseMethodDescriptor y.desc).map (fun d => d.parameters.length) = some n)
def tv_Nw (own : String) (idx : Nat) (y : MethodName) (host : String) (bytes : ByteArray) (maxL : Nat) (ret : Option FieldType) (n : Nat) : Prop := (own, idx, y, host) ∈ tv_nests ∧ Cond.static y ∈ tv_tb ∧ Cond.initialized y.cls ∈ tv_tb ∧ Cond.code y bytes maxL ret ∈ tv_tb ∧ (y.cls ≠ "java/lang/invoke/MethodHandle" ∧ y.cls ≠ "java/lang/invoke/VarHandle" ∧ (parseMethodDescriptor y.desc).map (fun d => d.parameters.length) = some n)
theorem tv_good_ws {w0 : Cond} (h0 : w0 ∈ tv_tb) : GoodIn tv_tb (w0 :: tv_tb) := fun w hw => by
  rcases List.mem_cons.mp hw with h | h
  · subst h; exact tv_tb_good h0
  · exact tv_tb_good h
theorem tv_goodV {own : String} {idx : Nat} {y : MethodName} {bytes : ByteArray} {maxL : Nat} {ret : Option FieldType} {n : Nat} (h : tv_Vw own idx y bytes maxL ret n) : GoodIn tv_tb (wsV own idx y.cls y (Cond.code y bytes maxL ret :: tv_tb)) := fun w hw => by
  rcases List.mem_append.mp hw with g | g
  · have : w ∈ tv_tb := by
      simp only [List.mem_cons, List.not_mem_nil, or_false] at g
      rcases g with g | g | g | g <;> subst g
      · exact h.1
      · exact h.2.1
      · exact h.2.2.1
      · exact h.2.2.2.1
    exact tv_tb_good this
  · exact tv_good_ws h.2.2.2.2.1 w g
theorem tv_goodS {own : String} {idx : Nat} {y : MethodName} {bytes : ByteArray} {maxL : Nat} {ret : Option FieldType} {n : Nat} (h : tv_Sw own idx y bytes maxL ret n) : GoodIn tv_tb (va_wsS own idx y (Cond.code y bytes maxL ret :: tv_tb)) := fun w hw => by
  rcases List.mem_append.mp hw with g | g
  · have : w ∈ tv_tb := by
      simp only [List.mem_cons, List.not_mem_nil, or_false] at g
      rcases g with g | g | g <;> subst g
      · exact h.1
      · exact h.2.1
      · exact h.2.2.1
    exact tv_tb_good this
  · exact tv_good_ws h.2.2.2.1 w g
theorem tv_rmfit {R : Room} {d d' maxL : Nat} (h1 : d ≤ R.frames) (h2 : 40 * d ≤ R.locals) (hd : Nat.ble (d' + 1) d = true) (hm : Nat.ble maxL 21 = true) : (tv_rm d').frames + 1 ≤ R.frames ∧ 8 + (maxL + 11) + (tv_rm d').locals ≤ R.locals := by
  have a := Nat.le_of_ble_eq_true hd
  have b := Nat.le_of_ble_eq_true hm
  show d' + 1 ≤ R.frames ∧ 8 + (maxL + 11) + 40 * d' ≤ R.locals
  omega
theorem g_callV (hC : tv_Cx κ own cc nL d) {idx k ci n maxL d' : Nat} {y : MethodName} {bytes : ByteArray} {ret : Option FieldType} {emb : β' → Option Value} {oc : Option (β' × tv_M)} {f : β' → tv_M → Option (β × tv_M)} {r : vw_C} (As : List Value) {rest : List Value}
    (hw : tv_Vw own idx y bytes maxL ret n) (hM : tv_Ct κ.l κ.th y bytes maxL ret d' emb (.ref (κ.b + k) :: As) M oc) (hk : (tv_lay[k]?).map Prod.fst = some ci) (hr : tv_cl[ci]? = some r) (hy : y.cls = r.1) (hn : As.length = n) (hst : stk = As.reverse ++ .ref (κ.b + k) :: rest) (hsum : Nat.ble ((rest.map fun v => v.category).sum) 8 = true) (hdep : Nat.ble (d' + 1) d = true) (hml : Nat.ble maxL 21 = true) (hd : decode cc pc = .ok (.invokevirtual idx, 3))
    (kk : ∀ (r1 : β') (M1 : tv_M), tv_G κ nL Q (pc + 3) ls ((emb r1).toList ++ rest) M1 (f r1 M1)) : tv_G κ nL Q pc ls stk M (tv_cb oc f) := by
  refine tv_cont (a := (.ref (κ.b + k) :: As).toArray) (rest := rest) ?_ kk
  intro r1 M1 hoc H locs sl hP hS hl
  obtain ⟨n0, hn0⟩ := tv_lay_of hk
  obtain ⟨h1, h2, -⟩ := tv_okc_all hr
  have he := tv_get (b := κ.b) (cA := κ.th.2.2.1) (I := M.1) (J := M.2) (P := tv_P0) (tv_lay_lt hn0) hn0
  rw [tv_E_ob h1, h2] at he
  have hrc := va_recv hC.2.1 hP hr he
  rw [← hy] at hrc
  exact va_runV (g := F0 κ.2.2.2.2.2.1 pc sl stk) (As := As) (rest := rest) hC.1 (hM r1 M1 hoc) (cwV n hC.1.2.2.2.2 (tv_goodV hw) rfl rfl rfl ⟨rfl, hw.2.2.2.2.2⟩ (tv_rmfit hC.2.2.2.1 hC.2.2.2.2.1 hdep hml)) ⟨tv_St.blind, hrc, tv_begin hC hP hS _⟩ rfl hn hl.1 hst (lv_room (Nat.le_of_ble_eq_true hsum)) hd ⟨hC.2.2.2.2.2.1, hC.2.2.2.2.2.2⟩
theorem g_callS (hC : tv_Cx κ own cc nL d) {idx n maxL d' : Nat} {y : MethodName} {bytes : ByteArray} {ret : Option FieldType} {emb : β' → Option Value} {oc : Option (β' × tv_M)} {f : β' → tv_M → Option (β × tv_M)} (As : List Value) {rest : List Value}
    (hw : tv_Sw own idx y bytes maxL ret n) (hM : tv_Ct κ.l κ.th y bytes maxL ret d' emb As M oc) (hn : As.length = n) (hst : stk = As.reverse ++ rest) (hsum : Nat.ble ((rest.map fun v => v.category).sum) 8 = true) (hdep : Nat.ble (d' + 1) d = true) (hml : Nat.ble maxL 21 = true) (hd : decode cc pc = .ok (.invokestatic idx, 3))
    (kk : ∀ (r1 : β') (M1 : tv_M), tv_G κ nL Q (pc + 3) ls ((emb r1).toList ++ rest) M1 (f r1 M1)) : tv_G κ nL Q pc ls stk M (tv_cb oc f) := by
  refine tv_cont (a := As.toArray) (rest := rest) ?_ kk
  intro r1 M1 hoc H locs sl hP hS hl
  exact va_runS (g := F0 κ.2.2.2.2.2.1 pc sl stk) (As := As) (rest := rest) hC.1 (hM r1 M1 hoc) (va_cwS n hC.1.2.2.2.2 (tv_goodS hw) rfl rfl rfl hw.2.2.2.2 (tv_rmfit hC.2.2.2.1 hC.2.2.2.2.1 hdep hml)) ⟨tv_St.blind, tv_begin hC hP hS _⟩ rfl hn hl.1 hst (lv_room (Nat.le_of_ble_eq_true hsum)) hd ⟨hC.2.2.2.2.2.1, hC.2.2.2.2.2.2⟩
theorem g_callN (hC : tv_Cx κ own cc nL d) {idx n maxL d' : Nat} {y : MethodName} {host : String} {bytes : ByteArray} {ret : Option FieldType} {emb : β' → Option Value} {oc : Option (β' × tv_M)} {f : β' → tv_M → Option (β × tv_M)} (As : List Value) {rest : List Value}
    (hw : tv_Nw own idx y host bytes maxL ret n) (hM : tv_Ct κ.l κ.th y bytes maxL ret d' emb As M oc) (hn : As.length = n) (hst : stk = As.reverse ++ rest) (hsum : Nat.ble ((rest.map fun v => v.category).sum) 8 = true) (hdep : Nat.ble (d' + 1) d = true) (hml : Nat.ble maxL 21 = true) (hd : decode cc pc = .ok (.invokestatic idx, 3))
    (kk : ∀ (r1 : β') (M1 : tv_M), tv_G κ nL Q (pc + 3) ls ((emb r1).toList ++ rest) M1 (f r1 M1)) : tv_G κ nL Q pc ls stk M (tv_cb oc f) := by
  refine tv_cont (a := As.toArray) (rest := rest) ?_ kk
  intro r1 M1 hoc H locs sl hP hS hl
  exact va_runSN (g := F0 κ.2.2.2.2.2.1 pc sl stk) (As := As) (rest := rest) hC.1 (hM r1 M1 hoc) ⟨va_cnB n hC.1.2.2.2.2 (tv_good_ws hw.2.2.2.1) rfl rfl rfl (hC.2.2.1.1 _ hw.1) (hC.1.2.2.2.2 _ hw.2.2.1) hw.2.2.2.2 (tv_rmfit hC.2.2.2.1 hC.2.2.2.2.1 hdep hml), hC.1.2.2.2.2 _ hw.2.1, trivial⟩ ⟨tv_St.blind, tv_begin hC hP hS _⟩ rfl hn hl.1 hst (lv_room (Nat.le_of_ble_eq_true hsum)) hd ⟨hC.2.2.2.2.2.1, hC.2.2.2.2.2.2⟩
/-- System.arraycopy between int rows -/
theorem g_copy (hC : tv_Cx κ own cc nL d) {idx a k n0 n1 : Nat} {sp dp n : Int32} {f : tv_M → Option (β × tv_M)} (ha : tv_lay[a]? = some (20, n0)) (hk : tv_lay[k]? = some (20, n1)) (hw : Cond.methodLink own idx arraycopyName ∈ tv_tb ∧ Cond.native arraycopyName ∈ tv_tb ∧ Cond.static arraycopyName ∈ tv_tb ∧ Cond.initialized "java/lang/System" ∈ tv_tb) (hsum : Nat.ble ((st.map fun v => v.category).sum) 8 = true) (hdep : Nat.ble 1 d = true) (hd : decode cc pc = .ok (.invokestatic idx, 3))
    (kk : tv_G κ nL Q (pc + 3) ls st (tv_wc M k (va_cpy (M.1 a) (M.1 k) sp.toNatClampNeg dp.toNatClampNeg n.toNatClampNeg)) (f (tv_wc M k (va_cpy (M.1 a) (M.1 k) sp.toNatClampNeg dp.toNatClampNeg n.toNatClampNeg)))) : tv_G κ nL Q pc ls (.int n :: .int dp :: .ref (κ.b + k) :: .int sp :: .ref (κ.b + a) :: st) M (tv_cpy M a n0 sp k n1 dp n f) := by
  intro r M' ho H locs sl hP hS hl
  unfold tv_cpy at ho
  by_cases hc : 0 ≤ sp ∧ 0 ≤ dp ∧ 0 ≤ n ∧ sp.toNatClampNeg + n.toNatClampNeg ≤ n0 ∧ dp.toNatClampNeg + n.toNatClampNeg ≤ n1
  · rw [if_pos hc] at ho
    obtain ⟨c1, c2, c3, c4, c5⟩ := hc
    have hea := tv_get (b := κ.b) (cA := κ.th.2.2.1) (I := M.1) (J := M.2) (P := tv_P0) (tv_lay_lt ha) ha
    have hek := tv_get (b := κ.b) (cA := κ.th.2.2.1) (I := M.1) (J := M.2) (P := tv_P0) (tv_lay_lt hk) hk
    rw [tv_E_i] at hea hek
    have h1 := Nat.le_of_ble_eq_true hdep
    have h2 := hC.2.2.2.1
    have h3 := hC.2.2.2.2.1
    have h4 := Nat.le_of_ble_eq_true hsum
    refine va_copyi hC.1.1 hC.1.2.1 (hC.1.2.2.1.trans hl.1.symm) hC.1.2.2.2.1 (hC.1.2.2.2.2 _ hw.1) (hC.1.2.2.2.2 _ hw.2.1) (hC.1.2.2.2.2 _ hw.2.2.1) (hC.1.2.2.2.2 _ hw.2.2.2) hC.2.1 hP tv_D hS a k 0 0 hea hek rfl rfl rfl (Int32.not_lt.mpr c1) (Int32.not_lt.mpr c2) (Int32.not_lt.mpr c3) c4 c5 (fun i _ => rfl) (by omega) ?_ hd (fun H1 locs1 hP1 hD1 hS1 => ?_)
    · have e : nativeFrameWords "java/lang/System" "arraycopy" 5 ≤ 20 := by decide
      omega
    · refine kk r M' ho H1 locs1 sl ?_ hS1 hl
      rw [tv_set (I' := (tv_wc M k (va_cpy (M.1 a) (M.1 k) sp.toNatClampNeg dp.toNatClampNeg n.toNatClampNeg)).1) (J' := M.2) (P' := tv_P0) hk (by rw [tv_E_i, tv_wc_row]) tv_wc_ne] at hP1
      exact hP1
  · rw [if_neg hc] at ho
    cases ho
end TVC
/-- a walk from a method's entry is its contract -/
theorem tv_ofG {β : Type} {l : Launch} {θ : tv_Th} {y : MethodName} {cc : ByteArray} {maxL : Nat} {ret : Option FieldType} {d : Nat} {emb : β → Option Value} {av : List Value} {M : tv_M} {o : Option (β × tv_M)} (ls : List (Option Value)) (hy : plainName y.cls = true) (hlen : Nat.ble (lg_sl av).length maxL = true) (hent : ∀ (i : Nat) (v : Value), ls[i]? = some (some v) → (i, v) ∈ lv_args 0 av)
    (h : ∀ κ : tv_Kt, κ.l = l → κ.th = θ → tv_Cx κ y.cls cc maxL d → tv_Re κ ret → tv_G κ maxL (tv_Qm κ emb) 0 ls [] M o) : tv_Ct l θ y cc maxL ret d emb av M o := by
  intro r M' ho
  refine Met.ofW (cc := cc) (maxL := maxL) (ret := ret) hy rfl ?_
  intro p e s m args below meth c s₁ B hml hv
  obtain ⟨rfl, hP, hK, hX⟩ := hv
  have hts := atoms_spec (ws := Cond.code y cc maxL ret :: tv_tb) B.pre
  have hl := lv_entry av (n := maxL) (Nat.le_of_ble_eq_true hlen)
  rw [lg_entry_eq]
  generalize (lg_sl av ++ List.replicate (maxL - (lg_sl av).length) Slot.unset).toArray = sl at hl ⊢
  have hlo : tv_lo sl maxL ls := ⟨hl.1, hl.2.1, fun i v hv => hl.2.2 (i, v) (hent i v hv)⟩
  have k := h (p, l, e, (headSpec (Cond.code y cc maxL ret :: tv_tb) (tv_rm d)).room, s, m, av.toArray, below, meth, c, θ, 0, 0) rfl rfl ⟨⟨B.exec, B.bytes, hml, findClass_of_methodNamed B.named, fun w hw => hts w (List.mem_cons_of_mem _ hw)⟩, hK, hX, Nat.le_refl d, Nat.le_refl (40 * d), Nat.zero_le _, Nat.zero_le _⟩ ⟨B.returns, B.notSynchronized⟩ r M' ho s.heap [] sl hP va_S.rf hlo
  exact k
end
section
/-! the rows as the programs use them: what is read or made is a new name -/
def tv_pf {α : Type} (M : tv_M) (k j : Nat) (x : Int32) (f : tv_M → Option α) : Option α := f (tv_w M k j x)
theorem tv_z0 : (0 : Int32) = 0 ∨ (0 : Int32) = 1 := Or.inl rfl
theorem tv_z1 : (1 : Int32) = 0 ∨ (1 : Int32) = 1 := Or.inr rfl
def tv_argl : List Value → List (Option Value)
  | [] => []
  | v :: r => if v.category = 2 then some v :: none :: tv_argl r else some v :: tv_argl r
theorem tv_argl_at (v : Value) (k : Nat) : ∀ (av : List Value) (i j : Nat), (tv_argl av ++ List.replicate k none)[j]? = some (some v) → (i + j, v) ∈ lv_args i av
  | [], i, j, h => by
    simp only [tv_argl, List.nil_append] at h
    have := List.eq_of_mem_replicate (List.mem_of_getElem? h)
    cases this
  | w :: r, i, j, h => by
    rw [lv_args]
    by_cases hw : w.category = 2
    · simp only [tv_argl, hw, if_true, List.cons_append] at h
      simp only [hw, if_true]
      match j, h with
      | 0, h =>
        simp at h
        exact List.mem_cons.mpr (Or.inl (by rw [h]; simp))
      | 1, h => simp at h
      | j + 2, h =>
        have g := tv_argl_at v k r (i + 2) j (by simpa using h)
        exact List.mem_cons_of_mem _ (by rw [show i + (j + 2) = i + 2 + j by omega]; exact g)
    · simp only [tv_argl, hw, if_false, List.cons_append] at h
      simp only [hw, if_false]
      match j, h with
      | 0, h =>
        simp at h
        exact List.mem_cons.mpr (Or.inl (by rw [h]; simp))
      | j + 1, h =>
        have g := tv_argl_at v k r (i + 1) j (by simpa using h)
        exact List.mem_cons_of_mem _ (by rw [show i + (j + 1) = i + 1 + j by omega]; exact g)
theorem tv_ent (k : Nat) {av : List Value} {ls : List (Option Value)} (h : tv_argl av ++ List.replicate k none = ls) : ∀ (i : Nat) (v : Value), ls[i]? = some (some v) → (i, v) ∈ lv_args 0 av := fun i v hv => by
  have g := tv_argl_at v k av 0 i (by rw [h]; exact hv)
  rwa [Nat.zero_add] at g
section TVV
variable {β β' : Type} {κ : tv_Kt} {own : String} {cc : ByteArray} {nL d pc : Nat} {Q : β → tv_M → State → Prop} {ls ls' : List (Option Value)} {st stk : List Value} {M : tv_M} {o o1 o2 : Option (β × tv_M)} {x y : Int32} {u v : Int64}
theorem g_ite {c : Prop} [Decidable c] (k1 : c → tv_G κ nL Q pc ls st M o1) (k2 : ¬ c → tv_G κ nL Q pc ls st M o2) : tv_G κ nL Q pc ls st M (if c then o1 else o2) := by
  split
  · exact k1 (by assumption)
  · exact k2 (by assumption)
theorem g_tabIn (hC : tv_Cx κ own cc nL d) {dflt lo hi off : Int} {offs : Array Int} {len tgt : Nat} {c : Int32} (hd : decode cc pc = .ok (.tableswitch dflt lo hi offs, len)) (hx : x = c) (h1 : ¬ c.toInt < lo) (h2 : ¬ hi < c.toInt) (ho : offs[(c.toInt - lo).toNat]? = some off) (ht : (pc : Int) + off = (tgt : Int)) (k : tv_G κ nL Q tgt ls st M o) : tv_G κ nL Q pc ls (.int x :: st) M o := by
  subst hx
  exact fun r M' ho' H locs sl hP hS hl => lv_tableIn hC.1.1 hC.1.2.1 hd h1 h2 ho ht (k r M' ho' H locs sl hP hS hl)
theorem g_tabOut (hC : tv_Cx κ own cc nL d) {dflt lo hi : Int} {offs : Array Int} {len tgt : Nat} (hd : decode cc pc = .ok (.tableswitch dflt lo hi offs, len)) (h : x.toInt < lo ∨ hi < x.toInt) (ht : (pc : Int) + dflt = (tgt : Int)) (k : tv_G κ nL Q tgt ls st M o) : tv_G κ nL Q pc ls (.int x :: st) M o := fun r M' ho' H locs sl hP hS hl => lv_tableOut hC.1.1 hC.1.2.1 hd h ht (k r M' ho' H locs sl hP hS hl)
theorem gv_iald (hC : tv_Cx κ own cc nL d) {k n : Nat} {i : Int32} {f : Int32 → Option (β × tv_M)} (hk : tv_lay[k]? = some (20, n)) (hd : decode cc pc = .ok (.iaload, 1)) (kk : ∀ x, tv_G κ nL Q (pc + 1) ls (.int x :: st) M (f x)) : tv_G κ nL Q pc ls (.int i :: .ref (κ.b + k) :: st) M (tv_rd M k n i f) := g_iald hC hk hd (fun _ => kk _)
theorem gv_bald (hC : tv_Cx κ own cc nL d) {k n : Nat} {i : Int32} {f : Int32 → Option (β × tv_M)} (hk : tv_lay[k]? = some (21, n)) (hd : decode cc pc = .ok (.baload, 1)) (kk : ∀ x, tv_G κ nL Q (pc + 1) ls (.int x :: st) M (f x)) : tv_G κ nL Q pc ls (.int i :: .ref (κ.b + k) :: st) M (tv_rd M k n i f) := g_bald hC hk hd (fun _ => kk _)
theorem gv_zald (hC : tv_Cx κ own cc nL d) {k n : Nat} {i : Int32} {f : Int32 → Option (β × tv_M)} (hk : tv_lay[k]? = some (22, n)) (hd : decode cc pc = .ok (.baload, 1)) (kk : ∀ x, tv_G κ nL Q (pc + 1) ls (.int x :: st) M (f x)) : tv_G κ nL Q pc ls (.int i :: .ref (κ.b + k) :: st) M (tv_rd M k n i f) := g_zald hC hk hd (fun _ => kk _)
theorem gv_lald (hC : tv_Cx κ own cc nL d) {k n : Nat} {i : Int32} {f : Int64 → Option (β × tv_M)} (hk : tv_lay[k]? = some (23, n)) (hd : decode cc pc = .ok (.laload, 1)) (kk : ∀ x, tv_G κ nL Q (pc + 1) ls (.long x :: st) M (f x)) : tv_G κ nL Q pc ls (.int i :: .ref (κ.b + k) :: st) M (tv_rdl M k n i f) := g_lald hC hk hd (fun _ => kk _)
theorem gv_sald (hC : tv_Cx κ own cc nL d) (a : Nat) {q : String × List Int32} {i : Int32} {f : Int32 → Option (β × tv_M)} (hq : tv_stat[a]? = some q) (hd : decode cc pc = .ok (.iaload, 1)) (kk : ∀ x, tv_G κ nL Q (pc + 1) ls (.int x :: st) M (f x)) : tv_G κ nL Q pc ls (.int i :: .ref (κ.th.2.2.2.2.2 a) :: st) M (tv_rds q.2 i f) := g_sald hC a hq hd (fun _ => kk _)
theorem gv_iast (hC : tv_Cx κ own cc nL d) {k n : Nat} {i : Int32} {f : tv_M → Option (β × tv_M)} (hk : tv_lay[k]? = some (20, n)) (hd : decode cc pc = .ok (.iastore, 1)) (kk : ∀ M1, tv_G κ nL Q (pc + 1) ls st M1 (f M1)) : tv_G κ nL Q pc ls (.int x :: .int i :: .ref (κ.b + k) :: st) M (tv_wr M k n i x f) := g_iast hC hk hd (fun _ => kk _)
theorem gv_bast (hC : tv_Cx κ own cc nL d) {k n : Nat} {i : Int32} {f : tv_M → Option (β × tv_M)} (hk : tv_lay[k]? = some (21, n)) (hd : decode cc pc = .ok (.bastore, 1)) (kk : ∀ M1, tv_G κ nL Q (pc + 1) ls st M1 (f M1)) : tv_G κ nL Q pc ls (.int x :: .int i :: .ref (κ.b + k) :: st) M (tv_wr M k n i (vp_nar .byte x) f) := g_bast hC hk hd (fun _ => kk _)
theorem gv_zast (hC : tv_Cx κ own cc nL d) {k n : Nat} {i : Int32} {f : tv_M → Option (β × tv_M)} (hk : tv_lay[k]? = some (22, n)) (hd : decode cc pc = .ok (.bastore, 1)) (kk : ∀ M1, tv_G κ nL Q (pc + 1) ls st M1 (f M1)) : tv_G κ nL Q pc ls (.int x :: .int i :: .ref (κ.b + k) :: st) M (tv_wr M k n i (vp_nar .boolean x) f) := g_zast hC hk hd (fun _ => kk _)
theorem gv_last (hC : tv_Cx κ own cc nL d) {k n : Nat} {i : Int32} {f : tv_M → Option (β × tv_M)} (hk : tv_lay[k]? = some (23, n)) (hd : decode cc pc = .ok (.lastore, 1)) (kk : ∀ M1, tv_G κ nL Q (pc + 1) ls st M1 (f M1)) : tv_G κ nL Q pc ls (.long u :: .int i :: .ref (κ.b + k) :: st) M (tv_wrl M k n i u f) := g_last hC hk hd (fun _ => kk _)
theorem gv_aald (hC : tv_Cx κ own cc nL d) {k n : Nat} (t : Nat) {i : Int32} {f : Nat → Option (β × tv_M)} (hk : tv_lay[k]? = some (24 + t, n)) (ht : Nat.blt t 4 = true) (hd : decode cc pc = .ok (.aaload, 1)) (kk : ∀ a : Nat, tv_G κ nL Q (pc + 1) ls (.ref (κ.b + a) :: st) M (f a)) : tv_G κ nL Q pc ls (.int i :: .ref (κ.b + k) :: st) M (tv_ap k n i f) := g_aald hC t hk ht hd (fun a _ _ => kk a)
theorem gv_copy (hC : tv_Cx κ own cc nL d) {idx a k n0 n1 : Nat} {sp dp n : Int32} {f : tv_M → Option (β × tv_M)} (ha : tv_lay[a]? = some (20, n0)) (hk : tv_lay[k]? = some (20, n1)) (hw : Cond.methodLink own idx arraycopyName ∈ tv_tb ∧ Cond.native arraycopyName ∈ tv_tb ∧ Cond.static arraycopyName ∈ tv_tb ∧ Cond.initialized "java/lang/System" ∈ tv_tb) (hsum : Nat.ble ((st.map fun v => v.category).sum) 8 = true) (hdep : Nat.ble 1 d = true) (hd : decode cc pc = .ok (.invokestatic idx, 3))
    (kk : ∀ M1, tv_G κ nL Q (pc + 3) ls st M1 (f M1)) : tv_G κ nL Q pc ls (.int n :: .int dp :: .ref (κ.b + k) :: .int sp :: .ref (κ.b + a) :: st) M (tv_cpy M a n0 sp k n1 dp n f) := g_copy hC ha hk hw hsum hdep hd (kk _)
theorem gv_putI (hC : tv_Cx κ own cc nL d) {idx k : Nat} {f : tv_M → Option (β × tv_M)} (ci j : Nat) {r : vw_C} (hk : (tv_lay[k]?).map Prod.fst = some ci) (hr : tv_cl[ci]? = some r) (hj : Nat.blt j r.2.2 = true) (hf : (tv_rf.getD ci []).getD j false = false) (hw : Cond.fieldLink own idx (r.2.1 j).1 (r.2.1 j).2.1 (r.2.1 j).2.2.1 ∈ tv_tb) (hfin : (r.2.1 j).2.2.2 = false) (hty : tv_tyf ci j = .int) (hd : decode cc pc = .ok (.putfield idx, 3)) (kk : ∀ M1, tv_G κ nL Q (pc + 3) ls st M1 (f M1)) : tv_G κ nL Q pc ls (.int x :: .ref (κ.b + k) :: st) M (tv_pf M k j x f) := g_putI hC ci j hk hr hj hf hw hfin hty hd (kk _)
theorem gv_putZ (hC : tv_Cx κ own cc nL d) {idx k : Nat} {f : tv_M → Option (β × tv_M)} (ci j : Nat) {r : vw_C} (hk : (tv_lay[k]?).map Prod.fst = some ci) (hr : tv_cl[ci]? = some r) (hj : Nat.blt j r.2.2 = true) (hf : (tv_rf.getD ci []).getD j false = false) (hw : Cond.fieldLink own idx (r.2.1 j).1 (r.2.1 j).2.1 (r.2.1 j).2.2.1 ∈ tv_tb) (hfin : (r.2.1 j).2.2.2 = false) (hty : tv_tyf ci j = .boolean) (hx : x = 0 ∨ x = 1) (hd : decode cc pc = .ok (.putfield idx, 3)) (kk : ∀ M1, tv_G κ nL Q (pc + 3) ls st M1 (f M1)) : tv_G κ nL Q pc ls (.int x :: .ref (κ.b + k) :: st) M (tv_pf M k j x f) := g_putZ hC ci j hk hr hj hf hw hfin hty hx hd (kk _)
theorem gv_callVi (hC : tv_Cx κ own cc nL d) {idx k ci n maxL d' : Nat} {y : MethodName} {bytes : ByteArray} {ret : Option FieldType} {oc : Option (Int32 × tv_M)} {f : Int32 → tv_M → Option (β × tv_M)} {r : vw_C} (As : List Value) {rest : List Value} (hw : tv_Vw own idx y bytes maxL ret n) (hM : tv_Ct κ.l κ.th y bytes maxL ret d' tv_ei (.ref (κ.b + k) :: As) M oc) (hk : (tv_lay[k]?).map Prod.fst = some ci) (hr : tv_cl[ci]? = some r) (hy : y.cls = r.1) (hn : As.length = n) (hst : stk = As.reverse ++ .ref (κ.b + k) :: rest) (hsum : Nat.ble ((rest.map fun v => v.category).sum) 8 = true) (hdep : Nat.ble (d' + 1) d = true) (hml : Nat.ble maxL 21 = true) (hd : decode cc pc = .ok (.invokevirtual idx, 3))
    (kk : ∀ (r1 : Int32) (M1 : tv_M), tv_G κ nL Q (pc + 3) ls (.int r1 :: rest) M1 (f r1 M1)) : tv_G κ nL Q pc ls stk M (tv_cb oc f) := g_callV hC As hw hM hk hr hy hn hst hsum hdep hml hd kk
theorem gv_callVj (hC : tv_Cx κ own cc nL d) {idx k ci n maxL d' : Nat} {y : MethodName} {bytes : ByteArray} {ret : Option FieldType} {oc : Option (Int64 × tv_M)} {f : Int64 → tv_M → Option (β × tv_M)} {r : vw_C} (As : List Value) {rest : List Value} (hw : tv_Vw own idx y bytes maxL ret n) (hM : tv_Ct κ.l κ.th y bytes maxL ret d' tv_el (.ref (κ.b + k) :: As) M oc) (hk : (tv_lay[k]?).map Prod.fst = some ci) (hr : tv_cl[ci]? = some r) (hy : y.cls = r.1) (hn : As.length = n) (hst : stk = As.reverse ++ .ref (κ.b + k) :: rest) (hsum : Nat.ble ((rest.map fun v => v.category).sum) 8 = true) (hdep : Nat.ble (d' + 1) d = true) (hml : Nat.ble maxL 21 = true) (hd : decode cc pc = .ok (.invokevirtual idx, 3))
    (kk : ∀ (r1 : Int64) (M1 : tv_M), tv_G κ nL Q (pc + 3) ls (.long r1 :: rest) M1 (f r1 M1)) : tv_G κ nL Q pc ls stk M (tv_cb oc f) := g_callV hC As hw hM hk hr hy hn hst hsum hdep hml hd kk
theorem gv_callVv (hC : tv_Cx κ own cc nL d) {idx k ci n maxL d' : Nat} {y : MethodName} {bytes : ByteArray} {ret : Option FieldType} {oc : Option (Unit × tv_M)} {f : Unit → tv_M → Option (β × tv_M)} {r : vw_C} (As : List Value) {rest : List Value} (hw : tv_Vw own idx y bytes maxL ret n) (hM : tv_Ct κ.l κ.th y bytes maxL ret d' tv_ev (.ref (κ.b + k) :: As) M oc) (hk : (tv_lay[k]?).map Prod.fst = some ci) (hr : tv_cl[ci]? = some r) (hy : y.cls = r.1) (hn : As.length = n) (hst : stk = As.reverse ++ .ref (κ.b + k) :: rest) (hsum : Nat.ble ((rest.map fun v => v.category).sum) 8 = true) (hdep : Nat.ble (d' + 1) d = true) (hml : Nat.ble maxL 21 = true) (hd : decode cc pc = .ok (.invokevirtual idx, 3))
    (kk : ∀ (r1 : Unit) (M1 : tv_M), tv_G κ nL Q (pc + 3) ls (rest) M1 (f r1 M1)) : tv_G κ nL Q pc ls stk M (tv_cb oc f) := g_callV hC As hw hM hk hr hy hn hst hsum hdep hml hd kk
theorem gv_callVr (hC : tv_Cx κ own cc nL d) {idx k ci n maxL d' : Nat} {y : MethodName} {bytes : ByteArray} {ret : Option FieldType} {oc : Option (Option Nat × tv_M)} {f : Option Nat → tv_M → Option (β × tv_M)} {r : vw_C} (As : List Value) {rest : List Value} (hw : tv_Vw own idx y bytes maxL ret n) (hM : tv_Ct κ.l κ.th y bytes maxL ret d' (tv_er κ.b) (.ref (κ.b + k) :: As) M oc) (hk : (tv_lay[k]?).map Prod.fst = some ci) (hr : tv_cl[ci]? = some r) (hy : y.cls = r.1) (hn : As.length = n) (hst : stk = As.reverse ++ .ref (κ.b + k) :: rest) (hsum : Nat.ble ((rest.map fun v => v.category).sum) 8 = true) (hdep : Nat.ble (d' + 1) d = true) (hml : Nat.ble maxL 21 = true) (hd : decode cc pc = .ok (.invokevirtual idx, 3))
    (kk : ∀ (r1 : Option Nat) (M1 : tv_M), tv_G κ nL Q (pc + 3) ls (tv_re κ.b r1 :: rest) M1 (f r1 M1)) : tv_G κ nL Q pc ls stk M (tv_cb oc f) := g_callV hC As hw hM hk hr hy hn hst hsum hdep hml hd kk
theorem gv_callSi (hC : tv_Cx κ own cc nL d) {idx n maxL d' : Nat} {y : MethodName} {bytes : ByteArray} {ret : Option FieldType} {oc : Option (Int32 × tv_M)} {f : Int32 → tv_M → Option (β × tv_M)} (As : List Value) {rest : List Value} (hw : tv_Sw own idx y bytes maxL ret n) (hM : tv_Ct κ.l κ.th y bytes maxL ret d' tv_ei As M oc) (hn : As.length = n) (hst : stk = As.reverse ++ rest) (hsum : Nat.ble ((rest.map fun v => v.category).sum) 8 = true) (hdep : Nat.ble (d' + 1) d = true) (hml : Nat.ble maxL 21 = true) (hd : decode cc pc = .ok (.invokestatic idx, 3))
    (kk : ∀ (r1 : Int32) (M1 : tv_M), tv_G κ nL Q (pc + 3) ls (.int r1 :: rest) M1 (f r1 M1)) : tv_G κ nL Q pc ls stk M (tv_cb oc f) := g_callS hC As hw hM hn hst hsum hdep hml hd kk
theorem gv_callSj (hC : tv_Cx κ own cc nL d) {idx n maxL d' : Nat} {y : MethodName} {bytes : ByteArray} {ret : Option FieldType} {oc : Option (Int64 × tv_M)} {f : Int64 → tv_M → Option (β × tv_M)} (As : List Value) {rest : List Value} (hw : tv_Sw own idx y bytes maxL ret n) (hM : tv_Ct κ.l κ.th y bytes maxL ret d' tv_el As M oc) (hn : As.length = n) (hst : stk = As.reverse ++ rest) (hsum : Nat.ble ((rest.map fun v => v.category).sum) 8 = true) (hdep : Nat.ble (d' + 1) d = true) (hml : Nat.ble maxL 21 = true) (hd : decode cc pc = .ok (.invokestatic idx, 3))
    (kk : ∀ (r1 : Int64) (M1 : tv_M), tv_G κ nL Q (pc + 3) ls (.long r1 :: rest) M1 (f r1 M1)) : tv_G κ nL Q pc ls stk M (tv_cb oc f) := g_callS hC As hw hM hn hst hsum hdep hml hd kk
theorem gv_callSv (hC : tv_Cx κ own cc nL d) {idx n maxL d' : Nat} {y : MethodName} {bytes : ByteArray} {ret : Option FieldType} {oc : Option (Unit × tv_M)} {f : Unit → tv_M → Option (β × tv_M)} (As : List Value) {rest : List Value} (hw : tv_Sw own idx y bytes maxL ret n) (hM : tv_Ct κ.l κ.th y bytes maxL ret d' tv_ev As M oc) (hn : As.length = n) (hst : stk = As.reverse ++ rest) (hsum : Nat.ble ((rest.map fun v => v.category).sum) 8 = true) (hdep : Nat.ble (d' + 1) d = true) (hml : Nat.ble maxL 21 = true) (hd : decode cc pc = .ok (.invokestatic idx, 3))
    (kk : ∀ (r1 : Unit) (M1 : tv_M), tv_G κ nL Q (pc + 3) ls (rest) M1 (f r1 M1)) : tv_G κ nL Q pc ls stk M (tv_cb oc f) := g_callS hC As hw hM hn hst hsum hdep hml hd kk
theorem gv_callSr (hC : tv_Cx κ own cc nL d) {idx n maxL d' : Nat} {y : MethodName} {bytes : ByteArray} {ret : Option FieldType} {oc : Option (Option Nat × tv_M)} {f : Option Nat → tv_M → Option (β × tv_M)} (As : List Value) {rest : List Value} (hw : tv_Sw own idx y bytes maxL ret n) (hM : tv_Ct κ.l κ.th y bytes maxL ret d' (tv_er κ.b) As M oc) (hn : As.length = n) (hst : stk = As.reverse ++ rest) (hsum : Nat.ble ((rest.map fun v => v.category).sum) 8 = true) (hdep : Nat.ble (d' + 1) d = true) (hml : Nat.ble maxL 21 = true) (hd : decode cc pc = .ok (.invokestatic idx, 3))
    (kk : ∀ (r1 : Option Nat) (M1 : tv_M), tv_G κ nL Q (pc + 3) ls (tv_re κ.b r1 :: rest) M1 (f r1 M1)) : tv_G κ nL Q pc ls stk M (tv_cb oc f) := g_callS hC As hw hM hn hst hsum hdep hml hd kk
theorem gv_callNi (hC : tv_Cx κ own cc nL d) {idx n maxL d' : Nat} {y : MethodName} {host : String} {bytes : ByteArray} {ret : Option FieldType} {oc : Option (Int32 × tv_M)} {f : Int32 → tv_M → Option (β × tv_M)} (As : List Value) {rest : List Value} (hw : tv_Nw own idx y host bytes maxL ret n) (hM : tv_Ct κ.l κ.th y bytes maxL ret d' tv_ei As M oc) (hn : As.length = n) (hst : stk = As.reverse ++ rest) (hsum : Nat.ble ((rest.map fun v => v.category).sum) 8 = true) (hdep : Nat.ble (d' + 1) d = true) (hml : Nat.ble maxL 21 = true) (hd : decode cc pc = .ok (.invokestatic idx, 3))
    (kk : ∀ (r1 : Int32) (M1 : tv_M), tv_G κ nL Q (pc + 3) ls (.int r1 :: rest) M1 (f r1 M1)) : tv_G κ nL Q pc ls stk M (tv_cb oc f) := g_callN hC As hw hM hn hst hsum hdep hml hd kk
theorem gv_callNj (hC : tv_Cx κ own cc nL d) {idx n maxL d' : Nat} {y : MethodName} {host : String} {bytes : ByteArray} {ret : Option FieldType} {oc : Option (Int64 × tv_M)} {f : Int64 → tv_M → Option (β × tv_M)} (As : List Value) {rest : List Value} (hw : tv_Nw own idx y host bytes maxL ret n) (hM : tv_Ct κ.l κ.th y bytes maxL ret d' tv_el As M oc) (hn : As.length = n) (hst : stk = As.reverse ++ rest) (hsum : Nat.ble ((rest.map fun v => v.category).sum) 8 = true) (hdep : Nat.ble (d' + 1) d = true) (hml : Nat.ble maxL 21 = true) (hd : decode cc pc = .ok (.invokestatic idx, 3))
    (kk : ∀ (r1 : Int64) (M1 : tv_M), tv_G κ nL Q (pc + 3) ls (.long r1 :: rest) M1 (f r1 M1)) : tv_G κ nL Q pc ls stk M (tv_cb oc f) := g_callN hC As hw hM hn hst hsum hdep hml hd kk
theorem gv_callNv (hC : tv_Cx κ own cc nL d) {idx n maxL d' : Nat} {y : MethodName} {host : String} {bytes : ByteArray} {ret : Option FieldType} {oc : Option (Unit × tv_M)} {f : Unit → tv_M → Option (β × tv_M)} (As : List Value) {rest : List Value} (hw : tv_Nw own idx y host bytes maxL ret n) (hM : tv_Ct κ.l κ.th y bytes maxL ret d' tv_ev As M oc) (hn : As.length = n) (hst : stk = As.reverse ++ rest) (hsum : Nat.ble ((rest.map fun v => v.category).sum) 8 = true) (hdep : Nat.ble (d' + 1) d = true) (hml : Nat.ble maxL 21 = true) (hd : decode cc pc = .ok (.invokestatic idx, 3))
    (kk : ∀ (r1 : Unit) (M1 : tv_M), tv_G κ nL Q (pc + 3) ls (rest) M1 (f r1 M1)) : tv_G κ nL Q pc ls stk M (tv_cb oc f) := g_callN hC As hw hM hn hst hsum hdep hml hd kk
theorem gv_callNr (hC : tv_Cx κ own cc nL d) {idx n maxL d' : Nat} {y : MethodName} {host : String} {bytes : ByteArray} {ret : Option FieldType} {oc : Option (Option Nat × tv_M)} {f : Option Nat → tv_M → Option (β × tv_M)} (As : List Value) {rest : List Value} (hw : tv_Nw own idx y host bytes maxL ret n) (hM : tv_Ct κ.l κ.th y bytes maxL ret d' (tv_er κ.b) As M oc) (hn : As.length = n) (hst : stk = As.reverse ++ rest) (hsum : Nat.ble ((rest.map fun v => v.category).sum) 8 = true) (hdep : Nat.ble (d' + 1) d = true) (hml : Nat.ble maxL 21 = true) (hd : decode cc pc = .ok (.invokestatic idx, 3))
    (kk : ∀ (r1 : Option Nat) (M1 : tv_M), tv_G κ nL Q (pc + 3) ls (tv_re κ.b r1 :: rest) M1 (f r1 M1)) : tv_G κ nL Q pc ls stk M (tv_cb oc f) := g_callN hC As hw hM hn hst hsum hdep hml hd kk
end TVV
end
section
/-! words by their places in the printed sublists -/
theorem tv_t1 {w : Cond} (i : Nat) (h : tables_1_1[i]? = some w) (hg : goodWord w = true) : w ∈ tv_tb := tv_mem_tb (show w ∈ tables_1_1 ++ (tables_1_2 ++ (tables_1_3 ++ (tables_1_4 ++ (tables_1_5 ++ (tables_1_6 ++ (tables_1_7 ++ tables_1_8)))))) from List.mem_append_left _ (List.mem_of_getElem? h)) hg
theorem tv_t2 {w : Cond} (i : Nat) (h : tables_1_2[i]? = some w) (hg : goodWord w = true) : w ∈ tv_tb := tv_mem_tb (show w ∈ tables_1_1 ++ (tables_1_2 ++ (tables_1_3 ++ (tables_1_4 ++ (tables_1_5 ++ (tables_1_6 ++ (tables_1_7 ++ tables_1_8)))))) from List.mem_append_right _ (List.mem_append_left _ (List.mem_of_getElem? h))) hg
theorem tv_t3 {w : Cond} (i : Nat) (h : tables_1_3[i]? = some w) (hg : goodWord w = true) : w ∈ tv_tb := tv_mem_tb (show w ∈ tables_1_1 ++ (tables_1_2 ++ (tables_1_3 ++ (tables_1_4 ++ (tables_1_5 ++ (tables_1_6 ++ (tables_1_7 ++ tables_1_8)))))) from List.mem_append_right _ (List.mem_append_right _ (List.mem_append_left _ (List.mem_of_getElem? h)))) hg
theorem tv_t4 {w : Cond} (i : Nat) (h : tables_1_4[i]? = some w) (hg : goodWord w = true) : w ∈ tv_tb := tv_mem_tb (show w ∈ tables_1_1 ++ (tables_1_2 ++ (tables_1_3 ++ (tables_1_4 ++ (tables_1_5 ++ (tables_1_6 ++ (tables_1_7 ++ tables_1_8)))))) from List.mem_append_right _ (List.mem_append_right _ (List.mem_append_right _ (List.mem_append_left _ (List.mem_of_getElem? h))))) hg
theorem tv_t5 {w : Cond} (i : Nat) (h : tables_1_5[i]? = some w) (hg : goodWord w = true) : w ∈ tv_tb := tv_mem_tb (show w ∈ tables_1_1 ++ (tables_1_2 ++ (tables_1_3 ++ (tables_1_4 ++ (tables_1_5 ++ (tables_1_6 ++ (tables_1_7 ++ tables_1_8)))))) from List.mem_append_right _ (List.mem_append_right _ (List.mem_append_right _ (List.mem_append_right _ (List.mem_append_left _ (List.mem_of_getElem? h)))))) hg
theorem tv_t6 {w : Cond} (i : Nat) (h : tables_1_6[i]? = some w) (hg : goodWord w = true) : w ∈ tv_tb := tv_mem_tb (show w ∈ tables_1_1 ++ (tables_1_2 ++ (tables_1_3 ++ (tables_1_4 ++ (tables_1_5 ++ (tables_1_6 ++ (tables_1_7 ++ tables_1_8)))))) from List.mem_append_right _ (List.mem_append_right _ (List.mem_append_right _ (List.mem_append_right _ (List.mem_append_right _ (List.mem_append_left _ (List.mem_of_getElem? h))))))) hg
theorem tv_t7 {w : Cond} (i : Nat) (h : tables_1_7[i]? = some w) (hg : goodWord w = true) : w ∈ tv_tb := tv_mem_tb (show w ∈ tables_1_1 ++ (tables_1_2 ++ (tables_1_3 ++ (tables_1_4 ++ (tables_1_5 ++ (tables_1_6 ++ (tables_1_7 ++ tables_1_8)))))) from List.mem_append_right _ (List.mem_append_right _ (List.mem_append_right _ (List.mem_append_right _ (List.mem_append_right _ (List.mem_append_right _ (List.mem_append_left _ (List.mem_of_getElem? h)))))))) hg
theorem tv_t8 {w : Cond} (i : Nat) (h : tables_1_8[i]? = some w) (hg : goodWord w = true) : w ∈ tv_tb := tv_mem_tb (show w ∈ tables_1_1 ++ (tables_1_2 ++ (tables_1_3 ++ (tables_1_4 ++ (tables_1_5 ++ (tables_1_6 ++ (tables_1_7 ++ tables_1_8)))))) from List.mem_append_right _ (List.mem_append_right _ (List.mem_append_right _ (List.mem_append_right _ (List.mem_append_right _ (List.mem_append_right _ (List.mem_append_right _ (List.mem_of_getElem? h)))))))) hg
theorem tv_pr1 {y : MethodName} {n : Nat} (i : Nat) (h : lw_privs_1[i]? = some (y, n)) : Cond.selects y.cls y y ∈ tv_tb := List.mem_filter.mpr ⟨List.mem_append_left _ (List.mem_map.mpr ⟨(y, n), (show (y, n) ∈ lw_privs_1 ++ (lw_privs_2 ++ (lw_privs_3 ++ (lw_privs_4 ++ (lw_privs_5 ++ lw_privs_6)))) from List.mem_append_left _ (List.mem_of_getElem? h)), rfl⟩), rfl⟩
theorem tv_pr2 {y : MethodName} {n : Nat} (i : Nat) (h : lw_privs_2[i]? = some (y, n)) : Cond.selects y.cls y y ∈ tv_tb := List.mem_filter.mpr ⟨List.mem_append_left _ (List.mem_map.mpr ⟨(y, n), (show (y, n) ∈ lw_privs_1 ++ (lw_privs_2 ++ (lw_privs_3 ++ (lw_privs_4 ++ (lw_privs_5 ++ lw_privs_6)))) from List.mem_append_right _ (List.mem_append_left _ (List.mem_of_getElem? h))), rfl⟩), rfl⟩
theorem tv_pr3 {y : MethodName} {n : Nat} (i : Nat) (h : lw_privs_3[i]? = some (y, n)) : Cond.selects y.cls y y ∈ tv_tb := List.mem_filter.mpr ⟨List.mem_append_left _ (List.mem_map.mpr ⟨(y, n), (show (y, n) ∈ lw_privs_1 ++ (lw_privs_2 ++ (lw_privs_3 ++ (lw_privs_4 ++ (lw_privs_5 ++ lw_privs_6)))) from List.mem_append_right _ (List.mem_append_right _ (List.mem_append_left _ (List.mem_of_getElem? h)))), rfl⟩), rfl⟩
theorem tv_pr4 {y : MethodName} {n : Nat} (i : Nat) (h : lw_privs_4[i]? = some (y, n)) : Cond.selects y.cls y y ∈ tv_tb := List.mem_filter.mpr ⟨List.mem_append_left _ (List.mem_map.mpr ⟨(y, n), (show (y, n) ∈ lw_privs_1 ++ (lw_privs_2 ++ (lw_privs_3 ++ (lw_privs_4 ++ (lw_privs_5 ++ lw_privs_6)))) from List.mem_append_right _ (List.mem_append_right _ (List.mem_append_right _ (List.mem_append_left _ (List.mem_of_getElem? h))))), rfl⟩), rfl⟩
theorem tv_pr5 {y : MethodName} {n : Nat} (i : Nat) (h : lw_privs_5[i]? = some (y, n)) : Cond.selects y.cls y y ∈ tv_tb := List.mem_filter.mpr ⟨List.mem_append_left _ (List.mem_map.mpr ⟨(y, n), (show (y, n) ∈ lw_privs_1 ++ (lw_privs_2 ++ (lw_privs_3 ++ (lw_privs_4 ++ (lw_privs_5 ++ lw_privs_6)))) from List.mem_append_right _ (List.mem_append_right _ (List.mem_append_right _ (List.mem_append_right _ (List.mem_append_left _ (List.mem_of_getElem? h)))))), rfl⟩), rfl⟩
theorem tv_pr6 {y : MethodName} {n : Nat} (i : Nat) (h : lw_privs_6[i]? = some (y, n)) : Cond.selects y.cls y y ∈ tv_tb := List.mem_filter.mpr ⟨List.mem_append_left _ (List.mem_map.mpr ⟨(y, n), (show (y, n) ∈ lw_privs_1 ++ (lw_privs_2 ++ (lw_privs_3 ++ (lw_privs_4 ++ (lw_privs_5 ++ lw_privs_6)))) from List.mem_append_right _ (List.mem_append_right _ (List.mem_append_right _ (List.mem_append_right _ (List.mem_append_right _ (List.mem_of_getElem? h)))))), rfl⟩), rfl⟩
/-! THE STRING CONSTANTS: a constant is its place w < 9 -/
def tv_gs {α : Type} (w : Nat) (o : Option α) : Option α := if w < 9 then o else none
def Js_length (_ : Nat) (w : Nat) (M : tv_M) : Option (Int32 × tv_M) := if w < 9 then some (Int32.ofNat (tv_slen.getD w 0), M) else none
def Js_charAt (_ : Nat) (w : Nat) (i : Int32) (M : tv_M) : Option (Int32 × tv_M) := if w < 9 then (if tv_inb i (tv_slen.getD w 0) then some ((((tv_sbyt.getD w []).getD i.toNatClampNeg 0 &&& 255).toUInt32 % 65536).toInt32, M) else none) else none
section TVS
variable {β β' : Type} {κ : tv_Kt} {own : String} {cc : ByteArray} {nL d pc w : Nat} {Q : β → tv_M → State → Prop} {ls ls' : List (Option Value)} {st stk : List Value} {M : tv_M} {o o1 o2 : Option (β × tv_M)} {x y : Int32} {u v : Int64}
theorem g_gs (h : w < 9 → tv_G κ nL Q pc ls st M o) : tv_G κ nL Q pc ls st M (tv_gs w o) := by
  unfold tv_gs
  split
  · exact h (by assumption)
  · exact g_none
theorem g_lds (hC : tv_Cx κ own cc nL d) (i : Nat) {idx : Nat} {tx : String} (hq : tv_strs[i]? = some (own, idx, tx)) (hd : decode cc pc = .ok (.ldc idx, 2)) (kk : tv_G κ nL Q (pc + 2) ls (.ref (κ.th.2.2.2.1 i) :: st) M o) : tv_G κ nL Q pc ls st M o := fun r M' ho H locs sl hP hS hl => va_ldcS hC.1.1 hC.1.2.1 hC.1.2.2.2.1 (hC.2.2.1.2.1 i _ hq) hd (kk r M' ho H locs sl hP hS hl)
theorem g_getSV (hC : tv_Cx κ own cc nL d) {idx : Nat} (hw : w < 9) (hl : Cond.fieldLink own idx "java/lang/String" "value" "[B" ∈ tv_tb) (hd : decode cc pc = .ok (.getfield idx, 3)) (kk : tv_G κ nL Q (pc + 3) ls (.ref (κ.th.2.2.2.2.1 w) :: st) M o) : tv_G κ nL Q pc ls (.ref (κ.th.2.2.2.1 w) :: st) M o := fun r M' ho H locs sl hP hS hl' => vk_getf hC.1.1 hC.1.2.1 (hC.2.2.1.2.2.1.1 w hw).2.2.1 hS hC.1.2.2.2.1 (hC.1.2.2.2.2 _ hl) (fun _ h => h) hd (kk r M' ho H locs sl hP hS hl')
theorem g_getSC (hC : tv_Cx κ own cc nL d) {idx : Nat} (hw : w < 9) (hl : Cond.fieldLink own idx "java/lang/String" "coder" "B" ∈ tv_tb) (hd : decode cc pc = .ok (.getfield idx, 3)) (kk : tv_G κ nL Q (pc + 3) ls (.int 0 :: st) M o) : tv_G κ nL Q pc ls (.ref (κ.th.2.2.2.1 w) :: st) M o := fun r M' ho H locs sl hP hS hl' => vk_getf hC.1.1 hC.1.2.1 (hC.2.2.1.2.2.1.1 w hw).2.1 hS hC.1.2.2.2.1 (hC.1.2.2.2.2 _ hl) (fun _ h => h) hd (kk r M' ho H locs sl hP hS hl')
theorem g_lenS (hC : tv_Cx κ own cc nL d) (hw : w < 9) (hd : decode cc pc = .ok (.arraylength, 1)) (hx : Int32.ofNat (tv_slen.getD w 0) = x) (kk : tv_G κ nL Q (pc + 1) ls (.int x :: st) M o) : tv_G κ nL Q pc ls (.ref (κ.th.2.2.2.2.1 w) :: st) M o := fun r M' ho H locs sl hP hS hl' => va_tlen hC.1.1 hC.1.2.1 (hC.2.2.1.2.2.1.1 w hw).2.2.2 hS hx hd (kk r M' ho H locs sl hP hS hl')
theorem g_balS (hC : tv_Cx κ own cc nL d) {i : Int32} (hw : w < 9) (hi : tv_inb i (tv_slen.getD w 0) = true) (hd : decode cc pc = .ok (.baload, 1)) (kk : tv_G κ nL Q (pc + 1) ls (.int ((tv_sbyt.getD w []).getD i.toNatClampNeg 0) :: st) M o) : tv_G κ nL Q pc ls (.int i :: .ref (κ.th.2.2.2.2.1 w) :: st) M o := fun r M' ho H locs sl hP hS hl' => va_tb hC.1.1 hC.1.2.1 (hC.2.2.1.2.2.1.1 w hw).2.2.2 hS (tv_inbP hi) rfl hd (kk r M' ho H locs sl hP hS hl')
theorem g_gets1 (hC : tv_Cx κ own cc nL d) {idx : Nat} (hl : Cond.fieldLink own idx "java/lang/String" "COMPACT_STRINGS" "Z" ∈ tv_tb) (hd : decode cc pc = .ok (.getstatic idx, 3)) (kk : tv_G κ nL Q (pc + 3) ls (.int 1 :: st) M o) : tv_G κ nL Q pc ls st M o := fun r M' ho H locs sl hP hS hl' => va_gets hC.1.1 hC.1.2.1 hC.2.2.1.2.2.2.1 hS hC.1.2.2.2.1 (hC.1.2.2.2.2 _ hl) (fun _ h => h) hd (kk r M' ho H locs sl hP hS hl')
theorem g_getsF (hC : tv_Cx κ own cc nL d) {idx : Nat} (hl : Cond.fieldLink own idx "jdk/internal/util/Preconditions" "SIOOBE_FORMATTER" "Ljava/util/function/BiFunction;" ∈ tv_tb) (hd : decode cc pc = .ok (.getstatic idx, 3)) (kk : ∀ a : Value, a.category = 1 → tv_G κ nL Q (pc + 3) ls (a :: st) M o) : tv_G κ nL Q pc ls st M o := fun r M' ho H locs sl hP hS hl' => by
  rcases hC.2.2.1.2.2.2.2.2 with h | ⟨t, h⟩
  · exact va_gets hC.1.1 hC.1.2.1 h hS hC.1.2.2.2.1 (hC.1.2.2.2.2 _ hl) (fun _ h => h) hd (kk _ rfl r M' ho H locs sl hP hS hl')
  · exact va_gets hC.1.1 hC.1.2.1 h hS hC.1.2.2.2.1 (hC.1.2.2.2.2 _ hl) (fun _ h => h) hd (kk _ rfl r M' ho H locs sl hP hS hl')
theorem g_nret (hC : tv_Cx κ own cc nL d) {ty : FieldType} (hR : tv_Re κ (some ty)) (hx : narrow ty (.int x) = .int x) (hd : decode cc pc = .ok (.ireturn, 1)) : tv_G κ nL (tv_Qm κ tv_ei) pc ls [.int x] M (some (x, M)) := by
  intro r M' ho H locs sl hP hS hl
  cases ho
  exact W.zret hC.1.1 hC.1.2.1 hR.1 hx (fun t ht hW => ⟨rfl, by rw [ht]; exact hP, hS.F ht⟩) hS.2.2 hd hR.2
theorem g_eqF (hC : tv_Cx κ own cc nL d) {off : Int} {tgt : Nat} (hd : decode cc pc = .ok (.ifCond .eq off, 3)) (ht : (pc : Int) + off = (tgt : Int)) (hx : ¬ x = 0) (k : tv_G κ nL Q (pc + 3) ls st M o) : tv_G κ nL Q pc ls (.int x :: st) M o := fun r M' ho H locs sl hP hS hl => lv_if_eq hC.1.1 hC.1.2.1 hd ht (fun h => absurd h hx) (fun _ => k r M' ho H locs sl hP hS hl)
theorem g_neF (hC : tv_Cx κ own cc nL d) {off : Int} {tgt : Nat} (hd : decode cc pc = .ok (.ifCond .ne off, 3)) (ht : (pc : Int) + off = (tgt : Int)) (hx : x = 0) (k : tv_G κ nL Q (pc + 3) ls st M o) : tv_G κ nL Q pc ls (.int x :: st) M o := fun r M' ho H locs sl hP hS hl => lv_if_ne hC.1.1 hC.1.2.1 hd ht (fun h => absurd hx h) (fun _ => k r M' ho H locs sl hP hS hl)
theorem g_ltF (hC : tv_Cx κ own cc nL d) {off : Int} {tgt : Nat} (hd : decode cc pc = .ok (.ifCond .lt off, 3)) (ht : (pc : Int) + off = (tgt : Int)) (hx : ¬ x < 0) (k : tv_G κ nL Q (pc + 3) ls st M o) : tv_G κ nL Q pc ls (.int x :: st) M o := fun r M' ho H locs sl hP hS hl => lv_if_lt hC.1.1 hC.1.2.1 hd ht (fun h => absurd h hx) (fun _ => k r M' ho H locs sl hP hS hl)
theorem g_icltT (hC : tv_Cx κ own cc nL d) {off : Int} {tgt : Nat} (hd : decode cc pc = .ok (.if_icmp .lt off, 3)) (ht : (pc : Int) + off = (tgt : Int)) (hx : x < y) (k : tv_G κ nL Q tgt ls st M o) : tv_G κ nL Q pc ls (.int y :: .int x :: st) M o := fun r M' ho H locs sl hP hS hl => lv_icmp_lt hC.1.1 hC.1.2.1 hd ht (fun _ => k r M' ho H locs sl hP hS hl) (fun h => absurd hx h)
/-- a call on a String constant -/
theorem gv_callXi (hC : tv_Cx κ own cc nL d) {idx n maxL d' : Nat} {y : MethodName} {bytes : ByteArray} {ret : Option FieldType} {oc : Option (Int32 × tv_M)} {f : Int32 → tv_M → Option (β × tv_M)} (As : List Value) {rest : List Value}
    (hw : tv_Vw own idx y bytes maxL ret n) (hM : tv_Ct κ.l κ.th y bytes maxL ret d' tv_ei (.ref (κ.th.2.2.2.1 w) :: As) M oc) (hw9 : w < 9) (hy : y.cls = "java/lang/String") (hn : As.length = n) (hst : stk = As.reverse ++ .ref (κ.th.2.2.2.1 w) :: rest) (hsum : Nat.ble ((rest.map fun v => v.category).sum) 8 = true) (hdep : Nat.ble (d' + 1) d = true) (hml : Nat.ble maxL 21 = true) (hd : decode cc pc = .ok (.invokevirtual idx, 3))
    (kk : ∀ (r1 : Int32) (M1 : tv_M), tv_G κ nL Q (pc + 3) ls (.int r1 :: rest) M1 (f r1 M1)) : tv_G κ nL Q pc ls stk M (tv_cb oc f) := by
  refine tv_cont (emb := tv_ei) (a := (.ref (κ.th.2.2.2.1 w) :: As).toArray) (rest := rest) ?_ kk
  intro r1 M1 hoc H locs sl hP hS hl
  have hrc := vk_recv (H := H) (locs := locs) hC.2.2.1.2.2.1 hw9 hS
  rw [← hy] at hrc
  exact va_runV (g := F0 κ.2.2.2.2.2.1 pc sl stk) (As := As) (rest := rest) hC.1 (hM r1 M1 hoc) (cwV n hC.1.2.2.2.2 (tv_goodV hw) rfl rfl rfl ⟨rfl, hw.2.2.2.2.2⟩ (tv_rmfit hC.2.2.2.1 hC.2.2.2.2.1 hdep hml)) ⟨tv_St.blind, hrc, tv_begin hC hP hS _⟩ rfl hn hl.1 hst (lv_room (Nat.le_of_ble_eq_true hsum)) hd ⟨hC.2.2.2.2.2.1, hC.2.2.2.2.2.2⟩
/-- the outcome is known -/
theorem g_eqo (e : o1 = o) (k : tv_G κ nL Q pc ls st M o1) : tv_G κ nL Q pc ls st M o := e ▸ k
end TVS
theorem js_v335 : tv_Vw "java/lang/String" 335 ⟨"java/lang/String", "coder", "()B"⟩ prog_17_method_152_code 1 (some .byte) 0 := ⟨tv_t3 114 rfl rfl, tv_t3 115 rfl rfl, tv_t3 116 rfl rfl, tv_t1 16 rfl rfl, tv_t3 117 rfl rfl, by decide +kernel, by decide +kernel, by decide +kernel⟩
theorem js_v492 : tv_Vw "java/lang/String" 492 ⟨"java/lang/String", "isLatin1", "()Z"⟩ prog_17_method_154_code 1 (some .boolean) 0 := ⟨tv_t3 124 rfl rfl, tv_t3 125 rfl rfl, tv_t3 126 rfl rfl, tv_t1 16 rfl rfl, tv_t3 127 rfl rfl, by decide +kernel, by decide +kernel, by decide +kernel⟩
theorem js_s495 : tv_Sw "java/lang/String" 495 ⟨"java/lang/StringLatin1", "charAt", "([BI)C"⟩ prog_18_method_2_code 2 (some .char) 2 := ⟨tv_t3 128 rfl rfl, tv_t3 129 rfl rfl, tv_t1 17 rfl rfl, tv_t3 130 rfl rfl, by decide +kernel, by decide +kernel, by decide +kernel⟩
theorem js_s9 : tv_Sw "java/lang/StringLatin1" 9 ⟨"java/lang/String", "checkIndex", "(II)V"⟩ prog_17_method_155_code 2 none 2 := ⟨tv_t3 131 rfl rfl, tv_t3 132 rfl rfl, tv_t1 16 rfl rfl, tv_t3 133 rfl rfl, by decide +kernel, by decide +kernel, by decide +kernel⟩
theorem js_s1059 : tv_Sw "java/lang/String" 1059 ⟨"jdk/internal/util/Preconditions", "checkIndex", "(IILjava/util/function/BiFunction;)I"⟩ prog_22_method_11_code 3 (some .int) 3 := ⟨tv_t3 136 rfl rfl, tv_t3 137 rfl rfl, tv_t1 18 rfl rfl, tv_t3 138 rfl rfl, by decide +kernel, by decide +kernel, by decide +kernel⟩
theorem js_f9 : Cond.fieldLink "java/lang/String" 9 "java/lang/String" "value" "[B" ∈ tv_tb := tv_t8 42 rfl rfl
theorem js_f15 : Cond.fieldLink "java/lang/String" 15 "java/lang/String" "coder" "B" ∈ tv_tb := tv_t8 43 rfl rfl
theorem js_f38 : Cond.fieldLink "java/lang/String" 38 "java/lang/String" "COMPACT_STRINGS" "Z" ∈ tv_tb := tv_t3 118 rfl rfl
theorem js_f1053 : Cond.fieldLink "java/lang/String" 1053 "jdk/internal/util/Preconditions" "SIOOBE_FORMATTER" "Ljava/util/function/BiFunction;" ∈ tv_tb := tv_t3 134 rfl rfl
theorem js_cod_0 : decode prog_17_method_152_code 0 = .ok (.getstatic 38, 3) := by decide +kernel
theorem js_cod_3 : decode prog_17_method_152_code 3 = .ok (.ifCond .eq 10, 3) := by decide +kernel
theorem js_cod_6 : decode prog_17_method_152_code 6 = .ok (.aload_n 0, 1) := by decide +kernel
theorem js_cod_7 : decode prog_17_method_152_code 7 = .ok (.getfield 15, 3) := by decide +kernel
theorem js_cod_10 : decode prog_17_method_152_code 10 = .ok (.goto 4, 3) := by decide +kernel
theorem js_cod_13 : decode prog_17_method_152_code 13 = .ok (.iconst 1, 1) := by decide +kernel
theorem js_cod_14 : decode prog_17_method_152_code 14 = .ok (.ireturn, 1) := by decide +kernel
theorem js_len_0 : decode prog_17_method_54_code 0 = .ok (.aload_n 0, 1) := by decide +kernel
theorem js_len_1 : decode prog_17_method_54_code 1 = .ok (.getfield 9, 3) := by decide +kernel
theorem js_len_4 : decode prog_17_method_54_code 4 = .ok (.arraylength, 1) := by decide +kernel
theorem js_len_5 : decode prog_17_method_54_code 5 = .ok (.aload_n 0, 1) := by decide +kernel
theorem js_len_6 : decode prog_17_method_54_code 6 = .ok (.invokevirtual 335, 3) := by decide +kernel
theorem js_len_9 : decode prog_17_method_54_code 9 = .ok (.ishr, 1) := by decide +kernel
theorem js_len_10 : decode prog_17_method_54_code 10 = .ok (.ireturn, 1) := by decide +kernel
theorem js_lat_0 : decode prog_17_method_154_code 0 = .ok (.getstatic 38, 3) := by decide +kernel
theorem js_lat_3 : decode prog_17_method_154_code 3 = .ok (.ifCond .eq 14, 3) := by decide +kernel
theorem js_lat_6 : decode prog_17_method_154_code 6 = .ok (.aload_n 0, 1) := by decide +kernel
theorem js_lat_7 : decode prog_17_method_154_code 7 = .ok (.getfield 15, 3) := by decide +kernel
theorem js_lat_10 : decode prog_17_method_154_code 10 = .ok (.ifCond .ne 7, 3) := by decide +kernel
theorem js_lat_13 : decode prog_17_method_154_code 13 = .ok (.iconst 1, 1) := by decide +kernel
theorem js_lat_14 : decode prog_17_method_154_code 14 = .ok (.goto 4, 3) := by decide +kernel
theorem js_lat_17 : decode prog_17_method_154_code 17 = .ok (.iconst 0, 1) := by decide +kernel
theorem js_lat_18 : decode prog_17_method_154_code 18 = .ok (.ireturn, 1) := by decide +kernel
theorem js_chr_0 : decode prog_17_method_56_code 0 = .ok (.aload_n 0, 1) := by decide +kernel
theorem js_chr_1 : decode prog_17_method_56_code 1 = .ok (.invokevirtual 492, 3) := by decide +kernel
theorem js_chr_4 : decode prog_17_method_56_code 4 = .ok (.ifCond .eq 12, 3) := by decide +kernel
theorem js_chr_7 : decode prog_17_method_56_code 7 = .ok (.aload_n 0, 1) := by decide +kernel
theorem js_chr_8 : decode prog_17_method_56_code 8 = .ok (.getfield 9, 3) := by decide +kernel
theorem js_chr_11 : decode prog_17_method_56_code 11 = .ok (.iload_n 1, 1) := by decide +kernel
theorem js_chr_12 : decode prog_17_method_56_code 12 = .ok (.invokestatic 495, 3) := by decide +kernel
theorem js_chr_15 : decode prog_17_method_56_code 15 = .ok (.ireturn, 1) := by decide +kernel
theorem js_chr_16 : decode prog_17_method_56_code 16 = .ok (.aload_n 0, 1) := by decide +kernel
theorem js_chr_17 : decode prog_17_method_56_code 17 = .ok (.getfield 9, 3) := by decide +kernel
theorem js_chr_20 : decode prog_17_method_56_code 20 = .ok (.iload_n 1, 1) := by decide +kernel
theorem js_chr_21 : decode prog_17_method_56_code 21 = .ok (.invokestatic 498, 3) := by decide +kernel
theorem js_chr_24 : decode prog_17_method_56_code 24 = .ok (.ireturn, 1) := by decide +kernel
theorem js_sck_0 : decode prog_17_method_155_code 0 = .ok (.iload_n 0, 1) := by decide +kernel
theorem js_sck_1 : decode prog_17_method_155_code 1 = .ok (.iload_n 1, 1) := by decide +kernel
theorem js_sck_2 : decode prog_17_method_155_code 2 = .ok (.getstatic 1053, 3) := by decide +kernel
theorem js_sck_5 : decode prog_17_method_155_code 5 = .ok (.invokestatic 1059, 3) := by decide +kernel
theorem js_sck_8 : decode prog_17_method_155_code 8 = .ok (.pop, 1) := by decide +kernel
theorem js_sck_9 : decode prog_17_method_155_code 9 = .ok (.return_, 1) := by decide +kernel
theorem js_lch_0 : decode prog_18_method_2_code 0 = .ok (.iload_n 1, 1) := by decide +kernel
theorem js_lch_1 : decode prog_18_method_2_code 1 = .ok (.aload_n 0, 1) := by decide +kernel
theorem js_lch_2 : decode prog_18_method_2_code 2 = .ok (.arraylength, 1) := by decide +kernel
theorem js_lch_3 : decode prog_18_method_2_code 3 = .ok (.invokestatic 9, 3) := by decide +kernel
theorem js_lch_6 : decode prog_18_method_2_code 6 = .ok (.aload_n 0, 1) := by decide +kernel
theorem js_lch_7 : decode prog_18_method_2_code 7 = .ok (.iload_n 1, 1) := by decide +kernel
theorem js_lch_8 : decode prog_18_method_2_code 8 = .ok (.baload, 1) := by decide +kernel
theorem js_lch_9 : decode prog_18_method_2_code 9 = .ok (.sipush 255, 3) := by decide +kernel
theorem js_lch_12 : decode prog_18_method_2_code 12 = .ok (.iand, 1) := by decide +kernel
theorem js_lch_13 : decode prog_18_method_2_code 13 = .ok (.i2c, 1) := by decide +kernel
theorem js_lch_14 : decode prog_18_method_2_code 14 = .ok (.ireturn, 1) := by decide +kernel
theorem js_pck_0 : decode prog_22_method_11_code 0 = .ok (.iload_n 0, 1) := by decide +kernel
theorem js_pck_1 : decode prog_22_method_11_code 1 = .ok (.ifCond .lt 8, 3) := by decide +kernel
theorem js_pck_4 : decode prog_22_method_11_code 4 = .ok (.iload_n 0, 1) := by decide +kernel
theorem js_pck_5 : decode prog_22_method_11_code 5 = .ok (.iload_n 1, 1) := by decide +kernel
theorem js_pck_6 : decode prog_22_method_11_code 6 = .ok (.if_icmp .lt 10, 3) := by decide +kernel
theorem js_pck_9 : decode prog_22_method_11_code 9 = .ok (.aload_n 2, 1) := by decide +kernel
theorem js_pck_10 : decode prog_22_method_11_code 10 = .ok (.iload_n 0, 1) := by decide +kernel
theorem js_pck_11 : decode prog_22_method_11_code 11 = .ok (.iload_n 1, 1) := by decide +kernel
theorem js_pck_12 : decode prog_22_method_11_code 12 = .ok (.invokestatic 95, 3) := by decide +kernel
theorem js_pck_16 : decode prog_22_method_11_code 16 = .ok (.iload_n 0, 1) := by decide +kernel
theorem js_pck_17 : decode prog_22_method_11_code 17 = .ok (.ireturn, 1) := by decide +kernel
theorem Js_coder_c {l : Launch} {θ : tv_Th} (w : Nat) (hw : w < 9) (M : tv_M) : tv_Ct l θ ⟨"java/lang/String", "coder", "()B"⟩ prog_17_method_152_code 1 (some .byte) 0 tv_ei [.ref (θ.2.2.2.1 w)] M (some (0, M)) := by
  refine tv_ofG [some (.ref (θ.2.2.2.1 w))] rfl rfl (tv_ent 0 rfl) ?_
  intro κ hl ht hC hR
  subst hl; subst ht
  refine g_gets1 hC js_f38 js_cod_0 ?_
  refine g_eqF (tgt := 13) hC js_cod_3 (by decide) (by decide) ?_
  refine g_aload_n hC js_cod_6 rfl ?_
  refine g_getSC hC hw js_f15 js_cod_7 ?_
  refine g_goto (tgt := 14) hC js_cod_10 (by decide) ?_
  exact g_nret hC hR (by decide) js_cod_14
theorem Js_lat_c {l : Launch} {θ : tv_Th} (w : Nat) (hw : w < 9) (M : tv_M) : tv_Ct l θ ⟨"java/lang/String", "isLatin1", "()Z"⟩ prog_17_method_154_code 1 (some .boolean) 0 tv_ei [.ref (θ.2.2.2.1 w)] M (some (1, M)) := by
  refine tv_ofG [some (.ref (θ.2.2.2.1 w))] rfl rfl (tv_ent 0 rfl) ?_
  intro κ hl ht hC hR
  subst hl; subst ht
  refine g_gets1 hC js_f38 js_lat_0 ?_
  refine g_eqF (tgt := 17) hC js_lat_3 (by decide) (by decide) ?_
  refine g_aload_n hC js_lat_6 rfl ?_
  refine g_getSC hC hw js_f15 js_lat_7 ?_
  refine g_neF (tgt := 17) hC js_lat_10 (by decide) rfl ?_
  refine g_iconst (x := 1) hC js_lat_13 (by decide) ?_
  refine g_goto (tgt := 18) hC js_lat_14 (by decide) ?_
  exact g_nret hC hR (by decide) js_lat_18
theorem Js_shr0 : ∀ w, w < 9 → Int32.ofNat (tv_slen.getD w 0) >>> ((0 : Int32) &&& 31) = Int32.ofNat (tv_slen.getD w 0) := by decide +kernel
theorem Js_length_k {l : Launch} {θ : tv_Th} (w : Nat) (hw : w < 9) (M : tv_M) : tv_Ct l θ ⟨"java/lang/String", "length", "()I"⟩ prog_17_method_54_code 1 (some .int) 1 tv_ei [.ref (θ.2.2.2.1 w)] M (some (Int32.ofNat (tv_slen.getD w 0), M)) := by
  refine tv_ofG [some (.ref (θ.2.2.2.1 w))] rfl rfl (tv_ent 0 rfl) ?_
  intro κ hl ht hC hR
  subst hl; subst ht
  refine g_aload_n hC js_len_0 rfl ?_
  refine g_getSV hC hw js_f9 js_len_1 ?_
  refine g_lenS hC hw js_len_4 rfl ?_
  refine g_aload_n hC js_len_5 rfl ?_
  refine g_eqo (o1 := tv_cb (some ((0 : Int32), M)) (fun r M1 => some (Int32.ofNat (tv_slen.getD w 0) >>> (r &&& 31), M1))) (by show some (_, M) = _; rw [Js_shr0 w hw]) ?_
  refine gv_callXi (w := w) hC [] js_v335 (Js_coder_c w hw M) hw rfl rfl rfl rfl rfl rfl js_len_6 (fun r M1 => ?_)
  refine g_ishr hC js_len_9 ?_
  exact g_iret hC hR js_len_10
theorem Js_length_c {l : Launch} {θ : tv_Th} (F : Nat) (w : Nat) (M : tv_M) : tv_Ct l θ ⟨"java/lang/String", "length", "()I"⟩ prog_17_method_54_code 1 (some .int) 1 tv_ei [.ref (θ.2.2.2.1 w)] M (Js_length F w M) := by
  unfold Js_length
  by_cases hw : w < 9
  · rw [if_pos hw]
    exact Js_length_k w hw M
  · rw [if_neg hw]
    intro r M1 ho
    cases ho
theorem Js_pck_c {l : Launch} {θ : tv_Th} (i n : Int32) (f : Value) (hf : f.category = 1) (h1 : ¬ i < 0) (h2 : i < n) (M : tv_M) : tv_Ct l θ ⟨"jdk/internal/util/Preconditions", "checkIndex", "(IILjava/util/function/BiFunction;)I"⟩ prog_22_method_11_code 3 (some .int) 0 tv_ei [.int i, .int n, f] M (some (i, M)) := by
  refine tv_ofG [some (.int i), some (.int n), none] rfl (by simp only [lg_sl, List.flatMap_cons, List.flatMap_nil, hf]; rfl) ?_ ?_
  · intro j v hv
    match j, hv with
    | 0, hv => cases hv; exact List.mem_cons_self
    | 1, hv => cases hv; exact List.mem_cons_of_mem _ List.mem_cons_self
    | 2, hv => simp at hv
    | j + 3, hv => simp at hv
  intro κ hl ht hC hR
  subst hl; subst ht
  refine g_iload_n hC js_pck_0 rfl ?_
  refine g_ltF (tgt := 9) hC js_pck_1 (by decide) h1 ?_
  refine g_iload_n hC js_pck_4 rfl ?_
  refine g_iload_n hC js_pck_5 rfl ?_
  refine g_icltT (tgt := 16) hC js_pck_6 (by decide) h2 ?_
  refine g_iload_n hC js_pck_16 rfl ?_
  exact g_iret hC hR js_pck_17
theorem Js_sck_c {l : Launch} {θ : tv_Th} (i n : Int32) (h1 : ¬ i < 0) (h2 : i < n) (M : tv_M) : tv_Ct l θ ⟨"java/lang/String", "checkIndex", "(II)V"⟩ prog_17_method_155_code 2 none 1 tv_ev [.int i, .int n] M (some ((), M)) := by
  refine tv_ofG [some (.int i), some (.int n)] rfl rfl (tv_ent 0 rfl) ?_
  intro κ hl ht hC hR
  subst hl; subst ht
  refine g_iload_n hC js_sck_0 rfl ?_
  refine g_iload_n hC js_sck_1 rfl ?_
  refine g_getsF hC js_f1053 js_sck_2 (fun f hf => ?_)
  refine g_eqo (o1 := tv_cb (some (i, M)) (fun _ M1 => some ((), M1))) rfl ?_
  refine gv_callSi hC [.int i, .int n, f] js_s1059 (Js_pck_c i n f hf h1 h2 M) rfl rfl rfl rfl rfl js_sck_5 (fun r M1 => ?_)
  refine g_pop hC js_sck_8 rfl ?_
  exact g_vret hC hR js_sck_9
theorem Js_in {i : Int32} {w : Nat} (hw : w < 9) (hi : tv_inb i (tv_slen.getD w 0) = true) : ¬ i < 0 ∧ i < Int32.ofNat (tv_slen.getD w 0) := by
  have h := tv_inbP hi
  have hn : tv_slen.getD w 0 < 2 ^ 31 := by
    have e : ∀ w, w < 9 → tv_slen.getD w 0 < 2 ^ 31 := by decide +kernel
    exact e w hw
  obtain ⟨j, h1, h2⟩ := vp_in_of h hn
  subst h2
  exact ⟨nI_pos (by omega), nI_lt h1 hn⟩
theorem Js_nar (b : Int32) : narrow .char (.int (((b &&& 255).toUInt32 % 65536).toInt32)) = .int (((b &&& 255).toUInt32 % 65536).toInt32) := by
  rw [sc_c2]
  exact sc_nar b
theorem Js_lch_c {l : Launch} {θ : tv_Th} (w : Nat) (i : Int32) (hw : w < 9) (hi : tv_inb i (tv_slen.getD w 0) = true) (M : tv_M) : tv_Ct l θ ⟨"java/lang/StringLatin1", "charAt", "([BI)C"⟩ prog_18_method_2_code 2 (some .char) 2 tv_ei [.ref (θ.2.2.2.2.1 w), .int i] M (some ((((tv_sbyt.getD w []).getD i.toNatClampNeg 0 &&& 255).toUInt32 % 65536).toInt32, M)) := by
  refine tv_ofG [some (.ref (θ.2.2.2.2.1 w)), some (.int i)] rfl rfl (tv_ent 0 rfl) ?_
  intro κ hl ht hC hR
  subst hl; subst ht
  refine g_iload_n hC js_lch_0 rfl ?_
  refine g_aload_n hC js_lch_1 rfl ?_
  refine g_lenS hC hw js_lch_2 rfl ?_
  refine g_eqo (o1 := tv_cb (some ((), M)) (fun _ M1 => some ((((tv_sbyt.getD w []).getD i.toNatClampNeg 0 &&& 255).toUInt32 % 65536).toInt32, M1))) rfl ?_
  refine gv_callSv hC [.int i, .int (Int32.ofNat (tv_slen.getD w 0))] js_s9 (Js_sck_c i _ (Js_in hw hi).1 (Js_in hw hi).2 M) rfl rfl rfl rfl rfl js_lch_3 (fun r M1 => ?_)
  refine g_aload_n hC js_lch_6 rfl ?_
  refine g_iload_n hC js_lch_7 rfl ?_
  refine g_balS hC hw hi js_lch_8 ?_
  refine g_sipush (x := 255) hC js_lch_9 (by decide) ?_
  refine g_iand hC js_lch_12 ?_
  refine g_i2c hC js_lch_13 ?_
  exact g_nret hC hR (Js_nar _) js_lch_14
theorem Js_charAt_k {l : Launch} {θ : tv_Th} (w : Nat) (i : Int32) (hw : w < 9) (hi : tv_inb i (tv_slen.getD w 0) = true) (M : tv_M) : tv_Ct l θ ⟨"java/lang/String", "charAt", "(I)C"⟩ prog_17_method_56_code 2 (some .char) 3 tv_ei [.ref (θ.2.2.2.1 w), .int i] M (some ((((tv_sbyt.getD w []).getD i.toNatClampNeg 0 &&& 255).toUInt32 % 65536).toInt32, M)) := by
  refine tv_ofG [some (.ref (θ.2.2.2.1 w)), some (.int i)] rfl rfl (tv_ent 0 rfl) ?_
  intro κ hl ht hC hR
  subst hl; subst ht
  refine g_aload_n hC js_chr_0 rfl ?_
  refine g_eqo (o1 := tv_cb (some ((1 : Int32), M)) (fun r M1 => if r = 0 then none else tv_cb (some ((((tv_sbyt.getD w []).getD i.toNatClampNeg 0 &&& 255).toUInt32 % 65536).toInt32, M1)) (fun r M2 => if narrow .char (.int r) = .int r then some (r, M2) else none))) (by simp only [tv_cb]; rw [if_neg (by decide), if_pos (Js_nar _)]) ?_
  refine gv_callXi (w := w) hC [] js_v492 (Js_lat_c w hw M) hw rfl rfl rfl rfl rfl rfl js_chr_1 (fun r M1 => ?_)
  refine g_if_eq (tgt := 16) hC js_chr_4 (by decide) (fun _ => g_none) (fun _ => ?_)
  refine g_aload_n hC js_chr_7 rfl ?_
  refine g_getSV hC hw js_f9 js_chr_8 ?_
  refine g_iload_n hC js_chr_11 rfl ?_
  refine gv_callSi hC [.ref (κ.th.2.2.2.2.1 w), .int i] js_s495 (Js_lch_c w i hw hi M1) rfl rfl rfl rfl rfl js_chr_12 (fun r M2 => ?_)
  refine g_ite (fun hn => ?_) (fun _ => g_none)
  exact g_nret hC hR hn js_chr_15
theorem Js_charAt_c {l : Launch} {θ : tv_Th} (F : Nat) (w : Nat) (i : Int32) (M : tv_M) : tv_Ct l θ ⟨"java/lang/String", "charAt", "(I)C"⟩ prog_17_method_56_code 2 (some .char) 3 tv_ei [.ref (θ.2.2.2.1 w), .int i] M (Js_charAt F w i M) := by
  unfold Js_charAt
  by_cases hw : w < 9
  · rw [if_pos hw]
    by_cases hi : tv_inb i (tv_slen.getD w 0) = true
    · rw [if_pos hi]
      exact Js_charAt_k w i hw hi M
    · rw [if_neg hi]
      intro r M1 ho
      cases ho
  · rw [if_neg hw]
    intro r M1 ho
    cases ho
end
section
/-! THE BUILDING: the same judgement while the cells are being made; memory: ints, longs, references, how many cells there are -/
abbrev tb_M : Type := (Nat → Nat → Int32) × (Nat → Nat → Int64) × (Nat → Nat → Option Nat) × Nat
abbrev tb_M.n (B : tb_M) : Nat := B.2.2.2
def tb_one (q : Nat × Nat) : Nat := if q.1 < 13 then tv_nf.getD q.1 0 else q.2
def tb_sz (n : Nat) : Nat := ((tv_lay.take n).map tb_one).sum
theorem tb_sz_succ {n : Nat} {q : Nat × Nat} (h : tv_lay[n]? = some q) : tb_sz (n + 1) = tb_sz n + tb_one q := by
  unfold tb_sz
  rw [List.take_succ, h]
  simp
theorem tb_sz_le (n m : Nat) : tb_sz n ≤ tb_sz (n + m) := by
  induction m with
  | zero => exact Nat.le_refl _
  | succ m ih =>
    refine Nat.le_trans ih ?_
    cases h : tv_lay[n + m]? with
    | none =>
      unfold tb_sz
      rw [show n + (m + 1) = n + m + 1 by omega, List.take_succ, h]
      simp
    | some q =>
      rw [show n + (m + 1) = n + m + 1 by omega, tb_sz_succ h]
      exact Nat.le_add_right _ _
theorem tb_sz_mono {n m : Nat} (h : n ≤ m) : tb_sz n ≤ tb_sz m := by
  obtain ⟨k, rfl⟩ := Nat.exists_eq_add_of_le h
  exact tb_sz_le n k
def tb_V (θ : tv_Th) (B : tb_M) (H : Heap) : Prop := va_P θ.2.1 tv_cl (tv_ws θ.1 θ.2.2.1 B.n B.1 B.2.1 B.2.2.1) H ∧ ∀ k, B.n ≤ k → B.1 k = (fun _ => 0) ∧ B.2.1 k = (fun _ => 0) ∧ B.2.2.1 k = (fun _ => none)
def tb_St (θ : tv_Th) (B : tb_M) (U : State) : Prop := tb_V θ B U.heap ∧ U.heap.size = θ.1 + B.n ∧ va_K θ.2.1 tv_cl (tv_tys θ.2.2.1) U ∧ tv_X θ.1 θ.2.2.2.1 θ.2.2.2.2.1 θ.2.2.2.2.2 U U.heap
abbrev tb_W (κ : tv_Kt) (B : tb_M) (H : Heap) (locs : List Loc) (Q : State → Prop) (pc : Nat) (sl : Array Slot) (st : List Value) : Prop := W κ.1 κ.2.1 κ.2.2.1 κ.2.2.2.1 κ.2.2.2.2.1 κ.2.2.2.2.2.1 κ.2.2.2.2.2.2.1 κ.2.2.2.2.2.2.2.1 κ.2.2.2.2.2.2.2.2.1 κ.2.2.2.2.2.2.2.2.2.1 H locs (B.n - κ.ce) (tb_sz B.n - tb_sz κ.ce) Q (F0 κ.2.2.2.2.2.1 pc sl st)
def tb_Cx (κ : tv_Kt) (own : String) (cc : ByteArray) (nL d : Nat) : Prop :=
  (κ.1.tables.exec = Jvm.exec ∧ κ.2.2.2.2.2.2.2.2.2.1.code = cc ∧ κ.2.2.2.2.2.2.2.2.2.1.maxLocals = nL ∧ κ.s.vm.findClass own = some κ.2.2.2.2.2.1.cls ∧ ∀ w ∈ tv_tb, w.before κ.2.2.2.2.2.2.1 κ.s = true) ∧ va_K κ.th.2.1 tv_cl (tv_tys κ.th.2.2.1) κ.s ∧ tv_X κ.th.1 κ.th.2.2.2.1 κ.th.2.2.2.2.1 κ.th.2.2.2.2.2 κ.s κ.s.heap ∧ d ≤ κ.2.2.2.1.frames ∧ 40 * d ≤ κ.2.2.2.1.locals ∧ κ.sz - κ.ce ≤ κ.2.2.2.1.cells ∧ tb_sz κ.sz - tb_sz κ.ce ≤ κ.2.2.2.1.slots ∧ κ.s.heap.size = κ.b + κ.ce
/-- κ.ce: how many cells there were at the start; κ.sz: how many there are at the end -/
def tb_G {β : Type} (κ : tv_Kt) (nL : Nat) (Q : β → tb_M → State → Prop) (pc : Nat) (ls : List (Option Value)) (st : List Value) (M : tb_M) (o : Option (β × tb_M)) : Prop :=
  ∀ (r : β) (M' : tb_M), (o = some (r, M') ∧ M'.n = κ.sz) → ∀ (H : Heap) (locs : List Loc) (sl : Array Slot), (tb_V κ.th M H ∧ κ.ce ≤ M.n) → va_S (tv_A κ.b) κ.s.heap H locs → tv_lo sl nL ls → tb_W κ M H locs (Q r M') pc sl st
theorem tb_size {κ : tv_Kt} {own : String} {cc : ByteArray} {nL d : Nat} {M : tb_M} {H : Heap} {locs : List Loc} {T : State} (hC : tb_Cx κ own cc nL d) (hV : tb_V κ.th M H ∧ κ.ce ≤ M.n) (hS : va_S (tv_A κ.b) κ.s.heap H locs) (hT : T.heap = H) (X : Stand κ.1 κ.2.1 κ.2.2.1 κ.2.2.2.1 κ.2.2.2.2.1 κ.2.2.2.2.2.1 κ.2.2.2.2.2.2.1 κ.2.2.2.2.2.2.2.1 κ.2.2.2.2.2.2.2.2.1 κ.2.2.2.2.2.2.2.2.2.1 T locs (M.n - κ.ce) (tb_sz M.n - tb_sz κ.ce)) : H.size = κ.b + M.n := by
  have h1 := X.heapSize
  rw [hT] at h1
  have h2 : κ.2.2.2.2.1.heap.size = κ.b + κ.ce := hC.2.2.2.2.2.2.2
  have h3 := hS.1
  have h4 := hV.2
  have h5 : κ.s.heap.size = κ.b + κ.ce := h2
  by_cases h : M.n = κ.ce
  · omega
  · have hk : M.n - 1 < (tv_ws κ.th.1 κ.th.2.2.1 M.n M.1 M.2.1 M.2.2.1).length := by rw [tv_len]; omega
    have hg := List.getElem?_eq_getElem hk
    have hl := (hV.1.1 _ _ hg).lt
    have he := (tv_ws_at hg).2
    rw [he] at hl
    have : κ.b = κ.th.1 := rfl
    omega
theorem tb_ws_succ {b n : Nat} {cA : Nat → ClassId} {I : Nat → Nat → Int32} {J : Nat → Nat → Int64} {P : Nat → Nat → Option Nat} {q : Nat × Nat} (h : tv_lay[n]? = some q) : tv_ws b cA (n + 1) I J P = tv_ws b cA n I J P ++ [(b + n, tv_E b cA I J P n q)] := by
  unfold tv_ws
  rw [List.range_succ, List.map_append]
  simp [List.getD_eq_getElem?_getD, h]
/-- the world with one more cell -/
theorem tb_grow {θ : tv_Th} {M : tb_M} {H H1 : Heap} {q : Nat × Nat} (hV : tb_V θ M H) (hq : tv_lay[M.n]? = some q) (ho : ∀ k, k < H.size → H1[k]? = H[k]?) (hc : va_at θ.2.1 tv_cl (θ.1 + M.n, tv_E θ.1 θ.2.2.1 M.1 M.2.1 M.2.2.1 M.n q) H1) : tb_V θ (M.1, M.2.1, M.2.2.1, M.n + 1) H1 := by
  refine ⟨?_, fun k hk => hV.2 k (Nat.le_of_succ_le hk)⟩
  show va_P _ _ (tv_ws θ.1 θ.2.2.1 (M.n + 1) M.1 M.2.1 M.2.2.1) H1
  rw [tb_ws_succ hq]
  refine (hV.1.kept (fun k x hx => ho x.1 ((hV.1 k x hx).lt))).app (fun k x hx => ?_)
  have hz : k < 1 := (List.getElem?_eq_some_iff.mp hx).1
  rw [show k = 0 by omega] at hx
  cases hx
  exact hc
def tb_wI (B : tb_M) (k j : Nat) (x : Int32) : tb_M := (fun a i => if a = k ∧ i = j then x else B.1 a i, B.2.1, B.2.2.1, B.2.2.2)
def tb_wP (B : tb_M) (k j p : Nat) : tb_M := (B.1, B.2.1, fun a i => if a = k ∧ i = j then some p else B.2.2.1 a i, B.2.2.2)
abbrev tb_ok (B : tb_M) (k ci : Nat) : Prop := k < B.n ∧ (tv_lay[k]?).map Prod.fst = some ci
def tb_up (B : tb_M) : tb_M := (B.1, B.2.1, B.2.2.1, B.2.2.2 + 1)
theorem tb_dfl : ∀ ci, ci < 13 → ∀ j, j < tv_nf.getD ci 0 → defaultValue (tv_tyf ci j) = if (tv_rf.getD ci []).getD j false then .null else .int 0 := by decide +kernel
theorem tb_ob_setP {b ci N j p k : Nat} {I : Nat → Nat → Int32} {P P' : Nat → Nat → Option Nat} (hj : j < N) (hr : (tv_rf.getD ci []).getD j false = true) (h1 : ∀ i, i ≠ j → P' k i = P k i) (h2 : P' k j = some p) : tv_ob b ci N I P' k = (tv_ob b ci N I P k).set j (.ref (b + p)) := by
  apply List.ext_getElem?
  intro i
  by_cases hi : i < N
  · by_cases hij : i = j
    · subst hij
      rw [List.getElem?_set_self (by simp [tv_ob]; exact hi), tv_ob_r hi hr, h2]
      rfl
    · rw [List.getElem?_set_ne (Ne.symm hij)]
      unfold tv_ob
      rw [List.getElem?_map, List.getElem?_map, List.getElem?_range hi]
      simp only [Option.map_some, h1 i hij]
  · rw [List.getElem?_eq_none (by simp [tv_ob]; omega), List.getElem?_eq_none (by simp [tv_ob]; omega)]
section TBR
variable {β β' : Type} {κ : tv_Kt} {own : String} {cc : ByteArray} {nL d pc : Nat} {Q : β → tb_M → State → Prop} {ls ls' : List (Option Value)} {st stk : List Value} {M : tb_M} {o o1 o2 : Option (β × tb_M)} {x y : Int32} {u v : Int64}
theorem b_iconst (hC : tb_Cx κ own cc nL d) {n : Int} (hd : decode cc pc = .ok (.iconst n, 1)) (hv : Int32.ofInt n = x) (k : tb_G κ nL Q (pc + 1) ls (.int x :: st) M o) : tb_G κ nL Q pc ls st M o := fun r M' ho H locs sl hP hS hl => lv_iconst hC.1.1 hC.1.2.1 hd hv (k r M' ho H locs sl hP hS hl)
theorem b_bipush (hC : tb_Cx κ own cc nL d) {n : Int} (hd : decode cc pc = .ok (.bipush n, 2)) (hv : (Int8.ofInt n).toInt32 = x) (k : tb_G κ nL Q (pc + 2) ls (.int x :: st) M o) : tb_G κ nL Q pc ls st M o := fun r M' ho H locs sl hP hS hl => lv_bipush hC.1.1 hC.1.2.1 hd hv (k r M' ho H locs sl hP hS hl)
theorem b_sipush (hC : tb_Cx κ own cc nL d) {n : Int} (hd : decode cc pc = .ok (.sipush n, 3)) (hv : (Int16.ofInt n).toInt32 = x) (k : tb_G κ nL Q (pc + 3) ls (.int x :: st) M o) : tb_G κ nL Q pc ls st M o := fun r M' ho H locs sl hP hS hl => lv_sipush hC.1.1 hC.1.2.1 hd hv (k r M' ho H locs sl hP hS hl)
theorem b_ldc (hC : tb_Cx κ own cc nL d) {i : Nat} (hd : decode cc pc = .ok (.ldc i, 2)) (hw : Cond.constant own i x ∈ tv_tb) (k : tb_G κ nL Q (pc + 2) ls (.int x :: st) M o) : tb_G κ nL Q pc ls st M o := fun r M' ho H locs sl hP hS hl => lv_ldc hC.1.1 hC.1.2.1 hC.1.2.2.2.1 (hC.1.2.2.2.2 _ hw) hd (k r M' ho H locs sl hP hS hl)
theorem b_iload_n (hC : tb_Cx κ own cc nL d) {i : Fin 4} (hd : decode cc pc = .ok (.iload_n i, 1)) (hv : ls[(i : Nat)]? = some (some (.int x))) (k : tb_G κ nL Q (pc + 1) ls (.int x :: st) M o) : tb_G κ nL Q pc ls st M o := fun r M' ho H locs sl hP hS hl => lv_iload_n hC.1.1 hC.1.2.1 hd rfl (hl.2.2 _ _ hv) (k r M' ho H locs sl hP hS hl)
theorem b_iload (hC : tb_Cx κ own cc nL d) {i : Nat} (hd : decode cc pc = .ok (.iload i, 2)) (hv : ls[i]? = some (some (.int x))) (k : tb_G κ nL Q (pc + 2) ls (.int x :: st) M o) : tb_G κ nL Q pc ls st M o := fun r M' ho H locs sl hP hS hl => lv_iload hC.1.1 hC.1.2.1 hd (hl.2.2 _ _ hv) (k r M' ho H locs sl hP hS hl)
theorem b_aload_n (hC : tb_Cx κ own cc nL d) {i : Fin 4} {a : Nat} (hd : decode cc pc = .ok (.aload_n i, 1)) (hv : ls[(i : Nat)]? = some (some (.ref a))) (k : tb_G κ nL Q (pc + 1) ls (.ref a :: st) M o) : tb_G κ nL Q pc ls st M o := fun r M' ho H locs sl hP hS hl => lv_aload_n hC.1.1 hC.1.2.1 hd rfl (hl.2.2 _ _ hv) (k r M' ho H locs sl hP hS hl)
theorem b_istore_n (hC : tb_Cx κ own cc nL d) {i : Fin 4} (hd : decode cc pc = .ok (.istore_n i, 1)) (hs : tv_sto ls (i : Nat) (.int x) = ls') (hn : Nat.blt (i : Nat) nL = true) (k : tb_G κ nL Q (pc + 1) ls' st M o) : tb_G κ nL Q pc ls (.int x :: st) M o := by
  intro r M' ho H locs sl hP hS hl
  obtain ⟨sl', e', h'⟩ := tv_store1 (v := .int x) hl (by simpa using hn) rfl
  intro T hT X
  obtain ⟨t, a, b⟩ := k r M' ho H locs sl' hP hS (hs ▸ h') T hT X
  refine ⟨t, ?_, b⟩
  have hx := hC.1.1
  have hb := hC.1.2.1
  jvm_step X.here [X.here.top, ↓top_set X.here.top, hx, hb, hd, e']
  exact a
theorem b_istore (hC : tb_Cx κ own cc nL d) {i : Nat} (hd : decode cc pc = .ok (.istore i, 2)) (hs : tv_sto ls i (.int x) = ls') (hn : Nat.blt i nL = true) (k : tb_G κ nL Q (pc + 2) ls' st M o) : tb_G κ nL Q pc ls (.int x :: st) M o := by
  intro r M' ho H locs sl hP hS hl
  obtain ⟨sl', e', h'⟩ := tv_store1 (v := .int x) hl (by simpa using hn) rfl
  intro T hT X
  obtain ⟨t, a, b⟩ := k r M' ho H locs sl' hP hS (hs ▸ h') T hT X
  refine ⟨t, ?_, b⟩
  have hx := hC.1.1
  have hb := hC.1.2.1
  jvm_step X.here [X.here.top, ↓top_set X.here.top, hx, hb, hd, e']
  exact a
theorem b_iinc (hC : tb_Cx κ own cc nL d) {i : Nat} {n : Int} (hd : decode cc pc = .ok (.iinc i n, 3)) (hv : ls[i]? = some (some (.int x))) (hi : Int32.ofInt n = y) (hs : tv_sto ls i (.int (x + y)) = ls') (hn : Nat.blt i nL = true) (k : tb_G κ nL Q (pc + 3) ls' st M o) : tb_G κ nL Q pc ls st M o := by
  intro r M' ho H locs sl hP hS hl
  subst hi
  have hg := hl.2.2 _ _ hv
  obtain ⟨sl', e', h'⟩ := tv_store1 (v := .int (x + Int32.ofInt n)) hl (by simpa using hn) rfl
  intro T hT X
  obtain ⟨t, a, b⟩ := k r M' ho H locs sl' hP hS (hs ▸ h') T hT X
  refine ⟨t, ?_, b⟩
  have hx := hC.1.1
  have hb := hC.1.2.1
  jvm_step X.here [X.here.top, ↓top_set X.here.top, hx, hb, hd, hg, e']
  exact a
theorem b_iadd (hC : tb_Cx κ own cc nL d) (hd : decode cc pc = .ok (.iadd, 1)) (k : tb_G κ nL Q (pc + 1) ls (.int (x + y) :: st) M o) : tb_G κ nL Q pc ls (.int y :: .int x :: st) M o := fun r M' ho H locs sl hP hS hl => lv_iadd hC.1.1 hC.1.2.1 hd (k r M' ho H locs sl hP hS hl)
theorem b_imul (hC : tb_Cx κ own cc nL d) (hd : decode cc pc = .ok (.imul, 1)) (k : tb_G κ nL Q (pc + 1) ls (.int (x * y) :: st) M o) : tb_G κ nL Q pc ls (.int y :: .int x :: st) M o := fun r M' ho H locs sl hP hS hl => lv_imul hC.1.1 hC.1.2.1 hd (k r M' ho H locs sl hP hS hl)
theorem b_dup (hC : tb_Cx κ own cc nL d) {w : Value} (hd : decode cc pc = .ok (.dup, 1)) (hw : w.category = 1) (k : tb_G κ nL Q (pc + 1) ls (w :: w :: st) M o) : tb_G κ nL Q pc ls (w :: st) M o := fun r M' ho H locs sl hP hS hl => lv_dup hC.1.1 hC.1.2.1 hd hw (k r M' ho H locs sl hP hS hl)
theorem b_pop (hC : tb_Cx κ own cc nL d) {w : Value} (hd : decode cc pc = .ok (.pop, 1)) (hw : w.category = 1) (k : tb_G κ nL Q (pc + 1) ls st M o) : tb_G κ nL Q pc ls (w :: st) M o := fun r M' ho H locs sl hP hS hl => lv_pop hC.1.1 hC.1.2.1 hd hw (k r M' ho H locs sl hP hS hl)
theorem b_goto (hC : tb_Cx κ own cc nL d) {off : Int} {tgt : Nat} (hd : decode cc pc = .ok (.goto off, 3)) (ht : (pc : Int) + off = (tgt : Int)) (k : tb_G κ nL Q tgt ls st M o) : tb_G κ nL Q pc ls st M o := fun r M' ho H locs sl hP hS hl => lv_goto hC.1.1 hC.1.2.1 hd ht (k r M' ho H locs sl hP hS hl)
theorem b_icmp_eq (hC : tb_Cx κ own cc nL d) {off : Int} {tgt : Nat} (hd : decode cc pc = .ok (.if_icmp .eq off, 3)) (ht : (pc : Int) + off = (tgt : Int)) (k1 : x = y → tb_G κ nL Q tgt ls st M o1) (k2 : ¬ x = y → tb_G κ nL Q (pc + 3) ls st M o2) : tb_G κ nL Q pc ls (.int y :: .int x :: st) M (if x = y then o1 else o2) := by
  intro r M' ho H locs sl hP hS hl
  refine lv_icmp_eq hC.1.1 hC.1.2.1 hd ht (fun hc => k1 hc r M' ?_ H locs sl hP hS hl) (fun hc => k2 hc r M' ?_ H locs sl hP hS hl)
  · exact ⟨(if_pos hc).symm.trans ho.1, ho.2⟩
  · exact ⟨(if_neg hc).symm.trans ho.1, ho.2⟩
theorem b_icmp_ne (hC : tb_Cx κ own cc nL d) {off : Int} {tgt : Nat} (hd : decode cc pc = .ok (.if_icmp .ne off, 3)) (ht : (pc : Int) + off = (tgt : Int)) (k1 : ¬ x = y → tb_G κ nL Q tgt ls st M o1) (k2 : x = y → tb_G κ nL Q (pc + 3) ls st M o2) : tb_G κ nL Q pc ls (.int y :: .int x :: st) M (if x = y then o2 else o1) := by
  intro r M' ho H locs sl hP hS hl
  refine lv_icmp_ne hC.1.1 hC.1.2.1 hd ht (fun hc => k1 hc r M' ?_ H locs sl hP hS hl) (fun hc => k2 hc r M' ?_ H locs sl hP hS hl)
  · exact ⟨(if_neg hc).symm.trans ho.1, ho.2⟩
  · exact ⟨(if_pos hc).symm.trans ho.1, ho.2⟩
theorem b_icmp_lt (hC : tb_Cx κ own cc nL d) {off : Int} {tgt : Nat} (hd : decode cc pc = .ok (.if_icmp .lt off, 3)) (ht : (pc : Int) + off = (tgt : Int)) (k1 : x < y → tb_G κ nL Q tgt ls st M o1) (k2 : ¬ x < y → tb_G κ nL Q (pc + 3) ls st M o2) : tb_G κ nL Q pc ls (.int y :: .int x :: st) M (if x < y then o1 else o2) := by
  intro r M' ho H locs sl hP hS hl
  refine lv_icmp_lt hC.1.1 hC.1.2.1 hd ht (fun hc => k1 hc r M' ?_ H locs sl hP hS hl) (fun hc => k2 hc r M' ?_ H locs sl hP hS hl)
  · exact ⟨(if_pos hc).symm.trans ho.1, ho.2⟩
  · exact ⟨(if_neg hc).symm.trans ho.1, ho.2⟩
theorem b_icmp_ge (hC : tb_Cx κ own cc nL d) {off : Int} {tgt : Nat} (hd : decode cc pc = .ok (.if_icmp .ge off, 3)) (ht : (pc : Int) + off = (tgt : Int)) (k1 : y ≤ x → tb_G κ nL Q tgt ls st M o1) (k2 : ¬ y ≤ x → tb_G κ nL Q (pc + 3) ls st M o2) : tb_G κ nL Q pc ls (.int y :: .int x :: st) M (if y ≤ x then o1 else o2) := by
  intro r M' ho H locs sl hP hS hl
  refine lv_icmp_ge hC.1.1 hC.1.2.1 hd ht (fun hc => k1 hc r M' ?_ H locs sl hP hS hl) (fun hc => k2 hc r M' ?_ H locs sl hP hS hl)
  · exact ⟨(if_pos hc).symm.trans ho.1, ho.2⟩
  · exact ⟨(if_neg hc).symm.trans ho.1, ho.2⟩
theorem b_if_lt (hC : tb_Cx κ own cc nL d) {off : Int} {tgt : Nat} (hd : decode cc pc = .ok (.ifCond .lt off, 3)) (ht : (pc : Int) + off = (tgt : Int)) (k1 : x < 0 → tb_G κ nL Q tgt ls st M o1) (k2 : ¬ x < 0 → tb_G κ nL Q (pc + 3) ls st M o2) : tb_G κ nL Q pc ls (.int x :: st) M (if x < 0 then o1 else o2) := by
  intro r M' ho H locs sl hP hS hl
  refine lv_if_lt hC.1.1 hC.1.2.1 hd ht (fun hc => k1 hc r M' ?_ H locs sl hP hS hl) (fun hc => k2 hc r M' ?_ H locs sl hP hS hl)
  · exact ⟨(if_pos hc).symm.trans ho.1, ho.2⟩
  · exact ⟨(if_neg hc).symm.trans ho.1, ho.2⟩
theorem b_mask (m : List Bool) (hm : tv_mask m ls = ls') (k : tb_G κ nL Q pc ls' st M o) : tb_G κ nL Q pc ls st M o := fun r M' ho H locs sl hP hS hl => k r M' ho H locs sl hP hS (hm ▸ tv_lo_mask m hl)
theorem b_none : tb_G κ nL Q pc ls st M none := fun r M' ho => by cases ho.1
/-- a test that the function makes before it goes on -/
theorem b_if {c : Prop} [Decidable c] (k : c → tb_G κ nL Q pc ls st M o) : tb_G κ nL Q pc ls st M (if c then o else none) := by
  split
  · exact k (by assumption)
  · exact b_none
theorem b_obj (hC : tb_Cx κ own cc nL d) {idx a : Nat} (hw : Cond.methodLink own idx Lib.objectInit ∈ tv_tb ∧ Cond.instanceMethod Lib.objectInit ∈ tv_tb ∧ Cond.code Lib.objectInit ⟨#[0xb1]⟩ 1 none ∈ tv_tb) (hd : decode cc pc = .ok (.invokespecial idx, 3)) (hdp : Nat.ble 1 d = true) (hst : Nat.ble ((st.map fun v => v.category).sum) 8 = true) (k : tb_G κ nL Q (pc + 3) ls st M o) : tb_G κ nL Q pc ls (.ref a :: st) M o := by
  intro r M' ho H locs sl hP hS hl
  have h1 := Nat.le_of_ble_eq_true hdp
  have h2 := Nat.le_of_ble_eq_true hst
  have h3 := hC.2.2.2.1
  have h4 := hC.2.2.2.2.1
  exact W.objInit hC.1.1 hC.1.2.1 hC.1.2.2.2.1 (hC.1.2.2.2.2 _ hw.1) (hC.1.2.2.2.2 _ hw.2.1) (hC.1.2.2.2.2 _ hw.2.2) rfl (hl.1.trans hC.1.2.2.1.symm) rfl hd (by omega) (by show 2 * 0 + _ + 12 ≤ _; omega) (k r M' ho H locs sl hP hS hl)
end TBR
section TBF
variable {β β' : Type} {κ : tv_Kt} {own : String} {cc : ByteArray} {nL d pc : Nat} {Q : β → tb_M → State → Prop} {ls ls' : List (Option Value)} {st stk : List Value} {M : tb_M} {o o1 o2 : Option (β × tb_M)} {x y : Int32} {u v : Int64}
theorem tb_he {k ci : Nat} {r : vw_C} (hk : tb_ok M k ci) (hr : tv_cl[ci]? = some r) : (tv_ws κ.b κ.th.2.2.1 M.n M.1 M.2.1 M.2.2.1)[k]? = some (κ.b + k, .inr (ci, tv_ob κ.b ci r.2.2 M.1 M.2.2.1 k)) := by
  obtain ⟨n, hn⟩ := tv_lay_of hk.2
  obtain ⟨h1, h2, -⟩ := tv_okc_all hr
  have he := tv_get (b := κ.b) (cA := κ.th.2.2.1) (I := M.1) (J := M.2.1) (P := M.2.2.1) hk.1 hn
  rw [tv_E_ob h1, h2] at he
  exact he
theorem b_getI (hC : tb_Cx κ own cc nL d) {idx k : Nat} (ci j : Nat) {r : vw_C} (hk : tb_ok M k ci) (hr : tv_cl[ci]? = some r) (hj : Nat.blt j r.2.2 = true) (hf : (tv_rf.getD ci []).getD j false = false) (hw : Cond.fieldLink own idx (r.2.1 j).1 (r.2.1 j).2.1 (r.2.1 j).2.2.1 ∈ tv_tb) (hd : decode cc pc = .ok (.getfield idx, 3)) (kk : tb_G κ nL Q (pc + 3) ls (.int (M.1 k j) :: st) M o) : tb_G κ nL Q pc ls (.ref (κ.b + k) :: st) M o := by
  obtain ⟨h1, h2, h3, h4, h5⟩ := tv_okc_all hr
  have hj' : j < r.2.2 := by simpa using hj
  intro r0 M' ho H locs sl hP hS hl
  exact va_get hC.1.1 hC.1.2.1 hC.1.2.2.2.2 h3 hC.1.2.2.2.1 hC.2.1 hP.1.1 k (tb_he hk hr) hr j hj' (hC.1.2.2.2.2 _ hw) (fun _ h => h) (tv_ob_i hj' hf) hd (kk r0 M' ho H locs sl hP hS hl)
theorem b_getP (hC : tb_Cx κ own cc nL d) {idx k p : Nat} (ci j : Nat) {r : vw_C} (hk : tb_ok M k ci) (hr : tv_cl[ci]? = some r) (hj : Nat.blt j r.2.2 = true) (hf : (tv_rf.getD ci []).getD j false = true) (hw : Cond.fieldLink own idx (r.2.1 j).1 (r.2.1 j).2.1 (r.2.1 j).2.2.1 ∈ tv_tb) (hd : decode cc pc = .ok (.getfield idx, 3)) (hp : M.2.2.1 k j = some p) (kk : tb_G κ nL Q (pc + 3) ls (.ref (κ.b + p) :: st) M o) : tb_G κ nL Q pc ls (.ref (κ.b + k) :: st) M o := by
  obtain ⟨h1, h2, h3, h4, h5⟩ := tv_okc_all hr
  have hj' : j < r.2.2 := by simpa using hj
  intro r0 M' ho H locs sl hP hS hl
  have hv := tv_ob_r (b := κ.b) (ci := ci) (k := k) (I := M.1) (P := M.2.2.1) hj' hf
  rw [hp] at hv
  exact va_get hC.1.1 hC.1.2.1 hC.1.2.2.2.2 h3 hC.1.2.2.2.1 hC.2.1 hP.1.1 k (tb_he hk hr) hr j hj' (hC.1.2.2.2.2 _ hw) (fun _ h => h) hv hd (kk r0 M' ho H locs sl hP hS hl)
theorem tb_fresh_wI {k j : Nat} (hk : k < M.n) (h : ∀ a, M.n ≤ a → M.1 a = (fun _ => 0) ∧ M.2.1 a = (fun _ => 0) ∧ M.2.2.1 a = (fun _ => none)) : ∀ a, (tb_wI M k j x).n ≤ a → (tb_wI M k j x).1 a = (fun _ => 0) ∧ (tb_wI M k j x).2.1 a = (fun _ => 0) ∧ (tb_wI M k j x).2.2.1 a = (fun _ => none) := fun a ha => by
  have ha : M.n ≤ a := ha
  obtain ⟨g1, g2, g3⟩ := h a ha
  refine ⟨funext fun i => ?_, g2, g3⟩
  have : a ≠ k := by omega
  simp [tb_wI, this, g1]
theorem tb_fresh_wP {k j p : Nat} (hk : k < M.n) (h : ∀ a, M.n ≤ a → M.1 a = (fun _ => 0) ∧ M.2.1 a = (fun _ => 0) ∧ M.2.2.1 a = (fun _ => none)) : ∀ a, (tb_wP M k j p).n ≤ a → (tb_wP M k j p).1 a = (fun _ => 0) ∧ (tb_wP M k j p).2.1 a = (fun _ => 0) ∧ (tb_wP M k j p).2.2.1 a = (fun _ => none) := fun a ha => by
  have ha : M.n ≤ a := ha
  obtain ⟨g1, g2, g3⟩ := h a ha
  refine ⟨g1, g2, funext fun i => ?_⟩
  have : a ≠ k := by omega
  simp [tb_wP, this, g3]
theorem tb_setI {k ci j : Nat} {r : vw_C} (hk : tb_ok M k ci) (hr : tv_cl[ci]? = some r) (hj : j < r.2.2) (hf : (tv_rf.getD ci []).getD j false = false) : (tv_ws κ.b κ.th.2.2.1 M.n M.1 M.2.1 M.2.2.1).set k (κ.b + k, .inr (ci, (tv_ob κ.b ci r.2.2 M.1 M.2.2.1 k).set j (.int x))) = tv_ws κ.b κ.th.2.2.1 M.n (tb_wI M k j x).1 M.2.1 M.2.2.1 := by
  obtain ⟨n, hn⟩ := tv_lay_of hk.2
  obtain ⟨h1, h2, -⟩ := tv_okc_all hr
  exact tv_set hn (by rw [tv_E_ob h1, h2, tv_ob_set (I := M.1) (x := x) hj hf (fun i hi => by simp [tb_wI, hi]) (by simp [tb_wI])]) (fun a ha => ⟨funext fun i => by simp [tb_wI, ha], rfl, rfl⟩)
theorem tb_setP {k ci j p : Nat} {r : vw_C} (hk : tb_ok M k ci) (hr : tv_cl[ci]? = some r) (hj : j < r.2.2) (hf : (tv_rf.getD ci []).getD j false = true) : (tv_ws κ.b κ.th.2.2.1 M.n M.1 M.2.1 M.2.2.1).set k (κ.b + k, .inr (ci, (tv_ob κ.b ci r.2.2 M.1 M.2.2.1 k).set j (.ref (κ.b + p)))) = tv_ws κ.b κ.th.2.2.1 M.n M.1 M.2.1 (tb_wP M k j p).2.2.1 := by
  obtain ⟨n, hn⟩ := tv_lay_of hk.2
  obtain ⟨h1, h2, -⟩ := tv_okc_all hr
  exact tv_set hn (by rw [tv_E_ob h1, h2, tb_ob_setP (P := M.2.2.1) (p := p) hj hf (fun i hi => by simp [tb_wP, hi]) (by simp [tb_wP])]) (fun a ha => ⟨rfl, rfl, funext fun i => by simp [tb_wP, ha]⟩)
/-- an int into a field that isn't final -/
theorem b_putI (hC : tb_Cx κ own cc nL d) {idx k : Nat} (ci j : Nat) {r : vw_C} (hk : tb_ok M k ci) (hr : tv_cl[ci]? = some r) (hj : Nat.blt j r.2.2 = true) (hf : (tv_rf.getD ci []).getD j false = false) (hw : Cond.fieldLink own idx (r.2.1 j).1 (r.2.1 j).2.1 (r.2.1 j).2.2.1 ∈ tv_tb) (hfin : (r.2.1 j).2.2.2 = false) (hty : tv_tyf ci j = .int) (hd : decode cc pc = .ok (.putfield idx, 3)) (kk : tb_G κ nL Q (pc + 3) ls st (tb_wI M k j x) o) : tb_G κ nL Q pc ls (.int x :: .ref (κ.b + k) :: st) M o := by
  obtain ⟨h1, h2, h3, h4, h5⟩ := tv_okc_all hr
  have hj' : j < r.2.2 := by simpa using hj
  intro r0 M' ho H locs sl hP hS hl
  refine va_put hC.1.1 hC.1.2.1 hC.1.2.2.2.2 h3 (tv_tyf ci) h5 h4 hC.1.2.2.2.1 hC.2.1 hP.1.1 tv_D hS k (tb_he hk hr) hr j hj' (hC.1.2.2.2.2 _ hw) (fun _ h => h) hfin (by rw [h5 j hj', hty]) rfl rfl (by simp [tv_ob]; exact hj') hd (fun H1 locs1 hP1 hD1 hS1 => ?_)
  rw [tb_setI hk hr hj' hf] at hP1
  exact kk r0 M' ho H1 locs1 sl ⟨⟨hP1, tb_fresh_wI hk.1 hP.1.2⟩, hP.2⟩ hS1 hl
/-- an int into a final field, in a constructor -/
theorem b_putF (hC : tb_Cx κ own cc nL d) (hI : κ.2.2.2.2.2.2.2.2.1.name = "<init>") {idx k : Nat} (ci j : Nat) {r : vw_C} (hk : tb_ok M k ci) (hr : tv_cl[ci]? = some r) (hj : Nat.blt j r.2.2 = true) (hf : (tv_rf.getD ci []).getD j false = false) (hw : Cond.fieldLink own idx (r.2.1 j).1 (r.2.1 j).2.1 (r.2.1 j).2.2.1 ∈ tv_tb) (hfin : (r.2.1 j).2.2.2 = true) (hdec : (r.2.1 j).1 = own) (hty : tv_tyf ci j = .int) (hd : decode cc pc = .ok (.putfield idx, 3)) (kk : tb_G κ nL Q (pc + 3) ls st (tb_wI M k j x) o) : tb_G κ nL Q pc ls (.int x :: .ref (κ.b + k) :: st) M o := by
  obtain ⟨h1, h2, h3, h4, h5⟩ := tv_okc_all hr
  have hj' : j < r.2.2 := by simpa using hj
  intro r0 M' ho H locs sl hP hS hl
  refine va_putF hC.1.1 hC.1.2.1 hC.1.2.2.2.2 h3 (tv_tyf ci) h5 h4 hC.1.2.2.2.1 hC.2.1 hP.1.1 tv_D hS k (tb_he hk hr) hr j hj' (hC.1.2.2.2.2 _ hw) (fun _ h => h) hfin hI hdec (by rw [h5 j hj', hty]) rfl rfl (by simp [tv_ob]; exact hj') hd (fun H1 locs1 hP1 hD1 hS1 => ?_)
  rw [tb_setI hk hr hj' hf] at hP1
  exact kk r0 M' ho H1 locs1 sl ⟨⟨hP1, tb_fresh_wI hk.1 hP.1.2⟩, hP.2⟩ hS1 hl
/-- a reference into a final field, in a constructor -/
theorem b_putP (hC : tb_Cx κ own cc nL d) (hI : κ.2.2.2.2.2.2.2.2.1.name = "<init>") {idx k p : Nat} (ci j : Nat) {r : vw_C} {ty : FieldType} (hk : tb_ok M k ci) (hr : tv_cl[ci]? = some r) (hj : Nat.blt j r.2.2 = true) (hf : (tv_rf.getD ci []).getD j false = true) (hw : Cond.fieldLink own idx (r.2.1 j).1 (r.2.1 j).2.1 (r.2.1 j).2.2.1 ∈ tv_tb) (hfin : (r.2.1 j).2.2.2 = true) (hdec : (r.2.1 j).1 = own) (hty : tv_tyf ci j = ty) (hnr : narrow ty (.ref (κ.b + p)) = .ref (κ.b + p)) (hft : fits ty (.ref (κ.b + p)) = true) (hd : decode cc pc = .ok (.putfield idx, 3)) (kk : tb_G κ nL Q (pc + 3) ls st (tb_wP M k j p) o) : tb_G κ nL Q pc ls (.ref (κ.b + p) :: .ref (κ.b + k) :: st) M o := by
  obtain ⟨h1, h2, h3, h4, h5⟩ := tv_okc_all hr
  have hj' : j < r.2.2 := by simpa using hj
  intro r0 M' ho H locs sl hP hS hl
  refine va_putF hC.1.1 hC.1.2.1 hC.1.2.2.2.2 h3 (tv_tyf ci) h5 h4 hC.1.2.2.2.1 hC.2.1 hP.1.1 tv_D hS k (tb_he hk hr) hr j hj' (hC.1.2.2.2.2 _ hw) (fun _ h => h) hfin hI hdec (by rw [h5 j hj', hty]) hnr hft (by simp [tv_ob]; exact hj') hd (fun H1 locs1 hP1 hD1 hS1 => ?_)
  rw [tb_setP hk hr hj' hf] at hP1
  exact kk r0 M' ho H1 locs1 sl ⟨⟨hP1, tb_fresh_wP hk.1 hP.1.2⟩, hP.2⟩ hS1 hl
end TBF
end
section
section TBN
variable {β β' : Type} {κ : tv_Kt} {own : String} {cc : ByteArray} {nL d pc : Nat} {Q : β → tb_M → State → Prop} {ls ls' : List (Option Value)} {st stk : List Value} {M : tb_M} {o o1 o2 : Option (β × tb_M)} {x y : Int32} {u v : Int64}
theorem tb_asm {p : Program} {l : Launch} {e : Env} {R : Room} {s : State} {m : MethodId} {args : Array Value} {below : List Frame} {meth : Method} {c : Code} {H : Heap} {locs : List Loc} {cells slots : Nat} {Q : State → Prop} {g : JFrame} (h : ∀ T : State, T.heap = H → Stand p l e R s m args below meth c T locs cells slots → W p l e R s m args below meth c H locs cells slots Q g) : W p l e R s m args below meth c H locs cells slots Q g := fun T hT X => h T hT X T hT X
theorem tb_newV {H H1 : Heap} {ci n0 : Nat} {r : vw_C} {kC : Class} {w : Array Value} (hts : ∀ w0 ∈ tv_tb, w0.before w κ.s = true) (hK : va_K κ.th.2.1 tv_cl (tv_tys κ.th.2.2.1) κ.s) (hV : tb_V κ.th M H) (hr : tv_cl[ci]? = some r) (hn : tv_lay[M.n]? = some (ci, n0)) (hkC : κ.s.vm.classes[κ.th.2.1.1 ci]? = some kC) (e1 : H1[κ.b + M.n]? = some (blank (κ.th.2.1.1 ci) kC)) (o1 : ∀ k, k < H.size → H1[k]? = H[k]?) : tb_V κ.th (tb_up M) H1 := by
  obtain ⟨h1, h2, h3, h4, h5⟩ := tv_okc_all hr
  refine tb_grow hV hn o1 ?_
  show va_at _ _ (κ.b + M.n, tv_E κ.b κ.th.2.2.1 M.1 M.2.1 M.2.2.1 M.n (ci, n0)) H1
  rw [tv_E_ob h1, h2]
  refine ⟨_, hr, (u_born (tv_tyf ci) hts h3 (hK.1 ci _ hr) hkC e1 h5).to (fun j hj => ?_)⟩
  have hj2 : j < tv_nf.getD ci 0 := by rw [h2]; exact hj
  rw [tb_dfl ci h1 j hj2]
  obtain ⟨g1, g2, g3⟩ := hV.2 M.n (Nat.le_refl _)
  show _ = (tv_ob κ.b ci r.2.2 M.1 M.2.2.1 M.n).getD j .null
  rw [show (tv_ob κ.b ci r.2.2 M.1 M.2.2.1 M.n).getD j .null = ((tv_ob κ.b ci r.2.2 M.1 M.2.2.1 M.n)[j]?).getD .null from List.getD_eq_getElem?_getD]
  by_cases hrf : (tv_rf.getD ci []).getD j false = true
  · rw [tv_ob_r hj hrf, hrf, g3]; rfl
  · have hrf : (tv_rf.getD ci []).getD j false = false := by simpa using hrf
    rw [tv_ob_i hj hrf, hrf, g1]; rfl
theorem tb_num {a b c e f g h i n : Nat} (h1 : b ≤ a) (h2 : a < c) (h3 : c - b ≤ e) (h4 : f ≤ g) (h5 : h = g + n) (h6 : h ≤ i) : a - b + 1 ≤ e ∧ a - b + 1 = a + 1 - b ∧ g - f + n = h - f ∧ (i - f ≤ e → g - f + n ≤ e) := by omega
theorem b_new (hC : tb_Cx κ own cc nL d) {idx : Nat} (ci : Nat) {r : vw_C} (hr : tv_cl[ci]? = some r) (hw : Cond.classLink own idx r.1 ∈ tv_tb ∧ Cond.instantiable r.1 r.2.2 ∈ tv_tb ∧ Cond.initialized r.1 ∈ tv_tb) (hlay : (tv_lay[M.n]?).map Prod.fst = some ci) (hne : M.n < κ.sz) (hd : decode cc pc = .ok (.new idx, 3)) (kk : tb_G κ nL Q (pc + 3) ls (.ref (κ.b + M.n) :: st) (tb_up M) o) : tb_G κ nL Q pc ls st M o := by
  obtain ⟨n0, hn⟩ := tv_lay_of hlay
  obtain ⟨h1, h2, -⟩ := tv_okc_all hr
  intro r0 M' ho H locs sl hP hS hl
  refine tb_asm (fun T hT X => ?_)
  have hsz := tb_size hC hP hS hT X
  have hone : tb_one (ci, n0) = r.2.2 := by unfold tb_one; rw [if_pos h1, h2]
  have hsucc := tb_sz_succ hn
  rw [hone] at hsucc
  have hm1 := tb_sz_mono hP.2
  have hm2 := tb_sz_mono (show M.n + 1 ≤ κ.sz from hne)
  have n1 := tb_num (e := κ.2.2.2.1.cells) hP.2 hne hC.2.2.2.2.2.1 hm1 hsucc hm2
  have n2 := (tb_num (a := κ.ce) (b := κ.ce) (c := κ.ce + 1) (e := κ.2.2.2.1.slots + 1) (Nat.le_refl _) (Nat.lt_succ_self _) (by omega) hm1 hsucc hm2)
  have c2 := hC.2.2.2.2.2.2.1
  have n3 : tb_sz M.n - tb_sz κ.ce + r.2.2 ≤ κ.2.2.2.1.slots := Nat.le_trans (by rw [n1.2.2.1]; exact Nat.sub_le_sub_right hm2 _) c2
  have hKn := hC.2.1.1 ci _ hr
  refine W.newcK hC.1.1 hC.1.2.1 hC.1.2.2.2.1 (hC.1.2.2.2.2 _ hw.1) (hC.1.2.2.2.2 _ hw.2.1) (hC.1.2.2.2.2 _ hw.2.2) rfl hd n1.1 n3 hKn.2.1 hsz (fun H1 kC hkC e1 z1 o1 => ?_)
  have hV1 : tb_V κ.th (tb_up M) H1 := tb_newV hC.1.2.2.2.2 hC.2.1 hP.1 hr hn hkC e1 (fun k hk => o1 k (by rw [← hsz]; exact hk))
  have hs1 : va_S (tv_A κ.b) κ.s.heap H1 locs := ⟨by have := hS.1; omega, fun q g1 g2 => (o1 q (by have := hS.1; omega)).trans (hS.2.1 q g1 g2), hS.2.2⟩
  exact W.cs n1.2.1 n1.2.2.1 (kk r0 M' ho H1 locs sl ⟨hV1, Nat.le_succ_of_le hP.2⟩ hs1 hl)
/-- the numbers of a new cell -/
theorem tb_nums (hC : tb_Cx κ own cc nL d) {q : Nat × Nat} {N : Nat} (hn : tv_lay[M.n]? = some q) (hone : tb_one q = N) (hce : κ.ce ≤ M.n) (hne : M.n < κ.sz) : M.n - κ.ce + 1 ≤ κ.2.2.2.1.cells ∧ tb_sz M.n - tb_sz κ.ce + N ≤ κ.2.2.2.1.slots ∧ M.n - κ.ce + 1 = M.n + 1 - κ.ce ∧ tb_sz M.n - tb_sz κ.ce + N = tb_sz (M.n + 1) - tb_sz κ.ce := by
  have hsucc := tb_sz_succ hn
  rw [hone] at hsucc
  have hm1 := tb_sz_mono hce
  have hm2 := tb_sz_mono (show M.n + 1 ≤ κ.sz from hne)
  have n1 := tb_num (e := κ.2.2.2.1.cells) hce hne hC.2.2.2.2.2.1 hm1 hsucc hm2
  exact ⟨n1.1, Nat.le_trans (by rw [n1.2.2.1]; exact Nat.sub_le_sub_right hm2 _) hC.2.2.2.2.2.2.1, n1.2.1, n1.2.2.1⟩
/-- a new array of ints, bytes, booleans or longs: t is 0, 1, 2 or 3 -/
theorem b_newa (hC : tb_Cx κ own cc nL d) (t : Nat) {N : Nat} {atype : ArrayType} {ty : FieldType} (hty : newarray.typeOf atype = ty) (ht : (tv_tys κ.th.2.2.1)[t]? = some (κ.th.2.2.1 t, ty)) (hE : ∀ k, tv_E κ.b κ.th.2.2.1 M.1 M.2.1 M.2.2.1 k (20 + t, N) = .inl (κ.th.2.2.1 t, N, .inl (M.1 k)) ∧ defaultValue ty = .int 0 ∨ tv_E κ.b κ.th.2.2.1 M.1 M.2.1 M.2.2.1 k (20 + t, N) = .inl (κ.th.2.2.1 t, N, .inr (.inl (M.2.1 k))) ∧ defaultValue ty = .long 0) (hra : va_RA κ.s (κ.th.2.2.1 t) ty → κ.s.vm.findClass ("[" ++ ty.toString) = some (κ.th.2.2.1 t)) (hw : Cond.arrayClass (newarray.typeOf atype) ∈ tv_tb) (hlay : tv_lay[M.n]? = some (20 + t, N)) (hx : ¬ x < 0) (hxN : x.toNatClampNeg = N) (hby : N * componentBytes (newarray.typeOf atype) ≤ 536870912) (hne : M.n < κ.sz) (hd : decode cc pc = .ok (.newarray atype, 2)) (kk : tb_G κ nL Q (pc + 2) ls (.ref (κ.b + M.n) :: st) (tb_up M) o) : tb_G κ nL Q pc ls (.int x :: st) M o := by
  intro r0 M' ho H locs sl hP hS hl
  refine tb_asm (fun T hT X => ?_)
  have hsz := tb_size hC hP hS hT X
  have hone : tb_one (20 + t, N) = N := by unfold tb_one; rw [if_neg (by simp)]
  have n1 := tb_nums hC hlay hone hP.2 hne
  refine va_newaK hC.1.1 hC.1.2.1 (hC.1.2.2.2.2 _ hw) rfl hd rfl hx hxN hby n1.1 n1.2.1 hsz (fun H1 cA e1 z1 o1 hAr hNm => ?_)
  have hcA : cA = κ.th.2.2.1 t := by
    have := hra (hC.2.1.2 t _ ht).2
    rw [hty] at hNm
    exact Option.some.inj (hNm.symm.trans this)
  subst hcA
  obtain ⟨g1, g2, g3⟩ := hP.1.2 M.n (Nat.le_refl _)
  have hV1 : tb_V κ.th (tb_up M) H1 := tb_grow hP.1 hlay (fun k hk => o1 k (by rw [← hsz]; exact hk)) (by
    show va_at _ _ (κ.b + M.n, tv_E κ.b κ.th.2.2.1 M.1 M.2.1 M.2.2.1 M.n (20 + t, N)) H1
    rw [hty] at e1
    rcases hE M.n with ⟨h1, h2⟩ | ⟨h1, h2⟩
    · rw [h1]
      show H1[κ.b + M.n]? = some (vp_cell _ _)
      rw [e1, vp_cell_i, g1, h2]
    · rw [h1]
      show H1[κ.b + M.n]? = some (vp_cell _ _)
      rw [e1, vp_cell_l, g2, h2])
  have hs1 : va_S (tv_A κ.b) κ.s.heap H1 locs := ⟨by have := hS.1; omega, fun q g1 g2 => (o1 q (by have := hS.1; omega)).trans (hS.2.1 q g1 g2), hS.2.2⟩
  exact W.cs n1.2.2.1 n1.2.2.2 (kk r0 M' ho H1 locs sl ⟨hV1, Nat.le_succ_of_le hP.2⟩ hs1 hl)
/-- a new array of objects: t is 0, 1 or 2 -/
theorem b_newq (hC : tb_Cx κ own cc nL d) {idx : Nat} (t : Nat) {N : Nat} {C : String} (ht : (tv_tys κ.th.2.2.1)[4 + t]? = some (κ.th.2.2.1 (4 + t), .object C)) (hw : Cond.classLink own idx C ∈ tv_tb) (hov : va_AO C κ.s) (hlay : tv_lay[M.n]? = some (24 + t, N)) (hx : ¬ x < 0) (hxN : x.toNatClampNeg = N) (hby : N * 4 ≤ 536870912) (hne : M.n < κ.sz) (hd : decode cc pc = .ok (.anewarray idx, 3)) (kk : tb_G κ nL Q (pc + 3) ls (.ref (κ.b + M.n) :: st) (tb_up M) o) : tb_G κ nL Q pc ls (.int x :: st) M o := by
  intro r0 M' ho H locs sl hP hS hl
  refine tb_asm (fun T hT X => ?_)
  have hsz := tb_size hC hP hS hT X
  subst hxN
  have hone : tb_one (24 + t, x.toNatClampNeg) = x.toNatClampNeg := by unfold tb_one; rw [if_neg (by simp; omega)]
  have n1 := tb_nums hC hlay hone hP.2 hne
  refine W.anew hC.1.1 hC.1.2.1 hC.1.2.2.2.1 (hC.1.2.2.2.2 _ hw) (va_AO.use hov) rfl hd rfl hx hby n1.1 n1.2.1 (fun cA kA comp f1 f2 f3 f4 => ?_)
  have hcA : cA = κ.th.2.2.1 (4 + t) := by
    obtain ⟨kA2, comp2, -, -, -, h4⟩ := (hC.2.1.2 (4 + t) _ ht).2
    exact Option.some.inj (f1.symm.trans h4)
  subst hcA
  rw [hsz]
  generalize hH1 : H.push ({ cls := κ.th.2.2.1 (4 + t), slots := Array.replicate x.toNatClampNeg .null, vm := .none } : Cell) = H1
  have z1 : H1.size = H.size + 1 := by rw [← hH1, Array.size_push]
  have e1 : H1[H.size]? = some (arrV (κ.th.2.2.1 (4 + t)) x.toNatClampNeg (fun _ => .null)) := by rw [← hH1, Array.getElem?_push_size, ← arrV_new]
  have o1 : ∀ q : Nat, q < H.size → H1[q]? = H[q]? := fun q hq => by rw [← hH1, Array.getElem?_push, if_neg (Nat.ne_of_lt hq)]
  obtain ⟨g1, g2, g3⟩ := hP.1.2 M.n (Nat.le_refl _)
  have hV1 : tb_V κ.th (tb_up M) H1 := tb_grow hP.1 hlay o1 (by
    show va_at _ _ (κ.b + M.n, tv_E κ.b κ.th.2.2.1 M.1 M.2.1 M.2.2.1 M.n (24 + t, x.toNatClampNeg)) H1
    rw [tv_E_q]
    show H1[κ.b + M.n]? = some (vp_cell _ _)
    rw [← hsz, e1, vp_cell_q, g3]
    rfl)
  have hs1 : va_S (tv_A κ.b) κ.s.heap H1 locs := ⟨by have := hS.1; omega, fun q g1 g2 => (o1 q (by have := hS.1; omega)).trans (hS.2.1 q g1 g2), hS.2.2⟩
  exact W.cs n1.2.2.1 n1.2.2.2 (kk r0 M' ho H1 locs sl ⟨hV1, Nat.le_succ_of_le hP.2⟩ hs1 hl)
/-- an object into an array of objects -/
theorem b_ast (hC : tb_Cx κ own cc nL d) {k n p : Nat} (t ci : Nat) {r : vw_C} (hr : tv_cl[ci]? = some r) (ht : (tv_tys κ.th.2.2.1)[4 + t]? = some (κ.th.2.2.1 (4 + t), .object r.1)) (hk : k < M.n ∧ tv_lay[k]? = some (24 + t, n)) (hp : tb_ok M p ci) (hi : tv_inb x n = true) (hd : decode cc pc = .ok (.aastore, 1)) (kk : tb_G κ nL Q (pc + 1) ls st (tb_wP M k x.toNatClampNeg p) o) : tb_G κ nL Q pc ls (.ref (κ.b + p) :: .int x :: .ref (κ.b + k) :: st) M o := by
  intro r0 M' ho H locs sl hP hS hl
  have he := tv_get (b := κ.b) (cA := κ.th.2.2.1) (I := M.1) (J := M.2.1) (P := M.2.2.1) hk.1 hk.2
  rw [tv_E_q] at he
  refine va_astq hC.1.1 hC.1.2.1 hC.2.1 hP.1.1 tv_D hS k (4 + t) p ci he ht (tb_he hp hr) hr (tv_inbP hi) hd (fun H1 locs1 hP1 hD1 hS1 => ?_)
  refine kk r0 M' ho H1 locs1 sl ⟨⟨?_, tb_fresh_wP hk.1 hP.1.2⟩, hP.2⟩ hS1 hl
  rw [tv_set (I' := M.1) (J' := M.2.1) (P' := (tb_wP M k x.toNatClampNeg p).2.2.1) hk.2 (by
    rw [tv_E_q]
    congr 7
    funext j
    by_cases hj : j = x.toNatClampNeg
    · subst hj; simp [tb_wP, va_up]
    · simp [tb_wP, va_up, hj]) (fun a ha => ⟨rfl, rfl, funext fun i => by simp [tb_wP, ha]⟩)] at hP1
  exact hP1
/-- an int into an array of ints -/
theorem b_iast (hC : tb_Cx κ own cc nL d) {k n : Nat} {i : Int32} (hk : k < M.n ∧ tv_lay[k]? = some (20, n)) (hi : tv_inb i n = true) (hd : decode cc pc = .ok (.iastore, 1)) (kk : tb_G κ nL Q (pc + 1) ls st (tb_wI M k i.toNatClampNeg x) o) : tb_G κ nL Q pc ls (.int x :: .int i :: .ref (κ.b + k) :: st) M o := by
  intro r0 M' ho H locs sl hP hS hl
  have he := tv_get (b := κ.b) (cA := κ.th.2.2.1) (I := M.1) (J := M.2.1) (P := M.2.2.1) hk.1 hk.2
  rw [tv_E_i] at he
  refine va_iast hC.1.1 hC.1.2.1 hC.2.1 hP.1.1 tv_D hS k 0 he rfl (tv_inbP hi) hd (fun H1 locs1 hP1 hD1 hS1 => ?_)
  refine kk r0 M' ho H1 locs1 sl ⟨⟨?_, tb_fresh_wI hk.1 hP.1.2⟩, hP.2⟩ hS1 hl
  rw [tv_set (I' := (tb_wI M k i.toNatClampNeg x).1) (J' := M.2.1) (P' := M.2.2.1) hk.2 (by
    rw [tv_E_i]
    congr 4
    funext j
    by_cases hj : j = i.toNatClampNeg
    · subst hj; simp [tb_wI, upd]
    · simp [tb_wI, upd, hj]) (fun a ha => ⟨funext fun i => by simp [tb_wI, ha], rfl, rfl⟩)] at hP1
  exact hP1
theorem b_alen (hC : tb_Cx κ own cc nL d) {k n : Nat} (hk : k < M.n ∧ tv_lay[k]? = some (20, n)) (hd : decode cc pc = .ok (.arraylength, 1)) (hx : Int32.ofNat n = x) (kk : tb_G κ nL Q (pc + 1) ls (.int x :: st) M o) : tb_G κ nL Q pc ls (.ref (κ.b + k) :: st) M o := by
  subst hx
  intro r0 M' ho H locs sl hP hS hl
  have he := tv_get (b := κ.b) (cA := κ.th.2.2.1) (I := M.1) (J := M.2.1) (P := M.2.2.1) hk.1 hk.2
  rw [tv_E_i] at he
  exact va_alen hC.1.1 hC.1.2.1 hC.2.1 hP.1.1 k 0 he rfl rfl hd (kk r0 M' ho H locs sl hP hS hl)
end TBN
theorem tb_mna : True := by
  have := @Jvm.Stand.multianewarray2F
  trivial
end
