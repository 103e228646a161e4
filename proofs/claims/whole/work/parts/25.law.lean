/-! THE CLAIM OUT OF ONE WALK OF THE LAW'S BODY. Your part is whole_start (and what it stands on); all else here is the same for every law, but numbers. -/
def R_law : String := "TiedViewsLaw"
def lw_P (b : Addr) (xs : List Int32) (args : Array Value) (s : State) : Prop := args = #[.ref b] ∧ s.IntsAt b xs ∧ xs.length ≤ 3073 ∧ (Jvm.Cond.and given_1 narrow_1).before args s = true
def lw_Q (_ : Array Value) (s : State) (o : Outcome) (t : State) : Prop := o = .returned (some (.int 1)) ∧ Framed s o t [] 600000 7302250
def lw_Z (below : List Frame) (a : Array Value) (s : State) : State → Prop := fun t => ∃ o, t.status = .running ∧ Ended t below o ∧ lw_Q a s o t
/-- the law's own end, with 1 on the stack, nothing written that was there before, its room as the claim has it -/
theorem lw_ret {p : Program} {l : Launch} {e : Env} {s : State} {m : MethodId} {below : List Frame} {meth : Method} {c : Code} {b : Nat} (hx : p.tables.exec = Jvm.exec) (hb : c.code = code) (hr : meth.sig.returnType = ret) (hlocks : meth.locks = false) {pc : Nat} {H : Heap} {ls : Array Slot} (hdg : decode code pc = .ok (.ireturn, 1)) : W p l e room_1 s m #[Value.ref b] below meth c H [] 600000 7302250 (lw_Z below #[Value.ref b] s) (F0 m pc ls [.int 1]) := by
  intro T hT X
  obtain ⟨fs, hret, hrun, hended, hW, hframe⟩ := X.leave (v := some (.int 1)) (hlocks := hlocks) (fun h => by rw [hr] at h; cases h)
  have hmeth' : T.vm.method? m = some meth := X.method'
  refine ⟨T.setFrames fs, ?_, .returned (some (.int 1)), hrun, hended, rfl, ⟨_, rfl⟩, hW, hframe⟩
  jvm_step X.here [X.here.top, hx, hb, hdg, hmeth', hr, ret, narrow_b1]
  (try refine ⟨rfl, ?_⟩); (try refine ⟨rfl, ?_⟩)
  first | (intro acts; rw [hret _ acts rfl rfl rfl]) | rw [hret _ _ rfl rfl rfl]
  exact Steps.refl _
/-- what holds at the law's entry: the machine, the code, the tables' words (any of lw_tbl by 'hts w (by decide +kernel)'), the script of L ints xs at the cell b, what the Statement gives of the start (any of its parts by flat_of_before) -/
def lw_At (p : Program) (s : State) (m : MethodId) (meth : Method) (c : Code) (b L : Nat) (xs : Nat → Int32) : Prop :=
  p.tables.exec = Jvm.exec ∧ c.code = code ∧ meth.sig.returnType = ret ∧ c.maxLocals = 4 ∧ s.vm.findClass R_law = some m.cls ∧ (∀ w ∈ lw_tbl, w.before #[Value.ref b] s = true) ∧ va_X b L xs s s.heap ∧ b < s.heap.size ∧ meth.locks = false ∧ (Jvm.Cond.and given_1 narrow_1).before #[Value.ref b] s = true
theorem wl_Lw_40 : Cond.constantLong "TiedViewsLaw" 40 4294967295 ∈ tv_tb := tv_t8 41 rfl rfl
theorem cw_Lw_21 : tv_Vw "TiedViewsLaw" 21 ⟨"TiedViews", "sheet", "(III)I"⟩ prog_1_method_2_code 5 (some .int) 3 := ⟨tv_t3 8 rfl rfl, tv_t3 9 rfl rfl, tv_t3 10 rfl rfl, tv_t1 1 rfl rfl, tv_t3 11 rfl rfl, by decide, by decide, by decide +kernel⟩
theorem cw_Lw_25 : tv_Vw "TiedViewsLaw" 25 ⟨"TiedViewsModel", "sheet", "(III)I"⟩ prog_14_method_8_code 5 (some .int) 3 := ⟨tv_t6 189 rfl rfl, tv_t6 190 rfl rfl, tv_t6 191 rfl rfl, tv_t1 14 rfl rfl, tv_t6 192 rfl rfl, by decide, by decide, by decide +kernel⟩
theorem cw_Lw_26 : tv_Vw "TiedViewsLaw" 26 ⟨"TiedViews", "set", "(III)I"⟩ prog_1_method_3_code 5 (some .int) 3 := ⟨tv_t3 31 rfl rfl, tv_t3 32 rfl rfl, tv_t3 33 rfl rfl, tv_t1 1 rfl rfl, tv_t3 34 rfl rfl, by decide, by decide, by decide +kernel⟩
theorem cw_Lw_29 : tv_Vw "TiedViewsLaw" 29 ⟨"TiedViewsModel", "set", "(III)I"⟩ prog_14_method_9_code 4 (some .int) 3 := ⟨tv_t6 207 rfl rfl, tv_t6 208 rfl rfl, tv_t6 209 rfl rfl, tv_t1 14 rfl rfl, tv_t6 210 rfl rfl, by decide, by decide, by decide +kernel⟩
theorem cw_Lw_30 : tv_Vw "TiedViewsLaw" 30 ⟨"TiedViews", "copy", "(IIIII)I"⟩ prog_1_method_4_code 8 (some .int) 5 := ⟨tv_t3 53 rfl rfl, tv_t3 54 rfl rfl, tv_t3 55 rfl rfl, tv_t1 1 rfl rfl, tv_t3 56 rfl rfl, by decide, by decide, by decide +kernel⟩
theorem cw_Lw_34 : tv_Vw "TiedViewsLaw" 34 ⟨"TiedViewsModel", "copy", "(IIIII)I"⟩ prog_14_method_10_code 9 (some .int) 5 := ⟨tv_t6 211 rfl rfl, tv_t6 212 rfl rfl, tv_t6 213 rfl rfl, tv_t1 14 rfl rfl, tv_t6 214 rfl rfl, by decide, by decide, by decide +kernel⟩
theorem cw_Lw_35 : tv_Vw "TiedViewsLaw" 35 ⟨"TiedViews", "drop", "(I)I"⟩ prog_1_method_5_code 4 (some .int) 1 := ⟨tv_t3 60 rfl rfl, tv_t3 61 rfl rfl, tv_t3 62 rfl rfl, tv_t1 1 rfl rfl, tv_t3 63 rfl rfl, by decide, by decide, by decide +kernel⟩
theorem cw_Lw_39 : tv_Vw "TiedViewsLaw" 39 ⟨"TiedViewsModel", "drop", "(I)I"⟩ prog_14_method_11_code 2 (some .int) 1 := ⟨tv_t6 215 rfl rfl, tv_t6 216 rfl rfl, tv_t6 217 rfl rfl, tv_t1 14 rfl rfl, tv_t6 218 rfl rfl, by decide, by decide, by decide +kernel⟩
theorem cw_Lw_42 : tv_Vw "TiedViewsLaw" 42 ⟨"TiedViews", "feed", "(JI)I"⟩ prog_1_method_6_code 4 (some .int) 2 := ⟨tv_t3 64 rfl rfl, tv_t3 65 rfl rfl, tv_t3 66 rfl rfl, tv_t1 1 rfl rfl, tv_t3 67 rfl rfl, by decide, by decide, by decide +kernel⟩
theorem cw_Lw_46 : tv_Vw "TiedViewsLaw" 46 ⟨"TiedViewsModel", "feed", "(JI)I"⟩ prog_14_method_13_code 5 (some .int) 2 := ⟨tv_t6 219 rfl rfl, tv_t6 220 rfl rfl, tv_t6 221 rfl rfl, tv_t1 14 rfl rfl, tv_t6 222 rfl rfl, by decide, by decide, by decide +kernel⟩
theorem cw_Lw_47 : tv_Vw "TiedViewsLaw" 47 ⟨"TiedViews", "read", "()I"⟩ prog_1_method_7_code 2 (some .int) 0 := ⟨tv_t3 77 rfl rfl, tv_t3 78 rfl rfl, tv_t3 79 rfl rfl, tv_t1 1 rfl rfl, tv_t3 80 rfl rfl, by decide, by decide, by decide +kernel⟩
theorem cw_Lw_51 : tv_Vw "TiedViewsLaw" 51 ⟨"TiedViewsModel", "read", "()I"⟩ prog_14_method_29_code 3 (some .int) 0 := ⟨tv_t6 226 rfl rfl, tv_t6 227 rfl rfl, tv_t6 228 rfl rfl, tv_t1 14 rfl rfl, tv_t6 229 rfl rfl, by decide, by decide, by decide +kernel⟩
theorem cw_Lw_52 : tv_Vw "TiedViewsLaw" 52 ⟨"TiedViews", "fault", "()I"⟩ prog_1_method_8_code 1 (some .int) 0 := ⟨tv_t4 92 rfl rfl, tv_t4 93 rfl rfl, tv_t4 94 rfl rfl, tv_t1 1 rfl rfl, tv_t4 95 rfl rfl, by decide, by decide, by decide +kernel⟩
theorem cw_Lw_55 : tv_Vw "TiedViewsLaw" 55 ⟨"TiedViewsModel", "fault", "()I"⟩ prog_14_method_30_code 1 (some .int) 0 := ⟨tv_t7 59 rfl rfl, tv_t7 60 rfl rfl, tv_t7 61 rfl rfl, tv_t1 14 rfl rfl, tv_t7 62 rfl rfl, by decide, by decide, by decide +kernel⟩
theorem cw_Lw_56 : tv_Vw "TiedViewsLaw" 56 ⟨"TiedViews", "eye", "(II)I"⟩ prog_1_method_9_code 4 (some .int) 2 := ⟨tv_t4 96 rfl rfl, tv_t4 97 rfl rfl, tv_t4 98 rfl rfl, tv_t1 1 rfl rfl, tv_t4 99 rfl rfl, by decide, by decide, by decide +kernel⟩
theorem cw_Lw_60 : tv_Vw "TiedViewsLaw" 60 ⟨"TiedViewsModel", "eye", "(II)I"⟩ prog_14_method_35_code 3 (some .int) 2 := ⟨tv_t7 63 rfl rfl, tv_t7 64 rfl rfl, tv_t7 65 rfl rfl, tv_t1 14 rfl rfl, tv_t7 66 rfl rfl, by decide, by decide, by decide +kernel⟩
theorem cw_Lw_61 : tv_Vw "TiedViewsLaw" 61 ⟨"TiedViews", "all", "(I)I"⟩ prog_1_method_10_code 2 (some .int) 1 := ⟨tv_t4 111 rfl rfl, tv_t4 112 rfl rfl, tv_t4 113 rfl rfl, tv_t1 1 rfl rfl, tv_t4 114 rfl rfl, by decide, by decide, by decide +kernel⟩
theorem cw_Lw_64 : tv_Vw "TiedViewsLaw" 64 ⟨"TiedViewsModel", "all", "(I)I"⟩ prog_14_method_41_code 2 (some .int) 1 := ⟨tv_t7 76 rfl rfl, tv_t7 77 rfl rfl, tv_t7 78 rfl rfl, tv_t1 14 rfl rfl, tv_t7 79 rfl rfl, by decide, by decide, by decide +kernel⟩
theorem cw_Lw_65 : tv_Vw "TiedViewsLaw" 65 ⟨"TiedViews", "basis", "(II)I"⟩ prog_1_method_11_code 3 (some .int) 2 := ⟨tv_t4 124 rfl rfl, tv_t4 125 rfl rfl, tv_t4 126 rfl rfl, tv_t1 1 rfl rfl, tv_t4 127 rfl rfl, by decide, by decide, by decide +kernel⟩
theorem cw_Lw_68 : tv_Vw "TiedViewsLaw" 68 ⟨"TiedViewsModel", "basis", "(II)I"⟩ prog_14_method_43_code 5 (some .int) 2 := ⟨tv_t7 101 rfl rfl, tv_t7 102 rfl rfl, tv_t7 103 rfl rfl, tv_t1 14 rfl rfl, tv_t7 104 rfl rfl, by decide, by decide, by decide +kernel⟩
theorem cw_Lw_69 : tv_Vw "TiedViewsLaw" 69 ⟨"TiedViews", "reading", "(III)I"⟩ prog_1_method_12_code 6 (some .int) 3 := ⟨tv_t4 149 rfl rfl, tv_t4 150 rfl rfl, tv_t4 151 rfl rfl, tv_t1 1 rfl rfl, tv_t4 152 rfl rfl, by decide, by decide, by decide +kernel⟩
theorem cw_Lw_72 : tv_Vw "TiedViewsLaw" 72 ⟨"TiedViewsModel", "reading", "(III)I"⟩ prog_14_method_44_code 6 (some .int) 3 := ⟨tv_t7 109 rfl rfl, tv_t7 110 rfl rfl, tv_t7 111 rfl rfl, tv_t1 14 rfl rfl, tv_t7 112 rfl rfl, by decide, by decide, by decide +kernel⟩
theorem cw_Lw_73 : tv_Vw "TiedViewsLaw" 73 ⟨"TiedViews", "unread", "(I)I"⟩ prog_1_method_13_code 3 (some .int) 1 := ⟨tv_t4 172 rfl rfl, tv_t4 173 rfl rfl, tv_t4 174 rfl rfl, tv_t1 1 rfl rfl, tv_t4 175 rfl rfl, by decide, by decide, by decide +kernel⟩
theorem cw_Lw_76 : tv_Vw "TiedViewsLaw" 76 ⟨"TiedViewsModel", "unread", "(I)I"⟩ prog_14_method_45_code 3 (some .int) 1 := ⟨tv_t7 125 rfl rfl, tv_t7 126 rfl rfl, tv_t7 127 rfl rfl, tv_t1 14 rfl rfl, tv_t7 128 rfl rfl, by decide, by decide, by decide +kernel⟩
theorem cw_Lw_77 : tv_Vw "TiedViewsLaw" 77 ⟨"TiedViews", "fill", "(I)I"⟩ prog_1_method_14_code 2 (some .int) 1 := ⟨tv_t4 176 rfl rfl, tv_t4 177 rfl rfl, tv_t4 178 rfl rfl, tv_t1 1 rfl rfl, tv_t4 179 rfl rfl, by decide, by decide, by decide +kernel⟩
theorem cw_Lw_80 : tv_Vw "TiedViewsLaw" 80 ⟨"TiedViewsModel", "fill", "(I)I"⟩ prog_14_method_48_code 3 (some .int) 1 := ⟨tv_t7 129 rfl rfl, tv_t7 130 rfl rfl, tv_t7 131 rfl rfl, tv_t1 14 rfl rfl, tv_t7 132 rfl rfl, by decide, by decide, by decide +kernel⟩
theorem cw_Lw_81 : tv_Vw "TiedViewsLaw" 81 ⟨"TiedViews", "fixed", "(I)I"⟩ prog_1_method_15_code 2 (some .int) 1 := ⟨tv_t4 209 rfl rfl, tv_t4 210 rfl rfl, tv_t4 211 rfl rfl, tv_t1 1 rfl rfl, tv_t4 212 rfl rfl, by decide, by decide, by decide +kernel⟩
theorem cw_Lw_84 : tv_Vw "TiedViewsLaw" 84 ⟨"TiedViewsModel", "fixed", "(I)I"⟩ prog_14_method_49_code 3 (some .int) 1 := ⟨tv_t7 145 rfl rfl, tv_t7 146 rfl rfl, tv_t7 147 rfl rfl, tv_t1 14 rfl rfl, tv_t7 148 rfl rfl, by decide, by decide, by decide +kernel⟩
theorem cw_Lw_85 : tv_Vw "TiedViewsLaw" 85 ⟨"TiedViews", "fewest", "()I"⟩ prog_1_method_16_code 1 (some .int) 0 := ⟨tv_t4 217 rfl rfl, tv_t4 218 rfl rfl, tv_t4 219 rfl rfl, tv_t1 1 rfl rfl, tv_t4 220 rfl rfl, by decide, by decide, by decide +kernel⟩
theorem cw_Lw_88 : tv_Vw "TiedViewsLaw" 88 ⟨"TiedViewsModel", "fewest", "()I"⟩ prog_14_method_51_code 4 (some .int) 0 := ⟨tv_t7 149 rfl rfl, tv_t7 150 rfl rfl, tv_t7 151 rfl rfl, tv_t1 14 rfl rfl, tv_t7 152 rfl rfl, by decide, by decide, by decide +kernel⟩
theorem cw_Lw_89 : tv_Vw "TiedViewsLaw" 89 ⟨"TiedViews", "met", "(III)I"⟩ prog_1_method_17_code 6 (some .int) 3 := ⟨tv_t5 18 rfl rfl, tv_t5 19 rfl rfl, tv_t5 20 rfl rfl, tv_t1 1 rfl rfl, tv_t5 21 rfl rfl, by decide, by decide, by decide +kernel⟩
theorem cw_Lw_92 : tv_Vw "TiedViewsLaw" 92 ⟨"TiedViewsModel", "met", "(III)I"⟩ prog_14_method_52_code 6 (some .int) 3 := ⟨tv_t7 156 rfl rfl, tv_t7 157 rfl rfl, tv_t7 158 rfl rfl, tv_t1 14 rfl rfl, tv_t7 159 rfl rfl, by decide, by decide, by decide +kernel⟩
theorem cw_Lw_93 : tv_Vw "TiedViewsLaw" 93 ⟨"TiedViews", "cost", "(I)I"⟩ prog_1_method_18_code 2 (some .int) 1 := ⟨tv_t5 35 rfl rfl, tv_t5 36 rfl rfl, tv_t5 37 rfl rfl, tv_t1 1 rfl rfl, tv_t5 38 rfl rfl, by decide, by decide, by decide +kernel⟩
theorem cw_Lw_96 : tv_Vw "TiedViewsLaw" 96 ⟨"TiedViewsModel", "cost", "(I)I"⟩ prog_14_method_53_code 3 (some .int) 1 := ⟨tv_t7 161 rfl rfl, tv_t7 162 rfl rfl, tv_t7 163 rfl rfl, tv_t1 14 rfl rfl, tv_t7 164 rfl rfl, by decide, by decide, by decide +kernel⟩
theorem cw_Lw_97 : tv_Vw "TiedViewsLaw" 97 ⟨"TiedViews", "hear", "(III)I"⟩ prog_1_method_19_code 7 (some .int) 3 := ⟨tv_t5 47 rfl rfl, tv_t5 48 rfl rfl, tv_t5 49 rfl rfl, tv_t1 1 rfl rfl, tv_t5 50 rfl rfl, by decide, by decide, by decide +kernel⟩
theorem cw_Lw_100 : tv_Vw "TiedViewsLaw" 100 ⟨"TiedViewsModel", "hear", "(III)I"⟩ prog_14_method_54_code 4 (some .int) 3 := ⟨tv_t7 165 rfl rfl, tv_t7 166 rfl rfl, tv_t7 167 rfl rfl, tv_t1 14 rfl rfl, tv_t7 168 rfl rfl, by decide, by decide, by decide +kernel⟩
theorem cw_Lw_101 : tv_Vw "TiedViewsLaw" 101 ⟨"TiedViews", "now", "(III)I"⟩ prog_1_method_20_code 5 (some .int) 3 := ⟨tv_t5 62 rfl rfl, tv_t5 63 rfl rfl, tv_t5 64 rfl rfl, tv_t1 1 rfl rfl, tv_t5 65 rfl rfl, by decide, by decide, by decide +kernel⟩
theorem cw_Lw_104 : tv_Vw "TiedViewsLaw" 104 ⟨"TiedViewsModel", "now", "(III)I"⟩ prog_14_method_56_code 5 (some .int) 3 := ⟨tv_t7 169 rfl rfl, tv_t7 170 rfl rfl, tv_t7 171 rfl rfl, tv_t1 14 rfl rfl, tv_t7 172 rfl rfl, by decide, by decide, by decide +kernel⟩
theorem cw_Lw_105 : tv_Vw "TiedViewsLaw" 105 ⟨"TiedViews", "tick", "(I)I"⟩ prog_1_method_21_code 2 (some .int) 1 := ⟨tv_t5 72 rfl rfl, tv_t5 73 rfl rfl, tv_t5 74 rfl rfl, tv_t1 1 rfl rfl, tv_t5 75 rfl rfl, by decide, by decide, by decide +kernel⟩
theorem cw_Lw_108 : tv_Vw "TiedViewsLaw" 108 ⟨"TiedViewsModel", "tick", "(I)I"⟩ prog_14_method_58_code 4 (some .int) 1 := ⟨tv_t7 177 rfl rfl, tv_t7 178 rfl rfl, tv_t7 179 rfl rfl, tv_t1 14 rfl rfl, tv_t7 180 rfl rfl, by decide, by decide, by decide +kernel⟩
theorem cw_Lw_109 : tv_Vw "TiedViewsLaw" 109 ⟨"TiedViews", "says", "(II)I"⟩ prog_1_method_22_code 4 (some .int) 2 := ⟨tv_t5 93 rfl rfl, tv_t5 94 rfl rfl, tv_t5 95 rfl rfl, tv_t1 1 rfl rfl, tv_t5 96 rfl rfl, by decide, by decide, by decide +kernel⟩
theorem cw_Lw_112 : tv_Vw "TiedViewsLaw" 112 ⟨"TiedViewsModel", "says", "(II)I"⟩ prog_14_method_59_code 3 (some .int) 2 := ⟨tv_t7 186 rfl rfl, tv_t7 187 rfl rfl, tv_t7 188 rfl rfl, tv_t1 14 rfl rfl, tv_t7 189 rfl rfl, by decide, by decide, by decide +kernel⟩
theorem cw_Lw_113 : tv_Vw "TiedViewsLaw" 113 ⟨"TiedViews", "settles", "(I)I"⟩ prog_1_method_23_code 2 (some .int) 1 := ⟨tv_t5 101 rfl rfl, tv_t5 102 rfl rfl, tv_t5 103 rfl rfl, tv_t1 1 rfl rfl, tv_t5 104 rfl rfl, by decide, by decide, by decide +kernel⟩
theorem cw_Lw_116 : tv_Vw "TiedViewsLaw" 116 ⟨"TiedViewsModel", "settles", "(I)I"⟩ prog_14_method_61_code 6 (some .int) 1 := ⟨tv_t7 190 rfl rfl, tv_t7 191 rfl rfl, tv_t7 192 rfl rfl, tv_t1 14 rfl rfl, tv_t7 193 rfl rfl, by decide, by decide, by decide +kernel⟩
theorem cw_Lw_117 : tv_Vw "TiedViewsLaw" 117 ⟨"TiedViews", "choose", "(II)I"⟩ prog_1_method_24_code 5 (some .int) 2 := ⟨tv_t5 121 rfl rfl, tv_t5 122 rfl rfl, tv_t5 123 rfl rfl, tv_t1 1 rfl rfl, tv_t5 124 rfl rfl, by decide, by decide, by decide +kernel⟩
theorem cw_Lw_120 : tv_Vw "TiedViewsLaw" 120 ⟨"TiedViewsModel", "choose", "(II)I"⟩ prog_14_method_62_code 4 (some .int) 2 := ⟨tv_t7 198 rfl rfl, tv_t7 199 rfl rfl, tv_t7 200 rfl rfl, tv_t1 14 rfl rfl, tv_t7 201 rfl rfl, by decide, by decide, by decide +kernel⟩
theorem cw_Lw_121 : tv_Vw "TiedViewsLaw" 121 ⟨"TiedViews", "narrow", "()I"⟩ prog_1_method_25_code 1 (some .int) 0 := ⟨tv_t5 131 rfl rfl, tv_t5 132 rfl rfl, tv_t5 133 rfl rfl, tv_t1 1 rfl rfl, tv_t5 134 rfl rfl, by decide, by decide, by decide +kernel⟩
theorem cw_Lw_124 : tv_Vw "TiedViewsLaw" 124 ⟨"TiedViewsModel", "narrow", "()I"⟩ prog_14_method_65_code 5 (some .int) 0 := ⟨tv_t7 206 rfl rfl, tv_t7 207 rfl rfl, tv_t7 208 rfl rfl, tv_t1 14 rfl rfl, tv_t7 209 rfl rfl, by decide, by decide, by decide +kernel⟩
theorem cw_Lw_125 : tv_Vw "TiedViewsLaw" 125 ⟨"TiedViews", "fills", "(I)I"⟩ prog_1_method_26_code 2 (some .int) 1 := ⟨tv_t5 149 rfl rfl, tv_t5 150 rfl rfl, tv_t5 151 rfl rfl, tv_t1 1 rfl rfl, tv_t5 152 rfl rfl, by decide, by decide, by decide +kernel⟩
theorem cw_Lw_128 : tv_Vw "TiedViewsLaw" 128 ⟨"TiedViewsModel", "fills", "(I)I"⟩ prog_14_method_68_code 4 (some .int) 1 := ⟨tv_t7 218 rfl rfl, tv_t7 219 rfl rfl, tv_t7 220 rfl rfl, tv_t1 14 rfl rfl, tv_t7 221 rfl rfl, by decide, by decide, by decide +kernel⟩
theorem cw_Lw_129 : tv_Vw "TiedViewsLaw" 129 ⟨"TiedViews", "kind", "(I)I"⟩ prog_1_method_27_code 3 (some .int) 1 := ⟨tv_t5 177 rfl rfl, tv_t5 178 rfl rfl, tv_t5 179 rfl rfl, tv_t1 1 rfl rfl, tv_t5 180 rfl rfl, by decide, by decide, by decide +kernel⟩
theorem cw_Lw_132 : tv_Vw "TiedViewsLaw" 132 ⟨"TiedViewsModel", "kind", "(I)I"⟩ prog_14_method_71_code 2 (some .int) 1 := ⟨tv_t7 230 rfl rfl, tv_t7 231 rfl rfl, tv_t7 232 rfl rfl, tv_t1 14 rfl rfl, tv_t7 233 rfl rfl, by decide, by decide, by decide +kernel⟩
theorem cw_Lw_133 : tv_Vw "TiedViewsLaw" 133 ⟨"TiedViews", "as", "(II)I"⟩ prog_1_method_28_code 4 (some .int) 2 := ⟨tv_t5 186 rfl rfl, tv_t5 187 rfl rfl, tv_t5 188 rfl rfl, tv_t1 1 rfl rfl, tv_t5 189 rfl rfl, by decide, by decide, by decide +kernel⟩
theorem cw_Lw_136 : tv_Vw "TiedViewsLaw" 136 ⟨"TiedViewsModel", "as", "(II)I"⟩ prog_14_method_72_code 3 (some .int) 2 := ⟨tv_t7 238 rfl rfl, tv_t7 239 rfl rfl, tv_t8 0 rfl rfl, tv_t1 14 rfl rfl, tv_t8 1 rfl rfl, by decide, by decide, by decide +kernel⟩
theorem cw_Lw_137 : tv_Vw "TiedViewsLaw" 137 ⟨"TiedViews", "ask", "(II)I"⟩ prog_1_method_29_code 4 (some .int) 2 := ⟨tv_t5 196 rfl rfl, tv_t5 197 rfl rfl, tv_t5 198 rfl rfl, tv_t1 1 rfl rfl, tv_t5 199 rfl rfl, by decide, by decide, by decide +kernel⟩
theorem cw_Lw_140 : tv_Vw "TiedViewsLaw" 140 ⟨"TiedViewsModel", "ask", "(II)I"⟩ prog_14_method_78_code 3 (some .int) 2 := ⟨tv_t8 5 rfl rfl, tv_t8 6 rfl rfl, tv_t8 7 rfl rfl, tv_t1 14 rfl rfl, tv_t8 8 rfl rfl, by decide, by decide, by decide +kernel⟩
theorem cw_Lw_141 : tv_Vw "TiedViewsLaw" 141 ⟨"TiedViews", "trace", "(I)I"⟩ prog_1_method_30_code 2 (some .int) 1 := ⟨tv_t5 225 rfl rfl, tv_t5 226 rfl rfl, tv_t5 227 rfl rfl, tv_t1 1 rfl rfl, tv_t5 228 rfl rfl, by decide, by decide, by decide +kernel⟩
theorem cw_Lw_144 : tv_Vw "TiedViewsLaw" 144 ⟨"TiedViewsModel", "trace", "(I)I"⟩ prog_14_method_79_code 2 (some .int) 1 := ⟨tv_t8 29 rfl rfl, tv_t8 30 rfl rfl, tv_t8 31 rfl rfl, tv_t1 14 rfl rfl, tv_t8 32 rfl rfl, by decide, by decide, by decide +kernel⟩
theorem cw_Lw_145 : tv_Vw "TiedViewsLaw" 145 ⟨"TiedViews", "count", "(I)I"⟩ prog_1_method_31_code 2 (some .int) 1 := ⟨tv_t5 234 rfl rfl, tv_t5 235 rfl rfl, tv_t5 236 rfl rfl, tv_t1 1 rfl rfl, tv_t5 237 rfl rfl, by decide, by decide, by decide +kernel⟩
theorem cw_Lw_148 : tv_Vw "TiedViewsLaw" 148 ⟨"TiedViewsModel", "count", "(I)I"⟩ prog_14_method_80_code 4 (some .int) 1 := ⟨tv_t8 33 rfl rfl, tv_t8 34 rfl rfl, tv_t8 35 rfl rfl, tv_t1 14 rfl rfl, tv_t8 36 rfl rfl, by decide, by decide, by decide +kernel⟩
theorem cw_Lw_149 : tv_Vw "TiedViewsLaw" 149 ⟨"TiedViews", "status", "()I"⟩ prog_1_method_32_code 1 (some .int) 0 := ⟨tv_t6 10 rfl rfl, tv_t6 11 rfl rfl, tv_t6 12 rfl rfl, tv_t1 1 rfl rfl, tv_t6 13 rfl rfl, by decide, by decide, by decide +kernel⟩
theorem cw_Lw_152 : tv_Vw "TiedViewsLaw" 152 ⟨"TiedViewsModel", "status", "()I"⟩ prog_14_method_81_code 1 (some .int) 0 := ⟨tv_t8 37 rfl rfl, tv_t8 38 rfl rfl, tv_t8 39 rfl rfl, tv_t1 14 rfl rfl, tv_t8 40 rfl rfl, by decide, by decide, by decide +kernel⟩
/-! THE LAW's LOOP -/
def tl_rd {α : Type} (L : Nat) (xs : Nat → Int32) (i : Int32) (f : Int32 → Option α) : Option α := if tv_inb i L then f (xs i.toNatClampNeg) else none
def tl_Q (κ : tv_Kt) (sb : Nat) : Int32 → tv_M → State → Prop := fun _ _ => lw_Z κ.2.2.2.2.2.2.2.1 #[Value.ref sb] κ.s
def tl_R (κ : tv_Kt) (sb L : Nat) (xs : Nat → Int32) : Prop := va_X sb L xs κ.s κ.s.heap ∧ sb < κ.s.heap.size ∧ κ.b = κ.s.heap.size ∧ κ.2.2.2.1 = room_1 ∧ κ.2.2.2.2.2.2.1 = #[Value.ref sb] ∧ κ.2.2.2.2.2.2.2.2.1.sig.returnType = ret ∧ κ.2.2.2.2.2.2.2.2.1.locks = false ∧ κ.ce ≤ 600000 ∧ κ.sz ≤ 7302250
section TVL
variable {β : Type} {κ : tv_Kt} {own : String} {cc : ByteArray} {nL d pc sb L : Nat} {xs : Nat → Int32} {Q : β → tv_M → State → Prop} {ls : List (Option Value)} {st : List Value} {M : tv_M} {o : Option (β × tv_M)} {x : Int32}
theorem g_xald (hC : tv_Cx κ own cc nL d) (hR : tl_R κ sb L xs) {i : Int32} {f : Int32 → Option (β × tv_M)} (hd : decode cc pc = .ok (.iaload, 1)) (kk : ∀ x, tv_G κ nL Q (pc + 1) ls (.int x :: st) M (f x)) : tv_G κ nL Q pc ls (.int i :: .ref sb :: st) M (tl_rd L xs i f) := by
  intro r0 M' ho H locs sl hP hS hl
  unfold tl_rd at ho
  by_cases hi : tv_inb i L = true
  · rw [if_pos hi] at ho
    exact va_sld hC.1.1 hC.1.2.1 hR.1 hR.2.1 (by show ¬ κ.b ≤ sb; rw [hR.2.2.1]; exact Nat.not_le.mpr hR.2.1) hS (tv_inbP hi) hd (kk _ r0 M' ho H locs sl hP hS hl)
  · rw [if_neg hi] at ho
    cases ho
theorem g_xlen (hC : tv_Cx κ own cc nL d) (hR : tl_R κ sb L xs) (hd : decode cc pc = .ok (.arraylength, 1)) (kk : tv_G κ nL Q (pc + 1) ls (.int (Int32.ofNat L) :: st) M o) : tv_G κ nL Q pc ls (.ref sb :: st) M o := fun r0 M' ho H locs sl hP hS hl => va_slen hC.1.1 hC.1.2.1 hR.1 hR.2.1 (by show ¬ κ.b ≤ sb; rw [hR.2.2.1]; exact Nat.not_le.mpr hR.2.1) hS hd (kk r0 M' ho H locs sl hP hS hl)
theorem g_xret (hC : tv_Cx κ "TiedViewsLaw" code nL d) (hR : tl_R κ sb L xs) (hd : decode code pc = .ok (.ireturn, 1)) : tv_G κ nL (tl_Q κ sb) pc ls [.int 1] M (some (1, M)) := by
  intro r0 M' ho H locs sl hP hS hl
  obtain ⟨p, l, e, R, s, m, args, below, meth, c, θ, ce, sz⟩ := κ
  obtain ⟨h1, h2, h3, h4, h5, h6, h7, h8, h9⟩ := hR
  have h4 : R = room_1 := h4
  have h5 : args = #[Value.ref sb] := h5
  subst h4; subst h5
  refine va_forget (fun q hq => ?_) ?_
  · have := hS.2.2 q hq
    have h3 : θ.1 = s.heap.size := h3
    rw [← h3]
    exact this
  · refine W.widen h8 h9 ?_
    exact lw_ret hC.1.1 hC.1.2.1 h6 h7 hd
end TVL
def Lw_law_L28 (F : Nat) (L : Nat) (xs : Nat → Int32) : Nat → Int32 → tv_M → Option (Int32 × tv_M)
  | 0, _, _ => none
  | nn + 1, l3, M => if ((Int32.ofNat L) - 6) < l3 then some (1, M) else tl_rd L xs l3 (fun x1 => if (x1 &&& 31) = 0 then tl_rd L xs (l3 + 1) (fun x2 => tl_rd L xs (l3 + 2) (fun x3 => tl_rd L xs (l3 + 3) (fun x4 => tv_cb (Xx_sheet F x2 x3 x4 M) (fun r5 M6 => tl_rd L xs (l3 + 1) (fun x7 => tl_rd L xs (l3 + 2) (fun x8 => tl_rd L xs (l3 + 3) (fun x9 => tv_cb (Md_sheet F x7 x8 x9 M6) (fun r10 M11 => if r5 = r10 then Lw_law_L28 F L xs nn (l3 + 6) M11 else none)))))))) else if (x1 &&& 31) = 1 then tl_rd L xs (l3 + 1) (fun x13 => tl_rd L xs (l3 + 2) (fun x14 => tl_rd L xs (l3 + 3) (fun x15 => tv_cb (Xx_set F x13 x14 x15 M) (fun r16 M17 => tl_rd L xs (l3 + 1) (fun x18 => tl_rd L xs (l3 + 2) (fun x19 => tl_rd L xs (l3 + 3) (fun x20 => tv_cb (Md_set F x18 x19 x20 M17) (fun r21 M22 => if r16 = r21 then Lw_law_L28 F L xs nn (l3 + 6) M22 else none)))))))) else if (x1 &&& 31) = 2 then tl_rd L xs (l3 + 1) (fun x24 => tl_rd L xs (l3 + 2) (fun x25 => tl_rd L xs (l3 + 3) (fun x26 => tl_rd L xs (l3 + 4) (fun x27 => tl_rd L xs (l3 + 5) (fun x28 => tv_cb (Xx_copy F x24 x25 x26 x27 x28 M) (fun r29 M30 => tl_rd L xs (l3 + 1) (fun x31 => tl_rd L xs (l3 + 2) (fun x32 => tl_rd L xs (l3 + 3) (fun x33 => tl_rd L xs (l3 + 4) (fun x34 => tl_rd L xs (l3 + 5) (fun x35 => tv_cb (Md_copy F x31 x32 x33 x34 x35 M30) (fun r36 M37 => if r29 = r36 then Lw_law_L28 F L xs nn (l3 + 6) M37 else none)))))))))))) else if (x1 &&& 31) = 3 then tl_rd L xs (l3 + 1) (fun x39 => tv_cb (Xx_drop F x39 M) (fun r40 M41 => tl_rd L xs (l3 + 1) (fun x42 => tv_cb (Md_drop F x42 M41) (fun r43 M44 => if r40 = r43 then Lw_law_L28 F L xs nn (l3 + 6) M44 else none)))) else if (x1 &&& 31) = 4 then tl_rd L xs (l3 + 1) (fun x46 => tl_rd L xs (l3 + 2) (fun x47 => tl_rd L xs (l3 + 3) (fun x48 => tv_cb (Xx_feed F ((((x46 : Int32).toInt64) <<< ((32 : Int32).toInt64 &&& 63)) ||| (((x47 : Int32).toInt64) &&& 4294967295)) x48 M) (fun r49 M50 => tl_rd L xs (l3 + 1) (fun x51 => tl_rd L xs (l3 + 2) (fun x52 => tl_rd L xs (l3 + 3) (fun x53 => tv_cb (Md_feed F ((((x51 : Int32).toInt64) <<< ((32 : Int32).toInt64 &&& 63)) ||| (((x52 : Int32).toInt64) &&& 4294967295)) x53 M50) (fun r54 M55 => if r49 = r54 then Lw_law_L28 F L xs nn (l3 + 6) M55 else none)))))))) else if (x1 &&& 31) = 5 then tv_cb (Xx_read F M) (fun r57 M58 => tv_cb (Md_read F M58) (fun r59 M60 => if r57 = r59 then Lw_law_L28 F L xs nn (l3 + 6) M60 else none)) else if (x1 &&& 31) = 6 then tv_cb (Xx_fault F M) (fun r62 M63 => tv_cb (Md_fault F M63) (fun r64 M65 => if r62 = r64 then Lw_law_L28 F L xs nn (l3 + 6) M65 else none)) else if (x1 &&& 31) = 7 then tl_rd L xs (l3 + 1) (fun x67 => tl_rd L xs (l3 + 2) (fun x68 => tv_cb (Xx_eye F x67 x68 M) (fun r69 M70 => tl_rd L xs (l3 + 1) (fun x71 => tl_rd L xs (l3 + 2) (fun x72 => tv_cb (Md_eye F x71 x72 M70) (fun r73 M74 => if r69 = r73 then Lw_law_L28 F L xs nn (l3 + 6) M74 else none)))))) else if (x1 &&& 31) = 8 then tl_rd L xs (l3 + 1) (fun x76 => tv_cb (Xx_all F x76 M) (fun r77 M78 => tl_rd L xs (l3 + 1) (fun x79 => tv_cb (Md_all F x79 M78) (fun r80 M81 => if r77 = r80 then Lw_law_L28 F L xs nn (l3 + 6) M81 else none)))) else if (x1 &&& 31) = 9 then tl_rd L xs (l3 + 1) (fun x83 => tl_rd L xs (l3 + 2) (fun x84 => tv_cb (Xx_basis F x83 x84 M) (fun r85 M86 => tl_rd L xs (l3 + 1) (fun x87 => tl_rd L xs (l3 + 2) (fun x88 => tv_cb (Md_basis F x87 x88 M86) (fun r89 M90 => if r85 = r89 then Lw_law_L28 F L xs nn (l3 + 6) M90 else none)))))) else if (x1 &&& 31) = 10 then tl_rd L xs (l3 + 1) (fun x92 => tl_rd L xs (l3 + 2) (fun x93 => tl_rd L xs (l3 + 3) (fun x94 => tv_cb (Xx_reading F x92 x93 x94 M) (fun r95 M96 => tl_rd L xs (l3 + 1) (fun x97 => tl_rd L xs (l3 + 2) (fun x98 => tl_rd L xs (l3 + 3) (fun x99 => tv_cb (Md_reading F x97 x98 x99 M96) (fun r100 M101 => if r95 = r100 then Lw_law_L28 F L xs nn (l3 + 6) M101 else none)))))))) else if (x1 &&& 31) = 11 then tl_rd L xs (l3 + 1) (fun x103 => tv_cb (Xx_unread F x103 M) (fun r104 M105 => tl_rd L xs (l3 + 1) (fun x106 => tv_cb (Md_unread F x106 M105) (fun r107 M108 => if r104 = r107 then Lw_law_L28 F L xs nn (l3 + 6) M108 else none)))) else if (x1 &&& 31) = 12 then tl_rd L xs (l3 + 1) (fun x110 => tv_cb (Xx_fill F x110 M) (fun r111 M112 => tl_rd L xs (l3 + 1) (fun x113 => tv_cb (Md_fill F x113 M112) (fun r114 M115 => if r111 = r114 then Lw_law_L28 F L xs nn (l3 + 6) M115 else none)))) else if (x1 &&& 31) = 13 then tl_rd L xs (l3 + 1) (fun x117 => tv_cb (Xx_fixed F x117 M) (fun r118 M119 => tl_rd L xs (l3 + 1) (fun x120 => tv_cb (Md_fixed F x120 M119) (fun r121 M122 => if r118 = r121 then Lw_law_L28 F L xs nn (l3 + 6) M122 else none)))) else if (x1 &&& 31) = 14 then tv_cb (Xx_fewest F M) (fun r124 M125 => tv_cb (Md_fewest F M125) (fun r126 M127 => if r124 = r126 then Lw_law_L28 F L xs nn (l3 + 6) M127 else none)) else if (x1 &&& 31) = 15 then tl_rd L xs (l3 + 1) (fun x129 => tl_rd L xs (l3 + 2) (fun x130 => tl_rd L xs (l3 + 3) (fun x131 => tv_cb (Xx_met F x129 x130 x131 M) (fun r132 M133 => tl_rd L xs (l3 + 1) (fun x134 => tl_rd L xs (l3 + 2) (fun x135 => tl_rd L xs (l3 + 3) (fun x136 => tv_cb (Md_met F x134 x135 x136 M133) (fun r137 M138 => if r132 = r137 then Lw_law_L28 F L xs nn (l3 + 6) M138 else none)))))))) else if (x1 &&& 31) = 16 then tl_rd L xs (l3 + 1) (fun x140 => tv_cb (Xx_cost F x140 M) (fun r141 M142 => tl_rd L xs (l3 + 1) (fun x143 => tv_cb (Md_cost F x143 M142) (fun r144 M145 => if r141 = r144 then Lw_law_L28 F L xs nn (l3 + 6) M145 else none)))) else if (x1 &&& 31) = 17 then tl_rd L xs (l3 + 1) (fun x147 => tl_rd L xs (l3 + 2) (fun x148 => tl_rd L xs (l3 + 3) (fun x149 => tv_cb (Xx_hear F x147 x148 x149 M) (fun r150 M151 => tl_rd L xs (l3 + 1) (fun x152 => tl_rd L xs (l3 + 2) (fun x153 => tl_rd L xs (l3 + 3) (fun x154 => tv_cb (Md_hear F x152 x153 x154 M151) (fun r155 M156 => if r150 = r155 then Lw_law_L28 F L xs nn (l3 + 6) M156 else none)))))))) else if (x1 &&& 31) = 18 then tl_rd L xs (l3 + 1) (fun x158 => tl_rd L xs (l3 + 2) (fun x159 => tl_rd L xs (l3 + 3) (fun x160 => tv_cb (Xx_now F x158 x159 x160 M) (fun r161 M162 => tl_rd L xs (l3 + 1) (fun x163 => tl_rd L xs (l3 + 2) (fun x164 => tl_rd L xs (l3 + 3) (fun x165 => tv_cb (Md_now F x163 x164 x165 M162) (fun r166 M167 => if r161 = r166 then Lw_law_L28 F L xs nn (l3 + 6) M167 else none)))))))) else if (x1 &&& 31) = 19 then tl_rd L xs (l3 + 1) (fun x169 => tv_cb (Xx_tick F x169 M) (fun r170 M171 => tl_rd L xs (l3 + 1) (fun x172 => tv_cb (Md_tick F x172 M171) (fun r173 M174 => if r170 = r173 then Lw_law_L28 F L xs nn (l3 + 6) M174 else none)))) else if (x1 &&& 31) = 20 then tl_rd L xs (l3 + 1) (fun x176 => tl_rd L xs (l3 + 2) (fun x177 => tv_cb (Xx_says F x176 x177 M) (fun r178 M179 => tl_rd L xs (l3 + 1) (fun x180 => tl_rd L xs (l3 + 2) (fun x181 => tv_cb (Md_says F x180 x181 M179) (fun r182 M183 => if r178 = r182 then Lw_law_L28 F L xs nn (l3 + 6) M183 else none)))))) else if (x1 &&& 31) = 21 then tl_rd L xs (l3 + 1) (fun x185 => tv_cb (Xx_settles F x185 M) (fun r186 M187 => tl_rd L xs (l3 + 1) (fun x188 => tv_cb (Md_settles F x188 M187) (fun r189 M190 => if r186 = r189 then Lw_law_L28 F L xs nn (l3 + 6) M190 else none)))) else if (x1 &&& 31) = 22 then tl_rd L xs (l3 + 1) (fun x192 => tl_rd L xs (l3 + 2) (fun x193 => tv_cb (Xx_choose F x192 x193 M) (fun r194 M195 => tl_rd L xs (l3 + 1) (fun x196 => tl_rd L xs (l3 + 2) (fun x197 => tv_cb (Md_choose F x196 x197 M195) (fun r198 M199 => if r194 = r198 then Lw_law_L28 F L xs nn (l3 + 6) M199 else none)))))) else if (x1 &&& 31) = 23 then tv_cb (Xx_narrow F M) (fun r201 M202 => tv_cb (Md_narrow F M202) (fun r203 M204 => if r201 = r203 then Lw_law_L28 F L xs nn (l3 + 6) M204 else none)) else if (x1 &&& 31) = 24 then tl_rd L xs (l3 + 1) (fun x206 => tv_cb (Xx_fills F x206 M) (fun r207 M208 => tl_rd L xs (l3 + 1) (fun x209 => tv_cb (Md_fills F x209 M208) (fun r210 M211 => if r207 = r210 then Lw_law_L28 F L xs nn (l3 + 6) M211 else none)))) else if (x1 &&& 31) = 25 then tl_rd L xs (l3 + 1) (fun x213 => tv_cb (Xx_kind F x213 M) (fun r214 M215 => tl_rd L xs (l3 + 1) (fun x216 => tv_cb (Md_kind F x216 M215) (fun r217 M218 => if r214 = r217 then Lw_law_L28 F L xs nn (l3 + 6) M218 else none)))) else if (x1 &&& 31) = 26 then tl_rd L xs (l3 + 1) (fun x220 => tl_rd L xs (l3 + 2) (fun x221 => tv_cb (Xx_as F x220 x221 M) (fun r222 M223 => tl_rd L xs (l3 + 1) (fun x224 => tl_rd L xs (l3 + 2) (fun x225 => tv_cb (Md_as F x224 x225 M223) (fun r226 M227 => if r222 = r226 then Lw_law_L28 F L xs nn (l3 + 6) M227 else none)))))) else if (x1 &&& 31) = 27 then tl_rd L xs (l3 + 1) (fun x229 => tl_rd L xs (l3 + 2) (fun x230 => tv_cb (Xx_ask F x229 x230 M) (fun r231 M232 => tl_rd L xs (l3 + 1) (fun x233 => tl_rd L xs (l3 + 2) (fun x234 => tv_cb (Md_ask F x233 x234 M232) (fun r235 M236 => if r231 = r235 then Lw_law_L28 F L xs nn (l3 + 6) M236 else none)))))) else if (x1 &&& 31) = 28 then tl_rd L xs (l3 + 1) (fun x238 => tv_cb (Xx_trace F x238 M) (fun r239 M240 => tl_rd L xs (l3 + 1) (fun x241 => tv_cb (Md_trace F x241 M240) (fun r242 M243 => if r239 = r242 then Lw_law_L28 F L xs nn (l3 + 6) M243 else none)))) else if (x1 &&& 31) = 29 then tl_rd L xs (l3 + 1) (fun x245 => tv_cb (Xx_count F x245 M) (fun r246 M247 => tl_rd L xs (l3 + 1) (fun x248 => tv_cb (Md_count F x248 M247) (fun r249 M250 => if r246 = r249 then Lw_law_L28 F L xs nn (l3 + 6) M250 else none)))) else if (x1 &&& 31) = 30 then tv_cb (Xx_status F M) (fun r252 M253 => tv_cb (Md_status F M253) (fun r254 M255 => if r252 = r254 then Lw_law_L28 F L xs nn (l3 + 6) M255 else none)) else Lw_law_L28 F L xs nn (l3 + 6) M)
theorem d_Lw_law_0 : decode code 0 = .ok (.new 7, 3) := by decide +kernel
theorem d_Lw_law_3 : decode code 3 = .ok (.dup, 1) := by decide +kernel
theorem d_Lw_law_4 : decode code 4 = .ok (.aload_n 0, 1) := by decide +kernel
theorem d_Lw_law_5 : decode code 5 = .ok (.iconst 0, 1) := by decide +kernel
theorem d_Lw_law_6 : decode code 6 = .ok (.invokestatic 9, 3) := by decide +kernel
theorem d_Lw_law_9 : decode code 9 = .ok (.invokespecial 15, 3) := by decide +kernel
theorem d_Lw_law_12 : decode code 12 = .ok (.astore_n 1, 1) := by decide +kernel
theorem d_Lw_law_13 : decode code 13 = .ok (.new 18, 3) := by decide +kernel
theorem d_Lw_law_16 : decode code 16 = .ok (.dup, 1) := by decide +kernel
theorem d_Lw_law_17 : decode code 17 = .ok (.aload_n 0, 1) := by decide +kernel
theorem d_Lw_law_18 : decode code 18 = .ok (.iconst 0, 1) := by decide +kernel
theorem d_Lw_law_19 : decode code 19 = .ok (.invokestatic 9, 3) := by decide +kernel
theorem d_Lw_law_22 : decode code 22 = .ok (.invokespecial 20, 3) := by decide +kernel
theorem d_Lw_law_25 : decode code 25 = .ok (.astore_n 2, 1) := by decide +kernel
theorem d_Lw_law_26 : decode code 26 = .ok (.iconst 1, 1) := by decide +kernel
theorem d_Lw_law_27 : decode code 27 = .ok (.istore_n 3, 1) := by decide +kernel
theorem d_Lw_law_28 : decode code 28 = .ok (.iload_n 3, 1) := by decide +kernel
theorem d_Lw_law_29 : decode code 29 = .ok (.aload_n 0, 1) := by decide +kernel
theorem d_Lw_law_30 : decode code 30 = .ok (.arraylength, 1) := by decide +kernel
theorem d_Lw_law_31 : decode code 31 = .ok (.bipush 6, 2) := by decide +kernel
theorem d_Lw_law_33 : decode code 33 = .ok (.isub, 1) := by decide +kernel
theorem d_Lw_law_34 : decode code 34 = .ok (.if_icmp .gt 1075, 3) := by decide +kernel
theorem d_Lw_law_37 : decode code 37 = .ok (.aload_n 0, 1) := by decide +kernel
theorem d_Lw_law_38 : decode code 38 = .ok (.iload_n 3, 1) := by decide +kernel
theorem d_Lw_law_39 : decode code 39 = .ok (.iaload, 1) := by decide +kernel
theorem d_Lw_law_40 : decode code 40 = .ok (.bipush 31, 2) := by decide +kernel
theorem d_Lw_law_42 : decode code 42 = .ok (.iand, 1) := by decide +kernel
theorem d_Lw_law_43 : decode code 43 = .ok (.tableswitch 1060 0 30 #[137, 180, 223, 286, 309, 372, 385, 398, 431, 454, 487, 530, 553, 576, 599, 612, 655, 678, 721, 764, 787, 820, 843, 876, 889, 912, 935, 968, 1001, 1024, 1047], 137) := by decide +kernel
theorem d_Lw_law_180 : decode code 180 = .ok (.aload_n 1, 1) := by decide +kernel
theorem d_Lw_law_181 : decode code 181 = .ok (.aload_n 0, 1) := by decide +kernel
theorem d_Lw_law_182 : decode code 182 = .ok (.iload_n 3, 1) := by decide +kernel
theorem d_Lw_law_183 : decode code 183 = .ok (.iconst 1, 1) := by decide +kernel
theorem d_Lw_law_184 : decode code 184 = .ok (.iadd, 1) := by decide +kernel
theorem d_Lw_law_185 : decode code 185 = .ok (.iaload, 1) := by decide +kernel
theorem d_Lw_law_186 : decode code 186 = .ok (.aload_n 0, 1) := by decide +kernel
theorem d_Lw_law_187 : decode code 187 = .ok (.iload_n 3, 1) := by decide +kernel
theorem d_Lw_law_188 : decode code 188 = .ok (.iconst 2, 1) := by decide +kernel
theorem d_Lw_law_189 : decode code 189 = .ok (.iadd, 1) := by decide +kernel
theorem d_Lw_law_190 : decode code 190 = .ok (.iaload, 1) := by decide +kernel
theorem d_Lw_law_191 : decode code 191 = .ok (.aload_n 0, 1) := by decide +kernel
theorem d_Lw_law_192 : decode code 192 = .ok (.iload_n 3, 1) := by decide +kernel
theorem d_Lw_law_193 : decode code 193 = .ok (.iconst 3, 1) := by decide +kernel
theorem d_Lw_law_194 : decode code 194 = .ok (.iadd, 1) := by decide +kernel
theorem d_Lw_law_195 : decode code 195 = .ok (.iaload, 1) := by decide +kernel
theorem d_Lw_law_196 : decode code 196 = .ok (.invokevirtual 21, 3) := by decide +kernel
theorem d_Lw_law_199 : decode code 199 = .ok (.aload_n 2, 1) := by decide +kernel
theorem d_Lw_law_200 : decode code 200 = .ok (.aload_n 0, 1) := by decide +kernel
theorem d_Lw_law_201 : decode code 201 = .ok (.iload_n 3, 1) := by decide +kernel
theorem d_Lw_law_202 : decode code 202 = .ok (.iconst 1, 1) := by decide +kernel
theorem d_Lw_law_203 : decode code 203 = .ok (.iadd, 1) := by decide +kernel
theorem d_Lw_law_204 : decode code 204 = .ok (.iaload, 1) := by decide +kernel
theorem d_Lw_law_205 : decode code 205 = .ok (.aload_n 0, 1) := by decide +kernel
theorem d_Lw_law_206 : decode code 206 = .ok (.iload_n 3, 1) := by decide +kernel
theorem d_Lw_law_207 : decode code 207 = .ok (.iconst 2, 1) := by decide +kernel
theorem d_Lw_law_208 : decode code 208 = .ok (.iadd, 1) := by decide +kernel
theorem d_Lw_law_209 : decode code 209 = .ok (.iaload, 1) := by decide +kernel
theorem d_Lw_law_210 : decode code 210 = .ok (.aload_n 0, 1) := by decide +kernel
theorem d_Lw_law_211 : decode code 211 = .ok (.iload_n 3, 1) := by decide +kernel
theorem d_Lw_law_212 : decode code 212 = .ok (.iconst 3, 1) := by decide +kernel
theorem d_Lw_law_213 : decode code 213 = .ok (.iadd, 1) := by decide +kernel
theorem d_Lw_law_214 : decode code 214 = .ok (.iaload, 1) := by decide +kernel
theorem d_Lw_law_215 : decode code 215 = .ok (.invokevirtual 25, 3) := by decide +kernel
theorem d_Lw_law_218 : decode code 218 = .ok (.if_icmp .eq 885, 3) := by decide +kernel
theorem d_Lw_law_221 : decode code 221 = .ok (.iconst 0, 1) := by decide +kernel
theorem d_Lw_law_222 : decode code 222 = .ok (.ireturn, 1) := by decide +kernel
theorem d_Lw_law_223 : decode code 223 = .ok (.aload_n 1, 1) := by decide +kernel
theorem d_Lw_law_224 : decode code 224 = .ok (.aload_n 0, 1) := by decide +kernel
theorem d_Lw_law_225 : decode code 225 = .ok (.iload_n 3, 1) := by decide +kernel
theorem d_Lw_law_226 : decode code 226 = .ok (.iconst 1, 1) := by decide +kernel
theorem d_Lw_law_227 : decode code 227 = .ok (.iadd, 1) := by decide +kernel
theorem d_Lw_law_228 : decode code 228 = .ok (.iaload, 1) := by decide +kernel
theorem d_Lw_law_229 : decode code 229 = .ok (.aload_n 0, 1) := by decide +kernel
theorem d_Lw_law_230 : decode code 230 = .ok (.iload_n 3, 1) := by decide +kernel
theorem d_Lw_law_231 : decode code 231 = .ok (.iconst 2, 1) := by decide +kernel
theorem d_Lw_law_232 : decode code 232 = .ok (.iadd, 1) := by decide +kernel
theorem d_Lw_law_233 : decode code 233 = .ok (.iaload, 1) := by decide +kernel
theorem d_Lw_law_234 : decode code 234 = .ok (.aload_n 0, 1) := by decide +kernel
theorem d_Lw_law_235 : decode code 235 = .ok (.iload_n 3, 1) := by decide +kernel
theorem d_Lw_law_236 : decode code 236 = .ok (.iconst 3, 1) := by decide +kernel
theorem d_Lw_law_237 : decode code 237 = .ok (.iadd, 1) := by decide +kernel
theorem d_Lw_law_238 : decode code 238 = .ok (.iaload, 1) := by decide +kernel
theorem d_Lw_law_239 : decode code 239 = .ok (.invokevirtual 26, 3) := by decide +kernel
theorem d_Lw_law_242 : decode code 242 = .ok (.aload_n 2, 1) := by decide +kernel
theorem d_Lw_law_243 : decode code 243 = .ok (.aload_n 0, 1) := by decide +kernel
theorem d_Lw_law_244 : decode code 244 = .ok (.iload_n 3, 1) := by decide +kernel
theorem d_Lw_law_245 : decode code 245 = .ok (.iconst 1, 1) := by decide +kernel
theorem d_Lw_law_246 : decode code 246 = .ok (.iadd, 1) := by decide +kernel
theorem d_Lw_law_247 : decode code 247 = .ok (.iaload, 1) := by decide +kernel
theorem d_Lw_law_248 : decode code 248 = .ok (.aload_n 0, 1) := by decide +kernel
theorem d_Lw_law_249 : decode code 249 = .ok (.iload_n 3, 1) := by decide +kernel
theorem d_Lw_law_250 : decode code 250 = .ok (.iconst 2, 1) := by decide +kernel
theorem d_Lw_law_251 : decode code 251 = .ok (.iadd, 1) := by decide +kernel
theorem d_Lw_law_252 : decode code 252 = .ok (.iaload, 1) := by decide +kernel
theorem d_Lw_law_253 : decode code 253 = .ok (.aload_n 0, 1) := by decide +kernel
theorem d_Lw_law_254 : decode code 254 = .ok (.iload_n 3, 1) := by decide +kernel
theorem d_Lw_law_255 : decode code 255 = .ok (.iconst 3, 1) := by decide +kernel
theorem d_Lw_law_256 : decode code 256 = .ok (.iadd, 1) := by decide +kernel
theorem d_Lw_law_257 : decode code 257 = .ok (.iaload, 1) := by decide +kernel
theorem d_Lw_law_258 : decode code 258 = .ok (.invokevirtual 29, 3) := by decide +kernel
theorem d_Lw_law_261 : decode code 261 = .ok (.if_icmp .eq 842, 3) := by decide +kernel
theorem d_Lw_law_264 : decode code 264 = .ok (.iconst 0, 1) := by decide +kernel
theorem d_Lw_law_265 : decode code 265 = .ok (.ireturn, 1) := by decide +kernel
theorem d_Lw_law_266 : decode code 266 = .ok (.aload_n 1, 1) := by decide +kernel
theorem d_Lw_law_267 : decode code 267 = .ok (.aload_n 0, 1) := by decide +kernel
theorem d_Lw_law_268 : decode code 268 = .ok (.iload_n 3, 1) := by decide +kernel
theorem d_Lw_law_269 : decode code 269 = .ok (.iconst 1, 1) := by decide +kernel
theorem d_Lw_law_270 : decode code 270 = .ok (.iadd, 1) := by decide +kernel
theorem d_Lw_law_271 : decode code 271 = .ok (.iaload, 1) := by decide +kernel
theorem d_Lw_law_272 : decode code 272 = .ok (.aload_n 0, 1) := by decide +kernel
theorem d_Lw_law_273 : decode code 273 = .ok (.iload_n 3, 1) := by decide +kernel
theorem d_Lw_law_274 : decode code 274 = .ok (.iconst 2, 1) := by decide +kernel
theorem d_Lw_law_275 : decode code 275 = .ok (.iadd, 1) := by decide +kernel
theorem d_Lw_law_276 : decode code 276 = .ok (.iaload, 1) := by decide +kernel
theorem d_Lw_law_277 : decode code 277 = .ok (.aload_n 0, 1) := by decide +kernel
theorem d_Lw_law_278 : decode code 278 = .ok (.iload_n 3, 1) := by decide +kernel
theorem d_Lw_law_279 : decode code 279 = .ok (.iconst 3, 1) := by decide +kernel
theorem d_Lw_law_280 : decode code 280 = .ok (.iadd, 1) := by decide +kernel
theorem d_Lw_law_281 : decode code 281 = .ok (.iaload, 1) := by decide +kernel
theorem d_Lw_law_282 : decode code 282 = .ok (.aload_n 0, 1) := by decide +kernel
theorem d_Lw_law_283 : decode code 283 = .ok (.iload_n 3, 1) := by decide +kernel
theorem d_Lw_law_284 : decode code 284 = .ok (.iconst 4, 1) := by decide +kernel
theorem d_Lw_law_285 : decode code 285 = .ok (.iadd, 1) := by decide +kernel
theorem d_Lw_law_286 : decode code 286 = .ok (.iaload, 1) := by decide +kernel
theorem d_Lw_law_287 : decode code 287 = .ok (.aload_n 0, 1) := by decide +kernel
theorem d_Lw_law_288 : decode code 288 = .ok (.iload_n 3, 1) := by decide +kernel
theorem d_Lw_law_289 : decode code 289 = .ok (.iconst 5, 1) := by decide +kernel
theorem d_Lw_law_290 : decode code 290 = .ok (.iadd, 1) := by decide +kernel
theorem d_Lw_law_291 : decode code 291 = .ok (.iaload, 1) := by decide +kernel
theorem d_Lw_law_292 : decode code 292 = .ok (.invokevirtual 30, 3) := by decide +kernel
theorem d_Lw_law_295 : decode code 295 = .ok (.aload_n 2, 1) := by decide +kernel
theorem d_Lw_law_296 : decode code 296 = .ok (.aload_n 0, 1) := by decide +kernel
theorem d_Lw_law_297 : decode code 297 = .ok (.iload_n 3, 1) := by decide +kernel
theorem d_Lw_law_298 : decode code 298 = .ok (.iconst 1, 1) := by decide +kernel
theorem d_Lw_law_299 : decode code 299 = .ok (.iadd, 1) := by decide +kernel
theorem d_Lw_law_300 : decode code 300 = .ok (.iaload, 1) := by decide +kernel
theorem d_Lw_law_301 : decode code 301 = .ok (.aload_n 0, 1) := by decide +kernel
theorem d_Lw_law_302 : decode code 302 = .ok (.iload_n 3, 1) := by decide +kernel
theorem d_Lw_law_303 : decode code 303 = .ok (.iconst 2, 1) := by decide +kernel
theorem d_Lw_law_304 : decode code 304 = .ok (.iadd, 1) := by decide +kernel
theorem d_Lw_law_305 : decode code 305 = .ok (.iaload, 1) := by decide +kernel
theorem d_Lw_law_306 : decode code 306 = .ok (.aload_n 0, 1) := by decide +kernel
theorem d_Lw_law_307 : decode code 307 = .ok (.iload_n 3, 1) := by decide +kernel
theorem d_Lw_law_308 : decode code 308 = .ok (.iconst 3, 1) := by decide +kernel
theorem d_Lw_law_309 : decode code 309 = .ok (.iadd, 1) := by decide +kernel
theorem d_Lw_law_310 : decode code 310 = .ok (.iaload, 1) := by decide +kernel
theorem d_Lw_law_311 : decode code 311 = .ok (.aload_n 0, 1) := by decide +kernel
theorem d_Lw_law_312 : decode code 312 = .ok (.iload_n 3, 1) := by decide +kernel
theorem d_Lw_law_313 : decode code 313 = .ok (.iconst 4, 1) := by decide +kernel
theorem d_Lw_law_314 : decode code 314 = .ok (.iadd, 1) := by decide +kernel
theorem d_Lw_law_315 : decode code 315 = .ok (.iaload, 1) := by decide +kernel
theorem d_Lw_law_316 : decode code 316 = .ok (.aload_n 0, 1) := by decide +kernel
theorem d_Lw_law_317 : decode code 317 = .ok (.iload_n 3, 1) := by decide +kernel
theorem d_Lw_law_318 : decode code 318 = .ok (.iconst 5, 1) := by decide +kernel
theorem d_Lw_law_319 : decode code 319 = .ok (.iadd, 1) := by decide +kernel
theorem d_Lw_law_320 : decode code 320 = .ok (.iaload, 1) := by decide +kernel
theorem d_Lw_law_321 : decode code 321 = .ok (.invokevirtual 34, 3) := by decide +kernel
theorem d_Lw_law_324 : decode code 324 = .ok (.if_icmp .eq 779, 3) := by decide +kernel
theorem d_Lw_law_327 : decode code 327 = .ok (.iconst 0, 1) := by decide +kernel
theorem d_Lw_law_328 : decode code 328 = .ok (.ireturn, 1) := by decide +kernel
theorem d_Lw_law_329 : decode code 329 = .ok (.aload_n 1, 1) := by decide +kernel
theorem d_Lw_law_330 : decode code 330 = .ok (.aload_n 0, 1) := by decide +kernel
theorem d_Lw_law_331 : decode code 331 = .ok (.iload_n 3, 1) := by decide +kernel
theorem d_Lw_law_332 : decode code 332 = .ok (.iconst 1, 1) := by decide +kernel
theorem d_Lw_law_333 : decode code 333 = .ok (.iadd, 1) := by decide +kernel
theorem d_Lw_law_334 : decode code 334 = .ok (.iaload, 1) := by decide +kernel
theorem d_Lw_law_335 : decode code 335 = .ok (.invokevirtual 35, 3) := by decide +kernel
theorem d_Lw_law_338 : decode code 338 = .ok (.aload_n 2, 1) := by decide +kernel
theorem d_Lw_law_339 : decode code 339 = .ok (.aload_n 0, 1) := by decide +kernel
theorem d_Lw_law_340 : decode code 340 = .ok (.iload_n 3, 1) := by decide +kernel
theorem d_Lw_law_341 : decode code 341 = .ok (.iconst 1, 1) := by decide +kernel
theorem d_Lw_law_342 : decode code 342 = .ok (.iadd, 1) := by decide +kernel
theorem d_Lw_law_343 : decode code 343 = .ok (.iaload, 1) := by decide +kernel
theorem d_Lw_law_344 : decode code 344 = .ok (.invokevirtual 39, 3) := by decide +kernel
theorem d_Lw_law_347 : decode code 347 = .ok (.if_icmp .eq 756, 3) := by decide +kernel
theorem d_Lw_law_350 : decode code 350 = .ok (.iconst 0, 1) := by decide +kernel
theorem d_Lw_law_351 : decode code 351 = .ok (.ireturn, 1) := by decide +kernel
theorem d_Lw_law_352 : decode code 352 = .ok (.aload_n 1, 1) := by decide +kernel
theorem d_Lw_law_353 : decode code 353 = .ok (.aload_n 0, 1) := by decide +kernel
theorem d_Lw_law_354 : decode code 354 = .ok (.iload_n 3, 1) := by decide +kernel
theorem d_Lw_law_355 : decode code 355 = .ok (.iconst 1, 1) := by decide +kernel
theorem d_Lw_law_356 : decode code 356 = .ok (.iadd, 1) := by decide +kernel
theorem d_Lw_law_357 : decode code 357 = .ok (.iaload, 1) := by decide +kernel
theorem d_Lw_law_358 : decode code 358 = .ok (.i2l, 1) := by decide +kernel
theorem d_Lw_law_359 : decode code 359 = .ok (.bipush 32, 2) := by decide +kernel
theorem d_Lw_law_361 : decode code 361 = .ok (.lshl, 1) := by decide +kernel
theorem d_Lw_law_362 : decode code 362 = .ok (.aload_n 0, 1) := by decide +kernel
theorem d_Lw_law_363 : decode code 363 = .ok (.iload_n 3, 1) := by decide +kernel
theorem d_Lw_law_364 : decode code 364 = .ok (.iconst 2, 1) := by decide +kernel
theorem d_Lw_law_365 : decode code 365 = .ok (.iadd, 1) := by decide +kernel
theorem d_Lw_law_366 : decode code 366 = .ok (.iaload, 1) := by decide +kernel
theorem d_Lw_law_367 : decode code 367 = .ok (.i2l, 1) := by decide +kernel
theorem d_Lw_law_368 : decode code 368 = .ok (.ldc2_w 40, 3) := by decide +kernel
theorem d_Lw_law_371 : decode code 371 = .ok (.land, 1) := by decide +kernel
theorem d_Lw_law_372 : decode code 372 = .ok (.lor, 1) := by decide +kernel
theorem d_Lw_law_373 : decode code 373 = .ok (.aload_n 0, 1) := by decide +kernel
theorem d_Lw_law_374 : decode code 374 = .ok (.iload_n 3, 1) := by decide +kernel
theorem d_Lw_law_375 : decode code 375 = .ok (.iconst 3, 1) := by decide +kernel
theorem d_Lw_law_376 : decode code 376 = .ok (.iadd, 1) := by decide +kernel
theorem d_Lw_law_377 : decode code 377 = .ok (.iaload, 1) := by decide +kernel
theorem d_Lw_law_378 : decode code 378 = .ok (.invokevirtual 42, 3) := by decide +kernel
theorem d_Lw_law_381 : decode code 381 = .ok (.aload_n 2, 1) := by decide +kernel
theorem d_Lw_law_382 : decode code 382 = .ok (.aload_n 0, 1) := by decide +kernel
theorem d_Lw_law_383 : decode code 383 = .ok (.iload_n 3, 1) := by decide +kernel
theorem d_Lw_law_384 : decode code 384 = .ok (.iconst 1, 1) := by decide +kernel
theorem d_Lw_law_385 : decode code 385 = .ok (.iadd, 1) := by decide +kernel
theorem d_Lw_law_386 : decode code 386 = .ok (.iaload, 1) := by decide +kernel
theorem d_Lw_law_387 : decode code 387 = .ok (.i2l, 1) := by decide +kernel
theorem d_Lw_law_388 : decode code 388 = .ok (.bipush 32, 2) := by decide +kernel
theorem d_Lw_law_390 : decode code 390 = .ok (.lshl, 1) := by decide +kernel
theorem d_Lw_law_391 : decode code 391 = .ok (.aload_n 0, 1) := by decide +kernel
theorem d_Lw_law_392 : decode code 392 = .ok (.iload_n 3, 1) := by decide +kernel
theorem d_Lw_law_393 : decode code 393 = .ok (.iconst 2, 1) := by decide +kernel
theorem d_Lw_law_394 : decode code 394 = .ok (.iadd, 1) := by decide +kernel
theorem d_Lw_law_395 : decode code 395 = .ok (.iaload, 1) := by decide +kernel
theorem d_Lw_law_396 : decode code 396 = .ok (.i2l, 1) := by decide +kernel
theorem d_Lw_law_397 : decode code 397 = .ok (.ldc2_w 40, 3) := by decide +kernel
theorem d_Lw_law_400 : decode code 400 = .ok (.land, 1) := by decide +kernel
theorem d_Lw_law_401 : decode code 401 = .ok (.lor, 1) := by decide +kernel
theorem d_Lw_law_402 : decode code 402 = .ok (.aload_n 0, 1) := by decide +kernel
theorem d_Lw_law_403 : decode code 403 = .ok (.iload_n 3, 1) := by decide +kernel
theorem d_Lw_law_404 : decode code 404 = .ok (.iconst 3, 1) := by decide +kernel
theorem d_Lw_law_405 : decode code 405 = .ok (.iadd, 1) := by decide +kernel
theorem d_Lw_law_406 : decode code 406 = .ok (.iaload, 1) := by decide +kernel
theorem d_Lw_law_407 : decode code 407 = .ok (.invokevirtual 46, 3) := by decide +kernel
theorem d_Lw_law_410 : decode code 410 = .ok (.if_icmp .eq 693, 3) := by decide +kernel
theorem d_Lw_law_413 : decode code 413 = .ok (.iconst 0, 1) := by decide +kernel
theorem d_Lw_law_414 : decode code 414 = .ok (.ireturn, 1) := by decide +kernel
theorem d_Lw_law_415 : decode code 415 = .ok (.aload_n 1, 1) := by decide +kernel
theorem d_Lw_law_416 : decode code 416 = .ok (.invokevirtual 47, 3) := by decide +kernel
theorem d_Lw_law_419 : decode code 419 = .ok (.aload_n 2, 1) := by decide +kernel
theorem d_Lw_law_420 : decode code 420 = .ok (.invokevirtual 51, 3) := by decide +kernel
theorem d_Lw_law_423 : decode code 423 = .ok (.if_icmp .eq 680, 3) := by decide +kernel
theorem d_Lw_law_426 : decode code 426 = .ok (.iconst 0, 1) := by decide +kernel
theorem d_Lw_law_427 : decode code 427 = .ok (.ireturn, 1) := by decide +kernel
theorem d_Lw_law_428 : decode code 428 = .ok (.aload_n 1, 1) := by decide +kernel
theorem d_Lw_law_429 : decode code 429 = .ok (.invokevirtual 52, 3) := by decide +kernel
theorem d_Lw_law_432 : decode code 432 = .ok (.aload_n 2, 1) := by decide +kernel
theorem d_Lw_law_433 : decode code 433 = .ok (.invokevirtual 55, 3) := by decide +kernel
theorem d_Lw_law_436 : decode code 436 = .ok (.if_icmp .eq 667, 3) := by decide +kernel
theorem d_Lw_law_439 : decode code 439 = .ok (.iconst 0, 1) := by decide +kernel
theorem d_Lw_law_440 : decode code 440 = .ok (.ireturn, 1) := by decide +kernel
theorem d_Lw_law_441 : decode code 441 = .ok (.aload_n 1, 1) := by decide +kernel
theorem d_Lw_law_442 : decode code 442 = .ok (.aload_n 0, 1) := by decide +kernel
theorem d_Lw_law_443 : decode code 443 = .ok (.iload_n 3, 1) := by decide +kernel
theorem d_Lw_law_444 : decode code 444 = .ok (.iconst 1, 1) := by decide +kernel
theorem d_Lw_law_445 : decode code 445 = .ok (.iadd, 1) := by decide +kernel
theorem d_Lw_law_446 : decode code 446 = .ok (.iaload, 1) := by decide +kernel
theorem d_Lw_law_447 : decode code 447 = .ok (.aload_n 0, 1) := by decide +kernel
theorem d_Lw_law_448 : decode code 448 = .ok (.iload_n 3, 1) := by decide +kernel
theorem d_Lw_law_449 : decode code 449 = .ok (.iconst 2, 1) := by decide +kernel
theorem d_Lw_law_450 : decode code 450 = .ok (.iadd, 1) := by decide +kernel
theorem d_Lw_law_451 : decode code 451 = .ok (.iaload, 1) := by decide +kernel
theorem d_Lw_law_452 : decode code 452 = .ok (.invokevirtual 56, 3) := by decide +kernel
theorem d_Lw_law_455 : decode code 455 = .ok (.aload_n 2, 1) := by decide +kernel
theorem d_Lw_law_456 : decode code 456 = .ok (.aload_n 0, 1) := by decide +kernel
theorem d_Lw_law_457 : decode code 457 = .ok (.iload_n 3, 1) := by decide +kernel
theorem d_Lw_law_458 : decode code 458 = .ok (.iconst 1, 1) := by decide +kernel
theorem d_Lw_law_459 : decode code 459 = .ok (.iadd, 1) := by decide +kernel
theorem d_Lw_law_460 : decode code 460 = .ok (.iaload, 1) := by decide +kernel
theorem d_Lw_law_461 : decode code 461 = .ok (.aload_n 0, 1) := by decide +kernel
theorem d_Lw_law_462 : decode code 462 = .ok (.iload_n 3, 1) := by decide +kernel
theorem d_Lw_law_463 : decode code 463 = .ok (.iconst 2, 1) := by decide +kernel
theorem d_Lw_law_464 : decode code 464 = .ok (.iadd, 1) := by decide +kernel
theorem d_Lw_law_465 : decode code 465 = .ok (.iaload, 1) := by decide +kernel
theorem d_Lw_law_466 : decode code 466 = .ok (.invokevirtual 60, 3) := by decide +kernel
theorem d_Lw_law_469 : decode code 469 = .ok (.if_icmp .eq 634, 3) := by decide +kernel
theorem d_Lw_law_472 : decode code 472 = .ok (.iconst 0, 1) := by decide +kernel
theorem d_Lw_law_473 : decode code 473 = .ok (.ireturn, 1) := by decide +kernel
theorem d_Lw_law_474 : decode code 474 = .ok (.aload_n 1, 1) := by decide +kernel
theorem d_Lw_law_475 : decode code 475 = .ok (.aload_n 0, 1) := by decide +kernel
theorem d_Lw_law_476 : decode code 476 = .ok (.iload_n 3, 1) := by decide +kernel
theorem d_Lw_law_477 : decode code 477 = .ok (.iconst 1, 1) := by decide +kernel
theorem d_Lw_law_478 : decode code 478 = .ok (.iadd, 1) := by decide +kernel
theorem d_Lw_law_479 : decode code 479 = .ok (.iaload, 1) := by decide +kernel
theorem d_Lw_law_480 : decode code 480 = .ok (.invokevirtual 61, 3) := by decide +kernel
theorem d_Lw_law_483 : decode code 483 = .ok (.aload_n 2, 1) := by decide +kernel
theorem d_Lw_law_484 : decode code 484 = .ok (.aload_n 0, 1) := by decide +kernel
theorem d_Lw_law_485 : decode code 485 = .ok (.iload_n 3, 1) := by decide +kernel
theorem d_Lw_law_486 : decode code 486 = .ok (.iconst 1, 1) := by decide +kernel
theorem d_Lw_law_487 : decode code 487 = .ok (.iadd, 1) := by decide +kernel
theorem d_Lw_law_488 : decode code 488 = .ok (.iaload, 1) := by decide +kernel
theorem d_Lw_law_489 : decode code 489 = .ok (.invokevirtual 64, 3) := by decide +kernel
theorem d_Lw_law_492 : decode code 492 = .ok (.if_icmp .eq 611, 3) := by decide +kernel
theorem d_Lw_law_495 : decode code 495 = .ok (.iconst 0, 1) := by decide +kernel
theorem d_Lw_law_496 : decode code 496 = .ok (.ireturn, 1) := by decide +kernel
theorem d_Lw_law_497 : decode code 497 = .ok (.aload_n 1, 1) := by decide +kernel
theorem d_Lw_law_498 : decode code 498 = .ok (.aload_n 0, 1) := by decide +kernel
theorem d_Lw_law_499 : decode code 499 = .ok (.iload_n 3, 1) := by decide +kernel
theorem d_Lw_law_500 : decode code 500 = .ok (.iconst 1, 1) := by decide +kernel
theorem d_Lw_law_501 : decode code 501 = .ok (.iadd, 1) := by decide +kernel
theorem d_Lw_law_502 : decode code 502 = .ok (.iaload, 1) := by decide +kernel
theorem d_Lw_law_503 : decode code 503 = .ok (.aload_n 0, 1) := by decide +kernel
theorem d_Lw_law_504 : decode code 504 = .ok (.iload_n 3, 1) := by decide +kernel
theorem d_Lw_law_505 : decode code 505 = .ok (.iconst 2, 1) := by decide +kernel
theorem d_Lw_law_506 : decode code 506 = .ok (.iadd, 1) := by decide +kernel
theorem d_Lw_law_507 : decode code 507 = .ok (.iaload, 1) := by decide +kernel
theorem d_Lw_law_508 : decode code 508 = .ok (.invokevirtual 65, 3) := by decide +kernel
theorem d_Lw_law_511 : decode code 511 = .ok (.aload_n 2, 1) := by decide +kernel
theorem d_Lw_law_512 : decode code 512 = .ok (.aload_n 0, 1) := by decide +kernel
theorem d_Lw_law_513 : decode code 513 = .ok (.iload_n 3, 1) := by decide +kernel
theorem d_Lw_law_514 : decode code 514 = .ok (.iconst 1, 1) := by decide +kernel
theorem d_Lw_law_515 : decode code 515 = .ok (.iadd, 1) := by decide +kernel
theorem d_Lw_law_516 : decode code 516 = .ok (.iaload, 1) := by decide +kernel
theorem d_Lw_law_517 : decode code 517 = .ok (.aload_n 0, 1) := by decide +kernel
theorem d_Lw_law_518 : decode code 518 = .ok (.iload_n 3, 1) := by decide +kernel
theorem d_Lw_law_519 : decode code 519 = .ok (.iconst 2, 1) := by decide +kernel
theorem d_Lw_law_520 : decode code 520 = .ok (.iadd, 1) := by decide +kernel
theorem d_Lw_law_521 : decode code 521 = .ok (.iaload, 1) := by decide +kernel
theorem d_Lw_law_522 : decode code 522 = .ok (.invokevirtual 68, 3) := by decide +kernel
theorem d_Lw_law_525 : decode code 525 = .ok (.if_icmp .eq 578, 3) := by decide +kernel
theorem d_Lw_law_528 : decode code 528 = .ok (.iconst 0, 1) := by decide +kernel
theorem d_Lw_law_529 : decode code 529 = .ok (.ireturn, 1) := by decide +kernel
theorem d_Lw_law_530 : decode code 530 = .ok (.aload_n 1, 1) := by decide +kernel
theorem d_Lw_law_531 : decode code 531 = .ok (.aload_n 0, 1) := by decide +kernel
theorem d_Lw_law_532 : decode code 532 = .ok (.iload_n 3, 1) := by decide +kernel
theorem d_Lw_law_533 : decode code 533 = .ok (.iconst 1, 1) := by decide +kernel
theorem d_Lw_law_534 : decode code 534 = .ok (.iadd, 1) := by decide +kernel
theorem d_Lw_law_535 : decode code 535 = .ok (.iaload, 1) := by decide +kernel
theorem d_Lw_law_536 : decode code 536 = .ok (.aload_n 0, 1) := by decide +kernel
theorem d_Lw_law_537 : decode code 537 = .ok (.iload_n 3, 1) := by decide +kernel
theorem d_Lw_law_538 : decode code 538 = .ok (.iconst 2, 1) := by decide +kernel
theorem d_Lw_law_539 : decode code 539 = .ok (.iadd, 1) := by decide +kernel
theorem d_Lw_law_540 : decode code 540 = .ok (.iaload, 1) := by decide +kernel
theorem d_Lw_law_541 : decode code 541 = .ok (.aload_n 0, 1) := by decide +kernel
theorem d_Lw_law_542 : decode code 542 = .ok (.iload_n 3, 1) := by decide +kernel
theorem d_Lw_law_543 : decode code 543 = .ok (.iconst 3, 1) := by decide +kernel
theorem d_Lw_law_544 : decode code 544 = .ok (.iadd, 1) := by decide +kernel
theorem d_Lw_law_545 : decode code 545 = .ok (.iaload, 1) := by decide +kernel
theorem d_Lw_law_546 : decode code 546 = .ok (.invokevirtual 69, 3) := by decide +kernel
theorem d_Lw_law_549 : decode code 549 = .ok (.aload_n 2, 1) := by decide +kernel
theorem d_Lw_law_550 : decode code 550 = .ok (.aload_n 0, 1) := by decide +kernel
theorem d_Lw_law_551 : decode code 551 = .ok (.iload_n 3, 1) := by decide +kernel
theorem d_Lw_law_552 : decode code 552 = .ok (.iconst 1, 1) := by decide +kernel
theorem d_Lw_law_553 : decode code 553 = .ok (.iadd, 1) := by decide +kernel
theorem d_Lw_law_554 : decode code 554 = .ok (.iaload, 1) := by decide +kernel
theorem d_Lw_law_555 : decode code 555 = .ok (.aload_n 0, 1) := by decide +kernel
theorem d_Lw_law_556 : decode code 556 = .ok (.iload_n 3, 1) := by decide +kernel
theorem d_Lw_law_557 : decode code 557 = .ok (.iconst 2, 1) := by decide +kernel
theorem d_Lw_law_558 : decode code 558 = .ok (.iadd, 1) := by decide +kernel
theorem d_Lw_law_559 : decode code 559 = .ok (.iaload, 1) := by decide +kernel
theorem d_Lw_law_560 : decode code 560 = .ok (.aload_n 0, 1) := by decide +kernel
theorem d_Lw_law_561 : decode code 561 = .ok (.iload_n 3, 1) := by decide +kernel
theorem d_Lw_law_562 : decode code 562 = .ok (.iconst 3, 1) := by decide +kernel
theorem d_Lw_law_563 : decode code 563 = .ok (.iadd, 1) := by decide +kernel
theorem d_Lw_law_564 : decode code 564 = .ok (.iaload, 1) := by decide +kernel
theorem d_Lw_law_565 : decode code 565 = .ok (.invokevirtual 72, 3) := by decide +kernel
theorem d_Lw_law_568 : decode code 568 = .ok (.if_icmp .eq 535, 3) := by decide +kernel
theorem d_Lw_law_571 : decode code 571 = .ok (.iconst 0, 1) := by decide +kernel
theorem d_Lw_law_572 : decode code 572 = .ok (.ireturn, 1) := by decide +kernel
theorem d_Lw_law_573 : decode code 573 = .ok (.aload_n 1, 1) := by decide +kernel
theorem d_Lw_law_574 : decode code 574 = .ok (.aload_n 0, 1) := by decide +kernel
theorem d_Lw_law_575 : decode code 575 = .ok (.iload_n 3, 1) := by decide +kernel
theorem d_Lw_law_576 : decode code 576 = .ok (.iconst 1, 1) := by decide +kernel
theorem d_Lw_law_577 : decode code 577 = .ok (.iadd, 1) := by decide +kernel
theorem d_Lw_law_578 : decode code 578 = .ok (.iaload, 1) := by decide +kernel
theorem d_Lw_law_579 : decode code 579 = .ok (.invokevirtual 73, 3) := by decide +kernel
theorem d_Lw_law_582 : decode code 582 = .ok (.aload_n 2, 1) := by decide +kernel
theorem d_Lw_law_583 : decode code 583 = .ok (.aload_n 0, 1) := by decide +kernel
theorem d_Lw_law_584 : decode code 584 = .ok (.iload_n 3, 1) := by decide +kernel
theorem d_Lw_law_585 : decode code 585 = .ok (.iconst 1, 1) := by decide +kernel
theorem d_Lw_law_586 : decode code 586 = .ok (.iadd, 1) := by decide +kernel
theorem d_Lw_law_587 : decode code 587 = .ok (.iaload, 1) := by decide +kernel
theorem d_Lw_law_588 : decode code 588 = .ok (.invokevirtual 76, 3) := by decide +kernel
theorem d_Lw_law_591 : decode code 591 = .ok (.if_icmp .eq 512, 3) := by decide +kernel
theorem d_Lw_law_594 : decode code 594 = .ok (.iconst 0, 1) := by decide +kernel
theorem d_Lw_law_595 : decode code 595 = .ok (.ireturn, 1) := by decide +kernel
theorem d_Lw_law_596 : decode code 596 = .ok (.aload_n 1, 1) := by decide +kernel
theorem d_Lw_law_597 : decode code 597 = .ok (.aload_n 0, 1) := by decide +kernel
theorem d_Lw_law_598 : decode code 598 = .ok (.iload_n 3, 1) := by decide +kernel
theorem d_Lw_law_599 : decode code 599 = .ok (.iconst 1, 1) := by decide +kernel
theorem d_Lw_law_600 : decode code 600 = .ok (.iadd, 1) := by decide +kernel
theorem d_Lw_law_601 : decode code 601 = .ok (.iaload, 1) := by decide +kernel
theorem d_Lw_law_602 : decode code 602 = .ok (.invokevirtual 77, 3) := by decide +kernel
theorem d_Lw_law_605 : decode code 605 = .ok (.aload_n 2, 1) := by decide +kernel
theorem d_Lw_law_606 : decode code 606 = .ok (.aload_n 0, 1) := by decide +kernel
theorem d_Lw_law_607 : decode code 607 = .ok (.iload_n 3, 1) := by decide +kernel
theorem d_Lw_law_608 : decode code 608 = .ok (.iconst 1, 1) := by decide +kernel
theorem d_Lw_law_609 : decode code 609 = .ok (.iadd, 1) := by decide +kernel
theorem d_Lw_law_610 : decode code 610 = .ok (.iaload, 1) := by decide +kernel
theorem d_Lw_law_611 : decode code 611 = .ok (.invokevirtual 80, 3) := by decide +kernel
theorem d_Lw_law_614 : decode code 614 = .ok (.if_icmp .eq 489, 3) := by decide +kernel
theorem d_Lw_law_617 : decode code 617 = .ok (.iconst 0, 1) := by decide +kernel
theorem d_Lw_law_618 : decode code 618 = .ok (.ireturn, 1) := by decide +kernel
theorem d_Lw_law_619 : decode code 619 = .ok (.aload_n 1, 1) := by decide +kernel
theorem d_Lw_law_620 : decode code 620 = .ok (.aload_n 0, 1) := by decide +kernel
theorem d_Lw_law_621 : decode code 621 = .ok (.iload_n 3, 1) := by decide +kernel
theorem d_Lw_law_622 : decode code 622 = .ok (.iconst 1, 1) := by decide +kernel
theorem d_Lw_law_623 : decode code 623 = .ok (.iadd, 1) := by decide +kernel
theorem d_Lw_law_624 : decode code 624 = .ok (.iaload, 1) := by decide +kernel
theorem d_Lw_law_625 : decode code 625 = .ok (.invokevirtual 81, 3) := by decide +kernel
theorem d_Lw_law_628 : decode code 628 = .ok (.aload_n 2, 1) := by decide +kernel
theorem d_Lw_law_629 : decode code 629 = .ok (.aload_n 0, 1) := by decide +kernel
theorem d_Lw_law_630 : decode code 630 = .ok (.iload_n 3, 1) := by decide +kernel
theorem d_Lw_law_631 : decode code 631 = .ok (.iconst 1, 1) := by decide +kernel
theorem d_Lw_law_632 : decode code 632 = .ok (.iadd, 1) := by decide +kernel
theorem d_Lw_law_633 : decode code 633 = .ok (.iaload, 1) := by decide +kernel
theorem d_Lw_law_634 : decode code 634 = .ok (.invokevirtual 84, 3) := by decide +kernel
theorem d_Lw_law_637 : decode code 637 = .ok (.if_icmp .eq 466, 3) := by decide +kernel
theorem d_Lw_law_640 : decode code 640 = .ok (.iconst 0, 1) := by decide +kernel
theorem d_Lw_law_641 : decode code 641 = .ok (.ireturn, 1) := by decide +kernel
theorem d_Lw_law_642 : decode code 642 = .ok (.aload_n 1, 1) := by decide +kernel
theorem d_Lw_law_643 : decode code 643 = .ok (.invokevirtual 85, 3) := by decide +kernel
theorem d_Lw_law_646 : decode code 646 = .ok (.aload_n 2, 1) := by decide +kernel
theorem d_Lw_law_647 : decode code 647 = .ok (.invokevirtual 88, 3) := by decide +kernel
theorem d_Lw_law_650 : decode code 650 = .ok (.if_icmp .eq 453, 3) := by decide +kernel
theorem d_Lw_law_653 : decode code 653 = .ok (.iconst 0, 1) := by decide +kernel
theorem d_Lw_law_654 : decode code 654 = .ok (.ireturn, 1) := by decide +kernel
theorem d_Lw_law_655 : decode code 655 = .ok (.aload_n 1, 1) := by decide +kernel
theorem d_Lw_law_656 : decode code 656 = .ok (.aload_n 0, 1) := by decide +kernel
theorem d_Lw_law_657 : decode code 657 = .ok (.iload_n 3, 1) := by decide +kernel
theorem d_Lw_law_658 : decode code 658 = .ok (.iconst 1, 1) := by decide +kernel
theorem d_Lw_law_659 : decode code 659 = .ok (.iadd, 1) := by decide +kernel
theorem d_Lw_law_660 : decode code 660 = .ok (.iaload, 1) := by decide +kernel
theorem d_Lw_law_661 : decode code 661 = .ok (.aload_n 0, 1) := by decide +kernel
theorem d_Lw_law_662 : decode code 662 = .ok (.iload_n 3, 1) := by decide +kernel
theorem d_Lw_law_663 : decode code 663 = .ok (.iconst 2, 1) := by decide +kernel
theorem d_Lw_law_664 : decode code 664 = .ok (.iadd, 1) := by decide +kernel
theorem d_Lw_law_665 : decode code 665 = .ok (.iaload, 1) := by decide +kernel
theorem d_Lw_law_666 : decode code 666 = .ok (.aload_n 0, 1) := by decide +kernel
theorem d_Lw_law_667 : decode code 667 = .ok (.iload_n 3, 1) := by decide +kernel
theorem d_Lw_law_668 : decode code 668 = .ok (.iconst 3, 1) := by decide +kernel
theorem d_Lw_law_669 : decode code 669 = .ok (.iadd, 1) := by decide +kernel
theorem d_Lw_law_670 : decode code 670 = .ok (.iaload, 1) := by decide +kernel
theorem d_Lw_law_671 : decode code 671 = .ok (.invokevirtual 89, 3) := by decide +kernel
theorem d_Lw_law_674 : decode code 674 = .ok (.aload_n 2, 1) := by decide +kernel
theorem d_Lw_law_675 : decode code 675 = .ok (.aload_n 0, 1) := by decide +kernel
theorem d_Lw_law_676 : decode code 676 = .ok (.iload_n 3, 1) := by decide +kernel
theorem d_Lw_law_677 : decode code 677 = .ok (.iconst 1, 1) := by decide +kernel
theorem d_Lw_law_678 : decode code 678 = .ok (.iadd, 1) := by decide +kernel
theorem d_Lw_law_679 : decode code 679 = .ok (.iaload, 1) := by decide +kernel
theorem d_Lw_law_680 : decode code 680 = .ok (.aload_n 0, 1) := by decide +kernel
theorem d_Lw_law_681 : decode code 681 = .ok (.iload_n 3, 1) := by decide +kernel
theorem d_Lw_law_682 : decode code 682 = .ok (.iconst 2, 1) := by decide +kernel
theorem d_Lw_law_683 : decode code 683 = .ok (.iadd, 1) := by decide +kernel
theorem d_Lw_law_684 : decode code 684 = .ok (.iaload, 1) := by decide +kernel
theorem d_Lw_law_685 : decode code 685 = .ok (.aload_n 0, 1) := by decide +kernel
theorem d_Lw_law_686 : decode code 686 = .ok (.iload_n 3, 1) := by decide +kernel
theorem d_Lw_law_687 : decode code 687 = .ok (.iconst 3, 1) := by decide +kernel
theorem d_Lw_law_688 : decode code 688 = .ok (.iadd, 1) := by decide +kernel
theorem d_Lw_law_689 : decode code 689 = .ok (.iaload, 1) := by decide +kernel
theorem d_Lw_law_690 : decode code 690 = .ok (.invokevirtual 92, 3) := by decide +kernel
theorem d_Lw_law_693 : decode code 693 = .ok (.if_icmp .eq 410, 3) := by decide +kernel
theorem d_Lw_law_696 : decode code 696 = .ok (.iconst 0, 1) := by decide +kernel
theorem d_Lw_law_697 : decode code 697 = .ok (.ireturn, 1) := by decide +kernel
theorem d_Lw_law_698 : decode code 698 = .ok (.aload_n 1, 1) := by decide +kernel
theorem d_Lw_law_699 : decode code 699 = .ok (.aload_n 0, 1) := by decide +kernel
theorem d_Lw_law_700 : decode code 700 = .ok (.iload_n 3, 1) := by decide +kernel
theorem d_Lw_law_701 : decode code 701 = .ok (.iconst 1, 1) := by decide +kernel
theorem d_Lw_law_702 : decode code 702 = .ok (.iadd, 1) := by decide +kernel
theorem d_Lw_law_703 : decode code 703 = .ok (.iaload, 1) := by decide +kernel
theorem d_Lw_law_704 : decode code 704 = .ok (.invokevirtual 93, 3) := by decide +kernel
theorem d_Lw_law_707 : decode code 707 = .ok (.aload_n 2, 1) := by decide +kernel
theorem d_Lw_law_708 : decode code 708 = .ok (.aload_n 0, 1) := by decide +kernel
theorem d_Lw_law_709 : decode code 709 = .ok (.iload_n 3, 1) := by decide +kernel
theorem d_Lw_law_710 : decode code 710 = .ok (.iconst 1, 1) := by decide +kernel
theorem d_Lw_law_711 : decode code 711 = .ok (.iadd, 1) := by decide +kernel
theorem d_Lw_law_712 : decode code 712 = .ok (.iaload, 1) := by decide +kernel
theorem d_Lw_law_713 : decode code 713 = .ok (.invokevirtual 96, 3) := by decide +kernel
theorem d_Lw_law_716 : decode code 716 = .ok (.if_icmp .eq 387, 3) := by decide +kernel
theorem d_Lw_law_719 : decode code 719 = .ok (.iconst 0, 1) := by decide +kernel
theorem d_Lw_law_720 : decode code 720 = .ok (.ireturn, 1) := by decide +kernel
theorem d_Lw_law_721 : decode code 721 = .ok (.aload_n 1, 1) := by decide +kernel
theorem d_Lw_law_722 : decode code 722 = .ok (.aload_n 0, 1) := by decide +kernel
theorem d_Lw_law_723 : decode code 723 = .ok (.iload_n 3, 1) := by decide +kernel
theorem d_Lw_law_724 : decode code 724 = .ok (.iconst 1, 1) := by decide +kernel
theorem d_Lw_law_725 : decode code 725 = .ok (.iadd, 1) := by decide +kernel
theorem d_Lw_law_726 : decode code 726 = .ok (.iaload, 1) := by decide +kernel
theorem d_Lw_law_727 : decode code 727 = .ok (.aload_n 0, 1) := by decide +kernel
theorem d_Lw_law_728 : decode code 728 = .ok (.iload_n 3, 1) := by decide +kernel
theorem d_Lw_law_729 : decode code 729 = .ok (.iconst 2, 1) := by decide +kernel
theorem d_Lw_law_730 : decode code 730 = .ok (.iadd, 1) := by decide +kernel
theorem d_Lw_law_731 : decode code 731 = .ok (.iaload, 1) := by decide +kernel
theorem d_Lw_law_732 : decode code 732 = .ok (.aload_n 0, 1) := by decide +kernel
theorem d_Lw_law_733 : decode code 733 = .ok (.iload_n 3, 1) := by decide +kernel
theorem d_Lw_law_734 : decode code 734 = .ok (.iconst 3, 1) := by decide +kernel
theorem d_Lw_law_735 : decode code 735 = .ok (.iadd, 1) := by decide +kernel
theorem d_Lw_law_736 : decode code 736 = .ok (.iaload, 1) := by decide +kernel
theorem d_Lw_law_737 : decode code 737 = .ok (.invokevirtual 97, 3) := by decide +kernel
theorem d_Lw_law_740 : decode code 740 = .ok (.aload_n 2, 1) := by decide +kernel
theorem d_Lw_law_741 : decode code 741 = .ok (.aload_n 0, 1) := by decide +kernel
theorem d_Lw_law_742 : decode code 742 = .ok (.iload_n 3, 1) := by decide +kernel
theorem d_Lw_law_743 : decode code 743 = .ok (.iconst 1, 1) := by decide +kernel
theorem d_Lw_law_744 : decode code 744 = .ok (.iadd, 1) := by decide +kernel
theorem d_Lw_law_745 : decode code 745 = .ok (.iaload, 1) := by decide +kernel
theorem d_Lw_law_746 : decode code 746 = .ok (.aload_n 0, 1) := by decide +kernel
theorem d_Lw_law_747 : decode code 747 = .ok (.iload_n 3, 1) := by decide +kernel
theorem d_Lw_law_748 : decode code 748 = .ok (.iconst 2, 1) := by decide +kernel
theorem d_Lw_law_749 : decode code 749 = .ok (.iadd, 1) := by decide +kernel
theorem d_Lw_law_750 : decode code 750 = .ok (.iaload, 1) := by decide +kernel
theorem d_Lw_law_751 : decode code 751 = .ok (.aload_n 0, 1) := by decide +kernel
theorem d_Lw_law_752 : decode code 752 = .ok (.iload_n 3, 1) := by decide +kernel
theorem d_Lw_law_753 : decode code 753 = .ok (.iconst 3, 1) := by decide +kernel
theorem d_Lw_law_754 : decode code 754 = .ok (.iadd, 1) := by decide +kernel
theorem d_Lw_law_755 : decode code 755 = .ok (.iaload, 1) := by decide +kernel
theorem d_Lw_law_756 : decode code 756 = .ok (.invokevirtual 100, 3) := by decide +kernel
theorem d_Lw_law_759 : decode code 759 = .ok (.if_icmp .eq 344, 3) := by decide +kernel
theorem d_Lw_law_762 : decode code 762 = .ok (.iconst 0, 1) := by decide +kernel
theorem d_Lw_law_763 : decode code 763 = .ok (.ireturn, 1) := by decide +kernel
theorem d_Lw_law_764 : decode code 764 = .ok (.aload_n 1, 1) := by decide +kernel
theorem d_Lw_law_765 : decode code 765 = .ok (.aload_n 0, 1) := by decide +kernel
theorem d_Lw_law_766 : decode code 766 = .ok (.iload_n 3, 1) := by decide +kernel
theorem d_Lw_law_767 : decode code 767 = .ok (.iconst 1, 1) := by decide +kernel
theorem d_Lw_law_768 : decode code 768 = .ok (.iadd, 1) := by decide +kernel
theorem d_Lw_law_769 : decode code 769 = .ok (.iaload, 1) := by decide +kernel
theorem d_Lw_law_770 : decode code 770 = .ok (.aload_n 0, 1) := by decide +kernel
theorem d_Lw_law_771 : decode code 771 = .ok (.iload_n 3, 1) := by decide +kernel
theorem d_Lw_law_772 : decode code 772 = .ok (.iconst 2, 1) := by decide +kernel
theorem d_Lw_law_773 : decode code 773 = .ok (.iadd, 1) := by decide +kernel
theorem d_Lw_law_774 : decode code 774 = .ok (.iaload, 1) := by decide +kernel
theorem d_Lw_law_775 : decode code 775 = .ok (.aload_n 0, 1) := by decide +kernel
theorem d_Lw_law_776 : decode code 776 = .ok (.iload_n 3, 1) := by decide +kernel
theorem d_Lw_law_777 : decode code 777 = .ok (.iconst 3, 1) := by decide +kernel
theorem d_Lw_law_778 : decode code 778 = .ok (.iadd, 1) := by decide +kernel
theorem d_Lw_law_779 : decode code 779 = .ok (.iaload, 1) := by decide +kernel
theorem d_Lw_law_780 : decode code 780 = .ok (.invokevirtual 101, 3) := by decide +kernel
theorem d_Lw_law_783 : decode code 783 = .ok (.aload_n 2, 1) := by decide +kernel
theorem d_Lw_law_784 : decode code 784 = .ok (.aload_n 0, 1) := by decide +kernel
theorem d_Lw_law_785 : decode code 785 = .ok (.iload_n 3, 1) := by decide +kernel
theorem d_Lw_law_786 : decode code 786 = .ok (.iconst 1, 1) := by decide +kernel
theorem d_Lw_law_787 : decode code 787 = .ok (.iadd, 1) := by decide +kernel
theorem d_Lw_law_788 : decode code 788 = .ok (.iaload, 1) := by decide +kernel
theorem d_Lw_law_789 : decode code 789 = .ok (.aload_n 0, 1) := by decide +kernel
theorem d_Lw_law_790 : decode code 790 = .ok (.iload_n 3, 1) := by decide +kernel
theorem d_Lw_law_791 : decode code 791 = .ok (.iconst 2, 1) := by decide +kernel
theorem d_Lw_law_792 : decode code 792 = .ok (.iadd, 1) := by decide +kernel
theorem d_Lw_law_793 : decode code 793 = .ok (.iaload, 1) := by decide +kernel
theorem d_Lw_law_794 : decode code 794 = .ok (.aload_n 0, 1) := by decide +kernel
theorem d_Lw_law_795 : decode code 795 = .ok (.iload_n 3, 1) := by decide +kernel
theorem d_Lw_law_796 : decode code 796 = .ok (.iconst 3, 1) := by decide +kernel
theorem d_Lw_law_797 : decode code 797 = .ok (.iadd, 1) := by decide +kernel
theorem d_Lw_law_798 : decode code 798 = .ok (.iaload, 1) := by decide +kernel
theorem d_Lw_law_799 : decode code 799 = .ok (.invokevirtual 104, 3) := by decide +kernel
theorem d_Lw_law_802 : decode code 802 = .ok (.if_icmp .eq 301, 3) := by decide +kernel
theorem d_Lw_law_805 : decode code 805 = .ok (.iconst 0, 1) := by decide +kernel
theorem d_Lw_law_806 : decode code 806 = .ok (.ireturn, 1) := by decide +kernel
theorem d_Lw_law_807 : decode code 807 = .ok (.aload_n 1, 1) := by decide +kernel
theorem d_Lw_law_808 : decode code 808 = .ok (.aload_n 0, 1) := by decide +kernel
theorem d_Lw_law_809 : decode code 809 = .ok (.iload_n 3, 1) := by decide +kernel
theorem d_Lw_law_810 : decode code 810 = .ok (.iconst 1, 1) := by decide +kernel
theorem d_Lw_law_811 : decode code 811 = .ok (.iadd, 1) := by decide +kernel
theorem d_Lw_law_812 : decode code 812 = .ok (.iaload, 1) := by decide +kernel
theorem d_Lw_law_813 : decode code 813 = .ok (.invokevirtual 105, 3) := by decide +kernel
theorem d_Lw_law_816 : decode code 816 = .ok (.aload_n 2, 1) := by decide +kernel
theorem d_Lw_law_817 : decode code 817 = .ok (.aload_n 0, 1) := by decide +kernel
theorem d_Lw_law_818 : decode code 818 = .ok (.iload_n 3, 1) := by decide +kernel
theorem d_Lw_law_819 : decode code 819 = .ok (.iconst 1, 1) := by decide +kernel
theorem d_Lw_law_820 : decode code 820 = .ok (.iadd, 1) := by decide +kernel
theorem d_Lw_law_821 : decode code 821 = .ok (.iaload, 1) := by decide +kernel
theorem d_Lw_law_822 : decode code 822 = .ok (.invokevirtual 108, 3) := by decide +kernel
theorem d_Lw_law_825 : decode code 825 = .ok (.if_icmp .eq 278, 3) := by decide +kernel
theorem d_Lw_law_828 : decode code 828 = .ok (.iconst 0, 1) := by decide +kernel
theorem d_Lw_law_829 : decode code 829 = .ok (.ireturn, 1) := by decide +kernel
theorem d_Lw_law_830 : decode code 830 = .ok (.aload_n 1, 1) := by decide +kernel
theorem d_Lw_law_831 : decode code 831 = .ok (.aload_n 0, 1) := by decide +kernel
theorem d_Lw_law_832 : decode code 832 = .ok (.iload_n 3, 1) := by decide +kernel
theorem d_Lw_law_833 : decode code 833 = .ok (.iconst 1, 1) := by decide +kernel
theorem d_Lw_law_834 : decode code 834 = .ok (.iadd, 1) := by decide +kernel
theorem d_Lw_law_835 : decode code 835 = .ok (.iaload, 1) := by decide +kernel
theorem d_Lw_law_836 : decode code 836 = .ok (.aload_n 0, 1) := by decide +kernel
theorem d_Lw_law_837 : decode code 837 = .ok (.iload_n 3, 1) := by decide +kernel
theorem d_Lw_law_838 : decode code 838 = .ok (.iconst 2, 1) := by decide +kernel
theorem d_Lw_law_839 : decode code 839 = .ok (.iadd, 1) := by decide +kernel
theorem d_Lw_law_840 : decode code 840 = .ok (.iaload, 1) := by decide +kernel
theorem d_Lw_law_841 : decode code 841 = .ok (.invokevirtual 109, 3) := by decide +kernel
theorem d_Lw_law_844 : decode code 844 = .ok (.aload_n 2, 1) := by decide +kernel
theorem d_Lw_law_845 : decode code 845 = .ok (.aload_n 0, 1) := by decide +kernel
theorem d_Lw_law_846 : decode code 846 = .ok (.iload_n 3, 1) := by decide +kernel
theorem d_Lw_law_847 : decode code 847 = .ok (.iconst 1, 1) := by decide +kernel
theorem d_Lw_law_848 : decode code 848 = .ok (.iadd, 1) := by decide +kernel
theorem d_Lw_law_849 : decode code 849 = .ok (.iaload, 1) := by decide +kernel
theorem d_Lw_law_850 : decode code 850 = .ok (.aload_n 0, 1) := by decide +kernel
theorem d_Lw_law_851 : decode code 851 = .ok (.iload_n 3, 1) := by decide +kernel
theorem d_Lw_law_852 : decode code 852 = .ok (.iconst 2, 1) := by decide +kernel
theorem d_Lw_law_853 : decode code 853 = .ok (.iadd, 1) := by decide +kernel
theorem d_Lw_law_854 : decode code 854 = .ok (.iaload, 1) := by decide +kernel
theorem d_Lw_law_855 : decode code 855 = .ok (.invokevirtual 112, 3) := by decide +kernel
theorem d_Lw_law_858 : decode code 858 = .ok (.if_icmp .eq 245, 3) := by decide +kernel
theorem d_Lw_law_861 : decode code 861 = .ok (.iconst 0, 1) := by decide +kernel
theorem d_Lw_law_862 : decode code 862 = .ok (.ireturn, 1) := by decide +kernel
theorem d_Lw_law_863 : decode code 863 = .ok (.aload_n 1, 1) := by decide +kernel
theorem d_Lw_law_864 : decode code 864 = .ok (.aload_n 0, 1) := by decide +kernel
theorem d_Lw_law_865 : decode code 865 = .ok (.iload_n 3, 1) := by decide +kernel
theorem d_Lw_law_866 : decode code 866 = .ok (.iconst 1, 1) := by decide +kernel
theorem d_Lw_law_867 : decode code 867 = .ok (.iadd, 1) := by decide +kernel
theorem d_Lw_law_868 : decode code 868 = .ok (.iaload, 1) := by decide +kernel
theorem d_Lw_law_869 : decode code 869 = .ok (.invokevirtual 113, 3) := by decide +kernel
theorem d_Lw_law_872 : decode code 872 = .ok (.aload_n 2, 1) := by decide +kernel
theorem d_Lw_law_873 : decode code 873 = .ok (.aload_n 0, 1) := by decide +kernel
theorem d_Lw_law_874 : decode code 874 = .ok (.iload_n 3, 1) := by decide +kernel
theorem d_Lw_law_875 : decode code 875 = .ok (.iconst 1, 1) := by decide +kernel
theorem d_Lw_law_876 : decode code 876 = .ok (.iadd, 1) := by decide +kernel
theorem d_Lw_law_877 : decode code 877 = .ok (.iaload, 1) := by decide +kernel
theorem d_Lw_law_878 : decode code 878 = .ok (.invokevirtual 116, 3) := by decide +kernel
theorem d_Lw_law_881 : decode code 881 = .ok (.if_icmp .eq 222, 3) := by decide +kernel
theorem d_Lw_law_884 : decode code 884 = .ok (.iconst 0, 1) := by decide +kernel
theorem d_Lw_law_885 : decode code 885 = .ok (.ireturn, 1) := by decide +kernel
theorem d_Lw_law_886 : decode code 886 = .ok (.aload_n 1, 1) := by decide +kernel
theorem d_Lw_law_887 : decode code 887 = .ok (.aload_n 0, 1) := by decide +kernel
theorem d_Lw_law_888 : decode code 888 = .ok (.iload_n 3, 1) := by decide +kernel
theorem d_Lw_law_889 : decode code 889 = .ok (.iconst 1, 1) := by decide +kernel
theorem d_Lw_law_890 : decode code 890 = .ok (.iadd, 1) := by decide +kernel
theorem d_Lw_law_891 : decode code 891 = .ok (.iaload, 1) := by decide +kernel
theorem d_Lw_law_892 : decode code 892 = .ok (.aload_n 0, 1) := by decide +kernel
theorem d_Lw_law_893 : decode code 893 = .ok (.iload_n 3, 1) := by decide +kernel
theorem d_Lw_law_894 : decode code 894 = .ok (.iconst 2, 1) := by decide +kernel
theorem d_Lw_law_895 : decode code 895 = .ok (.iadd, 1) := by decide +kernel
theorem d_Lw_law_896 : decode code 896 = .ok (.iaload, 1) := by decide +kernel
theorem d_Lw_law_897 : decode code 897 = .ok (.invokevirtual 117, 3) := by decide +kernel
theorem d_Lw_law_900 : decode code 900 = .ok (.aload_n 2, 1) := by decide +kernel
theorem d_Lw_law_901 : decode code 901 = .ok (.aload_n 0, 1) := by decide +kernel
theorem d_Lw_law_902 : decode code 902 = .ok (.iload_n 3, 1) := by decide +kernel
theorem d_Lw_law_903 : decode code 903 = .ok (.iconst 1, 1) := by decide +kernel
theorem d_Lw_law_904 : decode code 904 = .ok (.iadd, 1) := by decide +kernel
theorem d_Lw_law_905 : decode code 905 = .ok (.iaload, 1) := by decide +kernel
theorem d_Lw_law_906 : decode code 906 = .ok (.aload_n 0, 1) := by decide +kernel
theorem d_Lw_law_907 : decode code 907 = .ok (.iload_n 3, 1) := by decide +kernel
theorem d_Lw_law_908 : decode code 908 = .ok (.iconst 2, 1) := by decide +kernel
theorem d_Lw_law_909 : decode code 909 = .ok (.iadd, 1) := by decide +kernel
theorem d_Lw_law_910 : decode code 910 = .ok (.iaload, 1) := by decide +kernel
theorem d_Lw_law_911 : decode code 911 = .ok (.invokevirtual 120, 3) := by decide +kernel
theorem d_Lw_law_914 : decode code 914 = .ok (.if_icmp .eq 189, 3) := by decide +kernel
theorem d_Lw_law_917 : decode code 917 = .ok (.iconst 0, 1) := by decide +kernel
theorem d_Lw_law_918 : decode code 918 = .ok (.ireturn, 1) := by decide +kernel
theorem d_Lw_law_919 : decode code 919 = .ok (.aload_n 1, 1) := by decide +kernel
theorem d_Lw_law_920 : decode code 920 = .ok (.invokevirtual 121, 3) := by decide +kernel
theorem d_Lw_law_923 : decode code 923 = .ok (.aload_n 2, 1) := by decide +kernel
theorem d_Lw_law_924 : decode code 924 = .ok (.invokevirtual 124, 3) := by decide +kernel
theorem d_Lw_law_927 : decode code 927 = .ok (.if_icmp .eq 176, 3) := by decide +kernel
theorem d_Lw_law_930 : decode code 930 = .ok (.iconst 0, 1) := by decide +kernel
theorem d_Lw_law_931 : decode code 931 = .ok (.ireturn, 1) := by decide +kernel
theorem d_Lw_law_932 : decode code 932 = .ok (.aload_n 1, 1) := by decide +kernel
theorem d_Lw_law_933 : decode code 933 = .ok (.aload_n 0, 1) := by decide +kernel
theorem d_Lw_law_934 : decode code 934 = .ok (.iload_n 3, 1) := by decide +kernel
theorem d_Lw_law_935 : decode code 935 = .ok (.iconst 1, 1) := by decide +kernel
theorem d_Lw_law_936 : decode code 936 = .ok (.iadd, 1) := by decide +kernel
theorem d_Lw_law_937 : decode code 937 = .ok (.iaload, 1) := by decide +kernel
theorem d_Lw_law_938 : decode code 938 = .ok (.invokevirtual 125, 3) := by decide +kernel
theorem d_Lw_law_941 : decode code 941 = .ok (.aload_n 2, 1) := by decide +kernel
theorem d_Lw_law_942 : decode code 942 = .ok (.aload_n 0, 1) := by decide +kernel
theorem d_Lw_law_943 : decode code 943 = .ok (.iload_n 3, 1) := by decide +kernel
theorem d_Lw_law_944 : decode code 944 = .ok (.iconst 1, 1) := by decide +kernel
theorem d_Lw_law_945 : decode code 945 = .ok (.iadd, 1) := by decide +kernel
theorem d_Lw_law_946 : decode code 946 = .ok (.iaload, 1) := by decide +kernel
theorem d_Lw_law_947 : decode code 947 = .ok (.invokevirtual 128, 3) := by decide +kernel
theorem d_Lw_law_950 : decode code 950 = .ok (.if_icmp .eq 153, 3) := by decide +kernel
theorem d_Lw_law_953 : decode code 953 = .ok (.iconst 0, 1) := by decide +kernel
theorem d_Lw_law_954 : decode code 954 = .ok (.ireturn, 1) := by decide +kernel
theorem d_Lw_law_955 : decode code 955 = .ok (.aload_n 1, 1) := by decide +kernel
theorem d_Lw_law_956 : decode code 956 = .ok (.aload_n 0, 1) := by decide +kernel
theorem d_Lw_law_957 : decode code 957 = .ok (.iload_n 3, 1) := by decide +kernel
theorem d_Lw_law_958 : decode code 958 = .ok (.iconst 1, 1) := by decide +kernel
theorem d_Lw_law_959 : decode code 959 = .ok (.iadd, 1) := by decide +kernel
theorem d_Lw_law_960 : decode code 960 = .ok (.iaload, 1) := by decide +kernel
theorem d_Lw_law_961 : decode code 961 = .ok (.invokevirtual 129, 3) := by decide +kernel
theorem d_Lw_law_964 : decode code 964 = .ok (.aload_n 2, 1) := by decide +kernel
theorem d_Lw_law_965 : decode code 965 = .ok (.aload_n 0, 1) := by decide +kernel
theorem d_Lw_law_966 : decode code 966 = .ok (.iload_n 3, 1) := by decide +kernel
theorem d_Lw_law_967 : decode code 967 = .ok (.iconst 1, 1) := by decide +kernel
theorem d_Lw_law_968 : decode code 968 = .ok (.iadd, 1) := by decide +kernel
theorem d_Lw_law_969 : decode code 969 = .ok (.iaload, 1) := by decide +kernel
theorem d_Lw_law_970 : decode code 970 = .ok (.invokevirtual 132, 3) := by decide +kernel
theorem d_Lw_law_973 : decode code 973 = .ok (.if_icmp .eq 130, 3) := by decide +kernel
theorem d_Lw_law_976 : decode code 976 = .ok (.iconst 0, 1) := by decide +kernel
theorem d_Lw_law_977 : decode code 977 = .ok (.ireturn, 1) := by decide +kernel
theorem d_Lw_law_978 : decode code 978 = .ok (.aload_n 1, 1) := by decide +kernel
theorem d_Lw_law_979 : decode code 979 = .ok (.aload_n 0, 1) := by decide +kernel
theorem d_Lw_law_980 : decode code 980 = .ok (.iload_n 3, 1) := by decide +kernel
theorem d_Lw_law_981 : decode code 981 = .ok (.iconst 1, 1) := by decide +kernel
theorem d_Lw_law_982 : decode code 982 = .ok (.iadd, 1) := by decide +kernel
theorem d_Lw_law_983 : decode code 983 = .ok (.iaload, 1) := by decide +kernel
theorem d_Lw_law_984 : decode code 984 = .ok (.aload_n 0, 1) := by decide +kernel
theorem d_Lw_law_985 : decode code 985 = .ok (.iload_n 3, 1) := by decide +kernel
theorem d_Lw_law_986 : decode code 986 = .ok (.iconst 2, 1) := by decide +kernel
theorem d_Lw_law_987 : decode code 987 = .ok (.iadd, 1) := by decide +kernel
theorem d_Lw_law_988 : decode code 988 = .ok (.iaload, 1) := by decide +kernel
theorem d_Lw_law_989 : decode code 989 = .ok (.invokevirtual 133, 3) := by decide +kernel
theorem d_Lw_law_992 : decode code 992 = .ok (.aload_n 2, 1) := by decide +kernel
theorem d_Lw_law_993 : decode code 993 = .ok (.aload_n 0, 1) := by decide +kernel
theorem d_Lw_law_994 : decode code 994 = .ok (.iload_n 3, 1) := by decide +kernel
theorem d_Lw_law_995 : decode code 995 = .ok (.iconst 1, 1) := by decide +kernel
theorem d_Lw_law_996 : decode code 996 = .ok (.iadd, 1) := by decide +kernel
theorem d_Lw_law_997 : decode code 997 = .ok (.iaload, 1) := by decide +kernel
theorem d_Lw_law_998 : decode code 998 = .ok (.aload_n 0, 1) := by decide +kernel
theorem d_Lw_law_999 : decode code 999 = .ok (.iload_n 3, 1) := by decide +kernel
theorem d_Lw_law_1000 : decode code 1000 = .ok (.iconst 2, 1) := by decide +kernel
theorem d_Lw_law_1001 : decode code 1001 = .ok (.iadd, 1) := by decide +kernel
theorem d_Lw_law_1002 : decode code 1002 = .ok (.iaload, 1) := by decide +kernel
theorem d_Lw_law_1003 : decode code 1003 = .ok (.invokevirtual 136, 3) := by decide +kernel
theorem d_Lw_law_1006 : decode code 1006 = .ok (.if_icmp .eq 97, 3) := by decide +kernel
theorem d_Lw_law_1009 : decode code 1009 = .ok (.iconst 0, 1) := by decide +kernel
theorem d_Lw_law_1010 : decode code 1010 = .ok (.ireturn, 1) := by decide +kernel
theorem d_Lw_law_1011 : decode code 1011 = .ok (.aload_n 1, 1) := by decide +kernel
theorem d_Lw_law_1012 : decode code 1012 = .ok (.aload_n 0, 1) := by decide +kernel
theorem d_Lw_law_1013 : decode code 1013 = .ok (.iload_n 3, 1) := by decide +kernel
theorem d_Lw_law_1014 : decode code 1014 = .ok (.iconst 1, 1) := by decide +kernel
theorem d_Lw_law_1015 : decode code 1015 = .ok (.iadd, 1) := by decide +kernel
theorem d_Lw_law_1016 : decode code 1016 = .ok (.iaload, 1) := by decide +kernel
theorem d_Lw_law_1017 : decode code 1017 = .ok (.aload_n 0, 1) := by decide +kernel
theorem d_Lw_law_1018 : decode code 1018 = .ok (.iload_n 3, 1) := by decide +kernel
theorem d_Lw_law_1019 : decode code 1019 = .ok (.iconst 2, 1) := by decide +kernel
theorem d_Lw_law_1020 : decode code 1020 = .ok (.iadd, 1) := by decide +kernel
theorem d_Lw_law_1021 : decode code 1021 = .ok (.iaload, 1) := by decide +kernel
theorem d_Lw_law_1022 : decode code 1022 = .ok (.invokevirtual 137, 3) := by decide +kernel
theorem d_Lw_law_1025 : decode code 1025 = .ok (.aload_n 2, 1) := by decide +kernel
theorem d_Lw_law_1026 : decode code 1026 = .ok (.aload_n 0, 1) := by decide +kernel
theorem d_Lw_law_1027 : decode code 1027 = .ok (.iload_n 3, 1) := by decide +kernel
theorem d_Lw_law_1028 : decode code 1028 = .ok (.iconst 1, 1) := by decide +kernel
theorem d_Lw_law_1029 : decode code 1029 = .ok (.iadd, 1) := by decide +kernel
theorem d_Lw_law_1030 : decode code 1030 = .ok (.iaload, 1) := by decide +kernel
theorem d_Lw_law_1031 : decode code 1031 = .ok (.aload_n 0, 1) := by decide +kernel
theorem d_Lw_law_1032 : decode code 1032 = .ok (.iload_n 3, 1) := by decide +kernel
theorem d_Lw_law_1033 : decode code 1033 = .ok (.iconst 2, 1) := by decide +kernel
theorem d_Lw_law_1034 : decode code 1034 = .ok (.iadd, 1) := by decide +kernel
theorem d_Lw_law_1035 : decode code 1035 = .ok (.iaload, 1) := by decide +kernel
theorem d_Lw_law_1036 : decode code 1036 = .ok (.invokevirtual 140, 3) := by decide +kernel
theorem d_Lw_law_1039 : decode code 1039 = .ok (.if_icmp .eq 64, 3) := by decide +kernel
theorem d_Lw_law_1042 : decode code 1042 = .ok (.iconst 0, 1) := by decide +kernel
theorem d_Lw_law_1043 : decode code 1043 = .ok (.ireturn, 1) := by decide +kernel
theorem d_Lw_law_1044 : decode code 1044 = .ok (.aload_n 1, 1) := by decide +kernel
theorem d_Lw_law_1045 : decode code 1045 = .ok (.aload_n 0, 1) := by decide +kernel
theorem d_Lw_law_1046 : decode code 1046 = .ok (.iload_n 3, 1) := by decide +kernel
theorem d_Lw_law_1047 : decode code 1047 = .ok (.iconst 1, 1) := by decide +kernel
theorem d_Lw_law_1048 : decode code 1048 = .ok (.iadd, 1) := by decide +kernel
theorem d_Lw_law_1049 : decode code 1049 = .ok (.iaload, 1) := by decide +kernel
theorem d_Lw_law_1050 : decode code 1050 = .ok (.invokevirtual 141, 3) := by decide +kernel
theorem d_Lw_law_1053 : decode code 1053 = .ok (.aload_n 2, 1) := by decide +kernel
theorem d_Lw_law_1054 : decode code 1054 = .ok (.aload_n 0, 1) := by decide +kernel
theorem d_Lw_law_1055 : decode code 1055 = .ok (.iload_n 3, 1) := by decide +kernel
theorem d_Lw_law_1056 : decode code 1056 = .ok (.iconst 1, 1) := by decide +kernel
theorem d_Lw_law_1057 : decode code 1057 = .ok (.iadd, 1) := by decide +kernel
theorem d_Lw_law_1058 : decode code 1058 = .ok (.iaload, 1) := by decide +kernel
theorem d_Lw_law_1059 : decode code 1059 = .ok (.invokevirtual 144, 3) := by decide +kernel
theorem d_Lw_law_1062 : decode code 1062 = .ok (.if_icmp .eq 41, 3) := by decide +kernel
theorem d_Lw_law_1065 : decode code 1065 = .ok (.iconst 0, 1) := by decide +kernel
theorem d_Lw_law_1066 : decode code 1066 = .ok (.ireturn, 1) := by decide +kernel
theorem d_Lw_law_1067 : decode code 1067 = .ok (.aload_n 1, 1) := by decide +kernel
theorem d_Lw_law_1068 : decode code 1068 = .ok (.aload_n 0, 1) := by decide +kernel
theorem d_Lw_law_1069 : decode code 1069 = .ok (.iload_n 3, 1) := by decide +kernel
theorem d_Lw_law_1070 : decode code 1070 = .ok (.iconst 1, 1) := by decide +kernel
theorem d_Lw_law_1071 : decode code 1071 = .ok (.iadd, 1) := by decide +kernel
theorem d_Lw_law_1072 : decode code 1072 = .ok (.iaload, 1) := by decide +kernel
theorem d_Lw_law_1073 : decode code 1073 = .ok (.invokevirtual 145, 3) := by decide +kernel
theorem d_Lw_law_1076 : decode code 1076 = .ok (.aload_n 2, 1) := by decide +kernel
theorem d_Lw_law_1077 : decode code 1077 = .ok (.aload_n 0, 1) := by decide +kernel
theorem d_Lw_law_1078 : decode code 1078 = .ok (.iload_n 3, 1) := by decide +kernel
theorem d_Lw_law_1079 : decode code 1079 = .ok (.iconst 1, 1) := by decide +kernel
theorem d_Lw_law_1080 : decode code 1080 = .ok (.iadd, 1) := by decide +kernel
theorem d_Lw_law_1081 : decode code 1081 = .ok (.iaload, 1) := by decide +kernel
theorem d_Lw_law_1082 : decode code 1082 = .ok (.invokevirtual 148, 3) := by decide +kernel
theorem d_Lw_law_1085 : decode code 1085 = .ok (.if_icmp .eq 18, 3) := by decide +kernel
theorem d_Lw_law_1088 : decode code 1088 = .ok (.iconst 0, 1) := by decide +kernel
theorem d_Lw_law_1089 : decode code 1089 = .ok (.ireturn, 1) := by decide +kernel
theorem d_Lw_law_1090 : decode code 1090 = .ok (.aload_n 1, 1) := by decide +kernel
theorem d_Lw_law_1091 : decode code 1091 = .ok (.invokevirtual 149, 3) := by decide +kernel
theorem d_Lw_law_1094 : decode code 1094 = .ok (.aload_n 2, 1) := by decide +kernel
theorem d_Lw_law_1095 : decode code 1095 = .ok (.invokevirtual 152, 3) := by decide +kernel
theorem d_Lw_law_1098 : decode code 1098 = .ok (.if_icmp .eq 5, 3) := by decide +kernel
theorem d_Lw_law_1101 : decode code 1101 = .ok (.iconst 0, 1) := by decide +kernel
theorem d_Lw_law_1102 : decode code 1102 = .ok (.ireturn, 1) := by decide +kernel
theorem d_Lw_law_1103 : decode code 1103 = .ok (.iinc 3 6, 3) := by decide +kernel
theorem d_Lw_law_1106 : decode code 1106 = .ok (.goto (-1078), 3) := by decide +kernel
theorem d_Lw_law_1109 : decode code 1109 = .ok (.iconst 1, 1) := by decide +kernel
theorem d_Lw_law_1110 : decode code 1110 = .ok (.ireturn, 1) := by decide +kernel
