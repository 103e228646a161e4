/-! THE START: what the tables and the statement give at the law's entry -/
theorem st_t1 {w : Cond} (i : Nat) (h : tables_1_1[i]? = some w) : w ∈ lw_tbl := List.mem_append_right _ (show w ∈ tables_1_1 ++ (tables_1_2 ++ (tables_1_3 ++ (tables_1_4 ++ (tables_1_5 ++ (tables_1_6 ++ (tables_1_7 ++ tables_1_8)))))) from List.mem_append_left _ (List.mem_of_getElem? h))
theorem st_t2 {w : Cond} (i : Nat) (h : tables_1_2[i]? = some w) : w ∈ lw_tbl := List.mem_append_right _ (show w ∈ tables_1_1 ++ (tables_1_2 ++ (tables_1_3 ++ (tables_1_4 ++ (tables_1_5 ++ (tables_1_6 ++ (tables_1_7 ++ tables_1_8)))))) from List.mem_append_right _ (List.mem_append_left _ (List.mem_of_getElem? h)))
theorem st_t3 {w : Cond} (i : Nat) (h : tables_1_3[i]? = some w) : w ∈ lw_tbl := List.mem_append_right _ (show w ∈ tables_1_1 ++ (tables_1_2 ++ (tables_1_3 ++ (tables_1_4 ++ (tables_1_5 ++ (tables_1_6 ++ (tables_1_7 ++ tables_1_8)))))) from List.mem_append_right _ (List.mem_append_right _ (List.mem_append_left _ (List.mem_of_getElem? h))))
theorem st_t4 {w : Cond} (i : Nat) (h : tables_1_4[i]? = some w) : w ∈ lw_tbl := List.mem_append_right _ (show w ∈ tables_1_1 ++ (tables_1_2 ++ (tables_1_3 ++ (tables_1_4 ++ (tables_1_5 ++ (tables_1_6 ++ (tables_1_7 ++ tables_1_8)))))) from List.mem_append_right _ (List.mem_append_right _ (List.mem_append_right _ (List.mem_append_left _ (List.mem_of_getElem? h)))))
theorem st_t5 {w : Cond} (i : Nat) (h : tables_1_5[i]? = some w) : w ∈ lw_tbl := List.mem_append_right _ (show w ∈ tables_1_1 ++ (tables_1_2 ++ (tables_1_3 ++ (tables_1_4 ++ (tables_1_5 ++ (tables_1_6 ++ (tables_1_7 ++ tables_1_8)))))) from List.mem_append_right _ (List.mem_append_right _ (List.mem_append_right _ (List.mem_append_right _ (List.mem_append_left _ (List.mem_of_getElem? h))))))
theorem st_t6 {w : Cond} (i : Nat) (h : tables_1_6[i]? = some w) : w ∈ lw_tbl := List.mem_append_right _ (show w ∈ tables_1_1 ++ (tables_1_2 ++ (tables_1_3 ++ (tables_1_4 ++ (tables_1_5 ++ (tables_1_6 ++ (tables_1_7 ++ tables_1_8)))))) from List.mem_append_right _ (List.mem_append_right _ (List.mem_append_right _ (List.mem_append_right _ (List.mem_append_right _ (List.mem_append_left _ (List.mem_of_getElem? h)))))))
theorem st_t7 {w : Cond} (i : Nat) (h : tables_1_7[i]? = some w) : w ∈ lw_tbl := List.mem_append_right _ (show w ∈ tables_1_1 ++ (tables_1_2 ++ (tables_1_3 ++ (tables_1_4 ++ (tables_1_5 ++ (tables_1_6 ++ (tables_1_7 ++ tables_1_8)))))) from List.mem_append_right _ (List.mem_append_right _ (List.mem_append_right _ (List.mem_append_right _ (List.mem_append_right _ (List.mem_append_right _ (List.mem_append_left _ (List.mem_of_getElem? h))))))))
theorem st_t8 {w : Cond} (i : Nat) (h : tables_1_8[i]? = some w) : w ∈ lw_tbl := List.mem_append_right _ (show w ∈ tables_1_1 ++ (tables_1_2 ++ (tables_1_3 ++ (tables_1_4 ++ (tables_1_5 ++ (tables_1_6 ++ (tables_1_7 ++ tables_1_8)))))) from List.mem_append_right _ (List.mem_append_right _ (List.mem_append_right _ (List.mem_append_right _ (List.mem_append_right _ (List.mem_append_right _ (List.mem_append_right _ ((List.mem_of_getElem? h)))))))))
theorem st_i0 : Cond.instantiable tv_R0 10 ∈ lw_tbl := st_t1 23 rfl
theorem st_i1 : Cond.instantiable tv_R1 3 ∈ lw_tbl := st_t1 35 rfl
theorem st_i2 : Cond.instantiable tv_R2 14 ∈ lw_tbl := st_t1 57 rfl
theorem st_i3 : Cond.instantiable tv_R3 7 ∈ lw_tbl := st_t1 66 rfl
theorem st_i4 : Cond.instantiable tv_R4 5 ∈ lw_tbl := st_t1 121 rfl
theorem st_i5 : Cond.instantiable tv_R5 9 ∈ lw_tbl := st_t1 221 rfl
theorem st_i6 : Cond.instantiable tv_R6 5 ∈ lw_tbl := st_t2 18 rfl
theorem st_i7 : Cond.instantiable tv_R7 11 ∈ lw_tbl := st_t2 24 rfl
theorem st_i8 : Cond.instantiable tv_R8 9 ∈ lw_tbl := st_t2 84 rfl
theorem st_i9 : Cond.instantiable tv_R9 13 ∈ lw_tbl := st_t2 119 rfl
theorem st_i10 : Cond.instantiable tv_R10 7 ∈ lw_tbl := st_t2 172 rfl
theorem st_i11 : Cond.instantiable tv_R11 3 ∈ lw_tbl := st_t2 202 rfl
theorem st_i12 : Cond.instantiable tv_R12 55 ∈ lw_tbl := st_t6 18 rfl
theorem st_a0 : Cond.arrayClass .int ∈ lw_tbl := st_t1 55 rfl
theorem st_a1 : Cond.arrayClass .byte ∈ lw_tbl := st_t2 16 rfl
theorem st_a2 : Cond.arrayClass .boolean ∈ lw_tbl := st_t2 200 rfl
theorem st_a3 : Cond.arrayClass .long ∈ lw_tbl := st_t2 170 rfl
theorem st_o0 : Cond.arrayOver (.object "TiedViews$Sheet") ∈ lw_tbl := st_t1 31 rfl
theorem st_o1 : Cond.arrayOver (.object "TiedViews$Eye") ∈ lw_tbl := st_t1 63 rfl
theorem st_o2 : Cond.arrayOver (.object "TiedViews$Tie") ∈ lw_tbl := st_t1 65 rfl
theorem st_o3 : Cond.arrayOver (.array .int) ∈ lw_tbl := st_t2 30 rfl
theorem st_ne : ∀ q ∈ tv_nests, Cond.methodLinkNest q.1 q.2.1 q.2.2.1 q.2.2.2 ∈ lw_tbl := List.forall_mem_cons.mpr ⟨st_t1 36 rfl, List.forall_mem_cons.mpr ⟨st_t4 148 rfl, List.forall_mem_cons.mpr ⟨st_t5 16 rfl, List.forall_mem_cons.mpr ⟨st_t5 17 rfl, List.forall_mem_cons.mpr ⟨st_t5 11 rfl, List.forall_mem_cons.mpr ⟨st_t5 92 rfl, List.forall_mem_cons.mpr ⟨st_t4 66 rfl, List.forall_mem_cons.mpr ⟨st_t4 70 rfl, List.forall_mem_cons.mpr ⟨st_t4 75 rfl, List.forall_mem_cons.mpr ⟨st_t1 122 rfl, List.forall_mem_cons.mpr ⟨st_t4 51 rfl, List.forall_mem_nil _⟩⟩⟩⟩⟩⟩⟩⟩⟩⟩⟩
theorem st_sr : ∀ q ∈ tv_strs, Cond.stringRef q.1 q.2.1 q.2.2 ∈ lw_tbl := List.forall_mem_cons.mpr ⟨st_t3 105 rfl, List.forall_mem_cons.mpr ⟨st_t3 170 rfl, List.forall_mem_cons.mpr ⟨st_t3 171 rfl, List.forall_mem_cons.mpr ⟨st_t3 172 rfl, List.forall_mem_cons.mpr ⟨st_t3 173 rfl, List.forall_mem_cons.mpr ⟨st_t3 194 rfl, List.forall_mem_cons.mpr ⟨st_t3 220 rfl, List.forall_mem_cons.mpr ⟨st_t3 239 rfl, List.forall_mem_cons.mpr ⟨st_t4 4 rfl, List.forall_mem_nil _⟩⟩⟩⟩⟩⟩⟩⟩⟩
theorem st_cs : Cond.laysStatic "java/lang/String" "COMPACT_STRINGS" "Z" ∈ lw_tbl ∧ Cond.initialized "java/lang/String" ∈ lw_tbl := ⟨st_t3 119 rfl, st_t1 16 rfl⟩
theorem st_fo : Cond.laysStatic "jdk/internal/util/Preconditions" "SIOOBE_FORMATTER" "Ljava/util/function/BiFunction;" ∈ lw_tbl ∧ Cond.initialized "jdk/internal/util/Preconditions" ∈ lw_tbl := ⟨st_t3 135 rfl, st_t1 18 rfl⟩
theorem st_st : ∀ q ∈ tv_stat, Cond.laysStatic "TiedViews$Bodies" q.1 "[I" ∈ lw_tbl := List.forall_mem_cons.mpr ⟨st_t5 185 rfl, List.forall_mem_cons.mpr ⟨st_t5 195 rfl, List.forall_mem_cons.mpr ⟨st_t5 212 rfl, List.forall_mem_cons.mpr ⟨st_t5 214 rfl, List.forall_mem_nil _⟩⟩⟩⟩
theorem st_bi : Cond.initialized "TiedViews$Bodies" ∈ lw_tbl := st_t1 13 rfl
theorem tb_Yo {ty : FieldType} {A : Array Value} {U : State} (h : (Cond.arrayOver ty).before A U = true) : va_Nw (.arrayOver ty) U := by
  show (Cond.arrayOver ty).before #[] U = true
  unfold Cond.before at h ⊢
  simpa only [Cond.holds, Cond.value] using h
def st_fl : List Cond := flatC (Cond.and given_1 narrow_1)
def st_tm (i : Nat) : Term := .string "TiedViews$Reader" (([69, 177, 179, 181, 183, 78, 126, 138, 83] : List Nat).getD i 0)
theorem st_n1 : ∀ i, i < 9 → Cond.exactly (st_tm i) "java/lang/String" ∈ st_fl := by decide +kernel
theorem st_n2 : ∀ i, i < 9 → Cond.eq (.field (st_tm i) "java/lang/String" "coder" "B") (.int 0) ∈ st_fl := by decide +kernel
theorem st_n3 : ∀ i, i < 9 → Cond.arrayOf (.field (st_tm i) "java/lang/String" "value" "[B") .byte ∈ st_fl := by decide +kernel
theorem st_n4 : ∀ i, i < 9 → Cond.eq (.length (.field (st_tm i) "java/lang/String" "value" "[B")) (.int (Int32.ofNat (tv_slen.getD i 0))) ∈ st_fl := by decide +kernel
theorem st_n5 : ∀ i, i < 9 → ∀ j, j < tv_slen.getD i 0 → Cond.eq (.elem (.field (st_tm i) "java/lang/String" "value" "[B") (.int (Int32.ofNat j))) (.int ((tv_sbyt.getD i []).getD j 0)) ∈ st_fl := by decide +kernel
theorem st_n6 : ∀ i, i < 9 → ∀ j, j < 9 → i ≠ j → Cond.not (Cond.eq (st_tm i) (st_tm j)) ∈ st_fl ∨ Cond.not (Cond.eq (st_tm j) (st_tm i)) ∈ st_fl := by decide +kernel
theorem st_n7 : Cond.eq (.static "java/lang/String" "COMPACT_STRINGS" "Z") (.int 1) ∈ st_fl := by decide +kernel
theorem st_n8 : Cond.isRef (.static "jdk/internal/util/Preconditions" "SIOOBE_FORMATTER" "Ljava/util/function/BiFunction;") ∈ st_fl := by decide +kernel
theorem st_n9 : ∀ q ∈ tv_stat, Cond.arrayOf (.static "TiedViews$Bodies" q.1 "[I") .int ∈ st_fl ∧ Cond.eq (.length (.static "TiedViews$Bodies" q.1 "[I")) (.int (Int32.ofNat q.2.length)) ∈ st_fl ∧ ∀ j, j < q.2.length → Cond.eq (.elem (.static "TiedViews$Bodies" q.1 "[I") (.int (Int32.ofNat j))) (.int (q.2.getD j 0)) ∈ st_fl := by decide +kernel
theorem st_n10 : ∀ q ∈ tv_stat, q.2.length < 2 ^ 31 := by decide
theorem st_ao {s : State} {A : Array Value} (h : (Cond.arrayOver (.array .int)).before A s = true) : ∃ comp c k, s.vm.classes[c]? = some k ∧ k.kind = .array comp (.array .int) ∧ s.vm.findClass ("[" ++ (FieldType.array .int).toString) = some c := by
  simp only [Cond.before, Cond.holds, Cond.value, beq_iff_eq] at h
  cases hc : s.vm.findClass (FieldType.array .int).toString with
  | none => simp [hc] at h
  | some comp =>
    simp only [hc, Option.bind_some, Option.bind_eq_some_iff, Option.map_eq_some_iff] at h
    obtain ⟨c, hi, k, hk, hb⟩ := h
    cases hkind : k.kind with
    | array component ty =>
      rw [hkind] at hb
      simp at hb
      exact ⟨component, c, k, hk, by rw [hkind, hb.1], hb.2⟩
    | _ => rw [hkind] at hb; simp at hb
/-- the surroundings that all walks share -/
theorem st_th {s : State} {args : Array Value} (hts : ∀ w ∈ lw_tbl, w.before args s = true) (hgv : (Cond.and given_1 narrow_1).before args s = true) : ∃ θ : tv_Th, θ.1 = s.heap.size ∧ va_K θ.2.1 tv_cl (tv_tys θ.2.2.1) s ∧ tv_X θ.1 θ.2.2.2.1 θ.2.2.2.2.1 θ.2.2.2.2.2 s s.heap ∧ tb_Y s := by
  have hn : ∀ w ∈ st_fl, w.before args s = true := flat_of_before _ hgv
  have hA : ∀ a : Nat, a < s.heap.size → ¬ tv_A s.heap.size a := fun a h h2 => absurd h (Nat.not_lt.mpr h2)
  obtain ⟨c0, i0, k0⟩ := u_known (n := 10) hts (fun w hw => List.mem_append_right _ (tv_in0 w hw)) (hts _ st_i0)
  obtain ⟨c1, i1, k1⟩ := u_known (n := 3) hts (fun w hw => List.mem_append_right _ (tv_in1 w hw)) (hts _ st_i1)
  obtain ⟨c2, i2, k2⟩ := u_known (n := 14) hts (fun w hw => List.mem_append_right _ (tv_in2 w hw)) (hts _ st_i2)
  obtain ⟨c3, i3, k3⟩ := u_known (n := 7) hts (fun w hw => List.mem_append_right _ (tv_in3 w hw)) (hts _ st_i3)
  obtain ⟨c4, i4, k4⟩ := u_known (n := 5) hts (fun w hw => List.mem_append_right _ (tv_in4 w hw)) (hts _ st_i4)
  obtain ⟨c5, i5, k5⟩ := u_known (n := 9) hts (fun w hw => List.mem_append_right _ (tv_in5 w hw)) (hts _ st_i5)
  obtain ⟨c6, i6, k6⟩ := u_known (n := 5) hts (fun w hw => List.mem_append_right _ (tv_in6 w hw)) (hts _ st_i6)
  obtain ⟨c7, i7, k7⟩ := u_known (n := 11) hts (fun w hw => List.mem_append_right _ (tv_in7 w hw)) (hts _ st_i7)
  obtain ⟨c8, i8, k8⟩ := u_known (n := 9) hts (fun w hw => List.mem_append_right _ (tv_in8 w hw)) (hts _ st_i8)
  obtain ⟨c9, i9, k9⟩ := u_known (n := 13) hts (fun w hw => List.mem_append_right _ (tv_in9 w hw)) (hts _ st_i9)
  obtain ⟨c10, i10, k10⟩ := u_known (n := 7) hts (fun w hw => List.mem_append_right _ (tv_in10 w hw)) (hts _ st_i10)
  obtain ⟨c11, i11, k11⟩ := u_known (n := 3) hts (fun w hw => List.mem_append_right _ (tv_in11 w hw)) (hts _ st_i11)
  obtain ⟨c12, i12, k12⟩ := u_known (n := 55) hts (fun w hw => List.mem_append_right _ (tv_in12 w hw)) (hts _ st_i12)
  obtain ⟨a0, ka0, co0, fa0, ga0, ha0⟩ := Cond.arrayClass_spec (hts _ st_a0)
  obtain ⟨a1, ka1, co1, fa1, ga1, ha1⟩ := Cond.arrayClass_spec (hts _ st_a1)
  obtain ⟨a2, ka2, co2, fa2, ga2, ha2⟩ := Cond.arrayClass_spec (hts _ st_a2)
  obtain ⟨a3, ka3, co3, fa3, ga3, ha3⟩ := Cond.arrayClass_spec (hts _ st_a3)
  obtain ⟨co4, a4, ka4, pa4, -, ga4, ha4, fa4⟩ := Cond.arrayOver_spec (hts _ st_o0)
  obtain ⟨co5, a5, ka5, pa5, -, ga5, ha5, fa5⟩ := Cond.arrayOver_spec (hts _ st_o1)
  obtain ⟨co6, a6, ka6, pa6, -, ga6, ha6, fa6⟩ := Cond.arrayOver_spec (hts _ st_o2)
  obtain ⟨co7, a7, ka7, ga7, ha7, fa7⟩ := st_ao (hts _ st_o3)
  obtain ⟨adK, adV, hS, hK⟩ := vk_Sof (A := tv_A s.heap.size) (N := 9) (tm := st_tm) (len := tv_slen) (byt := tv_sbyt) (by decide) (fun i hi => hn _ (st_n1 i hi)) (fun i hi => hn _ (st_n2 i hi)) (fun i hi => hn _ (st_n3 i hi)) (fun i hi => hn _ (st_n4 i hi)) (fun i hi j hj => hn _ (st_n5 i hi j hj)) (fun i j hi hj h => (st_n6 i hi j hj h).imp (hn _) (hn _)) hA
  have hT : ∀ i : Nat, ∃ t : Nat, ∀ q, tv_stat[i]? = some q → va_Z "TiedViews$Bodies" q.1 "[I" (.ref t) (tv_A s.heap.size) s s.heap ∧ va_T .int t q.2.length (fun j => .int (q.2.getD j 0)) (tv_A s.heap.size) s s.heap := by
    intro i
    cases hq : tv_stat[i]? with
    | none => exact ⟨0, fun q h => by cases h⟩
    | some q =>
      have hm : q ∈ tv_stat := List.mem_of_getElem? hq
      obtain ⟨n1, n2, n3⟩ := st_n9 q hm
      obtain ⟨t, ht, hT⟩ := va_Tof (N := q.2.length) (f := fun j => .int (q.2.getD j 0)) (A := tv_A s.heap.size) (st_n10 q hm) (hn _ n1) (va_eqt (hn _ n2)) (fun j hj => va_eqt (hn _ (n3 j hj))) hA
      exact ⟨t, fun q' h => by cases h; exact ⟨va_Zref (hts _ (st_st q hm)) (hts _ st_bi) ht hA, hT⟩⟩
  obtain ⟨tS, hT⟩ := Classical.axiomOfChoice hT
  refine ⟨(s.heap.size, (fun c => ([c0, c1, c2, c3, c4, c5, c6, c7, c8, c9, c10, c11, c12] : List ClassId).getD c c0, fun c => ([i0, i1, i2, i3, i4, i5, i6, i7, i8, i9, i10, i11, i12] : List (Nat → Nat)).getD c i0), fun c => ([a0, a1, a2, a3, a4, a5, a6, a7] : List ClassId).getD c a0, adK, adV, tS), rfl, ⟨?_, ?_⟩, ⟨?_, ?_, hS, va_Zof (hts _ st_cs.1) (hts _ st_cs.2) (va_eqt (hn _ st_n7)) hA, hT, va_Zqof (hts _ st_fo.1) (hts _ st_fo.2) (hn _ st_n8) hA⟩, ?_⟩
  · intro c q hq
    match c, hq with
    | 0, hq => cases hq; exact k0
    | 1, hq => cases hq; exact k1
    | 2, hq => cases hq; exact k2
    | 3, hq => cases hq; exact k3
    | 4, hq => cases hq; exact k4
    | 5, hq => cases hq; exact k5
    | 6, hq => cases hq; exact k6
    | 7, hq => cases hq; exact k7
    | 8, hq => cases hq; exact k8
    | 9, hq => cases hq; exact k9
    | 10, hq => cases hq; exact k10
    | 11, hq => cases hq; exact k11
    | 12, hq => cases hq; exact k12
    | n + 13, hq => simp at hq
  · intro c q hq
    match c, hq with
    | 0, hq => cases hq; exact ⟨fun N z => ⟨(fun k h => by cases h), ka0, ga0, co0, ha0⟩, fa0⟩
    | 1, hq => cases hq; exact ⟨fun N z => ⟨(fun k h => by cases h), ka1, ga1, co1, ha1⟩, fa1⟩
    | 2, hq => cases hq; exact ⟨fun N z => ⟨(fun k h => by cases h), ka2, ga2, co2, ha2⟩, fa2⟩
    | 3, hq => cases hq; exact ⟨fun N z => ⟨(fun k h => by cases h), ka3, ga3, co3, ha3⟩, fa3⟩
    | 4, hq => cases hq; exact ⟨fun N z => ⟨(fun k h => by cases h), ka4, ga4, co4, ha4⟩, ka4, co4, ga4, ha4, pa4, fa4⟩
    | 5, hq => cases hq; exact ⟨fun N z => ⟨(fun k h => by cases h), ka5, ga5, co5, ha5⟩, ka5, co5, ga5, ha5, pa5, fa5⟩
    | 6, hq => cases hq; exact ⟨fun N z => ⟨(fun k h => by cases h), ka6, ga6, co6, ha6⟩, ka6, co6, ga6, ha6, pa6, fa6⟩
    | 7, hq => cases hq; exact ⟨fun N z => ⟨(fun k h => by cases h), ka7, ga7, co7, ha7⟩, fa7⟩
    | n + 8, hq => simp [tv_tys] at hq
  · exact fun q hq => va_Nw.of rfl (hts _ (st_ne q hq))
  · intro i q hq
    have hi : i < 9 := (List.getElem?_eq_some_iff.mp hq).1
    have hall : ∀ i, i < 9 → tv_strs[i]? = some ("TiedViews$Reader", ([69, 177, 179, 181, 183, 78, 126, 138, 83] : List Nat).getD i 0, (["eye", "view", "mod", "held", "choice", "tie", "by", "and", "bar"] : List String).getD i "") := by decide
    have h1 := (hall i hi).symm.trans hq
    cases h1
    exact vk_R.of (hts _ (st_sr _ (List.mem_of_getElem? hq))) (hK i hi)
  · intro ty hty
    have h1 : (Cond.arrayOver ty).before args s = true := by
      simp only [List.mem_cons, List.not_mem_nil, or_false] at hty
      rcases hty with rfl | rfl | rfl | rfl
      · exact hts _ st_o0
      · exact hts _ st_o1
      · exact hts _ st_o2
      · exact hts _ st_o3
    exact tb_Yo h1
