/-! words by their places in the printed sublists -/
theorem tv_t1 {w : Cond} (i : Nat) (h : tables_1_1[i]? = some w) (hg : goodWord w = true) : w ∈ tv_tb := tv_mem_tb (show w ∈ tables_1_1 ++ (tables_1_2 ++ (tables_1_3 ++ (tables_1_4 ++ (tables_1_5 ++ (tables_1_6 ++ (tables_1_7 ++ tables_1_8)))))) from List.mem_append_left _ (List.mem_of_getElem? h)) hg
theorem tv_t2 {w : Cond} (i : Nat) (h : tables_1_2[i]? = some w) (hg : goodWord w = true) : w ∈ tv_tb := tv_mem_tb (show w ∈ tables_1_1 ++ (tables_1_2 ++ (tables_1_3 ++ (tables_1_4 ++ (tables_1_5 ++ (tables_1_6 ++ (tables_1_7 ++ tables_1_8)))))) from List.mem_append_right _ (List.mem_append_left _ (List.mem_of_getElem? h))) hg
theorem tv_t3 {w : Cond} (i : Nat) (h : tables_1_3[i]? = some w) (hg : goodWord w = true) : w ∈ tv_tb := tv_mem_tb (show w ∈ tables_1_1 ++ (tables_1_2 ++ (tables_1_3 ++ (tables_1_4 ++ (tables_1_5 ++ (tables_1_6 ++ (tables_1_7 ++ tables_1_8)))))) from List.mem_append_right _ (List.mem_append_right _ (List.mem_append_left _ (List.mem_of_getElem? h)))) hg
theorem tv_t4 {w : Cond} (i : Nat) (h : tables_1_4[i]? = some w) (hg : goodWord w = true) : w ∈ tv_tb := tv_mem_tb (show w ∈ tables_1_1 ++ (tables_1_2 ++ (tables_1_3 ++ (tables_1_4 ++ (tables_1_5 ++ (tables_1_6 ++ (tables_1_7 ++ tables_1_8)))))) from List.mem_append_right _ (List.mem_append_right _ (List.mem_append_right _ (List.mem_append_left _ (List.mem_of_getElem? h))))) hg
theorem tv_t5 {w : Cond} (i : Nat) (h : tables_1_5[i]? = some w) (hg : goodWord w = true) : w ∈ tv_tb := tv_mem_tb (show w ∈ tables_1_1 ++ (tables_1_2 ++ (tables_1_3 ++ (tables_1_4 ++ (tables_1_5 ++ (tables_1_6 ++ (tables_1_7 ++ tables_1_8)))))) from List.mem_append_right _ (List.mem_append_right _ (List.mem_append_right _ (List.mem_append_right _ (List.mem_append_left _ (List.mem_of_getElem? h)))))) hg
theorem tv_t6 {w : Cond} (i : Nat) (h : tables_1_6[i]? = some w) (hg : goodWord w = true) : w ∈ tv_tb := tv_mem_tb (show w ∈ tables_1_1 ++ (tables_1_2 ++ (tables_1_3 ++ (tables_1_4 ++ (tables_1_5 ++ (tables_1_6 ++ (tables_1_7 ++ tables_1_8)))))) from List.mem_append_right _ (List.mem_append_right _ (List.mem_append_right _ (List.mem_append_right _ (List.mem_append_right _ (List.mem_append_left _ (List.mem_of_getElem? h))))))) hg
theorem tv_t7 {w : Cond} (i : Nat) (h : tables_1_7[i]? = some w) (hg : goodWord w = true) : w ∈ tv_tb := tv_mem_tb (show w ∈ tables_1_1 ++ (tables_1_2 ++ (tables_1_3 ++ (tables_1_4 ++ (tables_1_5 ++ (tables_1_6 ++ (tables_1_7 ++ tables_1_8)))))) from List.mem_append_right _ (List.mem_append_right _ (List.mem_append_right _ (List.mem_append_right _ (List.mem_append_right _ (List.mem_append_right _ (List.mem_append_left _ (List.mem_of_getElem? h)))))))) hg
theorem tv_t8 {w : Cond} (i : Nat) (h : tables_1_8[i]? = some w) (hg : goodWord w = true) : w ∈ tv_tb := tv_mem_tb (show w ∈ tables_1_1 ++ (tables_1_2 ++ (tables_1_3 ++ (tables_1_4 ++ (tables_1_5 ++ (tables_1_6 ++ (tables_1_7 ++ tables_1_8)))))) from List.mem_append_right _ (List.mem_append_right _ (List.mem_append_right _ (List.mem_append_right _ (List.mem_append_right _ (List.mem_append_right _ (List.mem_append_right _ (List.mem_of_getElem? h)))))))) hg
theorem tv_pr1 {y : MethodName} {n : Nat} (i : Nat) (h : lw_privs_1[i]? = some (y, n)) : Cond.selects y.cls y y ∈ tv_tb := List.mem_filter.mpr ⟨List.mem_append_left _ (List.mem_map.mpr ⟨(y, n), (show (y, n) ∈ lw_privs_1 ++ (lw_privs_2 ++ (lw_privs_3 ++ (lw_privs_4 ++ (lw_privs_5 ++ lw_privs_6)))) from List.mem_append_left _ (List.mem_of_getElem? h)), rfl⟩), rfl⟩
theorem tv_pr2 {y : MethodName} {n : Nat} (i : Nat) (h : lw_privs_2[i]? = some (y, n)) : Cond.selects y.cls y y ∈ tv_tb := List.mem_filter.mpr ⟨List.mem_append_left _ (List.mem_map.mpr ⟨(y, n), (show (y, n) ∈ lw_privs_1 ++ (lw_privs_2 ++ (lw_privs_3 ++ (lw_privs_4 ++ (lw_privs_5 ++ lw_privs_6)))) from List.mem_append_right _ (List.mem_append_left _ (List.mem_of_getElem? h))), rfl⟩), rfl⟩
theorem tv_pr3 {y : MethodName} {n : Nat} (i : Nat) (h : lw_privs_3[i]? = some (y, n)) : Cond.selects y.cls y y ∈ tv_tb := List.mem_filter.mpr ⟨List.mem_append_left _ (List.mem_map.mpr ⟨(y, n), (show (y, n) ∈ lw_privs_1 ++ (lw_privs_2 ++ (lw_privs_3 ++ (lw_privs_4 ++ (lw_privs_5 ++ lw_privs_6)))) from List.mem_append_right _ (List.mem_append_right _ (List.mem_append_left _ (List.mem_of_getElem? h)))), rfl⟩), rfl⟩
theorem tv_pr4 {y : MethodName} {n : Nat} (i : Nat) (h : lw_privs_4[i]? = some (y, n)) : Cond.selects y.cls y y ∈ tv_tb := List.mem_filter.mpr ⟨List.mem_append_left _ (List.mem_map.mpr ⟨(y, n), (show (y, n) ∈ lw_privs_1 ++ (lw_privs_2 ++ (lw_privs_3 ++ (lw_privs_4 ++ (lw_privs_5 ++ lw_privs_6)))) from List.mem_append_right _ (List.mem_append_right _ (List.mem_append_right _ (List.mem_append_left _ (List.mem_of_getElem? h))))), rfl⟩), rfl⟩
theorem tv_pr5 {y : MethodName} {n : Nat} (i : Nat) (h : lw_privs_5[i]? = some (y, n)) : Cond.selects y.cls y y ∈ tv_tb := List.mem_filter.mpr ⟨List.mem_append_left _ (List.mem_map.mpr ⟨(y, n), (show (y, n) ∈ lw_privs_1 ++ (lw_privs_2 ++ (lw_privs_3 ++ (lw_privs_4 ++ (lw_privs_5 ++ lw_privs_6)))) from List.mem_append_right _ (List.mem_append_right _ (List.mem_append_right _ (List.mem_append_right _ (List.mem_append_left _ (List.mem_of_getElem? h)))))), rfl⟩), rfl⟩
theorem tv_pr6 {y : MethodName} {n : Nat} (i : Nat) (h : lw_privs_6[i]? = some (y, n)) : Cond.selects y.cls y y ∈ tv_tb := List.mem_filter.mpr ⟨List.mem_append_left _ (List.mem_map.mpr ⟨(y, n), (show (y, n) ∈ lw_privs_1 ++ (lw_privs_2 ++ (lw_privs_3 ++ (lw_privs_4 ++ (lw_privs_5 ++ lw_privs_6)))) from List.mem_append_right _ (List.mem_append_right _ (List.mem_append_right _ (List.mem_append_right _ (List.mem_append_right _ (List.mem_of_getElem? h)))))), rfl⟩), rfl⟩
/-! THE STRING CONSTANTS: a constant is its place w < 9 -/
def tv_gs {α : Type} (w : Nat) (o : Option α) : Option α := if w < 9 then o else none
def Js_length (_ : Nat) (w : Nat) (M : tv_M) : Option (Int32 × tv_M) := if w < 9 then some (Int32.ofNat (tv_slen.getD w 0), M) else none
def Js_charAt (_ : Nat) (w : Nat) (i : Int32) (M : tv_M) : Option (Int32 × tv_M) := if w < 9 then (if tv_inb i (tv_slen.getD w 0) then some ((((tv_sbyt.getD w []).getD i.toNatClampNeg 0 &&& 255).toUInt32 % 65536).toInt32, M) else none) else none
section TVS
variable {β β' : Type} {κ : tv_Kt} {own : String} {cc : ByteArray} {nL d pc w : Nat} {Q : β → tv_M → State → Prop} {ls ls' : List (Option Value)} {st stk : List Value} {M : tv_M} {o o1 o2 : Option (β × tv_M)} {x y : Int32} {u v : Int64}
theorem g_gs (h : w < 9 → tv_G κ nL Q pc ls st M o) : tv_G κ nL Q pc ls st M (tv_gs w o) := by
  unfold tv_gs
  split
  · exact h (by assumption)
  · exact g_none
theorem g_lds (hC : tv_Cx κ own cc nL d) (i : Nat) {idx : Nat} {tx : String} (hq : tv_strs[i]? = some (own, idx, tx)) (hd : decode cc pc = .ok (.ldc idx, 2)) (kk : tv_G κ nL Q (pc + 2) ls (.ref (κ.th.2.2.2.1 i) :: st) M o) : tv_G κ nL Q pc ls st M o := fun r M' ho H locs sl hP hS hl => va_ldcS hC.1.1 hC.1.2.1 hC.1.2.2.2.1 (hC.2.2.1.2.1 i _ hq) hd (kk r M' ho H locs sl hP hS hl)
theorem g_getSV (hC : tv_Cx κ own cc nL d) {idx : Nat} (hw : w < 9) (hl : Cond.fieldLink own idx "java/lang/String" "value" "[B" ∈ tv_tb) (hd : decode cc pc = .ok (.getfield idx, 3)) (kk : tv_G κ nL Q (pc + 3) ls (.ref (κ.th.2.2.2.2.1 w) :: st) M o) : tv_G κ nL Q pc ls (.ref (κ.th.2.2.2.1 w) :: st) M o := fun r M' ho H locs sl hP hS hl' => vk_getf hC.1.1 hC.1.2.1 (hC.2.2.1.2.2.1.1 w hw).2.2.1 hS hC.1.2.2.2.1 (hC.1.2.2.2.2 _ hl) (fun _ h => h) hd (kk r M' ho H locs sl hP hS hl')
theorem g_getSC (hC : tv_Cx κ own cc nL d) {idx : Nat} (hw : w < 9) (hl : Cond.fieldLink own idx "java/lang/String" "coder" "B" ∈ tv_tb) (hd : decode cc pc = .ok (.getfield idx, 3)) (kk : tv_G κ nL Q (pc + 3) ls (.int 0 :: st) M o) : tv_G κ nL Q pc ls (.ref (κ.th.2.2.2.1 w) :: st) M o := fun r M' ho H locs sl hP hS hl' => vk_getf hC.1.1 hC.1.2.1 (hC.2.2.1.2.2.1.1 w hw).2.1 hS hC.1.2.2.2.1 (hC.1.2.2.2.2 _ hl) (fun _ h => h) hd (kk r M' ho H locs sl hP hS hl')
theorem g_lenS (hC : tv_Cx κ own cc nL d) (hw : w < 9) (hd : decode cc pc = .ok (.arraylength, 1)) (hx : Int32.ofNat (tv_slen.getD w 0) = x) (kk : tv_G κ nL Q (pc + 1) ls (.int x :: st) M o) : tv_G κ nL Q pc ls (.ref (κ.th.2.2.2.2.1 w) :: st) M o := fun r M' ho H locs sl hP hS hl' => va_tlen hC.1.1 hC.1.2.1 (hC.2.2.1.2.2.1.1 w hw).2.2.2 hS hx hd (kk r M' ho H locs sl hP hS hl')
theorem g_balS (hC : tv_Cx κ own cc nL d) {i : Int32} (hw : w < 9) (hi : tv_inb i (tv_slen.getD w 0) = true) (hd : decode cc pc = .ok (.baload, 1)) (kk : tv_G κ nL Q (pc + 1) ls (.int ((tv_sbyt.getD w []).getD i.toNatClampNeg 0) :: st) M o) : tv_G κ nL Q pc ls (.int i :: .ref (κ.th.2.2.2.2.1 w) :: st) M o := fun r M' ho H locs sl hP hS hl' => va_tb hC.1.1 hC.1.2.1 (hC.2.2.1.2.2.1.1 w hw).2.2.2 hS (tv_inbP hi) rfl hd (kk r M' ho H locs sl hP hS hl')
theorem g_gets1 (hC : tv_Cx κ own cc nL d) {idx : Nat} (hl : Cond.fieldLink own idx "java/lang/String" "COMPACT_STRINGS" "Z" ∈ tv_tb) (hd : decode cc pc = .ok (.getstatic idx, 3)) (kk : tv_G κ nL Q (pc + 3) ls (.int 1 :: st) M o) : tv_G κ nL Q pc ls st M o := fun r M' ho H locs sl hP hS hl' => va_gets hC.1.1 hC.1.2.1 hC.2.2.1.2.2.2.1 hS hC.1.2.2.2.1 (hC.1.2.2.2.2 _ hl) (fun _ h => h) hd (kk r M' ho H locs sl hP hS hl')
theorem g_getsF (hC : tv_Cx κ own cc nL d) {idx : Nat} (hl : Cond.fieldLink own idx "jdk/internal/util/Preconditions" "SIOOBE_FORMATTER" "Ljava/util/function/BiFunction;" ∈ tv_tb) (hd : decode cc pc = .ok (.getstatic idx, 3)) (kk : ∀ a : Value, a.category = 1 → tv_G κ nL Q (pc + 3) ls (a :: st) M o) : tv_G κ nL Q pc ls st M o := fun r M' ho H locs sl hP hS hl' => by
  rcases hC.2.2.1.2.2.2.2.2 with h | ⟨t, h⟩
  · exact va_gets hC.1.1 hC.1.2.1 h hS hC.1.2.2.2.1 (hC.1.2.2.2.2 _ hl) (fun _ h => h) hd (kk _ rfl r M' ho H locs sl hP hS hl')
  · exact va_gets hC.1.1 hC.1.2.1 h hS hC.1.2.2.2.1 (hC.1.2.2.2.2 _ hl) (fun _ h => h) hd (kk _ rfl r M' ho H locs sl hP hS hl')
theorem g_nret (hC : tv_Cx κ own cc nL d) {ty : FieldType} (hR : tv_Re κ (some ty)) (hx : narrow ty (.int x) = .int x) (hd : decode cc pc = .ok (.ireturn, 1)) : tv_G κ nL (tv_Qm κ tv_ei) pc ls [.int x] M (some (x, M)) := by
  intro r M' ho H locs sl hP hS hl
  cases ho
  exact W.zret hC.1.1 hC.1.2.1 hR.1 hx (fun t ht hW => ⟨rfl, by rw [ht]; exact hP, hS.F ht⟩) hS.2.2 hd hR.2
theorem g_eqF (hC : tv_Cx κ own cc nL d) {off : Int} {tgt : Nat} (hd : decode cc pc = .ok (.ifCond .eq off, 3)) (ht : (pc : Int) + off = (tgt : Int)) (hx : ¬ x = 0) (k : tv_G κ nL Q (pc + 3) ls st M o) : tv_G κ nL Q pc ls (.int x :: st) M o := fun r M' ho H locs sl hP hS hl => lv_if_eq hC.1.1 hC.1.2.1 hd ht (fun h => absurd h hx) (fun _ => k r M' ho H locs sl hP hS hl)
theorem g_neF (hC : tv_Cx κ own cc nL d) {off : Int} {tgt : Nat} (hd : decode cc pc = .ok (.ifCond .ne off, 3)) (ht : (pc : Int) + off = (tgt : Int)) (hx : x = 0) (k : tv_G κ nL Q (pc + 3) ls st M o) : tv_G κ nL Q pc ls (.int x :: st) M o := fun r M' ho H locs sl hP hS hl => lv_if_ne hC.1.1 hC.1.2.1 hd ht (fun h => absurd hx h) (fun _ => k r M' ho H locs sl hP hS hl)
theorem g_ltF (hC : tv_Cx κ own cc nL d) {off : Int} {tgt : Nat} (hd : decode cc pc = .ok (.ifCond .lt off, 3)) (ht : (pc : Int) + off = (tgt : Int)) (hx : ¬ x < 0) (k : tv_G κ nL Q (pc + 3) ls st M o) : tv_G κ nL Q pc ls (.int x :: st) M o := fun r M' ho H locs sl hP hS hl => lv_if_lt hC.1.1 hC.1.2.1 hd ht (fun h => absurd h hx) (fun _ => k r M' ho H locs sl hP hS hl)
theorem g_icltT (hC : tv_Cx κ own cc nL d) {off : Int} {tgt : Nat} (hd : decode cc pc = .ok (.if_icmp .lt off, 3)) (ht : (pc : Int) + off = (tgt : Int)) (hx : x < y) (k : tv_G κ nL Q tgt ls st M o) : tv_G κ nL Q pc ls (.int y :: .int x :: st) M o := fun r M' ho H locs sl hP hS hl => lv_icmp_lt hC.1.1 hC.1.2.1 hd ht (fun _ => k r M' ho H locs sl hP hS hl) (fun h => absurd hx h)
/-- a call on a String constant -/
theorem gv_callXi (hC : tv_Cx κ own cc nL d) {idx n maxL d' : Nat} {y : MethodName} {bytes : ByteArray} {ret : Option FieldType} {oc : Option (Int32 × tv_M)} {f : Int32 → tv_M → Option (β × tv_M)} (As : List Value) {rest : List Value}
    (hw : tv_Vw own idx y bytes maxL ret n) (hM : tv_Ct κ.l κ.th y bytes maxL ret d' tv_ei (.ref (κ.th.2.2.2.1 w) :: As) M oc) (hw9 : w < 9) (hy : y.cls = "java/lang/String") (hn : As.length = n) (hst : stk = As.reverse ++ .ref (κ.th.2.2.2.1 w) :: rest) (hsum : Nat.ble ((rest.map fun v => v.category).sum) 8 = true) (hdep : Nat.ble (d' + 1) d = true) (hml : Nat.ble maxL 21 = true) (hd : decode cc pc = .ok (.invokevirtual idx, 3))
    (kk : ∀ (r1 : Int32) (M1 : tv_M), tv_G κ nL Q (pc + 3) ls (.int r1 :: rest) M1 (f r1 M1)) : tv_G κ nL Q pc ls stk M (tv_cb oc f) := by
  refine tv_cont (emb := tv_ei) (a := (.ref (κ.th.2.2.2.1 w) :: As).toArray) (rest := rest) ?_ kk
  intro r1 M1 hoc H locs sl hP hS hl
  have hrc := vk_recv (H := H) (locs := locs) hC.2.2.1.2.2.1 hw9 hS
  rw [← hy] at hrc
  exact va_runV (g := F0 κ.2.2.2.2.2.1 pc sl stk) (As := As) (rest := rest) hC.1 (hM r1 M1 hoc) (cwV n hC.1.2.2.2.2 (tv_goodV hw) rfl rfl rfl ⟨rfl, hw.2.2.2.2.2⟩ (tv_rmfit hC.2.2.2.1 hC.2.2.2.2.1 hdep hml)) ⟨tv_St.blind, hrc, tv_begin hC hP hS _⟩ rfl hn hl.1 hst (lv_room (Nat.le_of_ble_eq_true hsum)) hd ⟨hC.2.2.2.2.2.1, hC.2.2.2.2.2.2⟩
/-- the outcome is known -/
theorem g_eqo (e : o1 = o) (k : tv_G κ nL Q pc ls st M o1) : tv_G κ nL Q pc ls st M o := e ▸ k
end TVS
theorem js_v335 : tv_Vw "java/lang/String" 335 ⟨"java/lang/String", "coder", "()B"⟩ prog_17_method_152_code 1 (some .byte) 0 := ⟨tv_t3 114 rfl rfl, tv_t3 115 rfl rfl, tv_t3 116 rfl rfl, tv_t1 16 rfl rfl, tv_t3 117 rfl rfl, by decide +kernel, by decide +kernel, by decide +kernel⟩
theorem js_v492 : tv_Vw "java/lang/String" 492 ⟨"java/lang/String", "isLatin1", "()Z"⟩ prog_17_method_154_code 1 (some .boolean) 0 := ⟨tv_t3 124 rfl rfl, tv_t3 125 rfl rfl, tv_t3 126 rfl rfl, tv_t1 16 rfl rfl, tv_t3 127 rfl rfl, by decide +kernel, by decide +kernel, by decide +kernel⟩
theorem js_s495 : tv_Sw "java/lang/String" 495 ⟨"java/lang/StringLatin1", "charAt", "([BI)C"⟩ prog_18_method_2_code 2 (some .char) 2 := ⟨tv_t3 128 rfl rfl, tv_t3 129 rfl rfl, tv_t1 17 rfl rfl, tv_t3 130 rfl rfl, by decide +kernel, by decide +kernel, by decide +kernel⟩
theorem js_s9 : tv_Sw "java/lang/StringLatin1" 9 ⟨"java/lang/String", "checkIndex", "(II)V"⟩ prog_17_method_155_code 2 none 2 := ⟨tv_t3 131 rfl rfl, tv_t3 132 rfl rfl, tv_t1 16 rfl rfl, tv_t3 133 rfl rfl, by decide +kernel, by decide +kernel, by decide +kernel⟩
theorem js_s1059 : tv_Sw "java/lang/String" 1059 ⟨"jdk/internal/util/Preconditions", "checkIndex", "(IILjava/util/function/BiFunction;)I"⟩ prog_22_method_11_code 3 (some .int) 3 := ⟨tv_t3 136 rfl rfl, tv_t3 137 rfl rfl, tv_t1 18 rfl rfl, tv_t3 138 rfl rfl, by decide +kernel, by decide +kernel, by decide +kernel⟩
theorem js_f9 : Cond.fieldLink "java/lang/String" 9 "java/lang/String" "value" "[B" ∈ tv_tb := tv_t8 42 rfl rfl
theorem js_f15 : Cond.fieldLink "java/lang/String" 15 "java/lang/String" "coder" "B" ∈ tv_tb := tv_t8 43 rfl rfl
theorem js_f38 : Cond.fieldLink "java/lang/String" 38 "java/lang/String" "COMPACT_STRINGS" "Z" ∈ tv_tb := tv_t3 118 rfl rfl
theorem js_f1053 : Cond.fieldLink "java/lang/String" 1053 "jdk/internal/util/Preconditions" "SIOOBE_FORMATTER" "Ljava/util/function/BiFunction;" ∈ tv_tb := tv_t3 134 rfl rfl
theorem js_cod_0 : decode prog_17_method_152_code 0 = .ok (.getstatic 38, 3) := by decide +kernel
theorem js_cod_3 : decode prog_17_method_152_code 3 = .ok (.ifCond .eq 10, 3) := by decide +kernel
theorem js_cod_6 : decode prog_17_method_152_code 6 = .ok (.aload_n 0, 1) := by decide +kernel
theorem js_cod_7 : decode prog_17_method_152_code 7 = .ok (.getfield 15, 3) := by decide +kernel
theorem js_cod_10 : decode prog_17_method_152_code 10 = .ok (.goto 4, 3) := by decide +kernel
theorem js_cod_13 : decode prog_17_method_152_code 13 = .ok (.iconst 1, 1) := by decide +kernel
theorem js_cod_14 : decode prog_17_method_152_code 14 = .ok (.ireturn, 1) := by decide +kernel
theorem js_len_0 : decode prog_17_method_54_code 0 = .ok (.aload_n 0, 1) := by decide +kernel
theorem js_len_1 : decode prog_17_method_54_code 1 = .ok (.getfield 9, 3) := by decide +kernel
theorem js_len_4 : decode prog_17_method_54_code 4 = .ok (.arraylength, 1) := by decide +kernel
theorem js_len_5 : decode prog_17_method_54_code 5 = .ok (.aload_n 0, 1) := by decide +kernel
theorem js_len_6 : decode prog_17_method_54_code 6 = .ok (.invokevirtual 335, 3) := by decide +kernel
theorem js_len_9 : decode prog_17_method_54_code 9 = .ok (.ishr, 1) := by decide +kernel
theorem js_len_10 : decode prog_17_method_54_code 10 = .ok (.ireturn, 1) := by decide +kernel
theorem js_lat_0 : decode prog_17_method_154_code 0 = .ok (.getstatic 38, 3) := by decide +kernel
theorem js_lat_3 : decode prog_17_method_154_code 3 = .ok (.ifCond .eq 14, 3) := by decide +kernel
theorem js_lat_6 : decode prog_17_method_154_code 6 = .ok (.aload_n 0, 1) := by decide +kernel
theorem js_lat_7 : decode prog_17_method_154_code 7 = .ok (.getfield 15, 3) := by decide +kernel
theorem js_lat_10 : decode prog_17_method_154_code 10 = .ok (.ifCond .ne 7, 3) := by decide +kernel
theorem js_lat_13 : decode prog_17_method_154_code 13 = .ok (.iconst 1, 1) := by decide +kernel
theorem js_lat_14 : decode prog_17_method_154_code 14 = .ok (.goto 4, 3) := by decide +kernel
theorem js_lat_17 : decode prog_17_method_154_code 17 = .ok (.iconst 0, 1) := by decide +kernel
theorem js_lat_18 : decode prog_17_method_154_code 18 = .ok (.ireturn, 1) := by decide +kernel
theorem js_chr_0 : decode prog_17_method_56_code 0 = .ok (.aload_n 0, 1) := by decide +kernel
theorem js_chr_1 : decode prog_17_method_56_code 1 = .ok (.invokevirtual 492, 3) := by decide +kernel
theorem js_chr_4 : decode prog_17_method_56_code 4 = .ok (.ifCond .eq 12, 3) := by decide +kernel
theorem js_chr_7 : decode prog_17_method_56_code 7 = .ok (.aload_n 0, 1) := by decide +kernel
theorem js_chr_8 : decode prog_17_method_56_code 8 = .ok (.getfield 9, 3) := by decide +kernel
theorem js_chr_11 : decode prog_17_method_56_code 11 = .ok (.iload_n 1, 1) := by decide +kernel
theorem js_chr_12 : decode prog_17_method_56_code 12 = .ok (.invokestatic 495, 3) := by decide +kernel
theorem js_chr_15 : decode prog_17_method_56_code 15 = .ok (.ireturn, 1) := by decide +kernel
theorem js_chr_16 : decode prog_17_method_56_code 16 = .ok (.aload_n 0, 1) := by decide +kernel
theorem js_chr_17 : decode prog_17_method_56_code 17 = .ok (.getfield 9, 3) := by decide +kernel
theorem js_chr_20 : decode prog_17_method_56_code 20 = .ok (.iload_n 1, 1) := by decide +kernel
theorem js_chr_21 : decode prog_17_method_56_code 21 = .ok (.invokestatic 498, 3) := by decide +kernel
theorem js_chr_24 : decode prog_17_method_56_code 24 = .ok (.ireturn, 1) := by decide +kernel
theorem js_sck_0 : decode prog_17_method_155_code 0 = .ok (.iload_n 0, 1) := by decide +kernel
theorem js_sck_1 : decode prog_17_method_155_code 1 = .ok (.iload_n 1, 1) := by decide +kernel
theorem js_sck_2 : decode prog_17_method_155_code 2 = .ok (.getstatic 1053, 3) := by decide +kernel
theorem js_sck_5 : decode prog_17_method_155_code 5 = .ok (.invokestatic 1059, 3) := by decide +kernel
theorem js_sck_8 : decode prog_17_method_155_code 8 = .ok (.pop, 1) := by decide +kernel
theorem js_sck_9 : decode prog_17_method_155_code 9 = .ok (.return_, 1) := by decide +kernel
theorem js_lch_0 : decode prog_18_method_2_code 0 = .ok (.iload_n 1, 1) := by decide +kernel
theorem js_lch_1 : decode prog_18_method_2_code 1 = .ok (.aload_n 0, 1) := by decide +kernel
theorem js_lch_2 : decode prog_18_method_2_code 2 = .ok (.arraylength, 1) := by decide +kernel
theorem js_lch_3 : decode prog_18_method_2_code 3 = .ok (.invokestatic 9, 3) := by decide +kernel
theorem js_lch_6 : decode prog_18_method_2_code 6 = .ok (.aload_n 0, 1) := by decide +kernel
theorem js_lch_7 : decode prog_18_method_2_code 7 = .ok (.iload_n 1, 1) := by decide +kernel
theorem js_lch_8 : decode prog_18_method_2_code 8 = .ok (.baload, 1) := by decide +kernel
theorem js_lch_9 : decode prog_18_method_2_code 9 = .ok (.sipush 255, 3) := by decide +kernel
theorem js_lch_12 : decode prog_18_method_2_code 12 = .ok (.iand, 1) := by decide +kernel
theorem js_lch_13 : decode prog_18_method_2_code 13 = .ok (.i2c, 1) := by decide +kernel
theorem js_lch_14 : decode prog_18_method_2_code 14 = .ok (.ireturn, 1) := by decide +kernel
theorem js_pck_0 : decode prog_22_method_11_code 0 = .ok (.iload_n 0, 1) := by decide +kernel
theorem js_pck_1 : decode prog_22_method_11_code 1 = .ok (.ifCond .lt 8, 3) := by decide +kernel
theorem js_pck_4 : decode prog_22_method_11_code 4 = .ok (.iload_n 0, 1) := by decide +kernel
theorem js_pck_5 : decode prog_22_method_11_code 5 = .ok (.iload_n 1, 1) := by decide +kernel
theorem js_pck_6 : decode prog_22_method_11_code 6 = .ok (.if_icmp .lt 10, 3) := by decide +kernel
theorem js_pck_9 : decode prog_22_method_11_code 9 = .ok (.aload_n 2, 1) := by decide +kernel
theorem js_pck_10 : decode prog_22_method_11_code 10 = .ok (.iload_n 0, 1) := by decide +kernel
theorem js_pck_11 : decode prog_22_method_11_code 11 = .ok (.iload_n 1, 1) := by decide +kernel
theorem js_pck_12 : decode prog_22_method_11_code 12 = .ok (.invokestatic 95, 3) := by decide +kernel
theorem js_pck_16 : decode prog_22_method_11_code 16 = .ok (.iload_n 0, 1) := by decide +kernel
theorem js_pck_17 : decode prog_22_method_11_code 17 = .ok (.ireturn, 1) := by decide +kernel
theorem Js_coder_c {l : Launch} {θ : tv_Th} (w : Nat) (hw : w < 9) (M : tv_M) : tv_Ct l θ ⟨"java/lang/String", "coder", "()B"⟩ prog_17_method_152_code 1 (some .byte) 0 tv_ei [.ref (θ.2.2.2.1 w)] M (some (0, M)) := by
  refine tv_ofG [some (.ref (θ.2.2.2.1 w))] rfl rfl (tv_ent 0 rfl) ?_
  intro κ hl ht hC hR
  subst hl; subst ht
  refine g_gets1 hC js_f38 js_cod_0 ?_
  refine g_eqF (tgt := 13) hC js_cod_3 (by decide) (by decide) ?_
  refine g_aload_n hC js_cod_6 rfl ?_
  refine g_getSC hC hw js_f15 js_cod_7 ?_
  refine g_goto (tgt := 14) hC js_cod_10 (by decide) ?_
  exact g_nret hC hR (by decide) js_cod_14
theorem Js_lat_c {l : Launch} {θ : tv_Th} (w : Nat) (hw : w < 9) (M : tv_M) : tv_Ct l θ ⟨"java/lang/String", "isLatin1", "()Z"⟩ prog_17_method_154_code 1 (some .boolean) 0 tv_ei [.ref (θ.2.2.2.1 w)] M (some (1, M)) := by
  refine tv_ofG [some (.ref (θ.2.2.2.1 w))] rfl rfl (tv_ent 0 rfl) ?_
  intro κ hl ht hC hR
  subst hl; subst ht
  refine g_gets1 hC js_f38 js_lat_0 ?_
  refine g_eqF (tgt := 17) hC js_lat_3 (by decide) (by decide) ?_
  refine g_aload_n hC js_lat_6 rfl ?_
  refine g_getSC hC hw js_f15 js_lat_7 ?_
  refine g_neF (tgt := 17) hC js_lat_10 (by decide) rfl ?_
  refine g_iconst (x := 1) hC js_lat_13 (by decide) ?_
  refine g_goto (tgt := 18) hC js_lat_14 (by decide) ?_
  exact g_nret hC hR (by decide) js_lat_18
theorem Js_shr0 : ∀ w, w < 9 → Int32.ofNat (tv_slen.getD w 0) >>> ((0 : Int32) &&& 31) = Int32.ofNat (tv_slen.getD w 0) := by decide +kernel
theorem Js_length_k {l : Launch} {θ : tv_Th} (w : Nat) (hw : w < 9) (M : tv_M) : tv_Ct l θ ⟨"java/lang/String", "length", "()I"⟩ prog_17_method_54_code 1 (some .int) 1 tv_ei [.ref (θ.2.2.2.1 w)] M (some (Int32.ofNat (tv_slen.getD w 0), M)) := by
  refine tv_ofG [some (.ref (θ.2.2.2.1 w))] rfl rfl (tv_ent 0 rfl) ?_
  intro κ hl ht hC hR
  subst hl; subst ht
  refine g_aload_n hC js_len_0 rfl ?_
  refine g_getSV hC hw js_f9 js_len_1 ?_
  refine g_lenS hC hw js_len_4 rfl ?_
  refine g_aload_n hC js_len_5 rfl ?_
  refine g_eqo (o1 := tv_cb (some ((0 : Int32), M)) (fun r M1 => some (Int32.ofNat (tv_slen.getD w 0) >>> (r &&& 31), M1))) (by show some (_, M) = _; rw [Js_shr0 w hw]) ?_
  refine gv_callXi (w := w) hC [] js_v335 (Js_coder_c w hw M) hw rfl rfl rfl rfl rfl rfl js_len_6 (fun r M1 => ?_)
  refine g_ishr hC js_len_9 ?_
  exact g_iret hC hR js_len_10
theorem Js_length_c {l : Launch} {θ : tv_Th} (F : Nat) (w : Nat) (M : tv_M) : tv_Ct l θ ⟨"java/lang/String", "length", "()I"⟩ prog_17_method_54_code 1 (some .int) 1 tv_ei [.ref (θ.2.2.2.1 w)] M (Js_length F w M) := by
  unfold Js_length
  by_cases hw : w < 9
  · rw [if_pos hw]
    exact Js_length_k w hw M
  · rw [if_neg hw]
    intro r M1 ho
    cases ho
theorem Js_pck_c {l : Launch} {θ : tv_Th} (i n : Int32) (f : Value) (hf : f.category = 1) (h1 : ¬ i < 0) (h2 : i < n) (M : tv_M) : tv_Ct l θ ⟨"jdk/internal/util/Preconditions", "checkIndex", "(IILjava/util/function/BiFunction;)I"⟩ prog_22_method_11_code 3 (some .int) 0 tv_ei [.int i, .int n, f] M (some (i, M)) := by
  refine tv_ofG [some (.int i), some (.int n), none] rfl (by simp only [lg_sl, List.flatMap_cons, List.flatMap_nil, hf]; rfl) ?_ ?_
  · intro j v hv
    match j, hv with
    | 0, hv => cases hv; exact List.mem_cons_self
    | 1, hv => cases hv; exact List.mem_cons_of_mem _ List.mem_cons_self
    | 2, hv => simp at hv
    | j + 3, hv => simp at hv
  intro κ hl ht hC hR
  subst hl; subst ht
  refine g_iload_n hC js_pck_0 rfl ?_
  refine g_ltF (tgt := 9) hC js_pck_1 (by decide) h1 ?_
  refine g_iload_n hC js_pck_4 rfl ?_
  refine g_iload_n hC js_pck_5 rfl ?_
  refine g_icltT (tgt := 16) hC js_pck_6 (by decide) h2 ?_
  refine g_iload_n hC js_pck_16 rfl ?_
  exact g_iret hC hR js_pck_17
theorem Js_sck_c {l : Launch} {θ : tv_Th} (i n : Int32) (h1 : ¬ i < 0) (h2 : i < n) (M : tv_M) : tv_Ct l θ ⟨"java/lang/String", "checkIndex", "(II)V"⟩ prog_17_method_155_code 2 none 1 tv_ev [.int i, .int n] M (some ((), M)) := by
  refine tv_ofG [some (.int i), some (.int n)] rfl rfl (tv_ent 0 rfl) ?_
  intro κ hl ht hC hR
  subst hl; subst ht
  refine g_iload_n hC js_sck_0 rfl ?_
  refine g_iload_n hC js_sck_1 rfl ?_
  refine g_getsF hC js_f1053 js_sck_2 (fun f hf => ?_)
  refine g_eqo (o1 := tv_cb (some (i, M)) (fun _ M1 => some ((), M1))) rfl ?_
  refine gv_callSi hC [.int i, .int n, f] js_s1059 (Js_pck_c i n f hf h1 h2 M) rfl rfl rfl rfl rfl js_sck_5 (fun r M1 => ?_)
  refine g_pop hC js_sck_8 rfl ?_
  exact g_vret hC hR js_sck_9
theorem Js_in {i : Int32} {w : Nat} (hw : w < 9) (hi : tv_inb i (tv_slen.getD w 0) = true) : ¬ i < 0 ∧ i < Int32.ofNat (tv_slen.getD w 0) := by
  have h := tv_inbP hi
  have hn : tv_slen.getD w 0 < 2 ^ 31 := by
    have e : ∀ w, w < 9 → tv_slen.getD w 0 < 2 ^ 31 := by decide +kernel
    exact e w hw
  obtain ⟨j, h1, h2⟩ := vp_in_of h hn
  subst h2
  exact ⟨nI_pos (by omega), nI_lt h1 hn⟩
theorem Js_nar (b : Int32) : narrow .char (.int (((b &&& 255).toUInt32 % 65536).toInt32)) = .int (((b &&& 255).toUInt32 % 65536).toInt32) := by
  rw [sc_c2]
  exact sc_nar b
theorem Js_lch_c {l : Launch} {θ : tv_Th} (w : Nat) (i : Int32) (hw : w < 9) (hi : tv_inb i (tv_slen.getD w 0) = true) (M : tv_M) : tv_Ct l θ ⟨"java/lang/StringLatin1", "charAt", "([BI)C"⟩ prog_18_method_2_code 2 (some .char) 2 tv_ei [.ref (θ.2.2.2.2.1 w), .int i] M (some ((((tv_sbyt.getD w []).getD i.toNatClampNeg 0 &&& 255).toUInt32 % 65536).toInt32, M)) := by
  refine tv_ofG [some (.ref (θ.2.2.2.2.1 w)), some (.int i)] rfl rfl (tv_ent 0 rfl) ?_
  intro κ hl ht hC hR
  subst hl; subst ht
  refine g_iload_n hC js_lch_0 rfl ?_
  refine g_aload_n hC js_lch_1 rfl ?_
  refine g_lenS hC hw js_lch_2 rfl ?_
  refine g_eqo (o1 := tv_cb (some ((), M)) (fun _ M1 => some ((((tv_sbyt.getD w []).getD i.toNatClampNeg 0 &&& 255).toUInt32 % 65536).toInt32, M1))) rfl ?_
  refine gv_callSv hC [.int i, .int (Int32.ofNat (tv_slen.getD w 0))] js_s9 (Js_sck_c i _ (Js_in hw hi).1 (Js_in hw hi).2 M) rfl rfl rfl rfl rfl js_lch_3 (fun r M1 => ?_)
  refine g_aload_n hC js_lch_6 rfl ?_
  refine g_iload_n hC js_lch_7 rfl ?_
  refine g_balS hC hw hi js_lch_8 ?_
  refine g_sipush (x := 255) hC js_lch_9 (by decide) ?_
  refine g_iand hC js_lch_12 ?_
  refine g_i2c hC js_lch_13 ?_
  exact g_nret hC hR (Js_nar _) js_lch_14
theorem Js_charAt_k {l : Launch} {θ : tv_Th} (w : Nat) (i : Int32) (hw : w < 9) (hi : tv_inb i (tv_slen.getD w 0) = true) (M : tv_M) : tv_Ct l θ ⟨"java/lang/String", "charAt", "(I)C"⟩ prog_17_method_56_code 2 (some .char) 3 tv_ei [.ref (θ.2.2.2.1 w), .int i] M (some ((((tv_sbyt.getD w []).getD i.toNatClampNeg 0 &&& 255).toUInt32 % 65536).toInt32, M)) := by
  refine tv_ofG [some (.ref (θ.2.2.2.1 w)), some (.int i)] rfl rfl (tv_ent 0 rfl) ?_
  intro κ hl ht hC hR
  subst hl; subst ht
  refine g_aload_n hC js_chr_0 rfl ?_
  refine g_eqo (o1 := tv_cb (some ((1 : Int32), M)) (fun r M1 => if r = 0 then none else tv_cb (some ((((tv_sbyt.getD w []).getD i.toNatClampNeg 0 &&& 255).toUInt32 % 65536).toInt32, M1)) (fun r M2 => if narrow .char (.int r) = .int r then some (r, M2) else none))) (by simp only [tv_cb]; rw [if_neg (by decide), if_pos (Js_nar _)]) ?_
  refine gv_callXi (w := w) hC [] js_v492 (Js_lat_c w hw M) hw rfl rfl rfl rfl rfl rfl js_chr_1 (fun r M1 => ?_)
  refine g_if_eq (tgt := 16) hC js_chr_4 (by decide) (fun _ => g_none) (fun _ => ?_)
  refine g_aload_n hC js_chr_7 rfl ?_
  refine g_getSV hC hw js_f9 js_chr_8 ?_
  refine g_iload_n hC js_chr_11 rfl ?_
  refine gv_callSi hC [.ref (κ.th.2.2.2.2.1 w), .int i] js_s495 (Js_lch_c w i hw hi M1) rfl rfl rfl rfl rfl js_chr_12 (fun r M2 => ?_)
  refine g_ite (fun hn => ?_) (fun _ => g_none)
  exact g_nret hC hR hn js_chr_15
theorem Js_charAt_c {l : Launch} {θ : tv_Th} (F : Nat) (w : Nat) (i : Int32) (M : tv_M) : tv_Ct l θ ⟨"java/lang/String", "charAt", "(I)C"⟩ prog_17_method_56_code 2 (some .char) 3 tv_ei [.ref (θ.2.2.2.1 w), .int i] M (Js_charAt F w i M) := by
  unfold Js_charAt
  by_cases hw : w < 9
  · rw [if_pos hw]
    by_cases hi : tv_inb i (tv_slen.getD w 0) = true
    · rw [if_pos hi]
      exact Js_charAt_k w i hw hi M
    · rw [if_neg hi]
      intro r M1 ho
      cases ho
  · rw [if_neg hw]
    intro r M1 ho
    cases ho
