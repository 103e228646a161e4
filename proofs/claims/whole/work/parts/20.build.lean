/-! THE BUILDING: the same judgement while the cells are being made; memory: ints, longs, references, how many cells there are -/
abbrev tb_M : Type := (Nat → Nat → Int32) × (Nat → Nat → Int64) × (Nat → Nat → Option Nat) × Nat
abbrev tb_M.n (B : tb_M) : Nat := B.2.2.2
def tb_one (q : Nat × Nat) : Nat := if q.1 < 13 then tv_nf.getD q.1 0 else q.2
def tb_sz (n : Nat) : Nat := ((tv_lay.take n).map tb_one).sum
theorem tb_sz_succ {n : Nat} {q : Nat × Nat} (h : tv_lay[n]? = some q) : tb_sz (n + 1) = tb_sz n + tb_one q := by
  unfold tb_sz
  rw [List.take_succ, h]
  simp
theorem tb_sz_le (n m : Nat) : tb_sz n ≤ tb_sz (n + m) := by
  induction m with
  | zero => exact Nat.le_refl _
  | succ m ih =>
    refine Nat.le_trans ih ?_
    cases h : tv_lay[n + m]? with
    | none =>
      unfold tb_sz
      rw [show n + (m + 1) = n + m + 1 by omega, List.take_succ, h]
      simp
    | some q =>
      rw [show n + (m + 1) = n + m + 1 by omega, tb_sz_succ h]
      exact Nat.le_add_right _ _
theorem tb_sz_mono {n m : Nat} (h : n ≤ m) : tb_sz n ≤ tb_sz m := by
  obtain ⟨k, rfl⟩ := Nat.exists_eq_add_of_le h
  exact tb_sz_le n k
def tb_V (θ : tv_Th) (B : tb_M) (H : Heap) : Prop := va_P θ.2.1 tv_cl (tv_ws θ.1 θ.2.2.1 B.n B.1 B.2.1 B.2.2.1) H ∧ ∀ k, B.n ≤ k → B.1 k = (fun _ => 0) ∧ B.2.1 k = (fun _ => 0) ∧ B.2.2.1 k = (fun _ => none)
def tb_St (θ : tv_Th) (B : tb_M) (U : State) : Prop := tb_V θ B U.heap ∧ U.heap.size = θ.1 + B.n ∧ va_K θ.2.1 tv_cl (tv_tys θ.2.2.1) U ∧ tv_X θ.1 θ.2.2.2.1 θ.2.2.2.2.1 θ.2.2.2.2.2 U U.heap
abbrev tb_W (κ : tv_Kt) (B : tb_M) (H : Heap) (locs : List Loc) (Q : State → Prop) (pc : Nat) (sl : Array Slot) (st : List Value) : Prop := W κ.1 κ.2.1 κ.2.2.1 κ.2.2.2.1 κ.2.2.2.2.1 κ.2.2.2.2.2.1 κ.2.2.2.2.2.2.1 κ.2.2.2.2.2.2.2.1 κ.2.2.2.2.2.2.2.2.1 κ.2.2.2.2.2.2.2.2.2.1 H locs (B.n - κ.ce) (tb_sz B.n - tb_sz κ.ce) Q (F0 κ.2.2.2.2.2.1 pc sl st)
def tb_Cx (κ : tv_Kt) (own : String) (cc : ByteArray) (nL d : Nat) : Prop :=
  (κ.1.tables.exec = Jvm.exec ∧ κ.2.2.2.2.2.2.2.2.2.1.code = cc ∧ κ.2.2.2.2.2.2.2.2.2.1.maxLocals = nL ∧ κ.s.vm.findClass own = some κ.2.2.2.2.2.1.cls ∧ ∀ w ∈ tv_tb, w.before κ.2.2.2.2.2.2.1 κ.s = true) ∧ va_K κ.th.2.1 tv_cl (tv_tys κ.th.2.2.1) κ.s ∧ tv_X κ.th.1 κ.th.2.2.2.1 κ.th.2.2.2.2.1 κ.th.2.2.2.2.2 κ.s κ.s.heap ∧ d ≤ κ.2.2.2.1.frames ∧ 40 * d ≤ κ.2.2.2.1.locals ∧ κ.sz - κ.ce ≤ κ.2.2.2.1.cells ∧ tb_sz κ.sz - tb_sz κ.ce ≤ κ.2.2.2.1.slots ∧ κ.s.heap.size = κ.b + κ.ce
/-- κ.ce: how many cells there were at the start; κ.sz: how many there are at the end -/
def tb_G {β : Type} (κ : tv_Kt) (nL : Nat) (Q : β → tb_M → State → Prop) (pc : Nat) (ls : List (Option Value)) (st : List Value) (M : tb_M) (o : Option (β × tb_M)) : Prop :=
  ∀ (r : β) (M' : tb_M), (o = some (r, M') ∧ M'.n = κ.sz) → ∀ (H : Heap) (locs : List Loc) (sl : Array Slot), (tb_V κ.th M H ∧ κ.ce ≤ M.n) → va_S (tv_A κ.b) κ.s.heap H locs → tv_lo sl nL ls → tb_W κ M H locs (Q r M') pc sl st
theorem tb_size {κ : tv_Kt} {own : String} {cc : ByteArray} {nL d : Nat} {M : tb_M} {H : Heap} {locs : List Loc} {T : State} (hC : tb_Cx κ own cc nL d) (hV : tb_V κ.th M H ∧ κ.ce ≤ M.n) (hS : va_S (tv_A κ.b) κ.s.heap H locs) (hT : T.heap = H) (X : Stand κ.1 κ.2.1 κ.2.2.1 κ.2.2.2.1 κ.2.2.2.2.1 κ.2.2.2.2.2.1 κ.2.2.2.2.2.2.1 κ.2.2.2.2.2.2.2.1 κ.2.2.2.2.2.2.2.2.1 κ.2.2.2.2.2.2.2.2.2.1 T locs (M.n - κ.ce) (tb_sz M.n - tb_sz κ.ce)) : H.size = κ.b + M.n := by
  have h1 := X.heapSize
  rw [hT] at h1
  have h2 : κ.2.2.2.2.1.heap.size = κ.b + κ.ce := hC.2.2.2.2.2.2.2
  have h3 := hS.1
  have h4 := hV.2
  have h5 : κ.s.heap.size = κ.b + κ.ce := h2
  by_cases h : M.n = κ.ce
  · omega
  · have hk : M.n - 1 < (tv_ws κ.th.1 κ.th.2.2.1 M.n M.1 M.2.1 M.2.2.1).length := by rw [tv_len]; omega
    have hg := List.getElem?_eq_getElem hk
    have hl := (hV.1.1 _ _ hg).lt
    have he := (tv_ws_at hg).2
    rw [he] at hl
    have : κ.b = κ.th.1 := rfl
    omega
theorem tb_ws_succ {b n : Nat} {cA : Nat → ClassId} {I : Nat → Nat → Int32} {J : Nat → Nat → Int64} {P : Nat → Nat → Option Nat} {q : Nat × Nat} (h : tv_lay[n]? = some q) : tv_ws b cA (n + 1) I J P = tv_ws b cA n I J P ++ [(b + n, tv_E b cA I J P n q)] := by
  unfold tv_ws
  rw [List.range_succ, List.map_append]
  simp [List.getD_eq_getElem?_getD, h]
/-- the world with one more cell -/
theorem tb_grow {θ : tv_Th} {M : tb_M} {H H1 : Heap} {q : Nat × Nat} (hV : tb_V θ M H) (hq : tv_lay[M.n]? = some q) (ho : ∀ k, k < H.size → H1[k]? = H[k]?) (hc : va_at θ.2.1 tv_cl (θ.1 + M.n, tv_E θ.1 θ.2.2.1 M.1 M.2.1 M.2.2.1 M.n q) H1) : tb_V θ (M.1, M.2.1, M.2.2.1, M.n + 1) H1 := by
  refine ⟨?_, fun k hk => hV.2 k (Nat.le_of_succ_le hk)⟩
  show va_P _ _ (tv_ws θ.1 θ.2.2.1 (M.n + 1) M.1 M.2.1 M.2.2.1) H1
  rw [tb_ws_succ hq]
  refine (hV.1.kept (fun k x hx => ho x.1 ((hV.1 k x hx).lt))).app (fun k x hx => ?_)
  have hz : k < 1 := (List.getElem?_eq_some_iff.mp hx).1
  rw [show k = 0 by omega] at hx
  cases hx
  exact hc
def tb_wI (B : tb_M) (k j : Nat) (x : Int32) : tb_M := (fun a i => if a = k ∧ i = j then x else B.1 a i, B.2.1, B.2.2.1, B.2.2.2)
def tb_wP (B : tb_M) (k j p : Nat) : tb_M := (B.1, B.2.1, fun a i => if a = k ∧ i = j then some p else B.2.2.1 a i, B.2.2.2)
abbrev tb_ok (B : tb_M) (k ci : Nat) : Prop := k < B.n ∧ (tv_lay[k]?).map Prod.fst = some ci
def tb_up (B : tb_M) : tb_M := (B.1, B.2.1, B.2.2.1, B.2.2.2 + 1)
theorem tb_dfl : ∀ ci, ci < 13 → ∀ j, j < tv_nf.getD ci 0 → defaultValue (tv_tyf ci j) = if (tv_rf.getD ci []).getD j false then .null else .int 0 := by decide +kernel
theorem tb_ob_setP {b ci N j p k : Nat} {I : Nat → Nat → Int32} {P P' : Nat → Nat → Option Nat} (hj : j < N) (hr : (tv_rf.getD ci []).getD j false = true) (h1 : ∀ i, i ≠ j → P' k i = P k i) (h2 : P' k j = some p) : tv_ob b ci N I P' k = (tv_ob b ci N I P k).set j (.ref (b + p)) := by
  apply List.ext_getElem?
  intro i
  by_cases hi : i < N
  · by_cases hij : i = j
    · subst hij
      rw [List.getElem?_set_self (by simp [tv_ob]; exact hi), tv_ob_r hi hr, h2]
      rfl
    · rw [List.getElem?_set_ne (Ne.symm hij)]
      unfold tv_ob
      rw [List.getElem?_map, List.getElem?_map, List.getElem?_range hi]
      simp only [Option.map_some, h1 i hij]
  · rw [List.getElem?_eq_none (by simp [tv_ob]; omega), List.getElem?_eq_none (by simp [tv_ob]; omega)]
section TBR
variable {β β' : Type} {κ : tv_Kt} {own : String} {cc : ByteArray} {nL d pc : Nat} {Q : β → tb_M → State → Prop} {ls ls' : List (Option Value)} {st stk : List Value} {M : tb_M} {o o1 o2 : Option (β × tb_M)} {x y : Int32} {u v : Int64}
theorem b_iconst (hC : tb_Cx κ own cc nL d) {n : Int} (hd : decode cc pc = .ok (.iconst n, 1)) (hv : Int32.ofInt n = x) (k : tb_G κ nL Q (pc + 1) ls (.int x :: st) M o) : tb_G κ nL Q pc ls st M o := fun r M' ho H locs sl hP hS hl => lv_iconst hC.1.1 hC.1.2.1 hd hv (k r M' ho H locs sl hP hS hl)
theorem b_bipush (hC : tb_Cx κ own cc nL d) {n : Int} (hd : decode cc pc = .ok (.bipush n, 2)) (hv : (Int8.ofInt n).toInt32 = x) (k : tb_G κ nL Q (pc + 2) ls (.int x :: st) M o) : tb_G κ nL Q pc ls st M o := fun r M' ho H locs sl hP hS hl => lv_bipush hC.1.1 hC.1.2.1 hd hv (k r M' ho H locs sl hP hS hl)
theorem b_sipush (hC : tb_Cx κ own cc nL d) {n : Int} (hd : decode cc pc = .ok (.sipush n, 3)) (hv : (Int16.ofInt n).toInt32 = x) (k : tb_G κ nL Q (pc + 3) ls (.int x :: st) M o) : tb_G κ nL Q pc ls st M o := fun r M' ho H locs sl hP hS hl => lv_sipush hC.1.1 hC.1.2.1 hd hv (k r M' ho H locs sl hP hS hl)
theorem b_ldc (hC : tb_Cx κ own cc nL d) {i : Nat} (hd : decode cc pc = .ok (.ldc i, 2)) (hw : Cond.constant own i x ∈ tv_tb) (k : tb_G κ nL Q (pc + 2) ls (.int x :: st) M o) : tb_G κ nL Q pc ls st M o := fun r M' ho H locs sl hP hS hl => lv_ldc hC.1.1 hC.1.2.1 hC.1.2.2.2.1 (hC.1.2.2.2.2 _ hw) hd (k r M' ho H locs sl hP hS hl)
theorem b_iload_n (hC : tb_Cx κ own cc nL d) {i : Fin 4} (hd : decode cc pc = .ok (.iload_n i, 1)) (hv : ls[(i : Nat)]? = some (some (.int x))) (k : tb_G κ nL Q (pc + 1) ls (.int x :: st) M o) : tb_G κ nL Q pc ls st M o := fun r M' ho H locs sl hP hS hl => lv_iload_n hC.1.1 hC.1.2.1 hd rfl (hl.2.2 _ _ hv) (k r M' ho H locs sl hP hS hl)
theorem b_iload (hC : tb_Cx κ own cc nL d) {i : Nat} (hd : decode cc pc = .ok (.iload i, 2)) (hv : ls[i]? = some (some (.int x))) (k : tb_G κ nL Q (pc + 2) ls (.int x :: st) M o) : tb_G κ nL Q pc ls st M o := fun r M' ho H locs sl hP hS hl => lv_iload hC.1.1 hC.1.2.1 hd (hl.2.2 _ _ hv) (k r M' ho H locs sl hP hS hl)
theorem b_aload_n (hC : tb_Cx κ own cc nL d) {i : Fin 4} {a : Nat} (hd : decode cc pc = .ok (.aload_n i, 1)) (hv : ls[(i : Nat)]? = some (some (.ref a))) (k : tb_G κ nL Q (pc + 1) ls (.ref a :: st) M o) : tb_G κ nL Q pc ls st M o := fun r M' ho H locs sl hP hS hl => lv_aload_n hC.1.1 hC.1.2.1 hd rfl (hl.2.2 _ _ hv) (k r M' ho H locs sl hP hS hl)
theorem b_istore_n (hC : tb_Cx κ own cc nL d) {i : Fin 4} (hd : decode cc pc = .ok (.istore_n i, 1)) (hs : tv_sto ls (i : Nat) (.int x) = ls') (hn : Nat.blt (i : Nat) nL = true) (k : tb_G κ nL Q (pc + 1) ls' st M o) : tb_G κ nL Q pc ls (.int x :: st) M o := by
  intro r M' ho H locs sl hP hS hl
  obtain ⟨sl', e', h'⟩ := tv_store1 (v := .int x) hl (by simpa using hn) rfl
  intro T hT X
  obtain ⟨t, a, b⟩ := k r M' ho H locs sl' hP hS (hs ▸ h') T hT X
  refine ⟨t, ?_, b⟩
  have hx := hC.1.1
  have hb := hC.1.2.1
  jvm_step X.here [X.here.top, ↓top_set X.here.top, hx, hb, hd, e']
  exact a
theorem b_istore (hC : tb_Cx κ own cc nL d) {i : Nat} (hd : decode cc pc = .ok (.istore i, 2)) (hs : tv_sto ls i (.int x) = ls') (hn : Nat.blt i nL = true) (k : tb_G κ nL Q (pc + 2) ls' st M o) : tb_G κ nL Q pc ls (.int x :: st) M o := by
  intro r M' ho H locs sl hP hS hl
  obtain ⟨sl', e', h'⟩ := tv_store1 (v := .int x) hl (by simpa using hn) rfl
  intro T hT X
  obtain ⟨t, a, b⟩ := k r M' ho H locs sl' hP hS (hs ▸ h') T hT X
  refine ⟨t, ?_, b⟩
  have hx := hC.1.1
  have hb := hC.1.2.1
  jvm_step X.here [X.here.top, ↓top_set X.here.top, hx, hb, hd, e']
  exact a
theorem b_iinc (hC : tb_Cx κ own cc nL d) {i : Nat} {n : Int} (hd : decode cc pc = .ok (.iinc i n, 3)) (hv : ls[i]? = some (some (.int x))) (hi : Int32.ofInt n = y) (hs : tv_sto ls i (.int (x + y)) = ls') (hn : Nat.blt i nL = true) (k : tb_G κ nL Q (pc + 3) ls' st M o) : tb_G κ nL Q pc ls st M o := by
  intro r M' ho H locs sl hP hS hl
  subst hi
  have hg := hl.2.2 _ _ hv
  obtain ⟨sl', e', h'⟩ := tv_store1 (v := .int (x + Int32.ofInt n)) hl (by simpa using hn) rfl
  intro T hT X
  obtain ⟨t, a, b⟩ := k r M' ho H locs sl' hP hS (hs ▸ h') T hT X
  refine ⟨t, ?_, b⟩
  have hx := hC.1.1
  have hb := hC.1.2.1
  jvm_step X.here [X.here.top, ↓top_set X.here.top, hx, hb, hd, hg, e']
  exact a
theorem b_iadd (hC : tb_Cx κ own cc nL d) (hd : decode cc pc = .ok (.iadd, 1)) (k : tb_G κ nL Q (pc + 1) ls (.int (x + y) :: st) M o) : tb_G κ nL Q pc ls (.int y :: .int x :: st) M o := fun r M' ho H locs sl hP hS hl => lv_iadd hC.1.1 hC.1.2.1 hd (k r M' ho H locs sl hP hS hl)
theorem b_imul (hC : tb_Cx κ own cc nL d) (hd : decode cc pc = .ok (.imul, 1)) (k : tb_G κ nL Q (pc + 1) ls (.int (x * y) :: st) M o) : tb_G κ nL Q pc ls (.int y :: .int x :: st) M o := fun r M' ho H locs sl hP hS hl => lv_imul hC.1.1 hC.1.2.1 hd (k r M' ho H locs sl hP hS hl)
theorem b_dup (hC : tb_Cx κ own cc nL d) {w : Value} (hd : decode cc pc = .ok (.dup, 1)) (hw : w.category = 1) (k : tb_G κ nL Q (pc + 1) ls (w :: w :: st) M o) : tb_G κ nL Q pc ls (w :: st) M o := fun r M' ho H locs sl hP hS hl => lv_dup hC.1.1 hC.1.2.1 hd hw (k r M' ho H locs sl hP hS hl)
theorem b_pop (hC : tb_Cx κ own cc nL d) {w : Value} (hd : decode cc pc = .ok (.pop, 1)) (hw : w.category = 1) (k : tb_G κ nL Q (pc + 1) ls st M o) : tb_G κ nL Q pc ls (w :: st) M o := fun r M' ho H locs sl hP hS hl => lv_pop hC.1.1 hC.1.2.1 hd hw (k r M' ho H locs sl hP hS hl)
theorem b_goto (hC : tb_Cx κ own cc nL d) {off : Int} {tgt : Nat} (hd : decode cc pc = .ok (.goto off, 3)) (ht : (pc : Int) + off = (tgt : Int)) (k : tb_G κ nL Q tgt ls st M o) : tb_G κ nL Q pc ls st M o := fun r M' ho H locs sl hP hS hl => lv_goto hC.1.1 hC.1.2.1 hd ht (k r M' ho H locs sl hP hS hl)
theorem b_icmp_eq (hC : tb_Cx κ own cc nL d) {off : Int} {tgt : Nat} (hd : decode cc pc = .ok (.if_icmp .eq off, 3)) (ht : (pc : Int) + off = (tgt : Int)) (k1 : x = y → tb_G κ nL Q tgt ls st M o1) (k2 : ¬ x = y → tb_G κ nL Q (pc + 3) ls st M o2) : tb_G κ nL Q pc ls (.int y :: .int x :: st) M (if x = y then o1 else o2) := by
  intro r M' ho H locs sl hP hS hl
  refine lv_icmp_eq hC.1.1 hC.1.2.1 hd ht (fun hc => k1 hc r M' ?_ H locs sl hP hS hl) (fun hc => k2 hc r M' ?_ H locs sl hP hS hl)
  · exact ⟨(if_pos hc).symm.trans ho.1, ho.2⟩
  · exact ⟨(if_neg hc).symm.trans ho.1, ho.2⟩
theorem b_icmp_ne (hC : tb_Cx κ own cc nL d) {off : Int} {tgt : Nat} (hd : decode cc pc = .ok (.if_icmp .ne off, 3)) (ht : (pc : Int) + off = (tgt : Int)) (k1 : ¬ x = y → tb_G κ nL Q tgt ls st M o1) (k2 : x = y → tb_G κ nL Q (pc + 3) ls st M o2) : tb_G κ nL Q pc ls (.int y :: .int x :: st) M (if x = y then o2 else o1) := by
  intro r M' ho H locs sl hP hS hl
  refine lv_icmp_ne hC.1.1 hC.1.2.1 hd ht (fun hc => k1 hc r M' ?_ H locs sl hP hS hl) (fun hc => k2 hc r M' ?_ H locs sl hP hS hl)
  · exact ⟨(if_neg hc).symm.trans ho.1, ho.2⟩
  · exact ⟨(if_pos hc).symm.trans ho.1, ho.2⟩
theorem b_icmp_lt (hC : tb_Cx κ own cc nL d) {off : Int} {tgt : Nat} (hd : decode cc pc = .ok (.if_icmp .lt off, 3)) (ht : (pc : Int) + off = (tgt : Int)) (k1 : x < y → tb_G κ nL Q tgt ls st M o1) (k2 : ¬ x < y → tb_G κ nL Q (pc + 3) ls st M o2) : tb_G κ nL Q pc ls (.int y :: .int x :: st) M (if x < y then o1 else o2) := by
  intro r M' ho H locs sl hP hS hl
  refine lv_icmp_lt hC.1.1 hC.1.2.1 hd ht (fun hc => k1 hc r M' ?_ H locs sl hP hS hl) (fun hc => k2 hc r M' ?_ H locs sl hP hS hl)
  · exact ⟨(if_pos hc).symm.trans ho.1, ho.2⟩
  · exact ⟨(if_neg hc).symm.trans ho.1, ho.2⟩
theorem b_icmp_ge (hC : tb_Cx κ own cc nL d) {off : Int} {tgt : Nat} (hd : decode cc pc = .ok (.if_icmp .ge off, 3)) (ht : (pc : Int) + off = (tgt : Int)) (k1 : y ≤ x → tb_G κ nL Q tgt ls st M o1) (k2 : ¬ y ≤ x → tb_G κ nL Q (pc + 3) ls st M o2) : tb_G κ nL Q pc ls (.int y :: .int x :: st) M (if y ≤ x then o1 else o2) := by
  intro r M' ho H locs sl hP hS hl
  refine lv_icmp_ge hC.1.1 hC.1.2.1 hd ht (fun hc => k1 hc r M' ?_ H locs sl hP hS hl) (fun hc => k2 hc r M' ?_ H locs sl hP hS hl)
  · exact ⟨(if_pos hc).symm.trans ho.1, ho.2⟩
  · exact ⟨(if_neg hc).symm.trans ho.1, ho.2⟩
theorem b_if_lt (hC : tb_Cx κ own cc nL d) {off : Int} {tgt : Nat} (hd : decode cc pc = .ok (.ifCond .lt off, 3)) (ht : (pc : Int) + off = (tgt : Int)) (k1 : x < 0 → tb_G κ nL Q tgt ls st M o1) (k2 : ¬ x < 0 → tb_G κ nL Q (pc + 3) ls st M o2) : tb_G κ nL Q pc ls (.int x :: st) M (if x < 0 then o1 else o2) := by
  intro r M' ho H locs sl hP hS hl
  refine lv_if_lt hC.1.1 hC.1.2.1 hd ht (fun hc => k1 hc r M' ?_ H locs sl hP hS hl) (fun hc => k2 hc r M' ?_ H locs sl hP hS hl)
  · exact ⟨(if_pos hc).symm.trans ho.1, ho.2⟩
  · exact ⟨(if_neg hc).symm.trans ho.1, ho.2⟩
theorem b_mask (m : List Bool) (hm : tv_mask m ls = ls') (k : tb_G κ nL Q pc ls' st M o) : tb_G κ nL Q pc ls st M o := fun r M' ho H locs sl hP hS hl => k r M' ho H locs sl hP hS (hm ▸ tv_lo_mask m hl)
theorem b_none : tb_G κ nL Q pc ls st M none := fun r M' ho => by cases ho.1
/-- a test that the function makes before it goes on -/
theorem b_if {c : Prop} [Decidable c] (k : c → tb_G κ nL Q pc ls st M o) : tb_G κ nL Q pc ls st M (if c then o else none) := by
  split
  · exact k (by assumption)
  · exact b_none
theorem b_obj (hC : tb_Cx κ own cc nL d) {idx a : Nat} (hw : Cond.methodLink own idx Lib.objectInit ∈ tv_tb ∧ Cond.instanceMethod Lib.objectInit ∈ tv_tb ∧ Cond.code Lib.objectInit ⟨#[0xb1]⟩ 1 none ∈ tv_tb) (hd : decode cc pc = .ok (.invokespecial idx, 3)) (hdp : Nat.ble 1 d = true) (hst : Nat.ble ((st.map fun v => v.category).sum) 8 = true) (k : tb_G κ nL Q (pc + 3) ls st M o) : tb_G κ nL Q pc ls (.ref a :: st) M o := by
  intro r M' ho H locs sl hP hS hl
  have h1 := Nat.le_of_ble_eq_true hdp
  have h2 := Nat.le_of_ble_eq_true hst
  have h3 := hC.2.2.2.1
  have h4 := hC.2.2.2.2.1
  exact W.objInit hC.1.1 hC.1.2.1 hC.1.2.2.2.1 (hC.1.2.2.2.2 _ hw.1) (hC.1.2.2.2.2 _ hw.2.1) (hC.1.2.2.2.2 _ hw.2.2) rfl (hl.1.trans hC.1.2.2.1.symm) rfl hd (by omega) (by show 2 * 0 + _ + 12 ≤ _; omega) (k r M' ho H locs sl hP hS hl)
end TBR
section TBF
variable {β β' : Type} {κ : tv_Kt} {own : String} {cc : ByteArray} {nL d pc : Nat} {Q : β → tb_M → State → Prop} {ls ls' : List (Option Value)} {st stk : List Value} {M : tb_M} {o o1 o2 : Option (β × tb_M)} {x y : Int32} {u v : Int64}
theorem tb_he {k ci : Nat} {r : vw_C} (hk : tb_ok M k ci) (hr : tv_cl[ci]? = some r) : (tv_ws κ.b κ.th.2.2.1 M.n M.1 M.2.1 M.2.2.1)[k]? = some (κ.b + k, .inr (ci, tv_ob κ.b ci r.2.2 M.1 M.2.2.1 k)) := by
  obtain ⟨n, hn⟩ := tv_lay_of hk.2
  obtain ⟨h1, h2, -⟩ := tv_okc_all hr
  have he := tv_get (b := κ.b) (cA := κ.th.2.2.1) (I := M.1) (J := M.2.1) (P := M.2.2.1) hk.1 hn
  rw [tv_E_ob h1, h2] at he
  exact he
theorem b_getI (hC : tb_Cx κ own cc nL d) {idx k : Nat} (ci j : Nat) {r : vw_C} (hk : tb_ok M k ci) (hr : tv_cl[ci]? = some r) (hj : Nat.blt j r.2.2 = true) (hf : (tv_rf.getD ci []).getD j false = false) (hw : Cond.fieldLink own idx (r.2.1 j).1 (r.2.1 j).2.1 (r.2.1 j).2.2.1 ∈ tv_tb) (hd : decode cc pc = .ok (.getfield idx, 3)) (kk : tb_G κ nL Q (pc + 3) ls (.int (M.1 k j) :: st) M o) : tb_G κ nL Q pc ls (.ref (κ.b + k) :: st) M o := by
  obtain ⟨h1, h2, h3, h4, h5⟩ := tv_okc_all hr
  have hj' : j < r.2.2 := by simpa using hj
  intro r0 M' ho H locs sl hP hS hl
  exact va_get hC.1.1 hC.1.2.1 hC.1.2.2.2.2 h3 hC.1.2.2.2.1 hC.2.1 hP.1.1 k (tb_he hk hr) hr j hj' (hC.1.2.2.2.2 _ hw) (fun _ h => h) (tv_ob_i hj' hf) hd (kk r0 M' ho H locs sl hP hS hl)
theorem b_getP (hC : tb_Cx κ own cc nL d) {idx k p : Nat} (ci j : Nat) {r : vw_C} (hk : tb_ok M k ci) (hr : tv_cl[ci]? = some r) (hj : Nat.blt j r.2.2 = true) (hf : (tv_rf.getD ci []).getD j false = true) (hw : Cond.fieldLink own idx (r.2.1 j).1 (r.2.1 j).2.1 (r.2.1 j).2.2.1 ∈ tv_tb) (hd : decode cc pc = .ok (.getfield idx, 3)) (hp : M.2.2.1 k j = some p) (kk : tb_G κ nL Q (pc + 3) ls (.ref (κ.b + p) :: st) M o) : tb_G κ nL Q pc ls (.ref (κ.b + k) :: st) M o := by
  obtain ⟨h1, h2, h3, h4, h5⟩ := tv_okc_all hr
  have hj' : j < r.2.2 := by simpa using hj
  intro r0 M' ho H locs sl hP hS hl
  have hv := tv_ob_r (b := κ.b) (ci := ci) (k := k) (I := M.1) (P := M.2.2.1) hj' hf
  rw [hp] at hv
  exact va_get hC.1.1 hC.1.2.1 hC.1.2.2.2.2 h3 hC.1.2.2.2.1 hC.2.1 hP.1.1 k (tb_he hk hr) hr j hj' (hC.1.2.2.2.2 _ hw) (fun _ h => h) hv hd (kk r0 M' ho H locs sl hP hS hl)
theorem tb_fresh_wI {k j : Nat} (hk : k < M.n) (h : ∀ a, M.n ≤ a → M.1 a = (fun _ => 0) ∧ M.2.1 a = (fun _ => 0) ∧ M.2.2.1 a = (fun _ => none)) : ∀ a, (tb_wI M k j x).n ≤ a → (tb_wI M k j x).1 a = (fun _ => 0) ∧ (tb_wI M k j x).2.1 a = (fun _ => 0) ∧ (tb_wI M k j x).2.2.1 a = (fun _ => none) := fun a ha => by
  have ha : M.n ≤ a := ha
  obtain ⟨g1, g2, g3⟩ := h a ha
  refine ⟨funext fun i => ?_, g2, g3⟩
  have : a ≠ k := by omega
  simp [tb_wI, this, g1]
theorem tb_fresh_wP {k j p : Nat} (hk : k < M.n) (h : ∀ a, M.n ≤ a → M.1 a = (fun _ => 0) ∧ M.2.1 a = (fun _ => 0) ∧ M.2.2.1 a = (fun _ => none)) : ∀ a, (tb_wP M k j p).n ≤ a → (tb_wP M k j p).1 a = (fun _ => 0) ∧ (tb_wP M k j p).2.1 a = (fun _ => 0) ∧ (tb_wP M k j p).2.2.1 a = (fun _ => none) := fun a ha => by
  have ha : M.n ≤ a := ha
  obtain ⟨g1, g2, g3⟩ := h a ha
  refine ⟨g1, g2, funext fun i => ?_⟩
  have : a ≠ k := by omega
  simp [tb_wP, this, g3]
theorem tb_setI {k ci j : Nat} {r : vw_C} (hk : tb_ok M k ci) (hr : tv_cl[ci]? = some r) (hj : j < r.2.2) (hf : (tv_rf.getD ci []).getD j false = false) : (tv_ws κ.b κ.th.2.2.1 M.n M.1 M.2.1 M.2.2.1).set k (κ.b + k, .inr (ci, (tv_ob κ.b ci r.2.2 M.1 M.2.2.1 k).set j (.int x))) = tv_ws κ.b κ.th.2.2.1 M.n (tb_wI M k j x).1 M.2.1 M.2.2.1 := by
  obtain ⟨n, hn⟩ := tv_lay_of hk.2
  obtain ⟨h1, h2, -⟩ := tv_okc_all hr
  exact tv_set hn (by rw [tv_E_ob h1, h2, tv_ob_set (I := M.1) (x := x) hj hf (fun i hi => by simp [tb_wI, hi]) (by simp [tb_wI])]) (fun a ha => ⟨funext fun i => by simp [tb_wI, ha], rfl, rfl⟩)
theorem tb_setP {k ci j p : Nat} {r : vw_C} (hk : tb_ok M k ci) (hr : tv_cl[ci]? = some r) (hj : j < r.2.2) (hf : (tv_rf.getD ci []).getD j false = true) : (tv_ws κ.b κ.th.2.2.1 M.n M.1 M.2.1 M.2.2.1).set k (κ.b + k, .inr (ci, (tv_ob κ.b ci r.2.2 M.1 M.2.2.1 k).set j (.ref (κ.b + p)))) = tv_ws κ.b κ.th.2.2.1 M.n M.1 M.2.1 (tb_wP M k j p).2.2.1 := by
  obtain ⟨n, hn⟩ := tv_lay_of hk.2
  obtain ⟨h1, h2, -⟩ := tv_okc_all hr
  exact tv_set hn (by rw [tv_E_ob h1, h2, tb_ob_setP (P := M.2.2.1) (p := p) hj hf (fun i hi => by simp [tb_wP, hi]) (by simp [tb_wP])]) (fun a ha => ⟨rfl, rfl, funext fun i => by simp [tb_wP, ha]⟩)
/-- an int into a field that isn't final -/
theorem b_putI (hC : tb_Cx κ own cc nL d) {idx k : Nat} (ci j : Nat) {r : vw_C} (hk : tb_ok M k ci) (hr : tv_cl[ci]? = some r) (hj : Nat.blt j r.2.2 = true) (hf : (tv_rf.getD ci []).getD j false = false) (hw : Cond.fieldLink own idx (r.2.1 j).1 (r.2.1 j).2.1 (r.2.1 j).2.2.1 ∈ tv_tb) (hfin : (r.2.1 j).2.2.2 = false) (hty : tv_tyf ci j = .int) (hd : decode cc pc = .ok (.putfield idx, 3)) (kk : tb_G κ nL Q (pc + 3) ls st (tb_wI M k j x) o) : tb_G κ nL Q pc ls (.int x :: .ref (κ.b + k) :: st) M o := by
  obtain ⟨h1, h2, h3, h4, h5⟩ := tv_okc_all hr
  have hj' : j < r.2.2 := by simpa using hj
  intro r0 M' ho H locs sl hP hS hl
  refine va_put hC.1.1 hC.1.2.1 hC.1.2.2.2.2 h3 (tv_tyf ci) h5 h4 hC.1.2.2.2.1 hC.2.1 hP.1.1 tv_D hS k (tb_he hk hr) hr j hj' (hC.1.2.2.2.2 _ hw) (fun _ h => h) hfin (by rw [h5 j hj', hty]) rfl rfl (by simp [tv_ob]; exact hj') hd (fun H1 locs1 hP1 hD1 hS1 => ?_)
  rw [tb_setI hk hr hj' hf] at hP1
  exact kk r0 M' ho H1 locs1 sl ⟨⟨hP1, tb_fresh_wI hk.1 hP.1.2⟩, hP.2⟩ hS1 hl
/-- an int into a final field, in a constructor -/
theorem b_putF (hC : tb_Cx κ own cc nL d) (hI : κ.2.2.2.2.2.2.2.2.1.name = "<init>") {idx k : Nat} (ci j : Nat) {r : vw_C} (hk : tb_ok M k ci) (hr : tv_cl[ci]? = some r) (hj : Nat.blt j r.2.2 = true) (hf : (tv_rf.getD ci []).getD j false = false) (hw : Cond.fieldLink own idx (r.2.1 j).1 (r.2.1 j).2.1 (r.2.1 j).2.2.1 ∈ tv_tb) (hfin : (r.2.1 j).2.2.2 = true) (hdec : (r.2.1 j).1 = own) (hty : tv_tyf ci j = .int) (hd : decode cc pc = .ok (.putfield idx, 3)) (kk : tb_G κ nL Q (pc + 3) ls st (tb_wI M k j x) o) : tb_G κ nL Q pc ls (.int x :: .ref (κ.b + k) :: st) M o := by
  obtain ⟨h1, h2, h3, h4, h5⟩ := tv_okc_all hr
  have hj' : j < r.2.2 := by simpa using hj
  intro r0 M' ho H locs sl hP hS hl
  refine va_putF hC.1.1 hC.1.2.1 hC.1.2.2.2.2 h3 (tv_tyf ci) h5 h4 hC.1.2.2.2.1 hC.2.1 hP.1.1 tv_D hS k (tb_he hk hr) hr j hj' (hC.1.2.2.2.2 _ hw) (fun _ h => h) hfin hI hdec (by rw [h5 j hj', hty]) rfl rfl (by simp [tv_ob]; exact hj') hd (fun H1 locs1 hP1 hD1 hS1 => ?_)
  rw [tb_setI hk hr hj' hf] at hP1
  exact kk r0 M' ho H1 locs1 sl ⟨⟨hP1, tb_fresh_wI hk.1 hP.1.2⟩, hP.2⟩ hS1 hl
/-- a reference into a final field, in a constructor -/
theorem b_putP (hC : tb_Cx κ own cc nL d) (hI : κ.2.2.2.2.2.2.2.2.1.name = "<init>") {idx k p : Nat} (ci j : Nat) {r : vw_C} {ty : FieldType} (hk : tb_ok M k ci) (hr : tv_cl[ci]? = some r) (hj : Nat.blt j r.2.2 = true) (hf : (tv_rf.getD ci []).getD j false = true) (hw : Cond.fieldLink own idx (r.2.1 j).1 (r.2.1 j).2.1 (r.2.1 j).2.2.1 ∈ tv_tb) (hfin : (r.2.1 j).2.2.2 = true) (hdec : (r.2.1 j).1 = own) (hty : tv_tyf ci j = ty) (hnr : narrow ty (.ref (κ.b + p)) = .ref (κ.b + p)) (hft : fits ty (.ref (κ.b + p)) = true) (hd : decode cc pc = .ok (.putfield idx, 3)) (kk : tb_G κ nL Q (pc + 3) ls st (tb_wP M k j p) o) : tb_G κ nL Q pc ls (.ref (κ.b + p) :: .ref (κ.b + k) :: st) M o := by
  obtain ⟨h1, h2, h3, h4, h5⟩ := tv_okc_all hr
  have hj' : j < r.2.2 := by simpa using hj
  intro r0 M' ho H locs sl hP hS hl
  refine va_putF hC.1.1 hC.1.2.1 hC.1.2.2.2.2 h3 (tv_tyf ci) h5 h4 hC.1.2.2.2.1 hC.2.1 hP.1.1 tv_D hS k (tb_he hk hr) hr j hj' (hC.1.2.2.2.2 _ hw) (fun _ h => h) hfin hI hdec (by rw [h5 j hj', hty]) hnr hft (by simp [tv_ob]; exact hj') hd (fun H1 locs1 hP1 hD1 hS1 => ?_)
  rw [tb_setP hk hr hj' hf] at hP1
  exact kk r0 M' ho H1 locs1 sl ⟨⟨hP1, tb_fresh_wP hk.1 hP.1.2⟩, hP.2⟩ hS1 hl
end TBF
