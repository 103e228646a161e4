/-! RETURNS, CALLS, the way from a walk to a contract -/
def tv_Qc {β : Type} (θ : tv_Th) (emb : β → Option Value) (r : β) (M' : tv_M) : Array Value → State → Outcome → State → Prop := fun _ st oc t => oc = .returned (emb r) ∧ tv_V θ M' t.heap ∧ va_F (tv_A θ.1) st t
def tv_Qm {β : Type} (κ : tv_Kt) (emb : β → Option Value) (r : β) (M' : tv_M) : State → Prop := MQ κ.2.2.2.2.2.2.2.1 (tv_Qc κ.th emb r M') κ.2.2.2.2.2.2.1 κ.s κ.ce κ.sz (tv_A κ.b)
def tv_Re (κ : tv_Kt) (ret : Option FieldType) : Prop := κ.2.2.2.2.2.2.2.2.1.sig.returnType = ret ∧ κ.2.2.2.2.2.2.2.2.1.locks = false
def tv_ei : Int32 → Option Value := fun x => some (.int x)
def tv_el : Int64 → Option Value := fun x => some (.long x)
def tv_ev : Unit → Option Value := fun _ => none
def tv_er (b : Nat) : Option Nat → Option Value := fun x => some (tv_re b x)
def tv_rm (d : Nat) : Room := { frames := d, cells := 0, slots := 0, locals := 40 * d }
/-- the contract: a function's outcome is the method's -/
def tv_Ct {β : Type} (l : Launch) (θ : tv_Th) (y : MethodName) (cc : ByteArray) (maxL : Nat) (ret : Option FieldType) (d : Nat) (emb : β → Option Value) (av : List Value) (M : tv_M) (o : Option (β × tv_M)) : Prop :=
  ∀ (r : β) (M' : tv_M), o = some (r, M') → Met l y (Cond.code y cc maxL ret :: tv_tb) (tv_rm d) (va_Pc av (tv_St θ M)) (tv_Qc θ emb r M') 0 0 (tv_A θ.1)
theorem tv_St.blind {θ : tv_Th} {M : tv_M} {av : List Value} : FrameBlind (va_Pc av (tv_St θ M)) := fun a U g mk h => ⟨h.1, h.2.1, va_K.moved (u := U) (U := U.calling g mk a) (Vm.Alike.refl U.vm) h.2.2.1, tv_X.same (s := U) (U := U.calling g mk a) rfl h.2.2.2⟩
theorem tv_tb_good {w : Cond} (h : w ∈ tv_tb) : w ∈ tv_tb ∧ ((w.onTables && w.keeps) = true ∨ ∃ ty, w = .arrayClass ty) := ⟨h, good_of_word (List.mem_filter.mp h).2⟩
theorem tv_atl {w : Cond} (i : Nat) (h : lw_tbl[i]? = some w) (hg : goodWord w = true) : w ∈ tv_tb := List.mem_filter.mpr ⟨List.mem_of_getElem? h, hg⟩
section TVC
variable {β β' : Type} {κ : tv_Kt} {own : String} {cc : ByteArray} {nL d pc : Nat} {Q : β → tv_M → State → Prop} {ls ls' : List (Option Value)} {st stk : List Value} {M : tv_M} {o o1 o2 : Option (β × tv_M)} {x y : Int32} {u v : Int64}
theorem g_iret (hC : tv_Cx κ own cc nL d) (hR : tv_Re κ (some .int)) (hd : decode cc pc = .ok (.ireturn, 1)) : tv_G κ nL (tv_Qm κ tv_ei) pc ls [.int x] M (some (x, M)) := by
  intro r M' ho H locs sl hP hS hl
  cases ho
  exact W.iret hC.1.1 hC.1.2.1 hR.1 (fun t ht hW => ⟨rfl, by rw [ht]; exact hP, hS.F ht⟩) hS.2.2 hd hR.2
theorem g_zret (hC : tv_Cx κ own cc nL d) (hR : tv_Re κ (some .boolean)) (hx : x = 0 ∨ x = 1) (hd : decode cc pc = .ok (.ireturn, 1)) : tv_G κ nL (tv_Qm κ tv_ei) pc ls [.int x] M (some (x, M)) := by
  intro r M' ho H locs sl hP hS hl
  cases ho
  exact W.zret hC.1.1 hC.1.2.1 hR.1 (tv_narZ hx) (fun t ht hW => ⟨rfl, by rw [ht]; exact hP, hS.F ht⟩) hS.2.2 hd hR.2
theorem g_lret (hC : tv_Cx κ own cc nL d) (hR : tv_Re κ (some .long)) (hd : decode cc pc = .ok (.lreturn, 1)) : tv_G κ nL (tv_Qm κ tv_el) pc ls [.long u] M (some (u, M)) := by
  intro r M' ho H locs sl hP hS hl
  cases ho
  exact W.lret hC.1.1 hC.1.2.1 hR.1 (fun t ht hW => ⟨rfl, by rw [ht]; exact hP, hS.F ht⟩) hS.2.2 hd hR.2
theorem g_vret (hC : tv_Cx κ own cc nL d) (hR : tv_Re κ none) (hd : decode cc pc = .ok (.return_, 1)) : tv_G κ nL (tv_Qm κ tv_ev) pc ls [] M (some ((), M)) := by
  intro r M' ho H locs sl hP hS hl
  cases ho
  exact W.vret hC.1.1 hC.1.2.1 hR.1 (fun t ht hW => ⟨rfl, by rw [ht]; exact hP, hS.F ht⟩) hS.2.2 hd hR.2
theorem g_aret (hC : tv_Cx κ own cc nL d) {rt : FieldType} (hR : tv_Re κ (some rt)) (hrt : (∃ n, rt = .object n) ∨ ∃ t, rt = .array t) (r0 : Option Nat) (hd : decode cc pc = .ok (.areturn, 1)) : tv_G κ nL (tv_Qm κ (tv_er κ.b)) pc ls [tv_re κ.b r0] M (some (r0, M)) := by
  intro r M' ho H locs sl hP hS hl
  cases ho
  exact W.aret hC.1.1 hC.1.2.1 hR.1 hrt (by cases r0 with | none => exact Or.inl rfl | some a => exact Or.inr ⟨_, rfl⟩) (fun t ht hW => ⟨rfl, by rw [ht]; exact hP, hS.F ht⟩) hS.2.2 hd hR.2
theorem tv_cont {emb : β' → Option Value} {oc : Option (β' × tv_M)} {f : β' → tv_M → Option (β × tv_M)} {rest : List Value} {a : Array Value}
    (hrun : ∀ (r1 : β') (M1 : tv_M), oc = some (r1, M1) → ∀ (H : Heap) (locs : List Loc) (sl : Array Slot), tv_V κ.th M H → va_S (tv_A κ.b) κ.s.heap H locs → tv_lo sl nL ls → va_Run κ.1 κ.2.1 κ.2.2.1 κ.2.2.2.1 κ.2.2.2.2.1 κ.2.2.2.2.2.1 κ.2.2.2.2.2.2.1 κ.2.2.2.2.2.2.2.1 κ.2.2.2.2.2.2.2.2.1 κ.2.2.2.2.2.2.2.2.2.1 H locs κ.ce κ.sz 0 0 (F0 κ.2.2.2.2.2.1 pc sl stk) rest (tv_Qc κ.th emb r1 M1 a) (tv_A κ.b))
    (kk : ∀ (r1 : β') (M1 : tv_M), tv_G κ nL Q (pc + 3) ls ((emb r1).toList ++ rest) M1 (f r1 M1)) : tv_G κ nL Q pc ls stk M (tv_cb oc f) := by
  intro r M' ho H locs sl hP hS hl
  cases hoc : oc with
  | none => rw [hoc] at ho; cases ho
  | some q =>
    obtain ⟨r1, M1⟩ := q
    rw [hoc] at ho
    have ho : f r1 M1 = some (r, M') := ho
    intro T hT X
    obtain ⟨w, st₀, t, T', L, h0, X', hL, e1, e2, ⟨hv, hV, hz, hk⟩, stp⟩ := hrun r1 M1 hoc H locs sl hP hS hl T hT X
    cases hv
    rw [h0] at hz hk
    obtain ⟨t2, a1, b1⟩ := kk r1 M1 r M' ho T'.heap (locs ++ L) sl (by rw [e1]; exact hV) ⟨Nat.le_trans hS.1 (by rw [e1]; exact hz), fun q h1 h2 => by rw [e1, hk q (Nat.lt_of_lt_of_le h1 hS.1) h2]; exact hS.2.1 q h1 h2, fun q hq => by
      rcases List.mem_append.mp hq with h | h
      · exact hS.2.2 q h
      · exact hL q h⟩ hl T' rfl X'
    exact ⟨t2, stp t2 a1, b1⟩
/-- the state in which a callee begins -/
theorem tv_begin (hC : tv_Cx κ own cc nL d) {H : Heap} {locs : List Loc} (hP : tv_V κ.th M H) (hS : va_S (tv_A κ.b) κ.s.heap H locs) (av : List Value) : ∀ U : State, U.heap = H → κ.s.WarmedH U.vm → va_Pc av (tv_St κ.th M) av.toArray U := fun U hU hW => ⟨rfl, by rw [hU]; exact hP, va_K.moved hW.alike hC.2.1, by
  rw [hU]
  exact (hC.2.2.1.warm hW).kept hS.2.1⟩
def tv_Vw (own : String) (idx : Nat) (y : MethodName) (bytes : ByteArray) (maxL : Nat) (ret : Option FieldType) (n : Nat) : Prop := Cond.methodLink own idx y ∈ tv_tb ∧ Cond.instanceMethod y ∈ tv_tb ∧ Cond.selects y.cls y y ∈ tv_tb ∧ Cond.initialized y.cls ∈ tv_tb ∧ Cond.code y bytes maxL ret ∈ tv_tb ∧ (y.cls ≠ "java/lang/invoke/MethodHandle" ∧ y.cls ≠ "java/lang/invoke/VarHandle" ∧ (parseMethodDescriptor y.desc).map (fun d => d.parameters.length) = some n)
def tv_Sw (own : String) (idx : Nat) (y : MethodName) (bytes : ByteArray) (maxL : Nat) (ret : Option FieldType) (n : Nat) : Prop := Cond.methodLink own idx y ∈ tv_tb ∧ Cond.static y ∈ tv_tb ∧ Cond.initialized y.cls ∈ tv_tb ∧ Cond.code y bytes maxL ret ∈ tv_tb ∧ (y.cls ≠ "java/lang/invoke/MethodHandle" ∧ y.cls ≠ "java/lang/invoke/VarHandle" ∧ (parseMethodDescriptor y.desc).map (fun d => d.parameters.length) = some n)
def tv_Nw (own : String) (idx : Nat) (y : MethodName) (host : String) (bytes : ByteArray) (maxL : Nat) (ret : Option FieldType) (n : Nat) : Prop := (own, idx, y, host) ∈ tv_nests ∧ Cond.static y ∈ tv_tb ∧ Cond.initialized y.cls ∈ tv_tb ∧ Cond.code y bytes maxL ret ∈ tv_tb ∧ (y.cls ≠ "java/lang/invoke/MethodHandle" ∧ y.cls ≠ "java/lang/invoke/VarHandle" ∧ (parseMethodDescriptor y.desc).map (fun d => d.parameters.length) = some n)
theorem tv_good_ws {w0 : Cond} (h0 : w0 ∈ tv_tb) : GoodIn tv_tb (w0 :: tv_tb) := fun w hw => by
  rcases List.mem_cons.mp hw with h | h
  · subst h; exact tv_tb_good h0
  · exact tv_tb_good h
theorem tv_goodV {own : String} {idx : Nat} {y : MethodName} {bytes : ByteArray} {maxL : Nat} {ret : Option FieldType} {n : Nat} (h : tv_Vw own idx y bytes maxL ret n) : GoodIn tv_tb (wsV own idx y.cls y (Cond.code y bytes maxL ret :: tv_tb)) := fun w hw => by
  rcases List.mem_append.mp hw with g | g
  · have : w ∈ tv_tb := by
      simp only [List.mem_cons, List.not_mem_nil, or_false] at g
      rcases g with g | g | g | g <;> subst g
      · exact h.1
      · exact h.2.1
      · exact h.2.2.1
      · exact h.2.2.2.1
    exact tv_tb_good this
  · exact tv_good_ws h.2.2.2.2.1 w g
theorem tv_goodS {own : String} {idx : Nat} {y : MethodName} {bytes : ByteArray} {maxL : Nat} {ret : Option FieldType} {n : Nat} (h : tv_Sw own idx y bytes maxL ret n) : GoodIn tv_tb (va_wsS own idx y (Cond.code y bytes maxL ret :: tv_tb)) := fun w hw => by
  rcases List.mem_append.mp hw with g | g
  · have : w ∈ tv_tb := by
      simp only [List.mem_cons, List.not_mem_nil, or_false] at g
      rcases g with g | g | g <;> subst g
      · exact h.1
      · exact h.2.1
      · exact h.2.2.1
    exact tv_tb_good this
  · exact tv_good_ws h.2.2.2.1 w g
theorem tv_rmfit {R : Room} {d d' maxL : Nat} (h1 : d ≤ R.frames) (h2 : 40 * d ≤ R.locals) (hd : Nat.ble (d' + 1) d = true) (hm : Nat.ble maxL 21 = true) : (tv_rm d').frames + 1 ≤ R.frames ∧ 8 + (maxL + 11) + (tv_rm d').locals ≤ R.locals := by
  have a := Nat.le_of_ble_eq_true hd
  have b := Nat.le_of_ble_eq_true hm
  show d' + 1 ≤ R.frames ∧ 8 + (maxL + 11) + 40 * d' ≤ R.locals
  omega
theorem g_callV (hC : tv_Cx κ own cc nL d) {idx k ci n maxL d' : Nat} {y : MethodName} {bytes : ByteArray} {ret : Option FieldType} {emb : β' → Option Value} {oc : Option (β' × tv_M)} {f : β' → tv_M → Option (β × tv_M)} {r : vw_C} (As : List Value) {rest : List Value}
    (hw : tv_Vw own idx y bytes maxL ret n) (hM : tv_Ct κ.l κ.th y bytes maxL ret d' emb (.ref (κ.b + k) :: As) M oc) (hk : (tv_lay[k]?).map Prod.fst = some ci) (hr : tv_cl[ci]? = some r) (hy : y.cls = r.1) (hn : As.length = n) (hst : stk = As.reverse ++ .ref (κ.b + k) :: rest) (hsum : Nat.ble ((rest.map fun v => v.category).sum) 8 = true) (hdep : Nat.ble (d' + 1) d = true) (hml : Nat.ble maxL 21 = true) (hd : decode cc pc = .ok (.invokevirtual idx, 3))
    (kk : ∀ (r1 : β') (M1 : tv_M), tv_G κ nL Q (pc + 3) ls ((emb r1).toList ++ rest) M1 (f r1 M1)) : tv_G κ nL Q pc ls stk M (tv_cb oc f) := by
  refine tv_cont (a := (.ref (κ.b + k) :: As).toArray) (rest := rest) ?_ kk
  intro r1 M1 hoc H locs sl hP hS hl
  obtain ⟨n0, hn0⟩ := tv_lay_of hk
  obtain ⟨h1, h2, -⟩ := tv_okc_all hr
  have he := tv_get (b := κ.b) (cA := κ.th.2.2.1) (I := M.1) (J := M.2) (P := tv_P0) (tv_lay_lt hn0) hn0
  rw [tv_E_ob h1, h2] at he
  have hrc := va_recv hC.2.1 hP hr he
  rw [← hy] at hrc
  exact va_runV (g := F0 κ.2.2.2.2.2.1 pc sl stk) (As := As) (rest := rest) hC.1 (hM r1 M1 hoc) (cwV n hC.1.2.2.2.2 (tv_goodV hw) rfl rfl rfl ⟨rfl, hw.2.2.2.2.2⟩ (tv_rmfit hC.2.2.2.1 hC.2.2.2.2.1 hdep hml)) ⟨tv_St.blind, hrc, tv_begin hC hP hS _⟩ rfl hn hl.1 hst (lv_room (Nat.le_of_ble_eq_true hsum)) hd ⟨hC.2.2.2.2.2.1, hC.2.2.2.2.2.2⟩
theorem g_callS (hC : tv_Cx κ own cc nL d) {idx n maxL d' : Nat} {y : MethodName} {bytes : ByteArray} {ret : Option FieldType} {emb : β' → Option Value} {oc : Option (β' × tv_M)} {f : β' → tv_M → Option (β × tv_M)} (As : List Value) {rest : List Value}
    (hw : tv_Sw own idx y bytes maxL ret n) (hM : tv_Ct κ.l κ.th y bytes maxL ret d' emb As M oc) (hn : As.length = n) (hst : stk = As.reverse ++ rest) (hsum : Nat.ble ((rest.map fun v => v.category).sum) 8 = true) (hdep : Nat.ble (d' + 1) d = true) (hml : Nat.ble maxL 21 = true) (hd : decode cc pc = .ok (.invokestatic idx, 3))
    (kk : ∀ (r1 : β') (M1 : tv_M), tv_G κ nL Q (pc + 3) ls ((emb r1).toList ++ rest) M1 (f r1 M1)) : tv_G κ nL Q pc ls stk M (tv_cb oc f) := by
  refine tv_cont (a := As.toArray) (rest := rest) ?_ kk
  intro r1 M1 hoc H locs sl hP hS hl
  exact va_runS (g := F0 κ.2.2.2.2.2.1 pc sl stk) (As := As) (rest := rest) hC.1 (hM r1 M1 hoc) (va_cwS n hC.1.2.2.2.2 (tv_goodS hw) rfl rfl rfl hw.2.2.2.2 (tv_rmfit hC.2.2.2.1 hC.2.2.2.2.1 hdep hml)) ⟨tv_St.blind, tv_begin hC hP hS _⟩ rfl hn hl.1 hst (lv_room (Nat.le_of_ble_eq_true hsum)) hd ⟨hC.2.2.2.2.2.1, hC.2.2.2.2.2.2⟩
theorem g_callN (hC : tv_Cx κ own cc nL d) {idx n maxL d' : Nat} {y : MethodName} {host : String} {bytes : ByteArray} {ret : Option FieldType} {emb : β' → Option Value} {oc : Option (β' × tv_M)} {f : β' → tv_M → Option (β × tv_M)} (As : List Value) {rest : List Value}
    (hw : tv_Nw own idx y host bytes maxL ret n) (hM : tv_Ct κ.l κ.th y bytes maxL ret d' emb As M oc) (hn : As.length = n) (hst : stk = As.reverse ++ rest) (hsum : Nat.ble ((rest.map fun v => v.category).sum) 8 = true) (hdep : Nat.ble (d' + 1) d = true) (hml : Nat.ble maxL 21 = true) (hd : decode cc pc = .ok (.invokestatic idx, 3))
    (kk : ∀ (r1 : β') (M1 : tv_M), tv_G κ nL Q (pc + 3) ls ((emb r1).toList ++ rest) M1 (f r1 M1)) : tv_G κ nL Q pc ls stk M (tv_cb oc f) := by
  refine tv_cont (a := As.toArray) (rest := rest) ?_ kk
  intro r1 M1 hoc H locs sl hP hS hl
  exact va_runSN (g := F0 κ.2.2.2.2.2.1 pc sl stk) (As := As) (rest := rest) hC.1 (hM r1 M1 hoc) ⟨va_cnB n hC.1.2.2.2.2 (tv_good_ws hw.2.2.2.1) rfl rfl rfl (hC.2.2.1.1 _ hw.1) (hC.1.2.2.2.2 _ hw.2.2.1) hw.2.2.2.2 (tv_rmfit hC.2.2.2.1 hC.2.2.2.2.1 hdep hml), hC.1.2.2.2.2 _ hw.2.1, trivial⟩ ⟨tv_St.blind, tv_begin hC hP hS _⟩ rfl hn hl.1 hst (lv_room (Nat.le_of_ble_eq_true hsum)) hd ⟨hC.2.2.2.2.2.1, hC.2.2.2.2.2.2⟩
/-- System.arraycopy between int rows -/
theorem g_copy (hC : tv_Cx κ own cc nL d) {idx a k n0 n1 : Nat} {sp dp n : Int32} {f : tv_M → Option (β × tv_M)} (ha : tv_lay[a]? = some (20, n0)) (hk : tv_lay[k]? = some (20, n1)) (hw : Cond.methodLink own idx arraycopyName ∈ tv_tb ∧ Cond.native arraycopyName ∈ tv_tb ∧ Cond.static arraycopyName ∈ tv_tb ∧ Cond.initialized "java/lang/System" ∈ tv_tb) (hsum : Nat.ble ((st.map fun v => v.category).sum) 8 = true) (hdep : Nat.ble 1 d = true) (hd : decode cc pc = .ok (.invokestatic idx, 3))
    (kk : tv_G κ nL Q (pc + 3) ls st (tv_wc M k (va_cpy (M.1 a) (M.1 k) sp.toNatClampNeg dp.toNatClampNeg n.toNatClampNeg)) (f (tv_wc M k (va_cpy (M.1 a) (M.1 k) sp.toNatClampNeg dp.toNatClampNeg n.toNatClampNeg)))) : tv_G κ nL Q pc ls (.int n :: .int dp :: .ref (κ.b + k) :: .int sp :: .ref (κ.b + a) :: st) M (tv_cpy M a n0 sp k n1 dp n f) := by
  intro r M' ho H locs sl hP hS hl
  unfold tv_cpy at ho
  by_cases hc : 0 ≤ sp ∧ 0 ≤ dp ∧ 0 ≤ n ∧ sp.toNatClampNeg + n.toNatClampNeg ≤ n0 ∧ dp.toNatClampNeg + n.toNatClampNeg ≤ n1
  · rw [if_pos hc] at ho
    obtain ⟨c1, c2, c3, c4, c5⟩ := hc
    have hea := tv_get (b := κ.b) (cA := κ.th.2.2.1) (I := M.1) (J := M.2) (P := tv_P0) (tv_lay_lt ha) ha
    have hek := tv_get (b := κ.b) (cA := κ.th.2.2.1) (I := M.1) (J := M.2) (P := tv_P0) (tv_lay_lt hk) hk
    rw [tv_E_i] at hea hek
    have h1 := Nat.le_of_ble_eq_true hdep
    have h2 := hC.2.2.2.1
    have h3 := hC.2.2.2.2.1
    have h4 := Nat.le_of_ble_eq_true hsum
    refine va_copyi hC.1.1 hC.1.2.1 (hC.1.2.2.1.trans hl.1.symm) hC.1.2.2.2.1 (hC.1.2.2.2.2 _ hw.1) (hC.1.2.2.2.2 _ hw.2.1) (hC.1.2.2.2.2 _ hw.2.2.1) (hC.1.2.2.2.2 _ hw.2.2.2) hC.2.1 hP tv_D hS a k 0 0 hea hek rfl rfl rfl (Int32.not_lt.mpr c1) (Int32.not_lt.mpr c2) (Int32.not_lt.mpr c3) c4 c5 (fun i _ => rfl) (by omega) ?_ hd (fun H1 locs1 hP1 hD1 hS1 => ?_)
    · have e : nativeFrameWords "java/lang/System" "arraycopy" 5 ≤ 20 := by decide
      omega
    · refine kk r M' ho H1 locs1 sl ?_ hS1 hl
      rw [tv_set (I' := (tv_wc M k (va_cpy (M.1 a) (M.1 k) sp.toNatClampNeg dp.toNatClampNeg n.toNatClampNeg)).1) (J' := M.2) (P' := tv_P0) hk (by rw [tv_E_i, tv_wc_row]) tv_wc_ne] at hP1
      exact hP1
  · rw [if_neg hc] at ho
    cases ho
end TVC
/-- a walk from a method's entry is its contract -/
theorem tv_ofG {β : Type} {l : Launch} {θ : tv_Th} {y : MethodName} {cc : ByteArray} {maxL : Nat} {ret : Option FieldType} {d : Nat} {emb : β → Option Value} {av : List Value} {M : tv_M} {o : Option (β × tv_M)} (ls : List (Option Value)) (hy : plainName y.cls = true) (hlen : Nat.ble (lg_sl av).length maxL = true) (hent : ∀ (i : Nat) (v : Value), ls[i]? = some (some v) → (i, v) ∈ lv_args 0 av)
    (h : ∀ κ : tv_Kt, κ.l = l → κ.th = θ → tv_Cx κ y.cls cc maxL d → tv_Re κ ret → tv_G κ maxL (tv_Qm κ emb) 0 ls [] M o) : tv_Ct l θ y cc maxL ret d emb av M o := by
  intro r M' ho
  refine Met.ofW (cc := cc) (maxL := maxL) (ret := ret) hy rfl ?_
  intro p e s m args below meth c s₁ B hml hv
  obtain ⟨rfl, hP, hK, hX⟩ := hv
  have hts := atoms_spec (ws := Cond.code y cc maxL ret :: tv_tb) B.pre
  have hl := lv_entry av (n := maxL) (Nat.le_of_ble_eq_true hlen)
  rw [lg_entry_eq]
  generalize (lg_sl av ++ List.replicate (maxL - (lg_sl av).length) Slot.unset).toArray = sl at hl ⊢
  have hlo : tv_lo sl maxL ls := ⟨hl.1, hl.2.1, fun i v hv => hl.2.2 (i, v) (hent i v hv)⟩
  have k := h (p, l, e, (headSpec (Cond.code y cc maxL ret :: tv_tb) (tv_rm d)).room, s, m, av.toArray, below, meth, c, θ, 0, 0) rfl rfl ⟨⟨B.exec, B.bytes, hml, findClass_of_methodNamed B.named, fun w hw => hts w (List.mem_cons_of_mem _ hw)⟩, hK, hX, Nat.le_refl d, Nat.le_refl (40 * d), Nat.zero_le _, Nat.zero_le _⟩ ⟨B.returns, B.notSynchronized⟩ r M' ho s.heap [] sl hP va_S.rf hlo
  exact k
