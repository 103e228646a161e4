/-! CONSTRUCTORS: calls, returns, new T[n][m], contracts -/
def tb_Y (U : State) : Prop := ∀ ty ∈ ([.object "TiedViews$Sheet", .object "TiedViews$Eye", .object "TiedViews$Tie", .array .int] : List FieldType), va_Nw (.arrayOver ty) U
theorem tb_Y.at {ty : FieldType} {s U : State} (ha : s.vm.Alike U.vm) (h : va_Nw (.arrayOver ty) s) : va_Nw (.arrayOver ty) U := by
  have h1 : (Cond.arrayOver ty).before #[] s = true := h
  rw [← Cond.arrayOver_setVmC ha] at h1
  exact h1
theorem tb_Y.warm {s U : State} (hW : s.WarmedH U.vm) (h : tb_Y s) : tb_Y U := fun ty hty => tb_Y.at hW.alike (h ty hty)
theorem tb_Y.same {s U : State} (hv : U.vm = s.vm) (h : tb_Y s) : tb_Y U := fun ty hty => tb_Y.at (by rw [hv]; exact Vm.Alike.refl _) (h ty hty)
def tb_rm (d n ne : Nat) : Room := { frames := d, cells := ne - n, slots := tb_sz ne - tb_sz n, locals := 40 * d }
def tb_Qc {β : Type} (θ : tv_Th) (emb : β → Option Value) (r : β) (M' : tb_M) : Array Value → State → Outcome → State → Prop := fun _ st oc t => oc = .returned (emb r) ∧ tb_V θ M' t.heap ∧ va_F (tv_A θ.1) st t
def tb_Qm {β : Type} (κ : tv_Kt) (emb : β → Option Value) (r : β) (M' : tb_M) : State → Prop := MQ κ.2.2.2.2.2.2.2.1 (tb_Qc κ.th emb r M') κ.2.2.2.2.2.2.1 κ.s (κ.sz - κ.ce) (tb_sz κ.sz - tb_sz κ.ce) (tv_A κ.b)
def tb_Ct {β : Type} (l : Launch) (θ : tv_Th) (y : MethodName) (cc : ByteArray) (maxL : Nat) (ret : Option FieldType) (d ne : Nat) (emb : β → Option Value) (av : List Value) (M : tb_M) (o : Option (β × tb_M)) : Prop :=
  ∀ (r : β) (M' : tb_M), (o = some (r, M') ∧ M'.n = ne) → M.n ≤ ne → Met l y (Cond.code y cc maxL ret :: tv_tb) (tb_rm d M.n ne) (va_Pc av (fun U => tb_St θ M U ∧ tb_Y U)) (tb_Qc θ emb r M') (ne - M.n) (tb_sz ne - tb_sz M.n) (tv_A θ.1)
theorem tb_St.blind {θ : tv_Th} {M : tb_M} {av : List Value} : FrameBlind (va_Pc av (fun U => tb_St θ M U ∧ tb_Y U)) := fun a U g mk h => ⟨h.1, ⟨h.2.1.1, h.2.1.2.1, va_K.moved (u := U) (U := U.calling g mk a) (Vm.Alike.refl U.vm) h.2.1.2.2.1, tv_X.same (s := U) (U := U.calling g mk a) rfl h.2.1.2.2.2⟩, tb_Y.same (s := U) (U := U.calling g mk a) rfl h.2.2⟩
/-- a call's outcome, its count of cells as said -/
def tb_cb {α β : Type} (sz ne n : Nat) (c : Option (β × tb_M)) (f : β → tb_M → Option α) : Option α := if n ≤ ne ∧ ne ≤ sz then (match c with
  | none => none
  | some q => if q.2.2.2.2 = ne then f q.1 q.2 else none) else none
section TBC
variable {β β' : Type} {κ : tv_Kt} {own : String} {cc : ByteArray} {nL d pc : Nat} {Q : β → tb_M → State → Prop} {ls ls' : List (Option Value)} {st stk : List Value} {M : tb_M} {o o1 o2 : Option (β × tb_M)} {x y : Int32} {u v : Int64}
theorem b_vret (hC : tb_Cx κ own cc nL d) (hR : tv_Re κ none) (hd : decode cc pc = .ok (.return_, 1)) : tb_G κ nL (tb_Qm κ tv_ev) pc ls [] M (some ((), M)) := by
  intro r M' ho H locs sl hP hS hl
  obtain ⟨ho, hn⟩ := ho
  cases ho
  unfold tb_Qm
  rw [← hn]
  exact W.vret hC.1.1 hC.1.2.1 hR.1 (fun t ht hW => ⟨rfl, by rw [ht]; exact hP.1, hS.F ht⟩) hS.2.2 hd hR.2
theorem b_iret (hC : tb_Cx κ own cc nL d) (hR : tv_Re κ (some .int)) (hd : decode cc pc = .ok (.ireturn, 1)) : tb_G κ nL (tb_Qm κ tv_ei) pc ls [.int x] M (some (x, M)) := by
  intro r M' ho H locs sl hP hS hl
  obtain ⟨ho, hn⟩ := ho
  cases ho
  unfold tb_Qm
  rw [← hn]
  exact W.iret hC.1.1 hC.1.2.1 hR.1 (fun t ht hW => ⟨rfl, by rw [ht]; exact hP.1, hS.F ht⟩) hS.2.2 hd hR.2
theorem tb_cont {emb : β' → Option Value} {oc : Option (β' × tb_M)} {f : β' → tb_M → Option (β × tb_M)} {rest : List Value} {a : Array Value} {ne : Nat} (hC : tb_Cx κ own cc nL d)
    (hrun : ∀ (r1 : β') (M1 : tb_M), (oc = some (r1, M1) ∧ M1.n = ne) → M.n ≤ ne → ne ≤ κ.sz → ∀ (H : Heap) (locs : List Loc) (sl : Array Slot), (tb_V κ.th M H ∧ κ.ce ≤ M.n) → H.size = κ.b + M.n → va_S (tv_A κ.b) κ.s.heap H locs → tv_lo sl nL ls → va_Run κ.1 κ.2.1 κ.2.2.1 κ.2.2.2.1 κ.2.2.2.2.1 κ.2.2.2.2.2.1 κ.2.2.2.2.2.2.1 κ.2.2.2.2.2.2.2.1 κ.2.2.2.2.2.2.2.2.1 κ.2.2.2.2.2.2.2.2.2.1 H locs (M.n - κ.ce) (tb_sz M.n - tb_sz κ.ce) (ne - M.n) (tb_sz ne - tb_sz M.n) (F0 κ.2.2.2.2.2.1 pc sl stk) rest (tb_Qc κ.th emb r1 M1 a) (tv_A κ.b))
    (kk : ∀ (r1 : β') (M1 : tb_M), tb_G κ nL Q (pc + 3) ls ((emb r1).toList ++ rest) M1 (f r1 M1)) : tb_G κ nL Q pc ls stk M (tb_cb κ.sz ne M.n oc f) := by
  intro r M' ho H locs sl hP hS hl
  unfold tb_cb at ho
  by_cases hg : M.n ≤ ne ∧ ne ≤ κ.sz
  · rw [if_pos hg] at ho
    cases hoc : oc with
    | none => rw [hoc] at ho; cases ho.1
    | some q =>
      obtain ⟨r1, M1⟩ := q
      rw [hoc] at ho
      by_cases hq : M1.n = ne
      · have ho1 : f r1 M1 = some (r, M') := by have := ho.1; simp only [hq, if_true] at this; exact this
        intro T hT X
        have hsz := tb_size hC hP hS hT X
        obtain ⟨w, st₀, t, T', L, h0, X', hL, e1, e2, ⟨hv, hV, hz, hk⟩, stp⟩ := hrun r1 M1 ⟨hoc, hq⟩ hg.1 hg.2 H locs sl hP hsz hS hl T hT X
        cases hv
        rw [h0] at hz hk
        have m1 := tb_sz_mono hP.2
        have m2 := tb_sz_mono hg.1
        have hce := hP.2
        have hle : κ.ce ≤ M1.n := by rw [hq]; exact Nat.le_trans hce hg.1
        have w1 := kk r1 M1 r M' ⟨ho1, ho.2⟩ T'.heap (locs ++ L) sl ⟨by rw [e1]; exact hV, hle⟩ ⟨Nat.le_trans hS.1 (by rw [e1]; exact hz), fun q h1 h2 => by rw [e1, hk q (Nat.lt_of_lt_of_le h1 hS.1) h2]; exact hS.2.1 q h1 h2, fun q hq => by
          rcases List.mem_append.mp hq with h | h
          · exact hS.2.2 q h
          · exact hL q h⟩ hl
        have c1 : M.n - κ.ce + (ne - M.n) = M1.n - κ.ce := by rw [hq]; omega
        have c2 : tb_sz M.n - tb_sz κ.ce + (tb_sz ne - tb_sz M.n) = tb_sz M1.n - tb_sz κ.ce := by rw [hq]; omega
        rw [c1, c2] at X'
        obtain ⟨t2, a1, b1⟩ := w1 T' rfl X'
        exact ⟨t2, stp t2 a1, b1⟩
      · have := ho.1
        simp only [hq, if_false] at this
        cases this
  · rw [if_neg hg] at ho
    cases ho.1
theorem tb_begin (hC : tb_Cx κ own cc nL d) (hY : tb_Y κ.s) {H : Heap} {locs : List Loc} (hP : tb_V κ.th M H) (hsz : H.size = κ.b + M.n) (hS : va_S (tv_A κ.b) κ.s.heap H locs) (av : List Value) : ∀ U : State, U.heap = H → κ.s.WarmedH U.vm → va_Pc av (fun U => tb_St κ.th M U ∧ tb_Y U) av.toArray U := fun U hU hW => ⟨rfl, ⟨by rw [hU]; exact hP, by rw [hU]; exact hsz, va_K.moved hW.alike hC.2.1, by
  rw [hU]
  exact (hC.2.2.1.warm hW).kept hS.2.1⟩, hY.warm hW⟩
def tb_Iw (own : String) (idx : Nat) (y : MethodName) (bytes : ByteArray) (maxL : Nat) (n : Nat) : Prop := Cond.methodLink own idx y ∈ tv_tb ∧ y.name = "<init>" ∧ Cond.instanceMethod y ∈ tv_tb ∧ Cond.initialized y.cls ∈ tv_tb ∧ Cond.code y bytes maxL none ∈ tv_tb ∧ (y.cls ≠ "java/lang/invoke/MethodHandle" ∧ y.cls ≠ "java/lang/invoke/VarHandle" ∧ (parseMethodDescriptor y.desc).map (fun d => d.parameters.length) = some n)
def tb_Jw (own : String) (idx : Nat) (y : MethodName) (host : String) (bytes : ByteArray) (maxL : Nat) (n : Nat) : Prop := (own, idx, y, host) ∈ tv_nests ∧ y.name = "<init>" ∧ Cond.instanceMethod y ∈ tv_tb ∧ Cond.initialized y.cls ∈ tv_tb ∧ Cond.code y bytes maxL none ∈ tv_tb ∧ (y.cls ≠ "java/lang/invoke/MethodHandle" ∧ y.cls ≠ "java/lang/invoke/VarHandle" ∧ (parseMethodDescriptor y.desc).map (fun d => d.parameters.length) = some n)
theorem tb_rmfit {R : Room} {d d' maxL n ne : Nat} (h1 : d ≤ R.frames) (h2 : 40 * d ≤ R.locals) (hd : Nat.ble (d' + 1) d = true) (hm : Nat.ble maxL 21 = true) : (tb_rm d' n ne).frames + 1 ≤ R.frames ∧ 8 + (maxL + 11) + (tb_rm d' n ne).locals ≤ R.locals := tv_rmfit h1 h2 hd hm
theorem tb_fit (hC : tb_Cx κ own cc nL d) {ne : Nat} (h1 : κ.ce ≤ M.n) (h2 : M.n ≤ ne) (h3 : ne ≤ κ.sz) : M.n - κ.ce + (ne - M.n) ≤ κ.2.2.2.1.cells ∧ tb_sz M.n - tb_sz κ.ce + (tb_sz ne - tb_sz M.n) ≤ κ.2.2.2.1.slots := by
  have c1 := hC.2.2.2.2.2.1
  have c2 := hC.2.2.2.2.2.2.1
  have m1 := tb_sz_mono h1
  have m2 := tb_sz_mono h2
  have m3 := tb_sz_mono h3
  constructor
  · omega
  · omega
/-- a constructor's call -/
theorem b_callI (hC : tb_Cx κ own cc nL d) (hY : tb_Y κ.s) {idx k n maxL d' ne : Nat} {y : MethodName} {bytes : ByteArray} {oc : Option (Unit × tb_M)} {f : Unit → tb_M → Option (β × tb_M)} (As : List Value) {rest : List Value}
    (hw : tb_Iw own idx y bytes maxL n) (hM : tb_Ct κ.l κ.th y bytes maxL none d' ne tv_ev (.ref (κ.b + k) :: As) M oc) (hn : As.length = n) (hst : stk = As.reverse ++ .ref (κ.b + k) :: rest) (hsum : Nat.ble ((rest.map fun v => v.category).sum) 8 = true) (hdep : Nat.ble (d' + 1) d = true) (hml : Nat.ble maxL 21 = true) (hd : decode cc pc = .ok (.invokespecial idx, 3))
    (kk : ∀ M1 : tb_M, tb_G κ nL Q (pc + 3) ls rest M1 (f () M1)) : tb_G κ nL Q pc ls stk M (tb_cb κ.sz ne M.n oc f) := by
  refine tb_cont (emb := tv_ev) (a := (.ref (κ.b + k) :: As).toArray) (rest := rest) hC ?_ (fun _ M1 => kk M1)
  intro r1 M1 hoc h1 h2 H locs sl hP hsz hS hl
  exact va_runI (g := F0 κ.2.2.2.2.2.1 pc sl stk) (As := As) (rest := rest) hC.1 (hM r1 M1 hoc h1) ⟨callB_of n hC.1.2.2.2.2 (tv_good_ws hw.2.2.2.2.1) rfl rfl rfl (hC.1.2.2.2.2 _ hw.2.2.2.1) (hC.1.2.2.2.2 _ hw.1) hw.2.2.2.2.2 (tb_rmfit hC.2.2.2.1 hC.2.2.2.2.1 hdep hml), hw.2.1, hC.1.2.2.2.2 _ hw.2.2.1⟩ ⟨tb_St.blind, tb_begin hC hY hP.1 hsz hS _⟩ rfl hn hl.1 hst (lv_room (Nat.le_of_ble_eq_true hsum)) hd (tb_fit hC hP.2 h1 h2)
theorem b_callJ (hC : tb_Cx κ own cc nL d) (hY : tb_Y κ.s) {idx k n maxL d' ne : Nat} {y : MethodName} {host : String} {bytes : ByteArray} {oc : Option (Unit × tb_M)} {f : Unit → tb_M → Option (β × tb_M)} (As : List Value) {rest : List Value}
    (hw : tb_Jw own idx y host bytes maxL n) (hM : tb_Ct κ.l κ.th y bytes maxL none d' ne tv_ev (.ref (κ.b + k) :: As) M oc) (hn : As.length = n) (hst : stk = As.reverse ++ .ref (κ.b + k) :: rest) (hsum : Nat.ble ((rest.map fun v => v.category).sum) 8 = true) (hdep : Nat.ble (d' + 1) d = true) (hml : Nat.ble maxL 21 = true) (hd : decode cc pc = .ok (.invokespecial idx, 3))
    (kk : ∀ M1 : tb_M, tb_G κ nL Q (pc + 3) ls rest M1 (f () M1)) : tb_G κ nL Q pc ls stk M (tb_cb κ.sz ne M.n oc f) := by
  refine tb_cont (emb := tv_ev) (a := (.ref (κ.b + k) :: As).toArray) (rest := rest) hC ?_ (fun _ M1 => kk M1)
  intro r1 M1 hoc h1 h2 H locs sl hP hsz hS hl
  exact va_runIN (g := F0 κ.2.2.2.2.2.1 pc sl stk) (As := As) (rest := rest) hC.1 (hM r1 M1 hoc h1) ⟨va_cnB n hC.1.2.2.2.2 (tv_good_ws hw.2.2.2.2.1) rfl rfl rfl (hC.2.2.1.1 _ hw.1) (hC.1.2.2.2.2 _ hw.2.2.2.1) hw.2.2.2.2.2 (tb_rmfit hC.2.2.2.1 hC.2.2.2.2.1 hdep hml), hw.2.1, hC.1.2.2.2.2 _ hw.2.2.1⟩ ⟨tb_St.blind, tb_begin hC hY hP.1 hsz hS _⟩ rfl hn hl.1 hst (lv_room (Nat.le_of_ble_eq_true hsum)) hd (tb_fit hC hP.2 h1 h2)
/-- a static call -/
theorem b_callS (hC : tb_Cx κ own cc nL d) (hY : tb_Y κ.s) {idx n maxL d' ne : Nat} {y : MethodName} {bytes : ByteArray} {ret : Option FieldType} {emb : β' → Option Value} {oc : Option (β' × tb_M)} {f : β' → tb_M → Option (β × tb_M)} (As : List Value) {rest : List Value}
    (hw : tv_Sw own idx y bytes maxL ret n) (hM : tb_Ct κ.l κ.th y bytes maxL ret d' ne emb As M oc) (hn : As.length = n) (hst : stk = As.reverse ++ rest) (hsum : Nat.ble ((rest.map fun v => v.category).sum) 8 = true) (hdep : Nat.ble (d' + 1) d = true) (hml : Nat.ble maxL 21 = true) (hd : decode cc pc = .ok (.invokestatic idx, 3))
    (kk : ∀ (r1 : β') (M1 : tb_M), tb_G κ nL Q (pc + 3) ls ((emb r1).toList ++ rest) M1 (f r1 M1)) : tb_G κ nL Q pc ls stk M (tb_cb κ.sz ne M.n oc f) := by
  refine tb_cont (emb := emb) (a := As.toArray) (rest := rest) hC ?_ kk
  intro r1 M1 hoc h1 h2 H locs sl hP hsz hS hl
  exact va_runS (g := F0 κ.2.2.2.2.2.1 pc sl stk) (As := As) (rest := rest) hC.1 (hM r1 M1 hoc h1) (va_cwS n hC.1.2.2.2.2 (tv_goodS hw) rfl rfl rfl hw.2.2.2.2 (tb_rmfit hC.2.2.2.1 hC.2.2.2.2.1 hdep hml)) ⟨tb_St.blind, tb_begin hC hY hP.1 hsz hS _⟩ rfl hn hl.1 hst (lv_room (Nat.le_of_ble_eq_true hsum)) hd (tb_fit hC hP.2 h1 h2)
end TBC
theorem tb_ofG {β : Type} {l : Launch} {θ : tv_Th} {y : MethodName} {cc : ByteArray} {maxL : Nat} {ret : Option FieldType} {d ne : Nat} {emb : β → Option Value} {av : List Value} {M : tb_M} {o : Option (β × tb_M)} (ls : List (Option Value)) (hy : plainName y.cls = true) (hlen : Nat.ble (lg_sl av).length maxL = true) (hent : ∀ (i : Nat) (v : Value), ls[i]? = some (some v) → (i, v) ∈ lv_args 0 av)
    (h : ∀ κ : tv_Kt, κ.l = l → κ.th = θ → κ.ce = M.n → κ.sz = ne → tb_Cx κ y.cls cc maxL d → tv_Re κ ret → κ.2.2.2.2.2.2.2.2.1.name = y.name → tb_Y κ.s → tb_G κ maxL (tb_Qm κ emb) 0 ls [] M o) : tb_Ct l θ y cc maxL ret d ne emb av M o := by
  intro r M' ho hne
  refine Met.ofW (cc := cc) (maxL := maxL) (ret := ret) hy rfl ?_
  intro p e s m args below meth c s₁ B hml hv
  obtain ⟨rfl, ⟨hP, hsz, hK, hX⟩, hY⟩ := hv
  have hts := atoms_spec (ws := Cond.code y cc maxL ret :: tv_tb) B.pre
  have hl := lv_entry av (n := maxL) (Nat.le_of_ble_eq_true hlen)
  rw [lg_entry_eq]
  generalize (lg_sl av ++ List.replicate (maxL - (lg_sl av).length) Slot.unset).toArray = sl at hl ⊢
  have hlo : tv_lo sl maxL ls := ⟨hl.1, hl.2.1, fun i v hv => hl.2.2 (i, v) (hent i v hv)⟩
  have k := h (p, l, e, (headSpec (Cond.code y cc maxL ret :: tv_tb) (tb_rm d M.n ne)).room, s, m, av.toArray, below, meth, c, θ, M.n, ne) rfl rfl rfl rfl ⟨⟨B.exec, B.bytes, hml, findClass_of_methodNamed B.named, fun w hw => hts w (List.mem_cons_of_mem _ hw)⟩, hK, hX, Nat.le_refl d, Nat.le_refl (40 * d), Nat.le_refl _, Nat.le_refl _, hsz⟩ ⟨B.returns, B.notSynchronized⟩ (name_of_methodNamed B.named B.method).1 hY r M' ho s.heap [] sl ⟨hP, Nat.le_refl _⟩ va_S.rf hlo
  simp only [tb_W, Nat.sub_self] at k
  exact k
