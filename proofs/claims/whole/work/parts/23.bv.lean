/-! the building rows as the constructors use them -/
def tb_pi {α : Type} (M : tb_M) (k ci j : Nat) (x : Int32) (f : tb_M → Option α) : Option α := if tb_ok M k ci then f (tb_wI M k j x) else none
def tb_pp {α : Type} (M : tb_M) (k ci j p : Nat) (f : tb_M → Option α) : Option α := if tb_ok M k ci then f (tb_wP M k j p) else none
def tb_gi {α : Type} (M : tb_M) (k ci j : Nat) (f : Int32 → Option α) : Option α := if tb_ok M k ci then f (M.1 k j) else none
def tb_gp {α : Type} (M : tb_M) (k ci j : Nat) (f : Nat → Option α) : Option α := if tb_ok M k ci then tv_nn (M.2.2.1 k j) f else none
def tb_nw {α : Type} (sz : Nat) (M : tb_M) (ci : Nat) (f : Nat → tb_M → Option α) : Option α := if M.n < sz ∧ (tv_lay[M.n]?).map Prod.fst = some ci then f M.n (tb_up M) else none
def tb_na {α : Type} (sz : Nat) (M : tb_M) (t : Nat) (x : Int32) (f : Nat → tb_M → Option α) : Option α := if M.n < sz ∧ ¬ x < 0 ∧ tv_lay[M.n]? = some (t, x.toNatClampNeg) ∧ x.toNatClampNeg ≤ 10000 then f M.n (tb_up M) else none
def tb_mm (M : tb_M) (N : Nat) : tb_M := (M.1, M.2.1, fun a i => if a = M.n ∧ i < N then some (M.n + 1 + i) else M.2.2.1 a i, M.n + 1 + N)
def tb_mu {α : Type} (sz : Nat) (M : tb_M) (x y : Int32) (f : Nat → tb_M → Option α) : Option α := if M.n + 1 + x.toNatClampNeg ≤ sz ∧ ¬ x < 0 ∧ ¬ y < 0 ∧ tv_lay[M.n]? = some (27, x.toNatClampNeg) ∧ (∀ i, i < x.toNatClampNeg → tv_lay[M.n + 1 + i]? = some (20, y.toNatClampNeg)) ∧ x.toNatClampNeg ≤ 10000 ∧ y.toNatClampNeg ≤ 10000 then f M.n (tb_mm M x.toNatClampNeg) else none
def tb_as {α : Type} (M : tb_M) (k t n ci : Nat) (i : Int32) (p : Nat) (f : tb_M → Option α) : Option α := if (k < M.n ∧ tv_lay[k]? = some (24 + t, n)) ∧ tb_ok M p ci ∧ tv_inb i n = true then f (tb_wP M k i.toNatClampNeg p) else none
def tb_iw {α : Type} (M : tb_M) (k : Nat) (i x : Int32) (f : tb_M → Option α) : Option α := tv_gn k 20 (fun n => if k < M.n ∧ tv_inb i n = true then f (tb_wI M k i.toNatClampNeg x) else none)
def tb_le {α : Type} (M : tb_M) (k : Nat) (f : Int32 → Option α) : Option α := tv_gn k 20 (fun n => if k < M.n then f (Int32.ofNat n) else none)
section TBU
variable {β β' : Type} {κ : tv_Kt} {own : String} {cc : ByteArray} {nL d pc : Nat} {Q : β → tb_M → State → Prop} {ls ls' : List (Option Value)} {st stk : List Value} {M : tb_M} {o o1 o2 : Option (β × tb_M)} {x y : Int32} {u v : Int64}
theorem b_gn {k t : Nat} {f : Nat → Option (β × tb_M)} (h : ∀ n, tv_lay[k]? = some (t, n) → tb_G κ nL Q pc ls st M (f n)) : tb_G κ nL Q pc ls st M (tv_gn k t f) := by
  unfold tv_gn
  cases hq : tv_lay[k]? with
  | none => exact b_none
  | some q =>
    by_cases ht : q.1 = t
    · simp only [ht, if_true]
      exact h q.2 (by rw [hq, ← ht])
    · simp only [ht, if_false]
      exact b_none
theorem b_nn {r : Option Nat} {f : Nat → Option (β × tb_M)} (h : ∀ k, r = some k → tb_G κ nL Q pc ls st M (f k)) : tb_G κ nL Q pc ls st M (tv_nn r f) := by
  cases r with
  | none => exact b_none
  | some k => exact h k rfl
theorem bv_iast (hC : tb_Cx κ own cc nL d) {k : Nat} {i : Int32} {f : tb_M → Option (β × tb_M)} (hd : decode cc pc = .ok (.iastore, 1)) (kk : ∀ M1, tb_G κ nL Q (pc + 1) ls st M1 (f M1)) : tb_G κ nL Q pc ls (.int x :: .int i :: .ref (κ.b + k) :: st) M (tb_iw M k i x f) := b_gn (fun n hn => b_if (fun hc => b_iast hC ⟨hc.1, hn⟩ hc.2 hd (kk _)))
theorem bv_alen (hC : tb_Cx κ own cc nL d) {k : Nat} {f : Int32 → Option (β × tb_M)} (hd : decode cc pc = .ok (.arraylength, 1)) (kk : ∀ x, tb_G κ nL Q (pc + 1) ls (.int x :: st) M (f x)) : tb_G κ nL Q pc ls (.ref (κ.b + k) :: st) M (tb_le M k f) := b_gn (fun n hn => b_if (fun hc => b_alen hC ⟨hc, hn⟩ hd rfl (kk _)))
theorem bv_ast (hC : tb_Cx κ own cc nL d) {k n p : Nat} (t ci : Nat) {r : vw_C} {i : Int32} {f : tb_M → Option (β × tb_M)} (hr : tv_cl[ci]? = some r) (ht : (tv_tys κ.th.2.2.1)[4 + t]? = some (κ.th.2.2.1 (4 + t), .object r.1)) (hd : decode cc pc = .ok (.aastore, 1)) (kk : ∀ M1, tb_G κ nL Q (pc + 1) ls st M1 (f M1)) : tb_G κ nL Q pc ls (.ref (κ.b + p) :: .int i :: .ref (κ.b + k) :: st) M (tb_as M k t n ci i p f) := b_if (fun hc => b_ast hC t ci hr ht hc.1 hc.2.1 hc.2.2 hd (kk _))
theorem bv_new (hC : tb_Cx κ own cc nL d) {idx : Nat} (ci : Nat) {r : vw_C} {f : Nat → tb_M → Option (β × tb_M)} (hr : tv_cl[ci]? = some r) (hw : Cond.classLink own idx r.1 ∈ tv_tb ∧ Cond.instantiable r.1 r.2.2 ∈ tv_tb ∧ Cond.initialized r.1 ∈ tv_tb) (hd : decode cc pc = .ok (.new idx, 3)) (kk : ∀ k M1, tb_G κ nL Q (pc + 3) ls (.ref (κ.b + k) :: st) M1 (f k M1)) : tb_G κ nL Q pc ls st M (tb_nw κ.sz M ci f) := b_if (fun hc => b_new hC ci hr hw hc.2 hc.1 hd (kk _ _))
theorem bv_newq (hC : tb_Cx κ own cc nL d) (hY : tb_Y κ.s) {idx : Nat} (t : Nat) {C : String} {f : Nat → tb_M → Option (β × tb_M)} (ht : (tv_tys κ.th.2.2.1)[4 + t]? = some (κ.th.2.2.1 (4 + t), .object C)) (hw : Cond.classLink own idx C ∈ tv_tb) (hm : FieldType.object C ∈ ([.object "TiedViews$Sheet", .object "TiedViews$Eye", .object "TiedViews$Tie", .array .int] : List FieldType)) (hd : decode cc pc = .ok (.anewarray idx, 3)) (kk : ∀ k M1, tb_G κ nL Q (pc + 3) ls (.ref (κ.b + k) :: st) M1 (f k M1)) : tb_G κ nL Q pc ls (.int x :: st) M (tb_na κ.sz M (24 + t) x f) := b_if (fun hc => b_newq hC t ht hw (hY _ hm) hc.2.2.1 hc.2.1 rfl (by have := hc.2.2.2; omega) hc.1 hd (kk _ _))
theorem bv_newI (hC : tb_Cx κ own cc nL d) {f : Nat → tb_M → Option (β × tb_M)} (hw : Cond.arrayClass .int ∈ tv_tb) (hd : decode cc pc = .ok (.newarray .int, 2)) (kk : ∀ k M1, tb_G κ nL Q (pc + 2) ls (.ref (κ.b + k) :: st) M1 (f k M1)) : tb_G κ nL Q pc ls (.int x :: st) M (tb_na κ.sz M 20 x f) := b_if (fun hc => b_newa hC 0 (atype := .int) (ty := .int) rfl rfl (fun _ => Or.inl ⟨rfl, rfl⟩) (fun h => h) hw hc.2.2.1 hc.2.1 rfl (by have := hc.2.2.2; show _ * 4 ≤ _; omega) hc.1 hd (kk _ _))
theorem bv_newB (hC : tb_Cx κ own cc nL d) {f : Nat → tb_M → Option (β × tb_M)} (hw : Cond.arrayClass .byte ∈ tv_tb) (hd : decode cc pc = .ok (.newarray .byte, 2)) (kk : ∀ k M1, tb_G κ nL Q (pc + 2) ls (.ref (κ.b + k) :: st) M1 (f k M1)) : tb_G κ nL Q pc ls (.int x :: st) M (tb_na κ.sz M 21 x f) := b_if (fun hc => b_newa hC 1 (atype := .byte) (ty := .byte) rfl rfl (fun _ => Or.inl ⟨rfl, rfl⟩) (fun h => h) hw hc.2.2.1 hc.2.1 rfl (by have := hc.2.2.2; show _ * 1 ≤ _; omega) hc.1 hd (kk _ _))
theorem bv_newZ (hC : tb_Cx κ own cc nL d) {f : Nat → tb_M → Option (β × tb_M)} (hw : Cond.arrayClass .boolean ∈ tv_tb) (hd : decode cc pc = .ok (.newarray .boolean, 2)) (kk : ∀ k M1, tb_G κ nL Q (pc + 2) ls (.ref (κ.b + k) :: st) M1 (f k M1)) : tb_G κ nL Q pc ls (.int x :: st) M (tb_na κ.sz M 22 x f) := b_if (fun hc => b_newa hC 2 (atype := .boolean) (ty := .boolean) rfl rfl (fun _ => Or.inl ⟨rfl, rfl⟩) (fun h => h) hw hc.2.2.1 hc.2.1 rfl (by have := hc.2.2.2; show _ * 1 ≤ _; omega) hc.1 hd (kk _ _))
theorem bv_newL (hC : tb_Cx κ own cc nL d) {f : Nat → tb_M → Option (β × tb_M)} (hw : Cond.arrayClass .long ∈ tv_tb) (hd : decode cc pc = .ok (.newarray .long, 2)) (kk : ∀ k M1, tb_G κ nL Q (pc + 2) ls (.ref (κ.b + k) :: st) M1 (f k M1)) : tb_G κ nL Q pc ls (.int x :: st) M (tb_na κ.sz M 23 x f) := b_if (fun hc => b_newa hC 3 (atype := .long) (ty := .long) rfl rfl (fun _ => Or.inr ⟨rfl, rfl⟩) (fun h => h) hw hc.2.2.1 hc.2.1 rfl (by have := hc.2.2.2; show _ * 8 ≤ _; omega) hc.1 hd (kk _ _))
theorem bv_callI (hC : tb_Cx κ own cc nL d) (hY : tb_Y κ.s) {idx k n maxL d' ne : Nat} {y : MethodName} {bytes : ByteArray} {oc : Option (Unit × tb_M)} {f : Unit → tb_M → Option (β × tb_M)} (As : List Value) {rest : List Value}
    (hw : tb_Iw own idx y bytes maxL n) (hM : tb_Ct κ.l κ.th y bytes maxL none d' ne tv_ev (.ref (κ.b + k) :: As) M oc) (hn : As.length = n) (hst : stk = As.reverse ++ .ref (κ.b + k) :: rest) (hsum : Nat.ble ((rest.map fun v => v.category).sum) 8 = true) (hdep : Nat.ble (d' + 1) d = true) (hml : Nat.ble maxL 21 = true) (hd : decode cc pc = .ok (.invokespecial idx, 3))
    (kk : ∀ M1 : tb_M, tb_G κ nL Q (pc + 3) ls rest M1 (f () M1)) : tb_G κ nL Q pc ls stk M (tb_cb κ.sz ne M.n oc f) := b_callI hC hY As hw hM hn hst hsum hdep hml hd kk
theorem bv_callSi (hC : tb_Cx κ own cc nL d) (hY : tb_Y κ.s) {idx n maxL d' ne : Nat} {y : MethodName} {bytes : ByteArray} {ret : Option FieldType} {oc : Option (Int32 × tb_M)} {f : Int32 → tb_M → Option (β × tb_M)} (As : List Value) {rest : List Value}
    (hw : tv_Sw own idx y bytes maxL ret n) (hM : tb_Ct κ.l κ.th y bytes maxL ret d' ne tv_ei As M oc) (hn : As.length = n) (hst : stk = As.reverse ++ rest) (hsum : Nat.ble ((rest.map fun v => v.category).sum) 8 = true) (hdep : Nat.ble (d' + 1) d = true) (hml : Nat.ble maxL 21 = true) (hd : decode cc pc = .ok (.invokestatic idx, 3))
    (kk : ∀ (r1 : Int32) (M1 : tb_M), tb_G κ nL Q (pc + 3) ls (.int r1 :: rest) M1 (f r1 M1)) : tb_G κ nL Q pc ls stk M (tb_cb κ.sz ne M.n oc f) := b_callS hC hY As hw hM hn hst hsum hdep hml hd kk
theorem bv_callSv (hC : tb_Cx κ own cc nL d) (hY : tb_Y κ.s) {idx n maxL d' ne : Nat} {y : MethodName} {bytes : ByteArray} {ret : Option FieldType} {oc : Option (Unit × tb_M)} {f : Unit → tb_M → Option (β × tb_M)} (As : List Value) {rest : List Value}
    (hw : tv_Sw own idx y bytes maxL ret n) (hM : tb_Ct κ.l κ.th y bytes maxL ret d' ne tv_ev As M oc) (hn : As.length = n) (hst : stk = As.reverse ++ rest) (hsum : Nat.ble ((rest.map fun v => v.category).sum) 8 = true) (hdep : Nat.ble (d' + 1) d = true) (hml : Nat.ble maxL 21 = true) (hd : decode cc pc = .ok (.invokestatic idx, 3))
    (kk : ∀ (r1 : Unit) (M1 : tb_M), tb_G κ nL Q (pc + 3) ls rest M1 (f r1 M1)) : tb_G κ nL Q pc ls stk M (tb_cb κ.sz ne M.n oc f) := b_callS hC hY As hw hM hn hst hsum hdep hml hd kk
theorem tb_Yu {ty : FieldType} {A : Array Value} {U : State} (h : va_Nw (.arrayOver ty) U) : (Cond.arrayOver ty).before A U = true := by
  have h1 : (Cond.arrayOver ty).before #[] U = true := h
  unfold Cond.before at h1 ⊢
  simpa only [Cond.holds, Cond.value] using h1
/-- new int[n][m] -/
theorem bv_mul (hC : tb_Cx κ own cc nL d) (hY : tb_Y κ.s) {idx : Nat} {f : Nat → tb_M → Option (β × tb_M)} (hw : Cond.classLink own idx "[[I" ∈ tv_tb ∧ Cond.arrayClass .int ∈ tv_tb) (hd : decode cc pc = .ok (.multianewarray idx 2, 4)) (kk : ∀ k M1, tb_G κ nL Q (pc + 4) ls (.ref (κ.b + k) :: st) M1 (f k M1)) : tb_G κ nL Q pc ls (.int y :: .int x :: st) M (tb_mu κ.sz M x y f) := by
  refine b_if (fun hc => ?_)
  obtain ⟨hsz0, hx, hy, hl0, hlr, hx1, hy1⟩ := hc
  intro r0 M' ho H locs sl hP hS hl
  have hce := hP.2
  -- the numbers
  have key : ∀ j, j ≤ x.toNatClampNeg → tb_sz (M.n + 1 + j) = tb_sz M.n + x.toNatClampNeg + j * y.toNatClampNeg := by
    intro j
    induction j with
    | zero =>
      intro _
      have h1 := tb_sz_succ hl0
      have h2 : tb_one (27, x.toNatClampNeg) = x.toNatClampNeg := rfl
      rw [h2] at h1
      simpa using h1
    | succ j ih =>
      intro hj
      have h1 := tb_sz_succ (hlr j (by omega))
      have h2 : tb_one (20, y.toNatClampNeg) = y.toNatClampNeg := rfl
      rw [h2, ih (by omega)] at h1
      rw [show M.n + 1 + (j + 1) = M.n + 1 + j + 1 by omega, h1, Nat.succ_mul]
      omega
  have hend := key _ (Nat.le_refl _)
  have hm1 := tb_sz_mono hce
  have hm2 := tb_sz_mono hsz0
  have c1 := hC.2.2.2.2.2.1
  have c2 := hC.2.2.2.2.2.2.1
  have f1 : M.n - κ.ce + (1 + x.toNatClampNeg) ≤ κ.2.2.2.1.cells := by omega
  have f2 : tb_sz M.n - tb_sz κ.ce + (x.toNatClampNeg + x.toNatClampNeg * y.toNatClampNeg) ≤ κ.2.2.2.1.slots := by omega
  intro T hT Xs
  have hsz := tb_size hC hP hS hT Xs
  obtain ⟨vm₁, cA, comp, -, fA, fC, hO, -, X', step⟩ := Xs.multianewarray2F (ty := .int) hC.1.1 hC.1.2.2.2.1 (hC.1.2.2.2.2 _ hw.1) (tb_Yu (hY (.array .int) (by simp))) (hC.1.2.2.2.2 _ hw.2) (g := F0 κ.2.2.2.2.2.1 pc sl (.int y :: .int x :: st)) rfl (by rw [hC.1.2.1]; exact hd) rfl hx hy (by omega) (by show _ * 4 ≤ _; omega) (by omega) rfl rfl f1 f2
  have hcA : cA = κ.th.2.2.1 7 := Option.some.inj (fA.symm.trans (hC.2.1.2 7 _ rfl).2)
  have hcm : comp = κ.th.2.2.1 0 := Option.some.inj (fC.symm.trans (hC.2.1.2 0 _ rfl).2)
  subst hcA; subst hcm
  generalize hF : Jvm.Free.Multi.fill (T.setVm vm₁) (κ.th.2.2.1 7) (κ.th.2.2.1 0) x.toNatClampNeg y.toNatClampNeg (defaultValue .int) x.toNatClampNeg = F at X' step
  have hTh : (T.setVm vm₁).heap = H := hT
  obtain ⟨q1, q2, -, -⟩ := Jvm.Free.Multi.fill_facts (T.setVm vm₁) (κ.th.2.2.1 7) (κ.th.2.2.1 0) x.toNatClampNeg y.toNatClampNeg (defaultValue .int) x.toNatClampNeg
  rw [hF, hTh] at q1 q2
  have hold : ∀ z : Nat, z < H.size → F.heap[z]? = H[z]? := fun z hz => by
    have := Jvm.Free.Multi.fill_old (T.setVm vm₁) (κ.th.2.2.1 7) (κ.th.2.2.1 0) x.toNatClampNeg y.toNatClampNeg (defaultValue .int) (a := z) (by rw [hTh]; exact hz) x.toNatClampNeg
    rw [hF, hTh] at this
    exact this
  have hrow : ∀ j : Nat, j < x.toNatClampNeg → F.heap[H.size + 1 + j]? = some (Jvm.Free.Multi.innerC (κ.th.2.2.1 0) y.toNatClampNeg (defaultValue .int)) := fun j hj => by
    have := Jvm.Free.Multi.fill_inner (T.setVm vm₁) (κ.th.2.2.1 7) (κ.th.2.2.1 0) x.toNatClampNeg y.toNatClampNeg (defaultValue .int) x.toNatClampNeg j hj
    rw [hF, hTh] at this
    exact this
  have houter : ∀ (c : ClassId) (N h0 i : Nat), Jvm.Free.Multi.outerC c N h0 i = arrV c N (fun j => va_rf (if j < i then some (h0 + 1 + j) else none)) := by
    intro c N h0 i
    induction i with
    | zero =>
      show ({ cls := c, slots := Array.replicate N .null, vm := .none } : Cell) = _
      rw [arrV_new]
      refine congrArg (arrV c N) (funext fun j => ?_)
      simp [va_rf]
    | succ i ih =>
      show (Jvm.Free.Multi.outerC c N h0 i).setSlot i (.ref (h0 + 1 + i)) = _
      rw [ih, arrV_store]
      refine congrArg (arrV c N) (funext fun j => ?_)
      by_cases e : j = i
      · subst e
        simp [updV, va_rf]
      · by_cases h : j < i
        · simp [updV, e, h, Nat.lt_succ_of_lt h]
        · simp [updV, e, h, show ¬ j < i + 1 by omega]
  have hinner : Jvm.Free.Multi.innerC (κ.th.2.2.1 0) y.toNatClampNeg (defaultValue .int) = arrV (κ.th.2.2.1 0) y.toNatClampNeg (fun _ => .int 0) := by
    show ({ cls := κ.th.2.2.1 0, slots := Array.replicate y.toNatClampNeg (.int 0), vm := .none } : Cell) = _
    rw [arrV_new]
  have hV1 : tb_V κ.th (tb_mm M x.toNatClampNeg) F.heap := by
    refine ⟨fun k q hq => ?_, fun k hk => ?_⟩
    · obtain ⟨hk, hq1⟩ := tv_ws_at hq
      have hk : k < M.n + 1 + x.toNatClampNeg := hk
      rcases Nat.lt_trichotomy k M.n with h | h | h
      · -- an old cell
        have hq0 : (tv_ws κ.b κ.th.2.2.1 M.n M.1 M.2.1 M.2.2.1)[k]? = some q := by
          unfold tv_ws at hq ⊢
          rw [List.getElem?_map, List.getElem?_range (show k < (tb_mm M x.toNatClampNeg).n from hk)] at hq
          rw [List.getElem?_map, List.getElem?_range h, ← hq]
          simp only [Option.map_some]
          rw [tv_E_eq _ rfl rfl (show M.2.2.1 k = (tb_mm M x.toNatClampNeg).2.2.1 k from funext fun i => by simp [tb_mm, show k ≠ M.n by omega])]
          rfl
        exact (hP.1.1 k q hq0).kept (hold q.1 ((hP.1.1 k q hq0).lt))
      · subst h
        rw [tv_get (show M.n < (tb_mm M x.toNatClampNeg).n from hk) hl0] at hq
        cases hq
        rw [show ((27 : Nat), x.toNatClampNeg) = (24 + 3, x.toNatClampNeg) from rfl, tv_E_q]
        show F.heap[κ.b + M.n]? = some (vp_cell _ _)
        rw [← hsz, q2, houter, vp_cell_q]
        refine congrArg some (congrArg (arrV _ _) (funext fun j => ?_))
        obtain ⟨g1, g2, g3⟩ := hP.1.2 M.n (Nat.le_refl _)
        by_cases hj : j < x.toNatClampNeg
        · have hb : κ.th.1 = κ.b := rfl
          simp [tb_mm, hj, hsz, hb, va_rf]
          exact (Nat.add_assoc _ _ _).trans ((Nat.add_assoc _ _ _).trans (congrArg _ (Nat.add_assoc _ _ _).symm))
        · simp [tb_mm, hj, g3]
      · obtain ⟨j, rfl⟩ : ∃ j, k = M.n + 1 + j := ⟨k - (M.n + 1), by omega⟩
        have hj : j < x.toNatClampNeg := by omega
        rw [tv_get (show M.n + 1 + j < (tb_mm M x.toNatClampNeg).n from hk) (hlr j hj)] at hq
        cases hq
        rw [tv_E_i]
        show F.heap[κ.b + (M.n + 1 + j)]? = some (vp_cell _ _)
        rw [show κ.b + (M.n + 1 + j) = H.size + 1 + j by omega, hrow j hj, hinner, vp_cell_i]
        obtain ⟨g1, g2, g3⟩ := hP.1.2 (M.n + 1 + j) (by omega)
        refine congrArg some (congrArg (arrV _ _) (funext fun i => ?_))
        show Value.int 0 = .int ((tb_mm M x.toNatClampNeg).1 (M.n + 1 + j) i)
        simp [tb_mm, g1]
    · have hk : M.n + 1 + x.toNatClampNeg ≤ k := hk
      obtain ⟨g1, g2, g3⟩ := hP.1.2 k (by omega)
      exact ⟨g1, g2, funext fun i => by simp [tb_mm, show k ≠ M.n by omega, g3]⟩
  have hs1 : va_S (tv_A κ.b) κ.s.heap F.heap locs := ⟨by rw [q1]; have := hS.1; omega, fun z h1 h2 => (hold z (Nat.lt_of_lt_of_le h1 hS.1)).trans (hS.2.1 z h1 h2), hS.2.2⟩
  have w1 := kk M.n (tb_mm M x.toNatClampNeg) r0 M' ho F.heap locs sl ⟨hV1, by show κ.ce ≤ M.n + 1 + x.toNatClampNeg; omega⟩ hs1 hl
  have e1 : M.n - κ.ce + 1 + x.toNatClampNeg = (tb_mm M x.toNatClampNeg).n - κ.ce := by show _ = M.n + 1 + x.toNatClampNeg - κ.ce; omega
  have e2 : tb_sz M.n - tb_sz κ.ce + x.toNatClampNeg + x.toNatClampNeg * y.toNatClampNeg = tb_sz (tb_mm M x.toNatClampNeg).n - tb_sz κ.ce := by show _ = tb_sz (M.n + 1 + x.toNatClampNeg) - tb_sz κ.ce; rw [hend]; omega
  rw [e1, e2] at X'
  obtain ⟨t, a1, b1⟩ := w1 F rfl X'
  refine ⟨t, step t ?_, b1⟩
  have e : T.heap.size = κ.b + M.n := by rw [hT]; exact hsz
  rw [e]
  exact a1
end TBU
