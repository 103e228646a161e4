/-! WHAT STANDS OUTSIDE: nest links, String constants, the static tables -/
def tv_nests : List (String × Nat × MethodName × String) := [("TiedViews", 23, ⟨"TiedViews$Sheet", "<init>", "()V"⟩, "TiedViews"), ("TiedViews$Agreement", 58, ⟨"TiedViews", "restOf", "(II)I"⟩, "TiedViews"), ("TiedViews$Dropping", 112, ⟨"TiedViews", "inverseOf", "(II)I"⟩, "TiedViews"), ("TiedViews$Dropping", 115, ⟨"TiedViews", "restOf", "(II)I"⟩, "TiedViews"), ("TiedViews$Dropping", 118, ⟨"TiedViews", "addTimes", "([I[IIII)V"⟩, "TiedViews"), ("TiedViews$Hearsay", 119, ⟨"TiedViews", "restOf", "(II)I"⟩, "TiedViews"), ("TiedViews$Steps", 71, ⟨"TiedViews", "inverseOf", "(II)I"⟩, "TiedViews"), ("TiedViews$Steps", 74, ⟨"TiedViews", "restOf", "(II)I"⟩, "TiedViews"), ("TiedViews$Steps", 77, ⟨"TiedViews", "addTimes", "([I[IIII)V"⟩, "TiedViews"), ("TiedViews$Told", 34, ⟨"TiedViews$Tie", "<init>", "()V"⟩, "TiedViews"), ("TiedViews$Told", 109, ⟨"TiedViews", "restOf", "(II)I"⟩, "TiedViews")]
def tv_strs : List (String × Nat × String) := [("TiedViews$Reader", 69, "eye"), ("TiedViews$Reader", 177, "view"), ("TiedViews$Reader", 179, "mod"), ("TiedViews$Reader", 181, "held"), ("TiedViews$Reader", 183, "choice"), ("TiedViews$Reader", 78, "tie"), ("TiedViews$Reader", 126, "by"), ("TiedViews$Reader", 138, "and"), ("TiedViews$Reader", 83, "bar")]
def tv_slen : List Nat := [3, 4, 3, 4, 6, 3, 2, 3, 3]
def tv_sbyt : List (List Int32) := [[101, 121, 101], [118, 105, 101, 119], [109, 111, 100], [104, 101, 108, 100], [99, 104, 111, 105, 99, 101], [116, 105, 101], [98, 121], [97, 110, 100], [98, 97, 114]]
def tv_stat : List (String × List Int32) := [("KIND_OF_SORT", [1, 2, 3, 4]), ("KIND_ABOVE", [-1, 0, 1, 1, 0]), ("SIZE_BODY", [10, 11, 12, 13, 14]), ("MARK_BODY", [20, 21, 22, 0, 23])]
def tv_tb : List Cond := lw_tbl.filter goodWord
def tv_X (b : Nat) (adK adV tS : Nat → Nat) (U : State) (H : Heap) : Prop :=
  (∀ q ∈ tv_nests, va_Nw (.methodLinkNest q.1 q.2.1 q.2.2.1 q.2.2.2) U) ∧ (∀ (i : Nat) (q : String × Nat × String), tv_strs[i]? = some q → vk_R q.1 q.2.1 q.2.2 (adK i) U) ∧ vk_S 9 tv_slen tv_sbyt adK adV (tv_A b) U H ∧ va_Z "java/lang/String" "COMPACT_STRINGS" "Z" (.int 1) (tv_A b) U H ∧
  (∀ (i : Nat) (q : String × List Int32), tv_stat[i]? = some q → va_Z "TiedViews$Bodies" q.1 "[I" (.ref (tS i)) (tv_A b) U H ∧ va_T .int (tS i) q.2.length (fun j => .int (q.2.getD j 0)) (tv_A b) U H) ∧ va_Zq "jdk/internal/util/Preconditions" "SIOOBE_FORMATTER" "Ljava/util/function/BiFunction;" (tv_A b) U H
theorem tv_X.warm {b : Nat} {adK adV tS : Nat → Nat} {s U : State} {H : Heap} (hW : s.WarmedH U.vm) (h : tv_X b adK adV tS s H) : tv_X b adK adV tS U H :=
  ⟨fun q hq => va_Nw.warmM hW (h.1 q hq), fun i q hq => vk_R.warm hW (h.2.1 i q hq), h.2.2.1.moved hW.alike, h.2.2.2.1.moved hW.alike, fun i q hq => ⟨(h.2.2.2.2.1 i q hq).1.moved hW.alike, (h.2.2.2.2.1 i q hq).2.moved hW.alike⟩, h.2.2.2.2.2.moved hW.alike⟩
theorem tv_X.same {b : Nat} {adK adV tS : Nat → Nat} {s U : State} {H : Heap} (hv : U.vm = s.vm) (h : tv_X b adK adV tS s H) : tv_X b adK adV tS U H := by
  have ha : s.vm.Alike U.vm := by rw [hv]; exact Vm.Alike.refl _
  exact ⟨fun q hq => va_Nw.same rfl hv.symm (h.1 q hq), fun i q hq => vk_R.same hv (h.2.1 i q hq), h.2.2.1.moved ha, h.2.2.2.1.moved ha, fun i q hq => ⟨(h.2.2.2.2.1 i q hq).1.moved ha, (h.2.2.2.2.1 i q hq).2.moved ha⟩, h.2.2.2.2.2.moved ha⟩
theorem tv_X.kept {b : Nat} {adK adV tS : Nat → Nat} {U : State} {H H1 : Heap} (h : tv_X b adK adV tS U H) (hq : ∀ a : Nat, a < H.size → ¬ tv_A b a → H1[a]? = H[a]?) : tv_X b adK adV tS U H1 :=
  ⟨h.1, h.2.1, h.2.2.1.kept hq, h.2.2.2.1.kept hq, fun i q hi => ⟨(h.2.2.2.2.1 i q hi).1.kept hq, (h.2.2.2.2.1 i q hi).2.kept hq⟩, h.2.2.2.2.2.kept hq⟩
/-- what all methods share: the first cell, class numbers, array classes, addresses of what stands outside -/
abbrev tv_Th : Type := Nat × va_G × (Nat → ClassId) × (Nat → Nat) × (Nat → Nat) × (Nat → Nat)
def tv_V (θ : tv_Th) (M : tv_M) (H : Heap) : Prop := va_P θ.2.1 tv_cl (tv_ws θ.1 θ.2.2.1 tv_n M.1 M.2 tv_P0) H
def tv_St (θ : tv_Th) (M : tv_M) (U : State) : Prop := tv_V θ M U.heap ∧ va_K θ.2.1 tv_cl (tv_tys θ.2.2.1) U ∧ tv_X θ.1 θ.2.2.2.1 θ.2.2.2.2.1 θ.2.2.2.2.2 U U.heap
/-- a walk's surroundings -/
abbrev tv_Kt : Type := Program × Launch × Env × Room × State × MethodId × Array Value × List Frame × Method × Code × tv_Th × Nat × Nat
abbrev tv_Kt.l (κ : tv_Kt) : Launch := κ.2.1
abbrev tv_Kt.s (κ : tv_Kt) : State := κ.2.2.2.2.1
abbrev tv_Kt.th (κ : tv_Kt) : tv_Th := κ.2.2.2.2.2.2.2.2.2.2.1
abbrev tv_Kt.ce (κ : tv_Kt) : Nat := κ.2.2.2.2.2.2.2.2.2.2.2.1
abbrev tv_Kt.sz (κ : tv_Kt) : Nat := κ.2.2.2.2.2.2.2.2.2.2.2.2
abbrev tv_Kt.b (κ : tv_Kt) : Nat := κ.th.1
abbrev tv_W (κ : tv_Kt) (H : Heap) (locs : List Loc) (Q : State → Prop) (pc : Nat) (sl : Array Slot) (st : List Value) : Prop := W κ.1 κ.2.1 κ.2.2.1 κ.2.2.2.1 κ.2.2.2.2.1 κ.2.2.2.2.2.1 κ.2.2.2.2.2.2.1 κ.2.2.2.2.2.2.2.1 κ.2.2.2.2.2.2.2.2.1 κ.2.2.2.2.2.2.2.2.2.1 H locs κ.ce κ.sz Q (F0 κ.2.2.2.2.2.1 pc sl st)
def tv_Cx (κ : tv_Kt) (own : String) (cc : ByteArray) (nL d : Nat) : Prop :=
  (κ.1.tables.exec = Jvm.exec ∧ κ.2.2.2.2.2.2.2.2.2.1.code = cc ∧ κ.2.2.2.2.2.2.2.2.2.1.maxLocals = nL ∧ κ.s.vm.findClass own = some κ.2.2.2.2.2.1.cls ∧ ∀ w ∈ tv_tb, w.before κ.2.2.2.2.2.2.1 κ.s = true) ∧ va_K κ.th.2.1 tv_cl (tv_tys κ.th.2.2.1) κ.s ∧ tv_X κ.th.1 κ.th.2.2.2.1 κ.th.2.2.2.2.1 κ.th.2.2.2.2.2 κ.s κ.s.heap ∧ d ≤ κ.2.2.2.1.frames ∧ 40 * d ≤ κ.2.2.2.1.locals ∧ κ.ce ≤ κ.2.2.2.1.cells ∧ κ.sz ≤ κ.2.2.2.1.slots
/-- THE JUDGEMENT: if the function's outcome o is (r, M'), the machine goes from here to Q r M' -/
def tv_G {β : Type} (κ : tv_Kt) (nL : Nat) (Q : β → tv_M → State → Prop) (pc : Nat) (ls : List (Option Value)) (st : List Value) (M : tv_M) (o : Option (β × tv_M)) : Prop :=
  ∀ (r : β) (M' : tv_M), o = some (r, M') → ∀ (H : Heap) (locs : List Loc) (sl : Array Slot), tv_V κ.th M H → va_S (tv_A κ.b) κ.s.heap H locs → tv_lo sl nL ls → tv_W κ H locs (Q r M') pc sl st
/-! the functions' words -/
def tv_inb (i : Int32) (n : Nat) : Bool := decide (¬ (i < 0 ∨ n ≤ i.toNatClampNeg))
def tv_rd {α : Type} (M : tv_M) (k n : Nat) (i : Int32) (f : Int32 → Option α) : Option α := if tv_inb i n then f (M.1 k i.toNatClampNeg) else none
def tv_rdl {α : Type} (M : tv_M) (k n : Nat) (i : Int32) (f : Int64 → Option α) : Option α := if tv_inb i n then f (M.2 k i.toNatClampNeg) else none
def tv_wr {α : Type} (M : tv_M) (k n : Nat) (i x : Int32) (f : tv_M → Option α) : Option α := if tv_inb i n then f (tv_w M k i.toNatClampNeg x) else none
def tv_wrl {α : Type} (M : tv_M) (k n : Nat) (i : Int32) (x : Int64) (f : tv_M → Option α) : Option α := if tv_inb i n then f (tv_wl M k i.toNatClampNeg x) else none
def tv_nn {α : Type} (r : Option Nat) (f : Nat → Option α) : Option α := match r with
  | none => none
  | some k => f k
def tv_ap {α : Type} (a n : Nat) (i : Int32) (f : Nat → Option α) : Option α := if tv_inb i n then tv_nn (tv_P0 a i.toNatClampNeg) f else none
def tv_gl {α : Type} (k ci : Nat) (o : Option α) : Option α := if (tv_lay[k]?).map Prod.fst = some ci then o else none
def tv_gn {α : Type} (k t : Nat) (f : Nat → Option α) : Option α := match tv_lay[k]? with
  | some q => if q.1 = t then f q.2 else none
  | none => none
def tv_nz {α : Type} (y : Int32) (o : Option α) : Option α := if y = 0 then none else o
def tv_zo {α : Type} (x : Int32) (o : Option α) : Option α := if x = 0 ∨ x = 1 then o else none
def tv_cb {α β : Type} (c : Option (β × tv_M)) (f : β → tv_M → Option α) : Option α := match c with
  | none => none
  | some q => f q.1 q.2
def tv_nl {α : Type} (r : Option Nat) (o : Option α) (f : Nat → Option α) : Option α := match r with
  | none => o
  | some k => f k
/-- the remainder as the machine has it -/
abbrev tv_rem (x y : Int32) : Int32 := x - x / y * y
/-- arraycopy between int rows -/
def tv_cpy {α : Type} (M : tv_M) (a n0 : Nat) (sp : Int32) (k n1 : Nat) (dp n : Int32) (f : tv_M → Option α) : Option α :=
  if 0 ≤ sp ∧ 0 ≤ dp ∧ 0 ≤ n ∧ sp.toNatClampNeg + n.toNatClampNeg ≤ n0 ∧ dp.toNatClampNeg + n.toNatClampNeg ≤ n1 then f (tv_wc M k (va_cpy (M.1 a) (M.1 k) sp.toNatClampNeg dp.toNatClampNeg n.toNatClampNeg)) else none
theorem tv_inbP {i : Int32} {n : Nat} (h : tv_inb i n = true) : vp_in i n := by
  unfold tv_inb at h
  exact (of_decide_eq_true h : ¬ (i < 0 ∨ n ≤ i.toNatClampNeg))
section TVR
variable {β : Type} {κ : tv_Kt} {own : String} {cc : ByteArray} {nL d pc : Nat} {Q : β → tv_M → State → Prop} {ls ls' : List (Option Value)} {st : List Value} {M : tv_M} {o o1 o2 : Option (β × tv_M)} {x y : Int32} {u v : Int64}
theorem g_iconst (hC : tv_Cx κ own cc nL d) {n : Int} (hd : decode cc pc = .ok (.iconst n, 1)) (hv : Int32.ofInt n = x) (k : tv_G κ nL Q (pc + 1) ls (.int x :: st) M o) : tv_G κ nL Q pc ls st M o := fun r M' ho H locs sl hP hS hl => lv_iconst hC.1.1 hC.1.2.1 hd hv (k r M' ho H locs sl hP hS hl)
theorem g_bipush (hC : tv_Cx κ own cc nL d) {n : Int} (hd : decode cc pc = .ok (.bipush n, 2)) (hv : (Int8.ofInt n).toInt32 = x) (k : tv_G κ nL Q (pc + 2) ls (.int x :: st) M o) : tv_G κ nL Q pc ls st M o := fun r M' ho H locs sl hP hS hl => lv_bipush hC.1.1 hC.1.2.1 hd hv (k r M' ho H locs sl hP hS hl)
theorem g_sipush (hC : tv_Cx κ own cc nL d) {n : Int} (hd : decode cc pc = .ok (.sipush n, 3)) (hv : (Int16.ofInt n).toInt32 = x) (k : tv_G κ nL Q (pc + 3) ls (.int x :: st) M o) : tv_G κ nL Q pc ls st M o := fun r M' ho H locs sl hP hS hl => lv_sipush hC.1.1 hC.1.2.1 hd hv (k r M' ho H locs sl hP hS hl)
theorem g_lconst (hC : tv_Cx κ own cc nL d) {n : Fin 2} (hd : decode cc pc = .ok (.lconst n, 1)) (hv : Int64.ofNat (n : Nat) = u) (k : tv_G κ nL Q (pc + 1) ls (.long u :: st) M o) : tv_G κ nL Q pc ls st M o := fun r M' ho H locs sl hP hS hl => lv_lconst hC.1.1 hC.1.2.1 hd hv (k r M' ho H locs sl hP hS hl)
theorem g_ldc (hC : tv_Cx κ own cc nL d) {i : Nat} (hd : decode cc pc = .ok (.ldc i, 2)) (hw : Cond.constant own i x ∈ tv_tb) (k : tv_G κ nL Q (pc + 2) ls (.int x :: st) M o) : tv_G κ nL Q pc ls st M o := fun r M' ho H locs sl hP hS hl => lv_ldc hC.1.1 hC.1.2.1 hC.1.2.2.2.1 (hC.1.2.2.2.2 _ hw) hd (k r M' ho H locs sl hP hS hl)
theorem g_ldcw (hC : tv_Cx κ own cc nL d) {i : Nat} (hd : decode cc pc = .ok (.ldc_w i, 3)) (hw : Cond.constant own i x ∈ tv_tb) (k : tv_G κ nL Q (pc + 3) ls (.int x :: st) M o) : tv_G κ nL Q pc ls st M o := fun r M' ho H locs sl hP hS hl => lv_ldcw hC.1.1 hC.1.2.1 hC.1.2.2.2.1 (hC.1.2.2.2.2 _ hw) hd (k r M' ho H locs sl hP hS hl)
theorem g_ldc2 (hC : tv_Cx κ own cc nL d) {i : Nat} (hd : decode cc pc = .ok (.ldc2_w i, 3)) (hw : Cond.constantLong own i u ∈ tv_tb) (k : tv_G κ nL Q (pc + 3) ls (.long u :: st) M o) : tv_G κ nL Q pc ls st M o := fun r M' ho H locs sl hP hS hl => lv_ldc2 hC.1.1 hC.1.2.1 hC.1.2.2.2.1 (hC.1.2.2.2.2 _ hw) hd (k r M' ho H locs sl hP hS hl)
theorem g_null (hC : tv_Cx κ own cc nL d) (hd : decode cc pc = .ok (.aconst_null, 1)) (k : tv_G κ nL Q (pc + 1) ls (.null :: st) M o) : tv_G κ nL Q pc ls st M o := fun r M' ho H locs sl hP hS hl => lv_null hC.1.1 hC.1.2.1 hd (k r M' ho H locs sl hP hS hl)
theorem g_iload_n (hC : tv_Cx κ own cc nL d) {i : Fin 4} (hd : decode cc pc = .ok (.iload_n i, 1)) (hv : ls[(i : Nat)]? = some (some (.int x))) (k : tv_G κ nL Q (pc + 1) ls (.int x :: st) M o) : tv_G κ nL Q pc ls st M o := fun r M' ho H locs sl hP hS hl => lv_iload_n hC.1.1 hC.1.2.1 hd rfl (hl.2.2 _ _ hv) (k r M' ho H locs sl hP hS hl)
theorem g_iload (hC : tv_Cx κ own cc nL d) {i : Nat} (hd : decode cc pc = .ok (.iload i, 2)) (hv : ls[i]? = some (some (.int x))) (k : tv_G κ nL Q (pc + 2) ls (.int x :: st) M o) : tv_G κ nL Q pc ls st M o := fun r M' ho H locs sl hP hS hl => lv_iload hC.1.1 hC.1.2.1 hd (hl.2.2 _ _ hv) (k r M' ho H locs sl hP hS hl)
theorem g_lload_n (hC : tv_Cx κ own cc nL d) {i : Fin 4} (hd : decode cc pc = .ok (.lload_n i, 1)) (hv : ls[(i : Nat)]? = some (some (.long u))) (k : tv_G κ nL Q (pc + 1) ls (.long u :: st) M o) : tv_G κ nL Q pc ls st M o := fun r M' ho H locs sl hP hS hl => lv_lload_n hC.1.1 hC.1.2.1 hd rfl (hl.2.2 _ _ hv) (k r M' ho H locs sl hP hS hl)
theorem g_lload (hC : tv_Cx κ own cc nL d) {i : Nat} (hd : decode cc pc = .ok (.lload i, 2)) (hv : ls[i]? = some (some (.long u))) (k : tv_G κ nL Q (pc + 2) ls (.long u :: st) M o) : tv_G κ nL Q pc ls st M o := fun r M' ho H locs sl hP hS hl => lv_lload hC.1.1 hC.1.2.1 hd (hl.2.2 _ _ hv) (k r M' ho H locs sl hP hS hl)
theorem g_aload_n (hC : tv_Cx κ own cc nL d) {i : Fin 4} {a : Nat} (hd : decode cc pc = .ok (.aload_n i, 1)) (hv : ls[(i : Nat)]? = some (some (.ref a))) (k : tv_G κ nL Q (pc + 1) ls (.ref a :: st) M o) : tv_G κ nL Q pc ls st M o := fun r M' ho H locs sl hP hS hl => lv_aload_n hC.1.1 hC.1.2.1 hd rfl (hl.2.2 _ _ hv) (k r M' ho H locs sl hP hS hl)
theorem g_aload (hC : tv_Cx κ own cc nL d) {i a : Nat} (hd : decode cc pc = .ok (.aload i, 2)) (hv : ls[i]? = some (some (.ref a))) (k : tv_G κ nL Q (pc + 2) ls (.ref a :: st) M o) : tv_G κ nL Q pc ls st M o := fun r M' ho H locs sl hP hS hl => lv_aload hC.1.1 hC.1.2.1 hd (hl.2.2 _ _ hv) (k r M' ho H locs sl hP hS hl)
theorem g_aload_nQ (hC : tv_Cx κ own cc nL d) {i : Fin 4} {b : Nat} {a : Option Nat} (hd : decode cc pc = .ok (.aload_n i, 1)) (hv : ls[(i : Nat)]? = some (some (tv_re b a))) (k : tv_G κ nL Q (pc + 1) ls (tv_re b a :: st) M o) : tv_G κ nL Q pc ls st M o := by
  cases a with
  | none => exact fun r M' ho H locs sl hP hS hl => lv_aload_nN hC.1.1 hC.1.2.1 hd rfl (hl.2.2 _ _ hv) (k r M' ho H locs sl hP hS hl)
  | some a => exact g_aload_n hC hd hv k
theorem g_aloadQ (hC : tv_Cx κ own cc nL d) {i b : Nat} {a : Option Nat} (hd : decode cc pc = .ok (.aload i, 2)) (hv : ls[i]? = some (some (tv_re b a))) (k : tv_G κ nL Q (pc + 2) ls (tv_re b a :: st) M o) : tv_G κ nL Q pc ls st M o := by
  cases a with
  | none => exact fun r M' ho H locs sl hP hS hl => lv_aloadN hC.1.1 hC.1.2.1 hd (hl.2.2 _ _ hv) (k r M' ho H locs sl hP hS hl)
  | some a => exact g_aload hC hd hv k
theorem g_istore_n (hC : tv_Cx κ own cc nL d) {i : Fin 4} (hd : decode cc pc = .ok (.istore_n i, 1)) (hs : tv_sto ls (i : Nat) (.int x) = ls') (hn : Nat.blt (i : Nat) nL = true) (k : tv_G κ nL Q (pc + 1) ls' st M o) : tv_G κ nL Q pc ls (.int x :: st) M o := by
  intro r M' ho H locs sl hP hS hl
  obtain ⟨sl', e', h'⟩ := tv_store1 (v := .int x) hl (by simpa using hn) rfl
  intro T hT X
  obtain ⟨t, a, b⟩ := k r M' ho H locs sl' hP hS (hs ▸ h') T hT X
  refine ⟨t, ?_, b⟩
  have hx := hC.1.1
  have hb := hC.1.2.1
  jvm_step X.here [X.here.top, ↓top_set X.here.top, hx, hb, hd, e']
  exact a
theorem g_istore (hC : tv_Cx κ own cc nL d) {i : Nat} (hd : decode cc pc = .ok (.istore i, 2)) (hs : tv_sto ls i (.int x) = ls') (hn : Nat.blt i nL = true) (k : tv_G κ nL Q (pc + 2) ls' st M o) : tv_G κ nL Q pc ls (.int x :: st) M o := by
  intro r M' ho H locs sl hP hS hl
  obtain ⟨sl', e', h'⟩ := tv_store1 (v := .int x) hl (by simpa using hn) rfl
  intro T hT X
  obtain ⟨t, a, b⟩ := k r M' ho H locs sl' hP hS (hs ▸ h') T hT X
  refine ⟨t, ?_, b⟩
  have hx := hC.1.1
  have hb := hC.1.2.1
  jvm_step X.here [X.here.top, ↓top_set X.here.top, hx, hb, hd, e']
  exact a
theorem g_astore_n (hC : tv_Cx κ own cc nL d) {i : Fin 4} {a : Nat} (hd : decode cc pc = .ok (.astore_n i, 1)) (hs : tv_sto ls (i : Nat) (.ref a) = ls') (hn : Nat.blt (i : Nat) nL = true) (k : tv_G κ nL Q (pc + 1) ls' st M o) : tv_G κ nL Q pc ls (.ref a :: st) M o := by
  intro r M' ho H locs sl hP hS hl
  obtain ⟨sl', e', h'⟩ := tv_store1 (v := .ref a) hl (by simpa using hn) rfl
  intro T hT X
  obtain ⟨t, a, b⟩ := k r M' ho H locs sl' hP hS (hs ▸ h') T hT X
  refine ⟨t, ?_, b⟩
  have hx := hC.1.1
  have hb := hC.1.2.1
  jvm_step X.here [X.here.top, ↓top_set X.here.top, hx, hb, hd, e']
  exact ⟨rfl, a⟩
theorem g_astore (hC : tv_Cx κ own cc nL d) {i a : Nat} (hd : decode cc pc = .ok (.astore i, 2)) (hs : tv_sto ls i (.ref a) = ls') (hn : Nat.blt i nL = true) (k : tv_G κ nL Q (pc + 2) ls' st M o) : tv_G κ nL Q pc ls (.ref a :: st) M o := by
  intro r M' ho H locs sl hP hS hl
  obtain ⟨sl', e', h'⟩ := tv_store1 (v := .ref a) hl (by simpa using hn) rfl
  intro T hT X
  obtain ⟨t, a, b⟩ := k r M' ho H locs sl' hP hS (hs ▸ h') T hT X
  refine ⟨t, ?_, b⟩
  have hx := hC.1.1
  have hb := hC.1.2.1
  jvm_step X.here [X.here.top, ↓top_set X.here.top, hx, hb, hd, e']
  exact ⟨rfl, a⟩
theorem g_astore_nQ (hC : tv_Cx κ own cc nL d) {i : Fin 4} {b : Nat} {a : Option Nat} (hd : decode cc pc = .ok (.astore_n i, 1)) (hs : tv_sto ls (i : Nat) (tv_re b a) = ls') (hn : Nat.blt (i : Nat) nL = true) (k : tv_G κ nL Q (pc + 1) ls' st M o) : tv_G κ nL Q pc ls (tv_re b a :: st) M o := by
  cases a with
  | some a => exact g_astore_n hC hd hs hn k
  | none =>
    intro r M' ho H locs sl hP hS hl
    obtain ⟨sl', e', h'⟩ := tv_store1 (v := .null) hl (by simpa using hn) rfl
    intro T hT X
    obtain ⟨t, a, b⟩ := k r M' ho H locs sl' hP hS (hs ▸ h') T hT X
    refine ⟨t, ?_, b⟩
    have hx := hC.1.1
    have hb := hC.1.2.1
    show Steps _ _ _ (T.setTop (F0 _ pc sl (.null :: st))) t
    jvm_step X.here [X.here.top, ↓top_set X.here.top, hx, hb, hd, e']
    exact ⟨rfl, a⟩
theorem g_astoreQ (hC : tv_Cx κ own cc nL d) {i b : Nat} {a : Option Nat} (hd : decode cc pc = .ok (.astore i, 2)) (hs : tv_sto ls i (tv_re b a) = ls') (hn : Nat.blt i nL = true) (k : tv_G κ nL Q (pc + 2) ls' st M o) : tv_G κ nL Q pc ls (tv_re b a :: st) M o := by
  cases a with
  | some a => exact g_astore hC hd hs hn k
  | none =>
    intro r M' ho H locs sl hP hS hl
    obtain ⟨sl', e', h'⟩ := tv_store1 (v := .null) hl (by simpa using hn) rfl
    intro T hT X
    obtain ⟨t, a, b⟩ := k r M' ho H locs sl' hP hS (hs ▸ h') T hT X
    refine ⟨t, ?_, b⟩
    have hx := hC.1.1
    have hb := hC.1.2.1
    show Steps _ _ _ (T.setTop (F0 _ pc sl (.null :: st))) t
    jvm_step X.here [X.here.top, ↓top_set X.here.top, hx, hb, hd, e']
    exact ⟨rfl, a⟩
theorem g_lstore_n (hC : tv_Cx κ own cc nL d) {i : Fin 4} (hd : decode cc pc = .ok (.lstore_n i, 1)) (hs : tv_sto2 ls (i : Nat) (.long u) = ls') (hn : Nat.blt ((i : Nat) + 1) nL = true) (k : tv_G κ nL Q (pc + 1) ls' st M o) : tv_G κ nL Q pc ls (.long u :: st) M o := by
  intro r M' ho H locs sl hP hS hl
  obtain ⟨sl', e', h'⟩ := tv_store2 (v := .long u) hl (by simpa using hn) rfl
  intro T hT X
  obtain ⟨t, a, b⟩ := k r M' ho H locs sl' hP hS (hs ▸ h') T hT X
  refine ⟨t, ?_, b⟩
  have hx := hC.1.1
  have hb := hC.1.2.1
  jvm_step X.here [X.here.top, ↓top_set X.here.top, hx, hb, hd, e']
  exact a
theorem g_lstore (hC : tv_Cx κ own cc nL d) {i : Nat} (hd : decode cc pc = .ok (.lstore i, 2)) (hs : tv_sto2 ls i (.long u) = ls') (hn : Nat.blt (i + 1) nL = true) (k : tv_G κ nL Q (pc + 2) ls' st M o) : tv_G κ nL Q pc ls (.long u :: st) M o := by
  intro r M' ho H locs sl hP hS hl
  obtain ⟨sl', e', h'⟩ := tv_store2 (v := .long u) hl (by simpa using hn) rfl
  intro T hT X
  obtain ⟨t, a, b⟩ := k r M' ho H locs sl' hP hS (hs ▸ h') T hT X
  refine ⟨t, ?_, b⟩
  have hx := hC.1.1
  have hb := hC.1.2.1
  jvm_step X.here [X.here.top, ↓top_set X.here.top, hx, hb, hd, e']
  exact a
theorem g_iinc (hC : tv_Cx κ own cc nL d) {i : Nat} {n : Int} (hd : decode cc pc = .ok (.iinc i n, 3)) (hv : ls[i]? = some (some (.int x))) (hi : Int32.ofInt n = y) (hs : tv_sto ls i (.int (x + y)) = ls') (hn : Nat.blt i nL = true) (k : tv_G κ nL Q (pc + 3) ls' st M o) : tv_G κ nL Q pc ls st M o := by
  intro r M' ho H locs sl hP hS hl
  subst hi
  have hg := hl.2.2 _ _ hv
  obtain ⟨sl', e', h'⟩ := tv_store1 (v := .int (x + Int32.ofInt n)) hl (by simpa using hn) rfl
  intro T hT X
  obtain ⟨t, a, b⟩ := k r M' ho H locs sl' hP hS (hs ▸ h') T hT X
  refine ⟨t, ?_, b⟩
  have hx := hC.1.1
  have hb := hC.1.2.1
  jvm_step X.here [X.here.top, ↓top_set X.here.top, hx, hb, hd, hg, e']
  exact a
theorem g_iadd (hC : tv_Cx κ own cc nL d) (hd : decode cc pc = .ok (.iadd, 1)) (k : tv_G κ nL Q (pc + 1) ls (.int (x + y) :: st) M o) : tv_G κ nL Q pc ls (.int y :: .int x :: st) M o := fun r M' ho H locs sl hP hS hl => lv_iadd hC.1.1 hC.1.2.1 hd (k r M' ho H locs sl hP hS hl)
theorem g_isub (hC : tv_Cx κ own cc nL d) (hd : decode cc pc = .ok (.isub, 1)) (k : tv_G κ nL Q (pc + 1) ls (.int (x - y) :: st) M o) : tv_G κ nL Q pc ls (.int y :: .int x :: st) M o := fun r M' ho H locs sl hP hS hl => lv_isub hC.1.1 hC.1.2.1 hd (k r M' ho H locs sl hP hS hl)
theorem g_imul (hC : tv_Cx κ own cc nL d) (hd : decode cc pc = .ok (.imul, 1)) (k : tv_G κ nL Q (pc + 1) ls (.int (x * y) :: st) M o) : tv_G κ nL Q pc ls (.int y :: .int x :: st) M o := fun r M' ho H locs sl hP hS hl => lv_imul hC.1.1 hC.1.2.1 hd (k r M' ho H locs sl hP hS hl)
theorem g_iand (hC : tv_Cx κ own cc nL d) (hd : decode cc pc = .ok (.iand, 1)) (k : tv_G κ nL Q (pc + 1) ls (.int (x &&& y) :: st) M o) : tv_G κ nL Q pc ls (.int y :: .int x :: st) M o := fun r M' ho H locs sl hP hS hl => lv_iand hC.1.1 hC.1.2.1 hd (k r M' ho H locs sl hP hS hl)
theorem g_ior (hC : tv_Cx κ own cc nL d) (hd : decode cc pc = .ok (.ior, 1)) (k : tv_G κ nL Q (pc + 1) ls (.int (x ||| y) :: st) M o) : tv_G κ nL Q pc ls (.int y :: .int x :: st) M o := fun r M' ho H locs sl hP hS hl => lv_ior hC.1.1 hC.1.2.1 hd (k r M' ho H locs sl hP hS hl)
theorem g_ixor (hC : tv_Cx κ own cc nL d) (hd : decode cc pc = .ok (.ixor, 1)) (k : tv_G κ nL Q (pc + 1) ls (.int (x ^^^ y) :: st) M o) : tv_G κ nL Q pc ls (.int y :: .int x :: st) M o := fun r M' ho H locs sl hP hS hl => lv_ixor hC.1.1 hC.1.2.1 hd (k r M' ho H locs sl hP hS hl)
theorem g_ishl (hC : tv_Cx κ own cc nL d) (hd : decode cc pc = .ok (.ishl, 1)) (k : tv_G κ nL Q (pc + 1) ls (.int (x <<< (y &&& 31)) :: st) M o) : tv_G κ nL Q pc ls (.int y :: .int x :: st) M o := fun r M' ho H locs sl hP hS hl => lv_ishl hC.1.1 hC.1.2.1 hd (k r M' ho H locs sl hP hS hl)
theorem g_ishr (hC : tv_Cx κ own cc nL d) (hd : decode cc pc = .ok (.ishr, 1)) (k : tv_G κ nL Q (pc + 1) ls (.int (x >>> (y &&& 31)) :: st) M o) : tv_G κ nL Q pc ls (.int y :: .int x :: st) M o := fun r M' ho H locs sl hP hS hl => lv_ishr hC.1.1 hC.1.2.1 hd (k r M' ho H locs sl hP hS hl)
theorem g_iushr (hC : tv_Cx κ own cc nL d) (hd : decode cc pc = .ok (.iushr, 1)) (k : tv_G κ nL Q (pc + 1) ls (.int ((x.toUInt32 >>> (y.toUInt32 &&& Int32.toUInt32 31)).toInt32) :: st) M o) : tv_G κ nL Q pc ls (.int y :: .int x :: st) M o := fun r M' ho H locs sl hP hS hl => lv_iushr hC.1.1 hC.1.2.1 hd rfl (k r M' ho H locs sl hP hS hl)
theorem g_irem (hC : tv_Cx κ own cc nL d) (hd : decode cc pc = .ok (.irem, 1)) (k : tv_G κ nL Q (pc + 1) ls (.int (tv_rem x y) :: st) M o) : tv_G κ nL Q pc ls (.int y :: .int x :: st) M (tv_nz y o) := by
  intro r M' ho H locs sl hP hS hl
  unfold tv_nz at ho
  by_cases hy : y = 0
  · rw [if_pos hy] at ho; cases ho
  · rw [if_neg hy] at ho
    exact lv_irem hC.1.1 hC.1.2.1 hd hy (k r M' ho H locs sl hP hS hl)
theorem g_ladd (hC : tv_Cx κ own cc nL d) (hd : decode cc pc = .ok (.ladd, 1)) (k : tv_G κ nL Q (pc + 1) ls (.long (u + v) :: st) M o) : tv_G κ nL Q pc ls (.long v :: .long u :: st) M o := fun r M' ho H locs sl hP hS hl => lv_ladd hC.1.1 hC.1.2.1 hd (k r M' ho H locs sl hP hS hl)
theorem g_lsub (hC : tv_Cx κ own cc nL d) (hd : decode cc pc = .ok (.lsub, 1)) (k : tv_G κ nL Q (pc + 1) ls (.long (u - v) :: st) M o) : tv_G κ nL Q pc ls (.long v :: .long u :: st) M o := fun r M' ho H locs sl hP hS hl => lv_lsub hC.1.1 hC.1.2.1 hd (k r M' ho H locs sl hP hS hl)
theorem g_land (hC : tv_Cx κ own cc nL d) (hd : decode cc pc = .ok (.land, 1)) (k : tv_G κ nL Q (pc + 1) ls (.long (u &&& v) :: st) M o) : tv_G κ nL Q pc ls (.long v :: .long u :: st) M o := fun r M' ho H locs sl hP hS hl => lv_land hC.1.1 hC.1.2.1 hd (k r M' ho H locs sl hP hS hl)
theorem g_lor (hC : tv_Cx κ own cc nL d) (hd : decode cc pc = .ok (.lor, 1)) (k : tv_G κ nL Q (pc + 1) ls (.long (u ||| v) :: st) M o) : tv_G κ nL Q pc ls (.long v :: .long u :: st) M o := fun r M' ho H locs sl hP hS hl => lv_lor hC.1.1 hC.1.2.1 hd (k r M' ho H locs sl hP hS hl)
theorem g_lshl (hC : tv_Cx κ own cc nL d) (hd : decode cc pc = .ok (.lshl, 1)) (k : tv_G κ nL Q (pc + 1) ls (.long (u <<< (y.toInt64 &&& 63)) :: st) M o) : tv_G κ nL Q pc ls (.int y :: .long u :: st) M o := fun r M' ho H locs sl hP hS hl => lv_lshl hC.1.1 hC.1.2.1 hd rfl (k r M' ho H locs sl hP hS hl)
theorem g_lshr (hC : tv_Cx κ own cc nL d) (hd : decode cc pc = .ok (.lshr, 1)) (k : tv_G κ nL Q (pc + 1) ls (.long (u >>> (y.toInt64 &&& 63)) :: st) M o) : tv_G κ nL Q pc ls (.int y :: .long u :: st) M o := fun r M' ho H locs sl hP hS hl => lv_lshr hC.1.1 hC.1.2.1 hd rfl (k r M' ho H locs sl hP hS hl)
theorem g_lcmp (hC : tv_Cx κ own cc nL d) (hd : decode cc pc = .ok (.lcmp, 1)) (k : tv_G κ nL Q (pc + 1) ls (.int (lg_cmp u v) :: st) M o) : tv_G κ nL Q pc ls (.long v :: .long u :: st) M o := fun r M' ho H locs sl hP hS hl => W.lcmp hC.1.1 hC.1.2.1 hd (k r M' ho H locs sl hP hS hl)
theorem g_i2l (hC : tv_Cx κ own cc nL d) (hd : decode cc pc = .ok (.i2l, 1)) (k : tv_G κ nL Q (pc + 1) ls (.long (x.toInt64) :: st) M o) : tv_G κ nL Q pc ls (.int x :: st) M o := fun r M' ho H locs sl hP hS hl => lv_i2l hC.1.1 hC.1.2.1 hd rfl (k r M' ho H locs sl hP hS hl)
theorem g_l2i (hC : tv_Cx κ own cc nL d) (hd : decode cc pc = .ok (.l2i, 1)) (k : tv_G κ nL Q (pc + 1) ls (.int (u.toInt32) :: st) M o) : tv_G κ nL Q pc ls (.long u :: st) M o := fun r M' ho H locs sl hP hS hl => lv_l2i hC.1.1 hC.1.2.1 hd rfl (k r M' ho H locs sl hP hS hl)
theorem g_i2b (hC : tv_Cx κ own cc nL d) (hd : decode cc pc = .ok (.i2b, 1)) (k : tv_G κ nL Q (pc + 1) ls (.int (x.toInt8.toInt32) :: st) M o) : tv_G κ nL Q pc ls (.int x :: st) M o := fun r M' ho H locs sl hP hS hl => lv_i2b hC.1.1 hC.1.2.1 hd rfl (k r M' ho H locs sl hP hS hl)
theorem g_i2s (hC : tv_Cx κ own cc nL d) (hd : decode cc pc = .ok (.i2s, 1)) (k : tv_G κ nL Q (pc + 1) ls (.int (x.toInt16.toInt32) :: st) M o) : tv_G κ nL Q pc ls (.int x :: st) M o := fun r M' ho H locs sl hP hS hl => lv_i2s hC.1.1 hC.1.2.1 hd rfl (k r M' ho H locs sl hP hS hl)
theorem g_i2c (hC : tv_Cx κ own cc nL d) (hd : decode cc pc = .ok (.i2c, 1)) (k : tv_G κ nL Q (pc + 1) ls (.int ((x.toUInt32 % 65536).toInt32) :: st) M o) : tv_G κ nL Q pc ls (.int x :: st) M o := fun r M' ho H locs sl hP hS hl => lv_i2c hC.1.1 hC.1.2.1 hd rfl (k r M' ho H locs sl hP hS hl)
theorem g_dup (hC : tv_Cx κ own cc nL d) {w : Value} (hd : decode cc pc = .ok (.dup, 1)) (hw : w.category = 1) (k : tv_G κ nL Q (pc + 1) ls (w :: w :: st) M o) : tv_G κ nL Q pc ls (w :: st) M o := fun r M' ho H locs sl hP hS hl => lv_dup hC.1.1 hC.1.2.1 hd hw (k r M' ho H locs sl hP hS hl)
theorem g_dup2 (hC : tv_Cx κ own cc nL d) {w w2 : Value} (hd : decode cc pc = .ok (.dup2, 1)) (hw : w.category = 1) (hw2 : w2.category = 1) (k : tv_G κ nL Q (pc + 1) ls (w :: w2 :: w :: w2 :: st) M o) : tv_G κ nL Q pc ls (w :: w2 :: st) M o := fun r M' ho H locs sl hP hS hl => lv_dup2_11 hC.1.1 hC.1.2.1 hd hw hw2 (k r M' ho H locs sl hP hS hl)
theorem g_dup_x1 (hC : tv_Cx κ own cc nL d) {w w2 : Value} (hd : decode cc pc = .ok (.dup_x1, 1)) (hw : w.category = 1) (hw2 : w2.category = 1) (k : tv_G κ nL Q (pc + 1) ls (w :: w2 :: w :: st) M o) : tv_G κ nL Q pc ls (w :: w2 :: st) M o := fun r M' ho H locs sl hP hS hl => lv_dup_x1 hC.1.1 hC.1.2.1 hd hw hw2 (k r M' ho H locs sl hP hS hl)
theorem g_pop (hC : tv_Cx κ own cc nL d) {w : Value} (hd : decode cc pc = .ok (.pop, 1)) (hw : w.category = 1) (k : tv_G κ nL Q (pc + 1) ls st M o) : tv_G κ nL Q pc ls (w :: st) M o := fun r M' ho H locs sl hP hS hl => lv_pop hC.1.1 hC.1.2.1 hd hw (k r M' ho H locs sl hP hS hl)
theorem g_goto (hC : tv_Cx κ own cc nL d) {off : Int} {tgt : Nat} (hd : decode cc pc = .ok (.goto off, 3)) (ht : (pc : Int) + off = (tgt : Int)) (k : tv_G κ nL Q tgt ls st M o) : tv_G κ nL Q pc ls st M o := fun r M' ho H locs sl hP hS hl => lv_goto hC.1.1 hC.1.2.1 hd ht (k r M' ho H locs sl hP hS hl)
theorem g_icmp_eq (hC : tv_Cx κ own cc nL d) {off : Int} {tgt : Nat} (hd : decode cc pc = .ok (.if_icmp .eq off, 3)) (ht : (pc : Int) + off = (tgt : Int)) (k1 : x = y → tv_G κ nL Q tgt ls st M o1) (k2 : ¬ x = y → tv_G κ nL Q (pc + 3) ls st M o2) : tv_G κ nL Q pc ls (.int y :: .int x :: st) M (if x = y then o1 else o2) := by
  intro r M' ho H locs sl hP hS hl
  refine lv_icmp_eq hC.1.1 hC.1.2.1 hd ht (fun hc => k1 hc r M' ?_ H locs sl hP hS hl) (fun hc => k2 hc r M' ?_ H locs sl hP hS hl)
  · rw [if_pos hc] at ho; exact ho
  · rw [if_neg hc] at ho; exact ho
theorem g_icmp_ne (hC : tv_Cx κ own cc nL d) {off : Int} {tgt : Nat} (hd : decode cc pc = .ok (.if_icmp .ne off, 3)) (ht : (pc : Int) + off = (tgt : Int)) (k1 : ¬ x = y → tv_G κ nL Q tgt ls st M o1) (k2 : x = y → tv_G κ nL Q (pc + 3) ls st M o2) : tv_G κ nL Q pc ls (.int y :: .int x :: st) M (if x = y then o2 else o1) := by
  intro r M' ho H locs sl hP hS hl
  refine lv_icmp_ne hC.1.1 hC.1.2.1 hd ht (fun hc => k1 hc r M' ?_ H locs sl hP hS hl) (fun hc => k2 hc r M' ?_ H locs sl hP hS hl)
  · rw [if_neg hc] at ho; exact ho
  · rw [if_pos hc] at ho; exact ho
theorem g_icmp_lt (hC : tv_Cx κ own cc nL d) {off : Int} {tgt : Nat} (hd : decode cc pc = .ok (.if_icmp .lt off, 3)) (ht : (pc : Int) + off = (tgt : Int)) (k1 : x < y → tv_G κ nL Q tgt ls st M o1) (k2 : ¬ x < y → tv_G κ nL Q (pc + 3) ls st M o2) : tv_G κ nL Q pc ls (.int y :: .int x :: st) M (if x < y then o1 else o2) := by
  intro r M' ho H locs sl hP hS hl
  refine lv_icmp_lt hC.1.1 hC.1.2.1 hd ht (fun hc => k1 hc r M' ?_ H locs sl hP hS hl) (fun hc => k2 hc r M' ?_ H locs sl hP hS hl)
  · rw [if_pos hc] at ho; exact ho
  · rw [if_neg hc] at ho; exact ho
theorem g_icmp_ge (hC : tv_Cx κ own cc nL d) {off : Int} {tgt : Nat} (hd : decode cc pc = .ok (.if_icmp .ge off, 3)) (ht : (pc : Int) + off = (tgt : Int)) (k1 : y ≤ x → tv_G κ nL Q tgt ls st M o1) (k2 : ¬ y ≤ x → tv_G κ nL Q (pc + 3) ls st M o2) : tv_G κ nL Q pc ls (.int y :: .int x :: st) M (if y ≤ x then o1 else o2) := by
  intro r M' ho H locs sl hP hS hl
  refine lv_icmp_ge hC.1.1 hC.1.2.1 hd ht (fun hc => k1 hc r M' ?_ H locs sl hP hS hl) (fun hc => k2 hc r M' ?_ H locs sl hP hS hl)
  · rw [if_pos hc] at ho; exact ho
  · rw [if_neg hc] at ho; exact ho
theorem g_icmp_gt (hC : tv_Cx κ own cc nL d) {off : Int} {tgt : Nat} (hd : decode cc pc = .ok (.if_icmp .gt off, 3)) (ht : (pc : Int) + off = (tgt : Int)) (k1 : y < x → tv_G κ nL Q tgt ls st M o1) (k2 : ¬ y < x → tv_G κ nL Q (pc + 3) ls st M o2) : tv_G κ nL Q pc ls (.int y :: .int x :: st) M (if y < x then o1 else o2) := by
  intro r M' ho H locs sl hP hS hl
  refine lv_icmp_gt hC.1.1 hC.1.2.1 hd ht (fun hc => k1 hc r M' ?_ H locs sl hP hS hl) (fun hc => k2 hc r M' ?_ H locs sl hP hS hl)
  · rw [if_pos hc] at ho; exact ho
  · rw [if_neg hc] at ho; exact ho
theorem g_icmp_le (hC : tv_Cx κ own cc nL d) {off : Int} {tgt : Nat} (hd : decode cc pc = .ok (.if_icmp .le off, 3)) (ht : (pc : Int) + off = (tgt : Int)) (k1 : x ≤ y → tv_G κ nL Q tgt ls st M o1) (k2 : ¬ x ≤ y → tv_G κ nL Q (pc + 3) ls st M o2) : tv_G κ nL Q pc ls (.int y :: .int x :: st) M (if x ≤ y then o1 else o2) := by
  intro r M' ho H locs sl hP hS hl
  refine lv_icmp_le hC.1.1 hC.1.2.1 hd ht (fun hc => k1 hc r M' ?_ H locs sl hP hS hl) (fun hc => k2 hc r M' ?_ H locs sl hP hS hl)
  · rw [if_pos hc] at ho; exact ho
  · rw [if_neg hc] at ho; exact ho
theorem g_if_eq (hC : tv_Cx κ own cc nL d) {off : Int} {tgt : Nat} (hd : decode cc pc = .ok (.ifCond .eq off, 3)) (ht : (pc : Int) + off = (tgt : Int)) (k1 : x = 0 → tv_G κ nL Q tgt ls st M o1) (k2 : ¬ x = 0 → tv_G κ nL Q (pc + 3) ls st M o2) : tv_G κ nL Q pc ls (.int x :: st) M (if x = 0 then o1 else o2) := by
  intro r M' ho H locs sl hP hS hl
  refine lv_if_eq hC.1.1 hC.1.2.1 hd ht (fun hc => k1 hc r M' ?_ H locs sl hP hS hl) (fun hc => k2 hc r M' ?_ H locs sl hP hS hl)
  · rw [if_pos hc] at ho; exact ho
  · rw [if_neg hc] at ho; exact ho
theorem g_if_ne (hC : tv_Cx κ own cc nL d) {off : Int} {tgt : Nat} (hd : decode cc pc = .ok (.ifCond .ne off, 3)) (ht : (pc : Int) + off = (tgt : Int)) (k1 : ¬ x = 0 → tv_G κ nL Q tgt ls st M o1) (k2 : x = 0 → tv_G κ nL Q (pc + 3) ls st M o2) : tv_G κ nL Q pc ls (.int x :: st) M (if x = 0 then o2 else o1) := by
  intro r M' ho H locs sl hP hS hl
  refine lv_if_ne hC.1.1 hC.1.2.1 hd ht (fun hc => k1 hc r M' ?_ H locs sl hP hS hl) (fun hc => k2 hc r M' ?_ H locs sl hP hS hl)
  · rw [if_neg hc] at ho; exact ho
  · rw [if_pos hc] at ho; exact ho
theorem g_if_lt (hC : tv_Cx κ own cc nL d) {off : Int} {tgt : Nat} (hd : decode cc pc = .ok (.ifCond .lt off, 3)) (ht : (pc : Int) + off = (tgt : Int)) (k1 : x < 0 → tv_G κ nL Q tgt ls st M o1) (k2 : ¬ x < 0 → tv_G κ nL Q (pc + 3) ls st M o2) : tv_G κ nL Q pc ls (.int x :: st) M (if x < 0 then o1 else o2) := by
  intro r M' ho H locs sl hP hS hl
  refine lv_if_lt hC.1.1 hC.1.2.1 hd ht (fun hc => k1 hc r M' ?_ H locs sl hP hS hl) (fun hc => k2 hc r M' ?_ H locs sl hP hS hl)
  · rw [if_pos hc] at ho; exact ho
  · rw [if_neg hc] at ho; exact ho
theorem g_if_ge (hC : tv_Cx κ own cc nL d) {off : Int} {tgt : Nat} (hd : decode cc pc = .ok (.ifCond .ge off, 3)) (ht : (pc : Int) + off = (tgt : Int)) (k1 : 0 ≤ x → tv_G κ nL Q tgt ls st M o1) (k2 : ¬ 0 ≤ x → tv_G κ nL Q (pc + 3) ls st M o2) : tv_G κ nL Q pc ls (.int x :: st) M (if 0 ≤ x then o1 else o2) := by
  intro r M' ho H locs sl hP hS hl
  refine lv_if_ge hC.1.1 hC.1.2.1 hd ht (fun hc => k1 hc r M' ?_ H locs sl hP hS hl) (fun hc => k2 hc r M' ?_ H locs sl hP hS hl)
  · rw [if_pos hc] at ho; exact ho
  · rw [if_neg hc] at ho; exact ho
theorem g_if_gt (hC : tv_Cx κ own cc nL d) {off : Int} {tgt : Nat} (hd : decode cc pc = .ok (.ifCond .gt off, 3)) (ht : (pc : Int) + off = (tgt : Int)) (k1 : 0 < x → tv_G κ nL Q tgt ls st M o1) (k2 : ¬ 0 < x → tv_G κ nL Q (pc + 3) ls st M o2) : tv_G κ nL Q pc ls (.int x :: st) M (if 0 < x then o1 else o2) := by
  intro r M' ho H locs sl hP hS hl
  refine lv_if_gt hC.1.1 hC.1.2.1 hd ht (fun hc => k1 hc r M' ?_ H locs sl hP hS hl) (fun hc => k2 hc r M' ?_ H locs sl hP hS hl)
  · rw [if_pos hc] at ho; exact ho
  · rw [if_neg hc] at ho; exact ho
theorem g_if_le (hC : tv_Cx κ own cc nL d) {off : Int} {tgt : Nat} (hd : decode cc pc = .ok (.ifCond .le off, 3)) (ht : (pc : Int) + off = (tgt : Int)) (k1 : x ≤ 0 → tv_G κ nL Q tgt ls st M o1) (k2 : ¬ x ≤ 0 → tv_G κ nL Q (pc + 3) ls st M o2) : tv_G κ nL Q pc ls (.int x :: st) M (if x ≤ 0 then o1 else o2) := by
  intro r M' ho H locs sl hP hS hl
  refine lv_if_le hC.1.1 hC.1.2.1 hd ht (fun hc => k1 hc r M' ?_ H locs sl hP hS hl) (fun hc => k2 hc r M' ?_ H locs sl hP hS hl)
  · rw [if_pos hc] at ho; exact ho
  · rw [if_neg hc] at ho; exact ho
theorem g_ifnullR (hC : tv_Cx κ own cc nL d) {off : Int} {a : Nat} (hd : decode cc pc = .ok (.ifnull off, 3)) (k : tv_G κ nL Q (pc + 3) ls st M o) : tv_G κ nL Q pc ls (.ref a :: st) M o := fun r M' ho H locs sl hP hS hl => lv_ifnull hC.1.1 hC.1.2.1 hd (k r M' ho H locs sl hP hS hl)
theorem g_ifnullN (hC : tv_Cx κ own cc nL d) {off : Int} {tgt : Nat} (hd : decode cc pc = .ok (.ifnull off, 3)) (ht : (pc : Int) + off = (tgt : Int)) (k : tv_G κ nL Q tgt ls st M o) : tv_G κ nL Q pc ls (.null :: st) M o := fun r M' ho H locs sl hP hS hl => lv_ifnullN hC.1.1 hC.1.2.1 hd ht (k r M' ho H locs sl hP hS hl)
theorem g_ifnonnullR (hC : tv_Cx κ own cc nL d) {off : Int} {a tgt : Nat} (hd : decode cc pc = .ok (.ifnonnull off, 3)) (ht : (pc : Int) + off = (tgt : Int)) (k : tv_G κ nL Q tgt ls st M o) : tv_G κ nL Q pc ls (.ref a :: st) M o := fun r M' ho H locs sl hP hS hl => lv_ifnonnull hC.1.1 hC.1.2.1 hd ht (k r M' ho H locs sl hP hS hl)
theorem g_ifnonnullN (hC : tv_Cx κ own cc nL d) {off : Int} (hd : decode cc pc = .ok (.ifnonnull off, 3)) (k : tv_G κ nL Q (pc + 3) ls st M o) : tv_G κ nL Q pc ls (.null :: st) M o := fun r M' ho H locs sl hP hS hl => lv_ifnonnullN hC.1.1 hC.1.2.1 hd (k r M' ho H locs sl hP hS hl)
theorem g_mask (m : List Bool) (hm : tv_mask m ls = ls') (k : tv_G κ nL Q pc ls' st M o) : tv_G κ nL Q pc ls st M o := fun r M' ho H locs sl hP hS hl => k r M' ho H locs sl hP hS (hm ▸ tv_lo_mask m hl)
theorem g_none : tv_G κ nL Q pc ls st M none := fun r M' ho => by cases ho
theorem g_gl {k ci : Nat} (h : (tv_lay[k]?).map Prod.fst = some ci → tv_G κ nL Q pc ls st M o) : tv_G κ nL Q pc ls st M (tv_gl k ci o) := by
  unfold tv_gl
  split
  · exact h (by assumption)
  · exact g_none
theorem g_gn {k t : Nat} {f : Nat → Option (β × tv_M)} (h : ∀ n, tv_lay[k]? = some (t, n) → tv_G κ nL Q pc ls st M (f n)) : tv_G κ nL Q pc ls st M (tv_gn k t f) := by
  unfold tv_gn
  cases hq : tv_lay[k]? with
  | none => exact g_none
  | some q =>
    by_cases ht : q.1 = t
    · simp only [ht, if_true]
      exact h q.2 (by rw [hq, ← ht])
    · simp only [ht, if_false]
      exact g_none
theorem g_nn {r : Option Nat} {f : Nat → Option (β × tv_M)} (h : ∀ k, r = some k → tv_G κ nL Q pc ls st M (f k)) : tv_G κ nL Q pc ls st M (tv_nn r f) := by
  cases r with
  | none => exact g_none
  | some k => exact h k rfl
theorem g_zo (h : x = 0 ∨ x = 1 → tv_G κ nL Q pc ls st M o) : tv_G κ nL Q pc ls st M (tv_zo x o) := by
  unfold tv_zo
  split
  · exact h (by assumption)
  · exact g_none
end TVR
