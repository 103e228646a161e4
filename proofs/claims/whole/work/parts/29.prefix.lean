/-! THE LAW'S BEGINNING -/
theorem wi_Lw_15 : tb_Iw "TiedViewsLaw" 15 ⟨"TiedViews", "<init>", "(I)V"⟩ prog_1_method_1_code 3 1 := ⟨tv_t1 24 rfl rfl, rfl, tv_t1 25 rfl rfl, tv_t1 1 rfl rfl, tv_t1 26 rfl rfl, by decide, by decide, by decide +kernel⟩
theorem wi_Lw_20 : tb_Iw "TiedViewsLaw" 20 ⟨"TiedViewsModel", "<init>", "(I)V"⟩ prog_14_method_4_code 2 1 := ⟨tv_t6 19 rfl rfl, rfl, tv_t6 20 rfl rfl, tv_t1 14 rfl rfl, tv_t6 21 rfl rfl, by decide, by decide, by decide +kernel⟩
theorem wn_Lw_7 : Cond.classLink "TiedViewsLaw" 7 "TiedViews" ∈ tv_tb ∧ Cond.instantiable "TiedViews" 10 ∈ tv_tb ∧ Cond.initialized "TiedViews" ∈ tv_tb := ⟨tv_t1 22 rfl rfl, tv_t1 23 rfl rfl, tv_t1 1 rfl rfl⟩
theorem wn_Lw_18 : Cond.classLink "TiedViewsLaw" 18 "TiedViewsModel" ∈ tv_tb ∧ Cond.instantiable "TiedViewsModel" 55 ∈ tv_tb ∧ Cond.initialized "TiedViewsModel" ∈ tv_tb := ⟨tv_t6 17 rfl rfl, tv_t6 18 rfl rfl, tv_t1 14 rfl rfl⟩
theorem ws_Lw_9 : tv_Sw "TiedViewsLaw" 9 ⟨"TiedViewsLaw", "cell", "([II)I"⟩ method_2_code 2 (some .int) 2 := ⟨tv_t6 14 rfl rfl, tv_t6 15 rfl rfl, tv_t1 0 rfl rfl, tv_t6 16 rfl rfl, by decide, by decide, by decide +kernel⟩
theorem d_Lw_cell_0 : decode method_2_code 0 = .ok (.iload_n 1, 1) := by decide +kernel
theorem d_Lw_cell_1 : decode method_2_code 1 = .ok (.aload_n 0, 1) := by decide +kernel
theorem d_Lw_cell_2 : decode method_2_code 2 = .ok (.arraylength, 1) := by decide +kernel
theorem d_Lw_cell_3 : decode method_2_code 3 = .ok (.if_icmp .ge 9, 3) := by decide +kernel
theorem d_Lw_cell_6 : decode method_2_code 6 = .ok (.aload_n 0, 1) := by decide +kernel
theorem d_Lw_cell_7 : decode method_2_code 7 = .ok (.iload_n 1, 1) := by decide +kernel
theorem d_Lw_cell_8 : decode method_2_code 8 = .ok (.iaload, 1) := by decide +kernel
theorem d_Lw_cell_9 : decode method_2_code 9 = .ok (.goto 4, 3) := by decide +kernel
theorem d_Lw_cell_12 : decode method_2_code 12 = .ok (.iconst 0, 1) := by decide +kernel
theorem d_Lw_cell_13 : decode method_2_code 13 = .ok (.ireturn, 1) := by decide +kernel
section TBP
variable {β β' : Type} {κ : tv_Kt} {own : String} {cc : ByteArray} {nL d pc sb L : Nat} {xs : Nat → Int32} {Q : β → tb_M → State → Prop} {ls ls' : List (Option Value)} {st stk rest : List Value} {M A B : tb_M} {o o1 o2 : Option (β × tb_M)} {x y : Int32}
theorem b_astore_n (hC : tb_Cx κ own cc nL d) {i : Fin 4} {a : Nat} (hd : decode cc pc = .ok (.astore_n i, 1)) (hs : tv_sto ls (i : Nat) (.ref a) = ls') (hn : Nat.blt (i : Nat) nL = true) (k : tb_G κ nL Q (pc + 1) ls' st M o) : tb_G κ nL Q pc ls (.ref a :: st) M o := by
  intro r M' ho H locs sl hP hS hl
  obtain ⟨sl', e', h'⟩ := tv_store1 (v := .ref a) hl (by simpa using hn) rfl
  intro T hT X
  obtain ⟨t, a, b⟩ := k r M' ho H locs sl' hP hS (hs ▸ h') T hT X
  refine ⟨t, ?_, b⟩
  have hx := hC.1.1
  have hb := hC.1.2.1
  jvm_step X.here [X.here.top, ↓top_set X.here.top, hx, hb, hd, e']
  exact ⟨rfl, a⟩
theorem tb_eqo (h : o1 = o2) (k : tb_G κ nL Q pc ls st M o1) : tb_G κ nL Q pc ls st M o2 := h ▸ k
theorem st_conv (hn : A.n = B.n) (he : ∀ k, k < A.n → st_eqc A B k = true) (hz : ∀ k, B.n ≤ k → B.1 k = (fun _ => 0) ∧ B.2.1 k = (fun _ => 0) ∧ B.2.2.1 k = (fun _ => none)) (k : tb_G κ nL Q pc ls st B o) : tb_G κ nL Q pc ls st A o := by
  intro r M' ho H locs sl hP hS hl
  have h := k r M' ho H locs sl ⟨st_tbV hn he hz hP.1, by rw [← hn]; exact hP.2⟩ hS hl
  unfold tb_W at h ⊢
  rw [hn]
  exact h
def tl_X (κ : tv_Kt) (sb L : Nat) (xs : Nat → Int32) : Prop := va_X sb L xs κ.s κ.s.heap ∧ sb < κ.s.heap.size ∧ ¬ tv_A κ.b sb
theorem b_xald (hC : tb_Cx κ own cc nL d) (hR : tl_X κ sb L xs) {i : Int32} {f : Int32 → Option (β × tb_M)} (hd : decode cc pc = .ok (.iaload, 1)) (kk : ∀ x, tb_G κ nL Q (pc + 1) ls (.int x :: st) M (f x)) : tb_G κ nL Q pc ls (.int i :: .ref sb :: st) M (tl_rd L xs i f) := by
  intro r0 M' ho H locs sl hP hS hl
  unfold tl_rd at ho
  by_cases hi : tv_inb i L = true
  · rw [if_pos hi] at ho
    exact va_sld hC.1.1 hC.1.2.1 hR.1 hR.2.1 hR.2.2 hS (tv_inbP hi) hd (kk _ r0 M' ho H locs sl hP hS hl)
  · rw [if_neg hi] at ho
    cases ho.1
theorem b_xlen (hC : tb_Cx κ own cc nL d) (hR : tl_X κ sb L xs) (hd : decode cc pc = .ok (.arraylength, 1)) (kk : tb_G κ nL Q (pc + 1) ls (.int (Int32.ofNat L) :: st) M o) : tb_G κ nL Q pc ls (.ref sb :: st) M o := fun r0 M' ho H locs sl hP hS hl => va_slen hC.1.1 hC.1.2.1 hR.1 hR.2.1 hR.2.2 hS hd (kk r0 M' ho H locs sl hP hS hl)
def Lw_cell (L : Nat) (xs : Nat → Int32) (M : tb_M) : Option (Int32 × tb_M) := if Int32.ofNat L ≤ 0 then some (0, M) else tl_rd L xs 0 (fun x => some (x, M))
def st_x (L : Nat) (xs : Nat → Int32) : Int32 := if 0 < L then xs 0 else 0
theorem Lw_cell_eq (hL : L ≤ 3073) : Lw_cell L xs M = some (st_x L xs, M) := by
  unfold Lw_cell st_x
  by_cases h : 0 < L
  · rw [if_pos h]
    have e : ¬ Int32.ofNat L ≤ 0 := by
      intro hc
      have := (Int32.ofNat_le_ofNat (k := L) (n := 0) (by omega) (by decide)).mp hc
      omega
    rw [if_neg e]
    unfold tl_rd
    have hi : tv_inb 0 L = true := by
      unfold tv_inb
      refine decide_eq_true ?_
      rintro (h1 | h1)
      · exact absurd h1 (by decide)
      · have : (0 : Int32).toNatClampNeg = 0 := by decide
        omega
    rw [if_pos hi]
    rfl
  · have : L = 0 := by omega
    subst this
    rfl
theorem Lw_cell_c {l : Launch} {θ : tv_Th} (hL : L ≤ 3073) (M : tb_M) : Met l ⟨"TiedViewsLaw", "cell", "([II)I"⟩ (Cond.code ⟨"TiedViewsLaw", "cell", "([II)I"⟩ method_2_code 2 (some .int) :: tv_tb) (tb_rm 1 M.n M.n) (va_Pc [.ref sb, .int 0] (fun U => (tb_St θ M U ∧ tb_Y U) ∧ va_X sb L xs U U.heap ∧ sb < U.heap.size ∧ ¬ tv_A θ.1 sb)) (tb_Qc θ tv_ei (st_x L xs) M) (M.n - M.n) (tb_sz M.n - tb_sz M.n) (tv_A θ.1) := by
  refine Met.ofW (cc := method_2_code) (maxL := 2) (ret := some .int) rfl rfl ?_
  intro p e s m args below meth c s₁ B hml hv
  obtain ⟨rfl, ⟨⟨hP, hsz, hK, hX⟩, hY⟩, hX1, hX2, hX3⟩ := hv
  have hts := atoms_spec (ws := Cond.code ⟨"TiedViewsLaw", "cell", "([II)I"⟩ method_2_code 2 (some .int) :: tv_tb) B.pre
  have hl := lv_entry ([.ref sb, .int 0] : List Value) (n := 2) (Nat.le_of_ble_eq_true rfl)
  rw [lg_entry_eq]
  generalize (lg_sl ([.ref sb, .int 0] : List Value) ++ List.replicate (2 - (lg_sl ([.ref sb, .int 0] : List Value)).length) Slot.unset).toArray = sl at hl ⊢
  have hlo : tv_lo sl 2 [some (.ref sb), some (.int 0)] := ⟨hl.1, hl.2.1, fun i v hv => hl.2.2 (i, v) (tv_ent 0 rfl i v hv)⟩
  have walk : ∀ κ : tv_Kt, tl_X κ sb L xs → tb_Cx κ "TiedViewsLaw" method_2_code 2 1 → tv_Re κ (some .int) → tb_G κ 2 (tb_Qm κ tv_ei) 0 [some (.ref sb), some (.int 0)] [] M (some (st_x L xs, M)) := by
    intro κ hR hC hRe
    refine tb_eqo (Lw_cell_eq hL) ?_
    unfold Lw_cell
    refine b_iload_n hC d_Lw_cell_0 rfl ?_
    refine b_aload_n hC d_Lw_cell_1 rfl ?_
    refine b_xlen hC hR d_Lw_cell_2 ?_
    refine b_icmp_ge (tgt := 12) hC d_Lw_cell_3 (by decide) (fun _ => ?_) (fun _ => ?_)
    · refine b_iconst hC d_Lw_cell_12 k_i0 ?_
      exact b_iret hC hRe d_Lw_cell_13
    · refine b_aload_n hC d_Lw_cell_6 rfl ?_
      refine b_iload_n hC d_Lw_cell_7 rfl ?_
      refine b_xald hC hR d_Lw_cell_8 (fun x => ?_)
      refine b_goto (tgt := 13) hC d_Lw_cell_9 (by decide) ?_
      exact b_iret hC hRe d_Lw_cell_13
  have k := walk (p, l, e, (headSpec (Cond.code ⟨"TiedViewsLaw", "cell", "([II)I"⟩ method_2_code 2 (some .int) :: tv_tb) (tb_rm 1 M.n M.n)).room, s, m, ([.ref sb, .int 0] : List Value).toArray, below, meth, c, θ, M.n, M.n) ⟨hX1, hX2, hX3⟩ ⟨⟨B.exec, B.bytes, hml, findClass_of_methodNamed B.named, fun w hw => hts w (List.mem_cons_of_mem _ hw)⟩, hK, hX, Nat.le_refl 1, Nat.le_refl (40 * 1), Nat.le_refl _, Nat.le_refl _, hsz⟩ ⟨B.returns, B.notSynchronized⟩ _ M ⟨rfl, rfl⟩ s.heap [] sl ⟨hP, Nat.le_refl _⟩ va_S.rf hlo
  simp only [tb_W, Nat.sub_self] at k
  exact k
theorem b_cell (hC : tb_Cx κ "TiedViewsLaw" code nL d) (hY : tb_Y κ.s) (hL : L ≤ 3073) (hR : tl_X κ sb L xs) {f : Int32 → tb_M → Option (β × tb_M)} (hsum : Nat.ble ((rest.map fun v => v.category).sum) 8 = true) (hdep : Nat.ble 2 d = true) (hd : decode code pc = .ok (.invokestatic 9, 3))
    (kk : ∀ (r1 : Int32) (M1 : tb_M), tb_G κ nL Q (pc + 3) ls (.int r1 :: rest) M1 (f r1 M1)) : tb_G κ nL Q pc ls (.int 0 :: .ref sb :: rest) M (tb_cb κ.sz M.n M.n (some (st_x L xs, M)) f) := by
  refine tb_cont (emb := tv_ei) (a := ([.ref sb, .int 0] : List Value).toArray) (rest := rest) hC ?_ kk
  intro r1 M1 hoc h1 h2 H locs sl hP hsz hS hl
  obtain ⟨hoc, -⟩ := hoc
  cases hoc
  refine va_runS (g := F0 κ.2.2.2.2.2.1 pc sl (.int 0 :: .ref sb :: rest)) (As := [.ref sb, .int 0]) (rest := rest) hC.1 (Lw_cell_c (l := κ.l) (θ := κ.th) (sb := sb) (xs := xs) hL M) (va_cwS 2 hC.1.2.2.2.2 (tv_goodS ws_Lw_9) rfl rfl rfl ws_Lw_9.2.2.2.2 (tb_rmfit hC.2.2.2.1 hC.2.2.2.2.1 hdep rfl)) ⟨?_, ?_⟩ rfl rfl hl.1 rfl (lv_room (Nat.le_of_ble_eq_true hsum)) hd (tb_fit hC hP.2 h1 h2)
  · exact fun a U g mk h => ⟨h.1, ⟨⟨h.2.1.1.1, h.2.1.1.2.1, va_K.moved (u := U) (U := U.calling g mk a) (Vm.Alike.refl U.vm) h.2.1.1.2.2.1, tv_X.same (s := U) (U := U.calling g mk a) rfl h.2.1.1.2.2.2⟩, tb_Y.same (s := U) (U := U.calling g mk a) rfl h.2.1.2⟩, va_X.moved (u := U) (U := U.calling g mk a) (Vm.Alike.refl U.vm) h.2.2.1, h.2.2.2⟩
  · intro U hU hW
    have hb := tb_begin hC hY hP.1 hsz hS [.ref sb, .int 0] U hU hW
    refine ⟨rfl, hb.2, ?_, ?_, hR.2.2⟩
    · rw [hU]
      exact (hR.1.moved hW.alike).kept (hS.2.1 sb hR.2.1 hR.2.2)
    · rw [hU]
      exact Nat.lt_of_lt_of_le hR.2.1 hS.1
theorem tb_cb1 {sz ne n : Nat} {r : β'} {M1 : tb_M} {c : Option (β' × tb_M)} (hc : c = some (r, M1)) (hn : M1.n = ne) (h1 : n ≤ ne) (h2 : ne ≤ sz) : tb_cb sz ne n c (fun r' M' => @ite _ (r' = r ∧ M' = M1) (Classical.propDecidable _) o none) = o := by
  subst hc
  unfold tb_cb
  rw [if_pos ⟨h1, h2⟩]
  have hn : M1.2.2.2 = ne := hn
  show (if M1.2.2.2 = ne then _ else none) = o
  rw [if_pos hn]
  exact if_pos ⟨rfl, rfl⟩
theorem b_ifC {c : Prop} (k : c → tb_G κ nL Q pc ls st M o) : tb_G κ nL Q pc ls st M (@ite _ c (Classical.propDecidable _) o none) := @b_if _ κ nL pc Q ls st M o c (Classical.propDecidable _) k
theorem st_z1 (p : Int32) : ∀ k, (st_M1 p).n ≤ k → (st_M1 p).1 k = (fun _ => 0) ∧ (st_M1 p).2.1 k = (fun _ => 0) ∧ (st_M1 p).2.2.1 k = (fun _ => none) := fun k hk => by
  have hk : 249 ≤ k := hk
  refine ⟨?_, rfl, ?_⟩ <;> simp [st_M1, show ¬ k < 249 by omega]
theorem st_z2 (p : Int32) : ∀ k, (st_M2 p).n ≤ k → (st_M2 p).1 k = (fun _ => 0) ∧ (st_M2 p).2.1 k = (fun _ => 0) ∧ (st_M2 p).2.2.1 k = (fun _ => none) := fun k hk => by
  have hk : 281 ≤ k := hk
  refine ⟨?_, rfl, ?_⟩ <;> simp [st_M2, show ¬ k < 281 by omega]
set_option maxHeartbeats 2000000 in
theorem st_walk (hC : tb_Cx κ "TiedViewsLaw" code 4 106) (hY : tb_Y κ.s) (hL : L ≤ 3073) (hR : tl_X κ sb L xs) (hz : κ.sz = 281)
    (hend : tb_G κ 4 Q 28 [some (.ref sb), some (.ref (κ.b + 0)), some (.ref (κ.b + 249)), some (.int 1)] [] (st_M2 (st_pr (st_x L xs))) o) : tb_G κ 4 Q 0 [some (.ref sb), none, none, none] [] st_B0 o := by
  obtain ⟨M3, e3, n3, c3⟩ := st_1 (st_x L xs)
  obtain ⟨M6, e6, n6, c6⟩ := st_2 (st_x L xs)
  refine b_new hC 0 rfl wn_Lw_7 rfl (by rw [hz]; decide) d_Lw_law_0 ?_
  refine b_dup hC d_Lw_law_3 rfl ?_
  refine b_aload_n hC d_Lw_law_4 rfl ?_
  refine b_iconst hC d_Lw_law_5 k_i0 ?_
  refine tb_eqo (tb_cb1 (sz := κ.sz) (ne := (tb_up st_B0).n) (n := (tb_up st_B0).n) (r := st_x L xs) (M1 := tb_up st_B0) rfl rfl (Nat.le_refl _) (by rw [hz]; decide)) ?_
  refine b_cell hC hY hL hR rfl rfl d_Lw_law_6 (fun r1 M1 => b_ifC (fun h => ?_))
  obtain ⟨rfl, rfl⟩ := h
  refine tb_eqo (tb_cb1 (sz := κ.sz) (ne := 249) (n := (tb_up st_B0).n) e3 n3 (by decide) (by rw [hz]; decide)) ?_
  refine b_callI hC hY [.int (st_x L xs)] wi_Lw_15 (BXx_init_c 249 0 (st_x L xs) (tb_up st_B0)) rfl rfl rfl rfl rfl d_Lw_law_9 (fun M1 => b_ifC (fun h => ?_))
  obtain ⟨-, rfl⟩ := h
  refine b_astore_n hC d_Lw_law_12 rfl rfl ?_
  refine st_conv (B := st_M1 (st_pr (st_x L xs))) n3 (fun k hk => c3 k (by rw [n3] at hk; exact hk)) (st_z1 _) ?_
  refine b_new hC 12 rfl wn_Lw_18 rfl (show 249 < κ.sz by rw [hz]; decide) d_Lw_law_13 ?_
  refine b_dup hC d_Lw_law_16 rfl ?_
  refine b_aload_n hC d_Lw_law_17 rfl ?_
  refine b_iconst hC d_Lw_law_18 k_i0 ?_
  refine tb_eqo (tb_cb1 (sz := κ.sz) (ne := (tb_up (st_M1 (st_pr (st_x L xs)))).n) (n := (tb_up (st_M1 (st_pr (st_x L xs)))).n) (r := st_x L xs) (M1 := tb_up (st_M1 (st_pr (st_x L xs)))) rfl rfl (Nat.le_refl _) (show 250 ≤ κ.sz by rw [hz]; decide)) ?_
  refine b_cell hC hY hL hR rfl rfl d_Lw_law_19 (fun r1 M1 => b_ifC (fun h => ?_))
  obtain ⟨rfl, rfl⟩ := h
  refine tb_eqo (tb_cb1 (sz := κ.sz) (ne := 281) (n := (tb_up (st_M1 (st_pr (st_x L xs)))).n) e6 n6 (show 250 ≤ 281 by decide) (by rw [hz]; decide)) ?_
  refine b_callI hC hY [.int (st_x L xs)] wi_Lw_20 (BMd_init_c 281 249 (st_x L xs) (tb_up (st_M1 (st_pr (st_x L xs))))) rfl rfl rfl rfl rfl d_Lw_law_22 (fun M1 => b_ifC (fun h => ?_))
  obtain ⟨-, rfl⟩ := h
  refine b_astore_n hC d_Lw_law_25 rfl rfl ?_
  refine st_conv (B := st_M2 (st_pr (st_x L xs))) n6 (fun k hk => c6 k (by rw [n6] at hk; exact hk)) (st_z2 _) ?_
  refine b_iconst hC d_Lw_law_26 k_i1 ?_
  refine b_istore_n hC d_Lw_law_27 rfl rfl ?_
  exact hend
end TBP
/-- the first memory of the runs -/
def st_M (p : Int32) : tv_M := (fun k j => if k < 281 then st_I p k j else 0, fun _ _ => 0)
theorem st_toV {θ : tv_Th} {p : Int32} {H : Heap} (h : tb_V θ (st_M2 p) H) : tv_V θ (st_M p) H := by
  have e : tv_ws θ.1 θ.2.2.1 (st_M2 p).n (st_M2 p).1 (st_M2 p).2.1 (st_M2 p).2.2.1 = tv_ws θ.1 θ.2.2.1 tv_n (st_M p).1 (st_M p).2 tv_P0 := by
    unfold tv_ws
    refine List.map_congr_left fun k hk => ?_
    have hk : k < 281 := List.mem_range.mp hk
    rw [tv_E_eq _ rfl rfl (show tv_P0 k = (st_M2 p).2.2.1 k from funext fun j => by simp [st_M2, hk])]
    rfl
  have h1 := h.1
  rw [e] at h1
  exact h1
theorem st_sz0 : tb_sz 0 = 0 := rfl
theorem st_sz : tb_sz 281 ≤ 7302250 := by decide +kernel
theorem st_sz2 : tb_sz 281 - tb_sz 0 ≤ 7302250 := Nat.le_trans (Nat.sub_le _ _) st_sz
theorem st_sz3 (p : Int32) : tb_sz (st_M2 p).n - tb_sz 0 = tb_sz 281 := (congrArg (fun z => tb_sz (st_M2 p).n - z) st_sz0).trans (Nat.sub_zero _)
/-- what the pure part owes: the law's loop comes to its end -/
def pu_law : Prop := ∀ (L : Nat) (xs : Nat → Int32) (p : Int32), L ≤ 3073 → (p = 2 ∨ p = 3 ∨ p = 5 ∨ p = 7) → ∃ (F n : Nat) (r : Int32) (M' : tv_M), Lw_law_L28 F L xs n 1 (st_M p) = some (r, M')
set_option maxHeartbeats 2000000 in
theorem st_start (hpu : pu_law) {p : Program} {e : Env} {s : State} {m : MethodId} {below : List Frame} {meth : Method} {c : Code} (l : Launch) {b L : Nat} {xs : Nat → Int32} (hL : L ≤ 3073) (C0 : lw_At p s m meth c b L xs) : W p l e room_1 s m #[Value.ref b] below meth c s.heap [] 0 0 (lw_Z below #[Value.ref b] s) (entryFrame m ([Value.ref b] : List Value).toArray 4) := by
  obtain ⟨hx, hcc, hret, hml, hown, hts, hX, hbl, hlocks, hgv⟩ := C0
  obtain ⟨θ, hθ, hK, hXs, hY⟩ := st_th hts hgv
  have hl := lv_entry ([.ref b] : List Value) (n := 4) (Nat.le_of_ble_eq_true rfl)
  rw [lg_entry_eq]
  generalize (lg_sl ([.ref b] : List Value) ++ List.replicate (4 - (lg_sl ([.ref b] : List Value)).length) Slot.unset).toArray = sl at hl ⊢
  have hlo : tv_lo sl 4 [some (.ref b), none, none, none] := ⟨hl.1, hl.2.1, fun i v hv => hl.2.2 (i, v) (tv_ent 3 rfl i v hv)⟩
  have hA : ¬ tv_A θ.1 b := by rw [hθ]; exact Nat.not_le.mpr hbl
  have htb : ∀ w ∈ tv_tb, w.before #[Value.ref b] s = true := fun w hw => hts w (List.mem_filter.mp hw).1
  obtain ⟨F, n, r, M', hrun⟩ := hpu L xs (st_pr (st_x L xs)) hL (st_pr4 _)
  have k := st_walk (β := Unit) (κ := (p, l, e, room_1, s, m, #[Value.ref b], below, meth, c, θ, 0, 281)) (sb := b) (xs := xs) (Q := fun _ _ => lw_Z below #[Value.ref b] s) (o := some ((), st_M2 (st_pr (st_x L xs)))) ⟨⟨hx, hcc, hml, hown, htb⟩, hK, hXs, (show 106 ≤ 2048 from Nat.le_of_ble_eq_true rfl), (show 40 * 106 ≤ 84000 from Nat.le_of_ble_eq_true rfl), (show 281 ≤ 600000 from Nat.le_of_ble_eq_true rfl), st_sz2, by show s.heap.size = θ.1 + 0; rw [hθ]; rfl⟩ hY hL ⟨hX, hbl, hA⟩ rfl (by
    intro r0 M0 ho H locs sl' hP hS hl'
    have g := Lw_law_L28_g (κ := (p, l, e, room_1, s, m, #[Value.ref b], below, meth, c, θ, 281, tb_sz 281)) (sb := b) (L := L) (xs := xs) ⟨⟨hx, hcc, hml, hown, htb⟩, hK, hXs, (show 106 ≤ 2048 from Nat.le_of_ble_eq_true rfl), (show 40 * 106 ≤ 84000 from Nat.le_of_ble_eq_true rfl), (show 281 ≤ 600000 from Nat.le_of_ble_eq_true rfl), st_sz⟩ ⟨hX, hbl, hθ, rfl, rfl, hret, hlocks, (show 281 ≤ 600000 from Nat.le_of_ble_eq_true rfl), st_sz⟩ F n 1 (st_M (st_pr (st_x L xs))) r M' hrun H locs sl' (st_toV hP.1) hS hl'
    show W p l e room_1 s m #[Value.ref b] below meth c H locs (281 - 0) (tb_sz (st_M2 (st_pr (st_x L xs))).n - tb_sz 0) _ _
    rw [st_sz3]
    exact g)
  have hV0 : tb_V θ st_B0 s.heap := ⟨fun k q hq => absurd (tv_ws_at hq).1 (Nat.not_lt_zero _), fun k _ => ⟨rfl, rfl, rfl⟩⟩
  have w := k () (st_M2 (st_pr (st_x L xs))) ⟨rfl, rfl⟩ s.heap [] sl ⟨hV0, Nat.le_refl _⟩ va_S.rf hlo
  exact w
