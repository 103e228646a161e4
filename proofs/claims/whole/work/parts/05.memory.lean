theorem tv_lay_n : tv_lay.length = tv_n := by decide +kernel
theorem tv_lay_lt {k : Nat} {q : Nat × Nat} (h : tv_lay[k]? = some q) : k < tv_n := by
  rw [← tv_lay_n]
  exact (List.getElem?_eq_some_iff.mp h).1
theorem tv_lay_of {k ci : Nat} (h : (tv_lay[k]?).map Prod.fst = some ci) : ∃ n, tv_lay[k]? = some (ci, n) := by
  cases hq : tv_lay[k]? with
  | none => rw [hq] at h; cases h
  | some q =>
    rw [hq] at h
    cases h
    exact ⟨q.2, rfl⟩
theorem tv_mem_tb {w : Cond} (h : w ∈ tables_1) (hg : goodWord w = true) : w ∈ tv_tb := List.mem_filter.mpr ⟨List.mem_append_right _ h, hg⟩
theorem tv_at {w : Cond} (i : Nat) (h : tables_1[i]? = some w) (hg : goodWord w = true) : w ∈ tv_tb := tv_mem_tb (List.mem_of_getElem? h) hg
def tv_tyf (ci : Nat) : Nat → FieldType := match ci with
  | 0 => tv_ty0
  | 1 => tv_ty1
  | 2 => tv_ty2
  | 3 => tv_ty3
  | 4 => tv_ty4
  | 5 => tv_ty5
  | 6 => tv_ty6
  | 7 => tv_ty7
  | 8 => tv_ty8
  | 9 => tv_ty9
  | 10 => tv_ty10
  | 11 => tv_ty11
  | _ => tv_ty12
def tv_okc (ci : Nat) (r : vw_C) : Prop := ci < 13 ∧ tv_nf.getD ci 0 = r.2.2 ∧ (∀ w ∈ u_ws r.1 r.2.1 r.2.2, w ∈ tv_tb) ∧ (∀ a, a < r.2.2 → ∀ b, b < r.2.2 → a ≠ b → (r.2.1 a).2.1 ≠ (r.2.1 b).2.1) ∧ ∀ k, k < r.2.2 → parseFieldDescriptor (r.2.1 k).2.2.1 = some (tv_tyf ci k)
theorem tv_good_lay {C : String} {T : u_T} {N : Nat} (h : ∀ w ∈ u_ws C T N, w ∈ tables_1) : ∀ w ∈ u_ws C T N, w ∈ tv_tb := by
  intro w hw
  refine tv_mem_tb (h w hw) ?_
  obtain ⟨k, -, rfl⟩ := List.mem_map.mp hw
  unfold u_lay
  split <;> rfl
theorem tv_okc_all {ci : Nat} {r : vw_C} (h : tv_cl[ci]? = some r) : tv_okc ci r := by
  match ci, h with
  | 0, h => cases h; exact ⟨by decide, by decide, tv_good_lay tv_in0, tv_nm0, tv_tk0⟩
  | 1, h => cases h; exact ⟨by decide, by decide, tv_good_lay tv_in1, tv_nm1, tv_tk1⟩
  | 2, h => cases h; exact ⟨by decide, by decide, tv_good_lay tv_in2, tv_nm2, tv_tk2⟩
  | 3, h => cases h; exact ⟨by decide, by decide, tv_good_lay tv_in3, tv_nm3, tv_tk3⟩
  | 4, h => cases h; exact ⟨by decide, by decide, tv_good_lay tv_in4, tv_nm4, tv_tk4⟩
  | 5, h => cases h; exact ⟨by decide, by decide, tv_good_lay tv_in5, tv_nm5, tv_tk5⟩
  | 6, h => cases h; exact ⟨by decide, by decide, tv_good_lay tv_in6, tv_nm6, tv_tk6⟩
  | 7, h => cases h; exact ⟨by decide, by decide, tv_good_lay tv_in7, tv_nm7, tv_tk7⟩
  | 8, h => cases h; exact ⟨by decide, by decide, tv_good_lay tv_in8, tv_nm8, tv_tk8⟩
  | 9, h => cases h; exact ⟨by decide, by decide, tv_good_lay tv_in9, tv_nm9, tv_tk9⟩
  | 10, h => cases h; exact ⟨by decide, by decide, tv_good_lay tv_in10, tv_nm10, tv_tk10⟩
  | 11, h => cases h; exact ⟨by decide, by decide, tv_good_lay tv_in11, tv_nm11, tv_tk11⟩
  | 12, h => cases h; exact ⟨by decide, by decide, tv_good_lay tv_in12, tv_nm12, tv_tk12⟩
  | _ + 13, h => simp [tv_cl] at h
theorem tv_nar0 : narrow .boolean (.int 0) = .int 0 := by decide
theorem tv_nar1 : narrow .boolean (.int 1) = .int 1 := by decide
theorem tv_narZ {x : Int32} (h : x = 0 ∨ x = 1) : narrow .boolean (.int x) = .int x := by
  rcases h with h | h <;> subst h
  · exact tv_nar0
  · exact tv_nar1
section TVF
variable {β : Type} {κ : tv_Kt} {own : String} {cc : ByteArray} {nL d pc : Nat} {Q : β → tv_M → State → Prop} {ls ls' : List (Option Value)} {st : List Value} {M : tv_M} {o o1 o2 : Option (β × tv_M)} {x y : Int32} {u v : Int64}
theorem g_getI (hC : tv_Cx κ own cc nL d) {idx k : Nat} (ci j : Nat) {r : vw_C} (hk : (tv_lay[k]?).map Prod.fst = some ci) (hr : tv_cl[ci]? = some r) (hj : Nat.blt j r.2.2 = true) (hf : (tv_rf.getD ci []).getD j false = false) (hw : Cond.fieldLink own idx (r.2.1 j).1 (r.2.1 j).2.1 (r.2.1 j).2.2.1 ∈ tv_tb) (hd : decode cc pc = .ok (.getfield idx, 3)) (kk : tv_G κ nL Q (pc + 3) ls (.int (M.1 k j) :: st) M o) : tv_G κ nL Q pc ls (.ref (κ.b + k) :: st) M o := by
  obtain ⟨n, hn⟩ := tv_lay_of hk
  obtain ⟨h1, h2, h3, h4, h5⟩ := tv_okc_all hr
  have hj' : j < r.2.2 := by simpa using hj
  intro r0 M' ho H locs sl hP hS hl
  have he := tv_get (b := κ.b) (cA := κ.th.2.2.1) (I := M.1) (J := M.2) (P := tv_P0) (tv_lay_lt hn) hn
  rw [tv_E_ob h1, h2] at he
  exact va_get hC.1.1 hC.1.2.1 hC.1.2.2.2.2 h3 hC.1.2.2.2.1 hC.2.1 hP k he hr j hj' (hC.1.2.2.2.2 _ hw) (fun _ h => h) (tv_ob_i hj' hf) hd (kk r0 M' ho H locs sl hP hS hl)
theorem g_getP (hC : tv_Cx κ own cc nL d) {idx k : Nat} (ci j : Nat) {r : vw_C} {p : Option Nat} (hk : (tv_lay[k]?).map Prod.fst = some ci) (hr : tv_cl[ci]? = some r) (hj : Nat.blt j r.2.2 = true) (hf : (tv_rf.getD ci []).getD j false = true) (hw : Cond.fieldLink own idx (r.2.1 j).1 (r.2.1 j).2.1 (r.2.1 j).2.2.1 ∈ tv_tb) (hd : decode cc pc = .ok (.getfield idx, 3)) (hp : tv_P0 k j = p) (kk : tv_G κ nL Q (pc + 3) ls (tv_re κ.b p :: st) M o) : tv_G κ nL Q pc ls (.ref (κ.b + k) :: st) M o := by
  obtain ⟨n, hn⟩ := tv_lay_of hk
  obtain ⟨h1, h2, h3, h4, h5⟩ := tv_okc_all hr
  have hj' : j < r.2.2 := by simpa using hj
  subst hp
  intro r0 M' ho H locs sl hP hS hl
  have he := tv_get (b := κ.b) (cA := κ.th.2.2.1) (I := M.1) (J := M.2) (P := tv_P0) (tv_lay_lt hn) hn
  rw [tv_E_ob h1, h2] at he
  exact va_get hC.1.1 hC.1.2.1 hC.1.2.2.2.2 h3 hC.1.2.2.2.1 hC.2.1 hP k he hr j hj' (hC.1.2.2.2.2 _ hw) (fun _ h => h) (tv_ob_r hj' hf) hd (kk r0 M' ho H locs sl hP hS hl)
theorem g_putT (hC : tv_Cx κ own cc nL d) {idx k : Nat} (ci j : Nat) {r : vw_C} {ty : FieldType} (hk : (tv_lay[k]?).map Prod.fst = some ci) (hr : tv_cl[ci]? = some r) (hj : Nat.blt j r.2.2 = true) (hf : (tv_rf.getD ci []).getD j false = false) (hw : Cond.fieldLink own idx (r.2.1 j).1 (r.2.1 j).2.1 (r.2.1 j).2.2.1 ∈ tv_tb) (hfin : (r.2.1 j).2.2.2 = false) (hty : tv_tyf ci j = ty) (hnr : narrow ty (.int x) = .int x) (hft : fits ty (.int x) = true) (hd : decode cc pc = .ok (.putfield idx, 3)) (kk : tv_G κ nL Q (pc + 3) ls st (tv_w M k j x) o) : tv_G κ nL Q pc ls (.int x :: .ref (κ.b + k) :: st) M o := by
  obtain ⟨n, hn⟩ := tv_lay_of hk
  obtain ⟨h1, h2, h3, h4, h5⟩ := tv_okc_all hr
  have hj' : j < r.2.2 := by simpa using hj
  intro r0 M' ho H locs sl hP hS hl
  have he := tv_get (b := κ.b) (cA := κ.th.2.2.1) (I := M.1) (J := M.2) (P := tv_P0) (tv_lay_lt hn) hn
  rw [tv_E_ob h1, h2] at he
  refine va_put hC.1.1 hC.1.2.1 hC.1.2.2.2.2 h3 (tv_tyf ci) h5 h4 hC.1.2.2.2.1 hC.2.1 hP tv_D hS k he hr j hj' (hC.1.2.2.2.2 _ hw) (fun _ h => h) hfin (by rw [h5 j hj', hty]) hnr hft (by simp [tv_ob]; exact hj') hd (fun H1 locs1 hP1 hD1 hS1 => ?_)
  refine kk r0 M' ho H1 locs1 sl ?_ hS1 hl
  have e := tv_set (b := κ.b) (cA := κ.th.2.2.1) (n := tv_n) (I := M.1) (J := M.2) (P := tv_P0) (I' := (tv_w M k j x).1) (J' := (tv_w M k j x).2) (P' := tv_P0) (E := .inr (ci, (tv_ob κ.b ci r.2.2 M.1 tv_P0 k).set j (.int x))) hn (by rw [tv_E_ob h1, h2, tv_ob_set (I := M.1) (x := x) hj' hf (fun i hi => by simp [tv_w, hi]) (by simp [tv_w])]) tv_w_ne
  rw [e] at hP1
  exact hP1
theorem g_putI (hC : tv_Cx κ own cc nL d) {idx k : Nat} (ci j : Nat) {r : vw_C} (hk : (tv_lay[k]?).map Prod.fst = some ci) (hr : tv_cl[ci]? = some r) (hj : Nat.blt j r.2.2 = true) (hf : (tv_rf.getD ci []).getD j false = false) (hw : Cond.fieldLink own idx (r.2.1 j).1 (r.2.1 j).2.1 (r.2.1 j).2.2.1 ∈ tv_tb) (hfin : (r.2.1 j).2.2.2 = false) (hty : tv_tyf ci j = .int) (hd : decode cc pc = .ok (.putfield idx, 3)) (kk : tv_G κ nL Q (pc + 3) ls st (tv_w M k j x) o) : tv_G κ nL Q pc ls (.int x :: .ref (κ.b + k) :: st) M o := g_putT hC ci j hk hr hj hf hw hfin hty rfl rfl hd kk
theorem g_putZ (hC : tv_Cx κ own cc nL d) {idx k : Nat} (ci j : Nat) {r : vw_C} (hk : (tv_lay[k]?).map Prod.fst = some ci) (hr : tv_cl[ci]? = some r) (hj : Nat.blt j r.2.2 = true) (hf : (tv_rf.getD ci []).getD j false = false) (hw : Cond.fieldLink own idx (r.2.1 j).1 (r.2.1 j).2.1 (r.2.1 j).2.2.1 ∈ tv_tb) (hfin : (r.2.1 j).2.2.2 = false) (hty : tv_tyf ci j = .boolean) (hx : x = 0 ∨ x = 1) (hd : decode cc pc = .ok (.putfield idx, 3)) (kk : tv_G κ nL Q (pc + 3) ls st (tv_w M k j x) o) : tv_G κ nL Q pc ls (.int x :: .ref (κ.b + k) :: st) M o := g_putT hC ci j hk hr hj hf hw hfin hty (tv_narZ hx) (by rcases hx with h | h <;> subst h <;> decide) hd kk
theorem g_iald (hC : tv_Cx κ own cc nL d) {k n : Nat} {i : Int32} {f : Int32 → Option (β × tv_M)} (hk : tv_lay[k]? = some (20, n)) (hd : decode cc pc = .ok (.iaload, 1)) (kk : tv_inb i n = true → tv_G κ nL Q (pc + 1) ls (.int (M.1 k i.toNatClampNeg) :: st) M (f (M.1 k i.toNatClampNeg))) : tv_G κ nL Q pc ls (.int i :: .ref (κ.b + k) :: st) M (tv_rd M k n i f) := by
  intro r0 M' ho H locs sl hP hS hl
  unfold tv_rd at ho
  by_cases hi : tv_inb i n = true
  · rw [if_pos hi] at ho
    have he := tv_get (b := κ.b) (cA := κ.th.2.2.1) (I := M.1) (J := M.2) (P := tv_P0) (tv_lay_lt hk) hk
    rw [tv_E_i] at he
    exact va_iald hC.1.1 hC.1.2.1 hC.2.1 hP k 0 he rfl (tv_inbP hi) hd (kk hi r0 M' ho H locs sl hP hS hl)
  · rw [if_neg hi] at ho
    cases ho
theorem g_bald (hC : tv_Cx κ own cc nL d) {k n : Nat} {i : Int32} {f : Int32 → Option (β × tv_M)} (hk : tv_lay[k]? = some (21, n)) (hd : decode cc pc = .ok (.baload, 1)) (kk : tv_inb i n = true → tv_G κ nL Q (pc + 1) ls (.int (M.1 k i.toNatClampNeg) :: st) M (f (M.1 k i.toNatClampNeg))) : tv_G κ nL Q pc ls (.int i :: .ref (κ.b + k) :: st) M (tv_rd M k n i f) := by
  intro r0 M' ho H locs sl hP hS hl
  unfold tv_rd at ho
  by_cases hi : tv_inb i n = true
  · rw [if_pos hi] at ho
    have he := tv_get (b := κ.b) (cA := κ.th.2.2.1) (I := M.1) (J := M.2) (P := tv_P0) (tv_lay_lt hk) hk
    rw [tv_E_b] at he
    exact va_bald hC.1.1 hC.1.2.1 hC.2.1 hP k 1 he rfl (tv_inbP hi) hd (kk hi r0 M' ho H locs sl hP hS hl)
  · rw [if_neg hi] at ho
    cases ho
theorem g_zald (hC : tv_Cx κ own cc nL d) {k n : Nat} {i : Int32} {f : Int32 → Option (β × tv_M)} (hk : tv_lay[k]? = some (22, n)) (hd : decode cc pc = .ok (.baload, 1)) (kk : tv_inb i n = true → tv_G κ nL Q (pc + 1) ls (.int (M.1 k i.toNatClampNeg) :: st) M (f (M.1 k i.toNatClampNeg))) : tv_G κ nL Q pc ls (.int i :: .ref (κ.b + k) :: st) M (tv_rd M k n i f) := by
  intro r0 M' ho H locs sl hP hS hl
  unfold tv_rd at ho
  by_cases hi : tv_inb i n = true
  · rw [if_pos hi] at ho
    have he := tv_get (b := κ.b) (cA := κ.th.2.2.1) (I := M.1) (J := M.2) (P := tv_P0) (tv_lay_lt hk) hk
    rw [tv_E_z] at he
    exact va_zald hC.1.1 hC.1.2.1 hC.2.1 hP k 2 he rfl (tv_inbP hi) hd (kk hi r0 M' ho H locs sl hP hS hl)
  · rw [if_neg hi] at ho
    cases ho
theorem g_lald (hC : tv_Cx κ own cc nL d) {k n : Nat} {i : Int32} {f : Int64 → Option (β × tv_M)} (hk : tv_lay[k]? = some (23, n)) (hd : decode cc pc = .ok (.laload, 1)) (kk : tv_inb i n = true → tv_G κ nL Q (pc + 1) ls (.long (M.2 k i.toNatClampNeg) :: st) M (f (M.2 k i.toNatClampNeg))) : tv_G κ nL Q pc ls (.int i :: .ref (κ.b + k) :: st) M (tv_rdl M k n i f) := by
  intro r0 M' ho H locs sl hP hS hl
  unfold tv_rdl at ho
  by_cases hi : tv_inb i n = true
  · rw [if_pos hi] at ho
    have he := tv_get (b := κ.b) (cA := κ.th.2.2.1) (I := M.1) (J := M.2) (P := tv_P0) (tv_lay_lt hk) hk
    rw [tv_E_l] at he
    exact va_lald hC.1.1 hC.1.2.1 hC.2.1 hP k 3 he rfl (tv_inbP hi) hd (kk hi r0 M' ho H locs sl hP hS hl)
  · rw [if_neg hi] at ho
    cases ho
theorem g_iast (hC : tv_Cx κ own cc nL d) {k n : Nat} {i : Int32} {f : tv_M → Option (β × tv_M)} (hk : tv_lay[k]? = some (20, n)) (hd : decode cc pc = .ok (.iastore, 1)) (kk : tv_inb i n = true → tv_G κ nL Q (pc + 1) ls st (tv_w M k i.toNatClampNeg x) (f (tv_w M k i.toNatClampNeg x))) : tv_G κ nL Q pc ls (.int x :: .int i :: .ref (κ.b + k) :: st) M (tv_wr M k n i x f) := by
  intro r0 M' ho H locs sl hP hS hl
  unfold tv_wr at ho
  by_cases hi : tv_inb i n = true
  · rw [if_pos hi] at ho
    have he := tv_get (b := κ.b) (cA := κ.th.2.2.1) (I := M.1) (J := M.2) (P := tv_P0) (tv_lay_lt hk) hk
    rw [tv_E_i] at he
    refine va_iast hC.1.1 hC.1.2.1 hC.2.1 hP tv_D hS k 0 he rfl (tv_inbP hi) hd (fun H1 locs1 hP1 hD1 hS1 => ?_)
    refine kk hi r0 M' ho H1 locs1 sl ?_ hS1 hl
    rw [tv_set (I' := (tv_w M k i.toNatClampNeg x).1) (J' := (tv_w M k i.toNatClampNeg x).2) (P' := tv_P0) hk (by rw [tv_E_i, tv_w_row]) tv_w_ne] at hP1
    exact hP1
  · rw [if_neg hi] at ho
    cases ho
theorem g_bast (hC : tv_Cx κ own cc nL d) {k n : Nat} {i : Int32} {f : tv_M → Option (β × tv_M)} (hk : tv_lay[k]? = some (21, n)) (hd : decode cc pc = .ok (.bastore, 1)) (kk : tv_inb i n = true → tv_G κ nL Q (pc + 1) ls st (tv_w M k i.toNatClampNeg (vp_nar .byte x)) (f (tv_w M k i.toNatClampNeg (vp_nar .byte x)))) : tv_G κ nL Q pc ls (.int x :: .int i :: .ref (κ.b + k) :: st) M (tv_wr M k n i (vp_nar .byte x) f) := by
  intro r0 M' ho H locs sl hP hS hl
  unfold tv_wr at ho
  by_cases hi : tv_inb i n = true
  · rw [if_pos hi] at ho
    have he := tv_get (b := κ.b) (cA := κ.th.2.2.1) (I := M.1) (J := M.2) (P := tv_P0) (tv_lay_lt hk) hk
    rw [tv_E_b] at he
    refine va_bast hC.1.1 hC.1.2.1 hC.2.1 hP tv_D hS k 1 he rfl (tv_inbP hi) hd (fun H1 locs1 hP1 hD1 hS1 => ?_)
    refine kk hi r0 M' ho H1 locs1 sl ?_ hS1 hl
    rw [tv_set (I' := (tv_w M k i.toNatClampNeg (vp_nar .byte x)).1) (J' := (tv_w M k i.toNatClampNeg (vp_nar .byte x)).2) (P' := tv_P0) hk (by rw [tv_E_b, tv_w_row]) tv_w_ne] at hP1
    exact hP1
  · rw [if_neg hi] at ho
    cases ho
theorem g_zast (hC : tv_Cx κ own cc nL d) {k n : Nat} {i : Int32} {f : tv_M → Option (β × tv_M)} (hk : tv_lay[k]? = some (22, n)) (hd : decode cc pc = .ok (.bastore, 1)) (kk : tv_inb i n = true → tv_G κ nL Q (pc + 1) ls st (tv_w M k i.toNatClampNeg (vp_nar .boolean x)) (f (tv_w M k i.toNatClampNeg (vp_nar .boolean x)))) : tv_G κ nL Q pc ls (.int x :: .int i :: .ref (κ.b + k) :: st) M (tv_wr M k n i (vp_nar .boolean x) f) := by
  intro r0 M' ho H locs sl hP hS hl
  unfold tv_wr at ho
  by_cases hi : tv_inb i n = true
  · rw [if_pos hi] at ho
    have he := tv_get (b := κ.b) (cA := κ.th.2.2.1) (I := M.1) (J := M.2) (P := tv_P0) (tv_lay_lt hk) hk
    rw [tv_E_z] at he
    refine va_zast hC.1.1 hC.1.2.1 hC.2.1 hP tv_D hS k 2 he rfl (tv_inbP hi) hd (fun H1 locs1 hP1 hD1 hS1 => ?_)
    refine kk hi r0 M' ho H1 locs1 sl ?_ hS1 hl
    rw [tv_set (I' := (tv_w M k i.toNatClampNeg (vp_nar .boolean x)).1) (J' := (tv_w M k i.toNatClampNeg (vp_nar .boolean x)).2) (P' := tv_P0) hk (by rw [tv_E_z, tv_w_row]) tv_w_ne] at hP1
    exact hP1
  · rw [if_neg hi] at ho
    cases ho
theorem g_last (hC : tv_Cx κ own cc nL d) {k n : Nat} {i : Int32} {f : tv_M → Option (β × tv_M)} (hk : tv_lay[k]? = some (23, n)) (hd : decode cc pc = .ok (.lastore, 1)) (kk : tv_inb i n = true → tv_G κ nL Q (pc + 1) ls st (tv_wl M k i.toNatClampNeg u) (f (tv_wl M k i.toNatClampNeg u))) : tv_G κ nL Q pc ls (.long u :: .int i :: .ref (κ.b + k) :: st) M (tv_wrl M k n i u f) := by
  intro r0 M' ho H locs sl hP hS hl
  unfold tv_wrl at ho
  by_cases hi : tv_inb i n = true
  · rw [if_pos hi] at ho
    have he := tv_get (b := κ.b) (cA := κ.th.2.2.1) (I := M.1) (J := M.2) (P := tv_P0) (tv_lay_lt hk) hk
    rw [tv_E_l] at he
    refine va_last hC.1.1 hC.1.2.1 hC.2.1 hP tv_D hS k 3 he rfl (tv_inbP hi) hd (fun H1 locs1 hP1 hD1 hS1 => ?_)
    refine kk hi r0 M' ho H1 locs1 sl ?_ hS1 hl
    rw [tv_set (I' := (tv_wl M k i.toNatClampNeg u).1) (J' := (tv_wl M k i.toNatClampNeg u).2) (P' := tv_P0) hk (by rw [tv_E_l, tv_wl_row]) tv_wl_ne] at hP1
    exact hP1
  · rw [if_neg hi] at ho
    cases ho
theorem tv_tys_q {cA : Nat → ClassId} {t : Nat} (ht : t < 4) : ∃ ty : FieldType, (tv_tys cA)[4 + t]? = some (cA (4 + t), ty) ∧ ty.isReference = true := by
  match t, ht with
  | 0, _ => exact ⟨_, rfl, rfl⟩
  | 1, _ => exact ⟨_, rfl, rfl⟩
  | 2, _ => exact ⟨_, rfl, rfl⟩
  | 3, _ => exact ⟨_, rfl, rfl⟩
theorem g_aald (hC : tv_Cx κ own cc nL d) {k n : Nat} (t : Nat) {i : Int32} {f : Nat → Option (β × tv_M)} (hk : tv_lay[k]? = some (24 + t, n)) (ht : Nat.blt t 4 = true) (hd : decode cc pc = .ok (.aaload, 1)) (kk : ∀ a : Nat, tv_inb i n = true → tv_P0 k i.toNatClampNeg = some a → tv_G κ nL Q (pc + 1) ls (.ref (κ.b + a) :: st) M (f a)) : tv_G κ nL Q pc ls (.int i :: .ref (κ.b + k) :: st) M (tv_ap k n i f) := by
  intro r0 M' ho H locs sl hP hS hl
  unfold tv_ap at ho
  by_cases hi : tv_inb i n = true
  · rw [if_pos hi] at ho
    cases hq : tv_P0 k i.toNatClampNeg with
    | none => rw [hq] at ho; cases ho
    | some a =>
      rw [hq] at ho
      have he := tv_get (b := κ.b) (cA := κ.th.2.2.1) (I := M.1) (J := M.2) (P := tv_P0) (tv_lay_lt hk) hk
      rw [tv_E_q] at he
      obtain ⟨ty, ht1, ht2⟩ := tv_tys_q (cA := κ.th.2.2.1) (t := t) (by simpa using ht)
      have hin := tv_inbP hi
      have hlt : i.toNatClampNeg < n := Nat.not_le.mp fun q => hin (Or.inr q)
      have w := kk a hi hq r0 M' ho H locs sl hP hS hl
      exact W.aald (v := .ref (κ.b + a)) (ty := ty) hC.1.1 hC.1.2.1 (hP k _ he) ((hC.2.1.2 (4 + t) _ ht1).1 n (fun j => va_rf ((tv_P0 k j).map (fun x => κ.b + x)))) ht2 (fun q => by cases q) (by show ¬ (i < 0 ∨ (arrV _ _ _).slots.size ≤ _); rw [arrV_size]; exact hin) (by show (arrV _ _ _).slots[_]? = _; rw [arrV_read _ _ hlt]; show some (va_rf (Option.map _ (tv_P0 k i.toNatClampNeg))) = _; rw [hq]; rfl) rfl rfl hd w
  · rw [if_neg hi] at ho
    cases ho
theorem g_alen (hC : tv_Cx κ own cc nL d) {k n : Nat} (t : Nat) (hk : tv_lay[k]? = some (t, n)) (ht : t = 20 ∨ t = 27) (hd : decode cc pc = .ok (.arraylength, 1)) (hx : Int32.ofNat n = x) (kk : tv_G κ nL Q (pc + 1) ls (.int x :: st) M o) : tv_G κ nL Q pc ls (.ref (κ.b + k) :: st) M o := by
  subst hx
  intro r0 M' ho H locs sl hP hS hl
  have he := tv_get (b := κ.b) (cA := κ.th.2.2.1) (I := M.1) (J := M.2) (P := tv_P0) (tv_lay_lt hk) hk
  rcases ht with rfl | rfl
  · rw [tv_E_i] at he
    exact va_alen hC.1.1 hC.1.2.1 hC.2.1 hP k 0 he rfl rfl hd (kk r0 M' ho H locs sl hP hS hl)
  · rw [show (27 : Nat) = 24 + 3 from rfl, tv_E_q] at he
    exact va_alen hC.1.1 hC.1.2.1 hC.2.1 hP k 7 he rfl rfl hd (kk r0 M' ho H locs sl hP hS hl)
/-- a static table of Bodies: its reference, a place of it, its length -/
theorem g_gets (hC : tv_Cx κ own cc nL d) {idx : Nat} (i : Nat) {q : String × List Int32} (hq : tv_stat[i]? = some q) (hw : Cond.fieldLink own idx "TiedViews$Bodies" q.1 "[I" ∈ tv_tb) (hd : decode cc pc = .ok (.getstatic idx, 3)) (kk : tv_G κ nL Q (pc + 3) ls (.ref (κ.th.2.2.2.2.2 i) :: st) M o) : tv_G κ nL Q pc ls st M o := fun r0 M' ho H locs sl hP hS hl => va_gets hC.1.1 hC.1.2.1 (hC.2.2.1.2.2.2.2.1 i q hq).1 hS hC.1.2.2.2.1 (hC.1.2.2.2.2 _ hw) (fun _ h => h) hd (kk r0 M' ho H locs sl hP hS hl)
def tv_rds {α : Type} (q : List Int32) (i : Int32) (f : Int32 → Option α) : Option α := if tv_inb i q.length then f (q.getD i.toNatClampNeg 0) else none
theorem g_sald (hC : tv_Cx κ own cc nL d) (a : Nat) {q : String × List Int32} {i : Int32} {f : Int32 → Option (β × tv_M)} (hq : tv_stat[a]? = some q) (hd : decode cc pc = .ok (.iaload, 1)) (kk : tv_inb i q.2.length = true → tv_G κ nL Q (pc + 1) ls (.int (q.2.getD i.toNatClampNeg 0) :: st) M (f (q.2.getD i.toNatClampNeg 0))) : tv_G κ nL Q pc ls (.int i :: .ref (κ.th.2.2.2.2.2 a) :: st) M (tv_rds q.2 i f) := by
  intro r0 M' ho H locs sl hP hS hl
  unfold tv_rds at ho
  by_cases hi : tv_inb i q.2.length = true
  · rw [if_pos hi] at ho
    exact va_ti hC.1.1 hC.1.2.1 (hC.2.2.1.2.2.2.2.1 a q hq).2 hS (tv_inbP hi) rfl hd (kk hi r0 M' ho H locs sl hP hS hl)
  · rw [if_neg hi] at ho
    cases ho
theorem g_slen (hC : tv_Cx κ own cc nL d) (a : Nat) {q : String × List Int32} (hq : tv_stat[a]? = some q) (hd : decode cc pc = .ok (.arraylength, 1)) (hx : Int32.ofNat q.2.length = x) (kk : tv_G κ nL Q (pc + 1) ls (.int x :: st) M o) : tv_G κ nL Q pc ls (.ref (κ.th.2.2.2.2.2 a) :: st) M o := fun r0 M' ho H locs sl hP hS hl => va_tlen hC.1.1 hC.1.2.1 (hC.2.2.1.2.2.2.2.1 a q hq).2 hS hx hd (kk r0 M' ho H locs sl hP hS hl)
end TVF
