section TBN
variable {β β' : Type} {κ : tv_Kt} {own : String} {cc : ByteArray} {nL d pc : Nat} {Q : β → tb_M → State → Prop} {ls ls' : List (Option Value)} {st stk : List Value} {M : tb_M} {o o1 o2 : Option (β × tb_M)} {x y : Int32} {u v : Int64}
theorem tb_asm {p : Program} {l : Launch} {e : Env} {R : Room} {s : State} {m : MethodId} {args : Array Value} {below : List Frame} {meth : Method} {c : Code} {H : Heap} {locs : List Loc} {cells slots : Nat} {Q : State → Prop} {g : JFrame} (h : ∀ T : State, T.heap = H → Stand p l e R s m args below meth c T locs cells slots → W p l e R s m args below meth c H locs cells slots Q g) : W p l e R s m args below meth c H locs cells slots Q g := fun T hT X => h T hT X T hT X
theorem tb_newV {H H1 : Heap} {ci n0 : Nat} {r : vw_C} {kC : Class} {w : Array Value} (hts : ∀ w0 ∈ tv_tb, w0.before w κ.s = true) (hK : va_K κ.th.2.1 tv_cl (tv_tys κ.th.2.2.1) κ.s) (hV : tb_V κ.th M H) (hr : tv_cl[ci]? = some r) (hn : tv_lay[M.n]? = some (ci, n0)) (hkC : κ.s.vm.classes[κ.th.2.1.1 ci]? = some kC) (e1 : H1[κ.b + M.n]? = some (blank (κ.th.2.1.1 ci) kC)) (o1 : ∀ k, k < H.size → H1[k]? = H[k]?) : tb_V κ.th (tb_up M) H1 := by
  obtain ⟨h1, h2, h3, h4, h5⟩ := tv_okc_all hr
  refine tb_grow hV hn o1 ?_
  show va_at _ _ (κ.b + M.n, tv_E κ.b κ.th.2.2.1 M.1 M.2.1 M.2.2.1 M.n (ci, n0)) H1
  rw [tv_E_ob h1, h2]
  refine ⟨_, hr, (u_born (tv_tyf ci) hts h3 (hK.1 ci _ hr) hkC e1 h5).to (fun j hj => ?_)⟩
  have hj2 : j < tv_nf.getD ci 0 := by rw [h2]; exact hj
  rw [tb_dfl ci h1 j hj2]
  obtain ⟨g1, g2, g3⟩ := hV.2 M.n (Nat.le_refl _)
  show _ = (tv_ob κ.b ci r.2.2 M.1 M.2.2.1 M.n).getD j .null
  rw [show (tv_ob κ.b ci r.2.2 M.1 M.2.2.1 M.n).getD j .null = ((tv_ob κ.b ci r.2.2 M.1 M.2.2.1 M.n)[j]?).getD .null from List.getD_eq_getElem?_getD]
  by_cases hrf : (tv_rf.getD ci []).getD j false = true
  · rw [tv_ob_r hj hrf, hrf, g3]; rfl
  · have hrf : (tv_rf.getD ci []).getD j false = false := by simpa using hrf
    rw [tv_ob_i hj hrf, hrf, g1]; rfl
theorem tb_num {a b c e f g h i n : Nat} (h1 : b ≤ a) (h2 : a < c) (h3 : c - b ≤ e) (h4 : f ≤ g) (h5 : h = g + n) (h6 : h ≤ i) : a - b + 1 ≤ e ∧ a - b + 1 = a + 1 - b ∧ g - f + n = h - f ∧ (i - f ≤ e → g - f + n ≤ e) := by omega
theorem b_new (hC : tb_Cx κ own cc nL d) {idx : Nat} (ci : Nat) {r : vw_C} (hr : tv_cl[ci]? = some r) (hw : Cond.classLink own idx r.1 ∈ tv_tb ∧ Cond.instantiable r.1 r.2.2 ∈ tv_tb ∧ Cond.initialized r.1 ∈ tv_tb) (hlay : (tv_lay[M.n]?).map Prod.fst = some ci) (hne : M.n < κ.sz) (hd : decode cc pc = .ok (.new idx, 3)) (kk : tb_G κ nL Q (pc + 3) ls (.ref (κ.b + M.n) :: st) (tb_up M) o) : tb_G κ nL Q pc ls st M o := by
  obtain ⟨n0, hn⟩ := tv_lay_of hlay
  obtain ⟨h1, h2, -⟩ := tv_okc_all hr
  intro r0 M' ho H locs sl hP hS hl
  refine tb_asm (fun T hT X => ?_)
  have hsz := tb_size hC hP hS hT X
  have hone : tb_one (ci, n0) = r.2.2 := by unfold tb_one; rw [if_pos h1, h2]
  have hsucc := tb_sz_succ hn
  rw [hone] at hsucc
  have hm1 := tb_sz_mono hP.2
  have hm2 := tb_sz_mono (show M.n + 1 ≤ κ.sz from hne)
  have n1 := tb_num (e := κ.2.2.2.1.cells) hP.2 hne hC.2.2.2.2.2.1 hm1 hsucc hm2
  have n2 := (tb_num (a := κ.ce) (b := κ.ce) (c := κ.ce + 1) (e := κ.2.2.2.1.slots + 1) (Nat.le_refl _) (Nat.lt_succ_self _) (by omega) hm1 hsucc hm2)
  have c2 := hC.2.2.2.2.2.2.1
  have n3 : tb_sz M.n - tb_sz κ.ce + r.2.2 ≤ κ.2.2.2.1.slots := Nat.le_trans (by rw [n1.2.2.1]; exact Nat.sub_le_sub_right hm2 _) c2
  have hKn := hC.2.1.1 ci _ hr
  refine W.newcK hC.1.1 hC.1.2.1 hC.1.2.2.2.1 (hC.1.2.2.2.2 _ hw.1) (hC.1.2.2.2.2 _ hw.2.1) (hC.1.2.2.2.2 _ hw.2.2) rfl hd n1.1 n3 hKn.2.1 hsz (fun H1 kC hkC e1 z1 o1 => ?_)
  have hV1 : tb_V κ.th (tb_up M) H1 := tb_newV hC.1.2.2.2.2 hC.2.1 hP.1 hr hn hkC e1 (fun k hk => o1 k (by rw [← hsz]; exact hk))
  have hs1 : va_S (tv_A κ.b) κ.s.heap H1 locs := ⟨by have := hS.1; omega, fun q g1 g2 => (o1 q (by have := hS.1; omega)).trans (hS.2.1 q g1 g2), hS.2.2⟩
  exact W.cs n1.2.1 n1.2.2.1 (kk r0 M' ho H1 locs sl ⟨hV1, Nat.le_succ_of_le hP.2⟩ hs1 hl)
/-- the numbers of a new cell -/
theorem tb_nums (hC : tb_Cx κ own cc nL d) {q : Nat × Nat} {N : Nat} (hn : tv_lay[M.n]? = some q) (hone : tb_one q = N) (hce : κ.ce ≤ M.n) (hne : M.n < κ.sz) : M.n - κ.ce + 1 ≤ κ.2.2.2.1.cells ∧ tb_sz M.n - tb_sz κ.ce + N ≤ κ.2.2.2.1.slots ∧ M.n - κ.ce + 1 = M.n + 1 - κ.ce ∧ tb_sz M.n - tb_sz κ.ce + N = tb_sz (M.n + 1) - tb_sz κ.ce := by
  have hsucc := tb_sz_succ hn
  rw [hone] at hsucc
  have hm1 := tb_sz_mono hce
  have hm2 := tb_sz_mono (show M.n + 1 ≤ κ.sz from hne)
  have n1 := tb_num (e := κ.2.2.2.1.cells) hce hne hC.2.2.2.2.2.1 hm1 hsucc hm2
  exact ⟨n1.1, Nat.le_trans (by rw [n1.2.2.1]; exact Nat.sub_le_sub_right hm2 _) hC.2.2.2.2.2.2.1, n1.2.1, n1.2.2.1⟩
/-- a new array of ints, bytes, booleans or longs: t is 0, 1, 2 or 3 -/
theorem b_newa (hC : tb_Cx κ own cc nL d) (t : Nat) {N : Nat} {atype : ArrayType} {ty : FieldType} (hty : newarray.typeOf atype = ty) (ht : (tv_tys κ.th.2.2.1)[t]? = some (κ.th.2.2.1 t, ty)) (hE : ∀ k, tv_E κ.b κ.th.2.2.1 M.1 M.2.1 M.2.2.1 k (20 + t, N) = .inl (κ.th.2.2.1 t, N, .inl (M.1 k)) ∧ defaultValue ty = .int 0 ∨ tv_E κ.b κ.th.2.2.1 M.1 M.2.1 M.2.2.1 k (20 + t, N) = .inl (κ.th.2.2.1 t, N, .inr (.inl (M.2.1 k))) ∧ defaultValue ty = .long 0) (hra : va_RA κ.s (κ.th.2.2.1 t) ty → κ.s.vm.findClass ("[" ++ ty.toString) = some (κ.th.2.2.1 t)) (hw : Cond.arrayClass (newarray.typeOf atype) ∈ tv_tb) (hlay : tv_lay[M.n]? = some (20 + t, N)) (hx : ¬ x < 0) (hxN : x.toNatClampNeg = N) (hby : N * componentBytes (newarray.typeOf atype) ≤ 536870912) (hne : M.n < κ.sz) (hd : decode cc pc = .ok (.newarray atype, 2)) (kk : tb_G κ nL Q (pc + 2) ls (.ref (κ.b + M.n) :: st) (tb_up M) o) : tb_G κ nL Q pc ls (.int x :: st) M o := by
  intro r0 M' ho H locs sl hP hS hl
  refine tb_asm (fun T hT X => ?_)
  have hsz := tb_size hC hP hS hT X
  have hone : tb_one (20 + t, N) = N := by unfold tb_one; rw [if_neg (by simp; omega)]
  have n1 := tb_nums hC hlay hone hP.2 hne
  refine va_newaK hC.1.1 hC.1.2.1 (hC.1.2.2.2.2 _ hw) rfl hd rfl hx hxN hby n1.1 n1.2.1 hsz (fun H1 cA e1 z1 o1 hAr hNm => ?_)
  have hcA : cA = κ.th.2.2.1 t := by
    have := hra (hC.2.1.2 t _ ht).2
    rw [hty] at hNm
    exact Option.some.inj (hNm.symm.trans this)
  subst hcA
  obtain ⟨g1, g2, g3⟩ := hP.1.2 M.n (Nat.le_refl _)
  have hV1 : tb_V κ.th (tb_up M) H1 := tb_grow hP.1 hlay (fun k hk => o1 k (by rw [← hsz]; exact hk)) (by
    show va_at _ _ (κ.b + M.n, tv_E κ.b κ.th.2.2.1 M.1 M.2.1 M.2.2.1 M.n (20 + t, N)) H1
    rw [hty] at e1
    rcases hE M.n with ⟨h1, h2⟩ | ⟨h1, h2⟩
    · rw [h1]
      show H1[κ.b + M.n]? = some (vp_cell _ _)
      rw [e1, vp_cell_i, g1, h2]
    · rw [h1]
      show H1[κ.b + M.n]? = some (vp_cell _ _)
      rw [e1, vp_cell_l, g2, h2])
  have hs1 : va_S (tv_A κ.b) κ.s.heap H1 locs := ⟨by have := hS.1; omega, fun q g1 g2 => (o1 q (by have := hS.1; omega)).trans (hS.2.1 q g1 g2), hS.2.2⟩
  exact W.cs n1.2.2.1 n1.2.2.2 (kk r0 M' ho H1 locs sl ⟨hV1, Nat.le_succ_of_le hP.2⟩ hs1 hl)
/-- a new array of objects: t is 0, 1 or 2 -/
theorem b_newq (hC : tb_Cx κ own cc nL d) {idx : Nat} (t : Nat) {N : Nat} {C : String} (ht : (tv_tys κ.th.2.2.1)[4 + t]? = some (κ.th.2.2.1 (4 + t), .object C)) (hw : Cond.classLink own idx C ∈ tv_tb) (hov : va_AO C κ.s) (hlay : tv_lay[M.n]? = some (24 + t, N)) (hx : ¬ x < 0) (hxN : x.toNatClampNeg = N) (hby : N * 4 ≤ 536870912) (hne : M.n < κ.sz) (hd : decode cc pc = .ok (.anewarray idx, 3)) (kk : tb_G κ nL Q (pc + 3) ls (.ref (κ.b + M.n) :: st) (tb_up M) o) : tb_G κ nL Q pc ls (.int x :: st) M o := by
  intro r0 M' ho H locs sl hP hS hl
  refine tb_asm (fun T hT X => ?_)
  have hsz := tb_size hC hP hS hT X
  subst hxN
  have hone : tb_one (24 + t, x.toNatClampNeg) = x.toNatClampNeg := by unfold tb_one; rw [if_neg (by simp; omega)]
  have n1 := tb_nums hC hlay hone hP.2 hne
  refine W.anew hC.1.1 hC.1.2.1 hC.1.2.2.2.1 (hC.1.2.2.2.2 _ hw) (va_AO.use hov) rfl hd rfl hx hby n1.1 n1.2.1 (fun cA kA comp f1 f2 f3 f4 => ?_)
  have hcA : cA = κ.th.2.2.1 (4 + t) := by
    obtain ⟨kA2, comp2, -, -, -, h4⟩ := (hC.2.1.2 (4 + t) _ ht).2
    exact Option.some.inj (f1.symm.trans h4)
  subst hcA
  rw [hsz]
  generalize hH1 : H.push ({ cls := κ.th.2.2.1 (4 + t), slots := Array.replicate x.toNatClampNeg .null, vm := .none } : Cell) = H1
  have z1 : H1.size = H.size + 1 := by rw [← hH1, Array.size_push]
  have e1 : H1[H.size]? = some (arrV (κ.th.2.2.1 (4 + t)) x.toNatClampNeg (fun _ => .null)) := by rw [← hH1, Array.getElem?_push_size, ← arrV_new]
  have o1 : ∀ q : Nat, q < H.size → H1[q]? = H[q]? := fun q hq => by rw [← hH1, Array.getElem?_push, if_neg (Nat.ne_of_lt hq)]
  obtain ⟨g1, g2, g3⟩ := hP.1.2 M.n (Nat.le_refl _)
  have hV1 : tb_V κ.th (tb_up M) H1 := tb_grow hP.1 hlay o1 (by
    show va_at _ _ (κ.b + M.n, tv_E κ.b κ.th.2.2.1 M.1 M.2.1 M.2.2.1 M.n (24 + t, x.toNatClampNeg)) H1
    rw [tv_E_q]
    show H1[κ.b + M.n]? = some (vp_cell _ _)
    rw [← hsz, e1, vp_cell_q, g3]
    rfl)
  have hs1 : va_S (tv_A κ.b) κ.s.heap H1 locs := ⟨by have := hS.1; omega, fun q g1 g2 => (o1 q (by have := hS.1; omega)).trans (hS.2.1 q g1 g2), hS.2.2⟩
  exact W.cs n1.2.2.1 n1.2.2.2 (kk r0 M' ho H1 locs sl ⟨hV1, Nat.le_succ_of_le hP.2⟩ hs1 hl)
/-- an object into an array of objects -/
theorem b_ast (hC : tb_Cx κ own cc nL d) {k n p : Nat} (t ci : Nat) {r : vw_C} (hr : tv_cl[ci]? = some r) (ht : (tv_tys κ.th.2.2.1)[4 + t]? = some (κ.th.2.2.1 (4 + t), .object r.1)) (hk : k < M.n ∧ tv_lay[k]? = some (24 + t, n)) (hp : tb_ok M p ci) (hi : tv_inb x n = true) (hd : decode cc pc = .ok (.aastore, 1)) (kk : tb_G κ nL Q (pc + 1) ls st (tb_wP M k x.toNatClampNeg p) o) : tb_G κ nL Q pc ls (.ref (κ.b + p) :: .int x :: .ref (κ.b + k) :: st) M o := by
  intro r0 M' ho H locs sl hP hS hl
  have he := tv_get (b := κ.b) (cA := κ.th.2.2.1) (I := M.1) (J := M.2.1) (P := M.2.2.1) hk.1 hk.2
  rw [tv_E_q] at he
  refine va_astq hC.1.1 hC.1.2.1 hC.2.1 hP.1.1 tv_D hS k (4 + t) p ci he ht (tb_he hp hr) hr (tv_inbP hi) hd (fun H1 locs1 hP1 hD1 hS1 => ?_)
  refine kk r0 M' ho H1 locs1 sl ⟨⟨?_, tb_fresh_wP hk.1 hP.1.2⟩, hP.2⟩ hS1 hl
  rw [tv_set (I' := M.1) (J' := M.2.1) (P' := (tb_wP M k x.toNatClampNeg p).2.2.1) hk.2 (by
    rw [tv_E_q]
    congr 7
    funext j
    by_cases hj : j = x.toNatClampNeg
    · subst hj; simp [tb_wP, va_up]
    · simp [tb_wP, va_up, hj]) (fun a ha => ⟨rfl, rfl, funext fun i => by simp [tb_wP, ha]⟩)] at hP1
  exact hP1
/-- an int into an array of ints -/
theorem b_iast (hC : tb_Cx κ own cc nL d) {k n : Nat} {i : Int32} (hk : k < M.n ∧ tv_lay[k]? = some (20, n)) (hi : tv_inb i n = true) (hd : decode cc pc = .ok (.iastore, 1)) (kk : tb_G κ nL Q (pc + 1) ls st (tb_wI M k i.toNatClampNeg x) o) : tb_G κ nL Q pc ls (.int x :: .int i :: .ref (κ.b + k) :: st) M o := by
  intro r0 M' ho H locs sl hP hS hl
  have he := tv_get (b := κ.b) (cA := κ.th.2.2.1) (I := M.1) (J := M.2.1) (P := M.2.2.1) hk.1 hk.2
  rw [tv_E_i] at he
  refine va_iast hC.1.1 hC.1.2.1 hC.2.1 hP.1.1 tv_D hS k 0 he rfl (tv_inbP hi) hd (fun H1 locs1 hP1 hD1 hS1 => ?_)
  refine kk r0 M' ho H1 locs1 sl ⟨⟨?_, tb_fresh_wI hk.1 hP.1.2⟩, hP.2⟩ hS1 hl
  rw [tv_set (I' := (tb_wI M k i.toNatClampNeg x).1) (J' := M.2.1) (P' := M.2.2.1) hk.2 (by
    rw [tv_E_i]
    congr 4
    funext j
    by_cases hj : j = i.toNatClampNeg
    · subst hj; simp [tb_wI, upd]
    · simp [tb_wI, upd, hj]) (fun a ha => ⟨funext fun i => by simp [tb_wI, ha], rfl, rfl⟩)] at hP1
  exact hP1
theorem b_alen (hC : tb_Cx κ own cc nL d) {k n : Nat} (hk : k < M.n ∧ tv_lay[k]? = some (20, n)) (hd : decode cc pc = .ok (.arraylength, 1)) (hx : Int32.ofNat n = x) (kk : tb_G κ nL Q (pc + 1) ls (.int x :: st) M o) : tb_G κ nL Q pc ls (.ref (κ.b + k) :: st) M o := by
  subst hx
  intro r0 M' ho H locs sl hP hS hl
  have he := tv_get (b := κ.b) (cA := κ.th.2.2.1) (I := M.1) (J := M.2.1) (P := M.2.2.1) hk.1 hk.2
  rw [tv_E_i] at he
  exact va_alen hC.1.1 hC.1.2.1 hC.2.1 hP.1.1 k 0 he rfl rfl hd (kk r0 M' ho H locs sl hP hS hl)
end TBN
