/-! SENTENCES: an eye -/
def CF (T : Nat → Nat → Nat) (M M' : tv_M) : Prop := ∀ a i, ¬ (a = 18 ∧ 4 ≤ i ∧ i ≤ 8) → ¬ (a = 68 ∧ 3 ≤ i ∧ i ≤ 8) → ¬ (22 + 2 * tE T ≤ a ∧ a < 38 ∧ a % 2 = 0 ∧ 1 ≤ i ∧ i ≤ 5) → ¬ (38 + 3 * tK T ≤ a ∧ a < 68) → ¬ (a = 21 ∧ 4 * tB T ≤ i) → M'.1 a i = M.1 a i
def JF (T : Nat → Nat → Nat) (N N' : tv_M) : Prop := ∀ a i, ¬ (a = 249 ∧ 27 ≤ i ∧ i ≤ 36) → ¬ (253 ≤ a ∧ a ≤ 255 ∧ tE T ≤ i) → ¬ (256 ≤ a ∧ a ≤ 258 ∧ tK T ≤ i) → ¬ (a = 259 ∧ 18 * tK T ≤ i) → ¬ (260 ≤ a ∧ a ≤ 263 ∧ tB T ≤ i) → N'.1 a i = N.1 a i
theorem CF.rf {T : Nat → Nat → Nat} {M : tv_M} : CF T M M := fun _ _ _ _ _ _ _ => rfl
theorem JF.rf {T : Nat → Nat → Nat} {M : tv_M} : JF T M M := fun _ _ _ _ _ _ _ => rfl
theorem CF.tr {T : Nat → Nat → Nat} {M M' M'' : tv_M} (h : CF T M M') (g : CF T M' M'') : CF T M M'' := fun a i q1 q2 q3 q4 q5 => (g a i q1 q2 q3 q4 q5).trans (h a i q1 q2 q3 q4 q5)
theorem JF.tr {T : Nat → Nat → Nat} {M M' M'' : tv_M} (h : JF T M M') (g : JF T M' M'') : JF T M M'' := fun a i q1 q2 q3 q4 q5 => (g a i q1 q2 q3 q4 q5).trans (h a i q1 q2 q3 q4 q5)
theorem f68.c {T : Nat → Nat → Nat} {M M' : tv_M} (h : f68 M M') : CF T M M' := fun a i _ q _ _ _ => h a i q
theorem f32.j {T : Nat → Nat → Nat} {M M' : tv_M} (h : f32 M M') : JF T M M' := fun a i q _ _ _ _ => h a i (by omega)
def Ext (T0 T : Nat → Nat → Nat) : Prop := tE T0 ≤ tE T ∧ tK T0 ≤ tK T ∧ tB T0 ≤ tB T ∧ (∀ e, e < tE T0 → tso T e = tso T0 e ∧ tsz T e = tsz T0 e ∧ tco T e = tco T0 e) ∧ (∀ t, t < tK T0 → to1 T t = to1 T0 t ∧ to2 T t = to2 T0 t ∧ trw T t = trw T0 t ∧ ∀ i, i < 9 → tta T t i = tta T0 t i ∧ ttb T t i = ttb T0 t i) ∧ ∀ k i, k < tB T0 → i < 4 → tbr T k i = tbr T0 k i
theorem Ext.rf {T : Nat → Nat → Nat} : Ext T T := ⟨Nat.le_refl _, Nat.le_refl _, Nat.le_refl _, fun _ _ => ⟨rfl, rfl, rfl⟩, fun _ _ => ⟨rfl, rfl, rfl, fun _ _ => ⟨rfl, rfl⟩⟩, fun _ _ _ _ => rfl⟩
theorem Ext.tr {T T' T'' : Nat → Nat → Nat} (h : Ext T T') (g : Ext T' T'') : Ext T T'' := by
  obtain ⟨h1, h2, h3, h4, h5, h6⟩ := h
  obtain ⟨g1, g2, g3, g4, g5, g6⟩ := g
  refine ⟨by omega, by omega, by omega, fun e he => ?_, fun t ht => ?_, fun k i hk hi => (g6 k i (by omega) hi).trans (h6 k i hk hi)⟩
  · obtain ⟨a, b, c⟩ := h4 e he
    obtain ⟨a', b', c'⟩ := g4 e (by omega)
    exact ⟨a'.trans a, b'.trans b, c'.trans c⟩
  · obtain ⟨a, b, c, d⟩ := h5 t ht
    obtain ⟨a', b', c', d'⟩ := g5 t (by omega)
    exact ⟨a'.trans a, b'.trans b, c'.trans c, fun i hi => ⟨(d' i hi).1.trans (d i hi).1, (d' i hi).2.trans (d i hi).2⟩⟩
theorem CF.su {T0 T : Nat → Nat → Nat} {M M' : tv_M} (h : CF T M M') (hx : Ext T0 T) : CF T0 M M' := fun a i q1 q2 q3 q4 q5 => by
  obtain ⟨h1, h2, h3, -⟩ := hx
  exact h a i q1 q2 (by omega) (by omega) (by omega)
theorem JF.su {T0 T : Nat → Nat → Nat} {M M' : tv_M} (h : JF T M M') (hx : Ext T0 T) : JF T0 M M' := fun a i q1 q2 q3 q4 q5 => by
  obtain ⟨h1, h2, h3, -⟩ := hx
  exact h a i q1 (by omega) (by omega) (by omega) (by omega)
section EYES
variable {F p : Nat} {M N : tv_M} {Tp T : Nat → Nat → Nat} {q : Nat × Nat × Nat}
theorem isW_ne {w w' : Nat} (hw : w < 9) (hw' : w' < 9) (h : isW Tp q w = true) (h' : isW Tp q w' = true) : sby w 0 = sby w' 0 := by
  unfold isW at h h'
  rw [Bool.and_eq_true, Bool.and_eq_true] at h h'
  have a1 := of_decide_eq_true ((an_iff _ _).mp h.2.2 0 (by have := (wl_P w hw).2.2.1; omega))
  have a2 := of_decide_eq_true ((an_iff _ _).mp h'.2.2 0 (by have := (wl_P w' hw').2.2.1; omega))
  rw [← a1, ← a2]
/-- the sort of an eye -/
theorem pr_sort (hF : 600 < F) (hg : gTp Tp) (h : SY M N Tp q) : (∃ s M' N', s ≤ 3 ∧ Re_takeSort F M = some (1, M') ∧ M'.1 68 8 = nI s ∧ Md_readEye F N = tv_wr N' 253 8 (N'.1 249 33) (nI s) (fun M5 => if nI s = 3 then Md_readEye_L101 F (nI s) 4 1 (M5.1 249 33) M5 else Md_readEye_L101 F (nI s) 3 1 (M5.1 249 33) M5) ∧ SY M' N' Tp (lx Tp q.2.1) ∧ f68 M M' ∧ fXm N N') ∨ (∃ M' N', Re_takeSort F M = some (0, M') ∧ Md_readEye F N = tv_wr N' 253 8 (N'.1 249 33) (-1000000) (fun M5 => Md_readEye_L101 F (-1000000) 3 1 (M5.1 249 33) M5) ∧ FL M' N' 1 q.1 ∧ f68 M M' ∧ f32 N N') := by
  have hS := h
  obtain ⟨h1, h2, h3, h4, h5, h6⟩ := h
  have hwd : ∀ w, w < 9 → Re_isWord F w M = some (if isW Tp q w then 1 else 0, M) := fun w hw => re_word hF hg h1.1 h2 hw h6.1 h6.2.1 h6.2.2.2.2.2.2.2.2
  unfold Re_takeSort Md_readEye
  rw [tp_cb (pr_wd hF hg hS), tp_cb (hwd 1 (by omega)), tp_cb (hwd 2 (by omega)), tp_cb (hwd 3 (by omega)), tp_cb (hwd 4 (by omega))]
  have i1 := pr_wi (w := 1) (C := 1986618743) hg hS (by omega) (by decide)
  have i2 := pr_wi (w := 2) (C := 7171940) hg hS (by omega) (by decide)
  have i3 := pr_wi (w := 3) (C := 1751477348) hg hS (by omega) (by decide)
  have i4 := pr_wi (w := 4) (C := 109300196926309) hg hS (by omega) (by decide)
  have hok : ∀ (s : Nat) (sI : Int32), sI = nI s → s ≤ 3 → ∃ M' N', tv_pf M 68 8 sI (fun M12 => tv_cb (Re_goOn F M12) (fun r13 M14 => some ((1 : Int32), M14))) = some (1, M') ∧ M'.1 68 8 = nI s ∧ Md_readEye_L68 F sI 1 N = tv_wr N' 253 8 (N'.1 249 33) (nI s) (fun M5 => if nI s = 3 then Md_readEye_L101 F (nI s) 4 1 (M5.1 249 33) M5 else Md_readEye_L101 F (nI s) 3 1 (M5.1 249 33) M5) ∧ SY M' N' Tp (lx Tp q.2.1) ∧ f68 M M' ∧ fXm N N' := by
    intro s sI e hs
    subst e
    obtain ⟨M', N', y1, y2, y3, y4, y5⟩ := pr_go (F := F) hF hg (hS.w8 (x := nI s))
    obtain ⟨N'', z1, z2⟩ := md_must1 (F := F) hF hg hS
    have : N'' = N' := by rw [y2] at z2; exact (Prod.mk.inj (Option.some.inj z2)).2.symm
    subst this
    refine ⟨M', N'', by rw [tp_pf, tp_cb y1], by rw [y4 _ _ (by omega)]; exact tp_ws, ?_, y3, fun a i w => by rw [y4 a i (by omega), tp_w, if_neg (by omega)], y5⟩
    unfold Md_readEye_L68
    rw [tp_cb z1]
  by_cases c1 : isW Tp q 1 = true
  · rw [if_pos c1, if_neg (show ¬ (1 : Int32) = 0 by decide), if_pos (i1.mpr c1)]
    obtain ⟨M', N', x1, x2, x3, x4, x5, x6⟩ := hok 0 0 rfl (by omega)
    exact Or.inl ⟨0, M', N', by omega, x1, x2, x3, x4, x5, x6⟩
  · rw [if_neg c1, if_pos rfl, if_neg (fun v => c1 (i1.mp v))]
    by_cases c2 : isW Tp q 2 = true
    · rw [if_pos c2, if_neg (show ¬ (1 : Int32) = 0 by decide), if_pos (i2.mpr c2)]
      obtain ⟨M', N', x1, x2, x3, x4, x5, x6⟩ := hok 1 1 rfl (by omega)
      exact Or.inl ⟨1, M', N', by omega, x1, x2, x3, x4, x5, x6⟩
    · rw [if_neg c2, if_pos rfl, if_neg (fun v => c2 (i2.mp v))]
      by_cases c3 : isW Tp q 3 = true
      · rw [if_pos c3, if_neg (show ¬ (1 : Int32) = 0 by decide), if_pos (i3.mpr c3)]
        obtain ⟨M', N', x1, x2, x3, x4, x5, x6⟩ := hok 2 2 rfl (by omega)
        exact Or.inl ⟨2, M', N', by omega, x1, x2, x3, x4, x5, x6⟩
      · rw [if_neg c3, if_pos rfl, if_neg (fun v => c3 (i3.mp v))]
        by_cases c4 : isW Tp q 4 = true
        · rw [if_pos c4, if_neg (show ¬ (1 : Int32) = 0 by decide), if_pos (i4.mpr c4)]
          obtain ⟨M', N', x1, x2, x3, x4, x5, x6⟩ := hok 3 3 rfl (by omega)
          exact Or.inl ⟨3, M', N', by omega, x1, x2, x3, x4, x5, x6⟩
        · rw [if_neg c4, if_pos rfl, if_neg (fun v => c4 (i4.mp v)), tp_cb (re_fl (f := 1) (fI := 1) rfl), tp_zo (Or.inl rfl)]
          obtain ⟨N', x1, x2, x3, x4⟩ := md_must0 (F := F) hS
          refine Or.inr ⟨_, N', rfl, ?_, FL_mk hg hS (by omega) (by omega) x2 x3, f68_3, x4⟩
          unfold Md_readEye_L68
          rw [tp_cb x1]
          simp only [show ((-1000000 : Int32) = 3) = False from eq_false (by decide), if_false]
/-- what the reference does with an eye's numbers, whatever they are -/
theorem md_eyeL {l3 s0 s1 r : Int32} {n c : Nat} {N1 : tv_M} (hn : n < 8) (hx : Md_numberIn F s1 s0 (tv_w N 253 n l3) = some (r, N1)) (h33 : N1.1 249 33 = nI n) (h34 : N1.1 249 34 = nI c) : ∃ N', Md_readEye_L101 F l3 s0 s1 (nI n) (tv_w N 253 n l3) = some ((), N') ∧ N'.1 249 33 = nI (n + 1) ∧ N'.1 249 34 = (if l3 = 3 then nI c else nI c + r) ∧ N'.1 254 n = r ∧ N'.1 255 n = (if l3 = 3 then -1000000 else nI c) ∧ ∀ a i, ¬ (a = 249 ∧ (i = 33 ∨ i = 34)) → ¬ (254 ≤ a ∧ a ≤ 255 ∧ i = n) → N'.1 a i = N1.1 a i := by
  have h33' : (tv_w N1 254 n r).1 249 33 = nI n := by rw [tp_wk (by omega)]; exact h33
  have h34' : (tv_w N1 254 n r).1 249 34 = nI c := by rw [tp_wk (by omega)]; exact h34
  unfold Md_readEye_L101
  rw [tp_cb hx, tp_wr hn (by decide), h33', h34']
  by_cases k : l3 = 3
  · rw [if_pos k]
    unfold Md_readEye_L127
    rw [tp_wr hn (by decide), if_pos k, tp_wk (by omega), h34', show nI c + 0 = nI c from Int32.add_zero _, tp_pf, tp_wj (by omega), tp_wk (by omega), h33', nI_1, tp_pf]
    refine ⟨_, rfl, tp_ws, by rw [tp_wj (by omega), tp_ws, if_pos k], by rw [tp_wk (by omega), tp_wk (by omega), tp_wk (by omega), tp_ws], by rw [tp_wk (by omega), tp_wk (by omega), tp_ws, if_pos k], fun a i w1 w2 => ?_⟩
    rw [tp_w, if_neg (by omega), tp_w, if_neg (by omega), tp_w, if_neg (by omega), tp_w, if_neg (by omega)]
  · rw [if_neg k]
    unfold Md_readEye_L127
    rw [tp_wr hn (by decide), if_neg k, tp_wk (by omega), h33', tp_rd hn (by decide), tp_wk (by omega), h34', tp_wk (by omega), tp_ws, tp_pf, tp_wj (by omega), tp_wk (by omega), h33', nI_1, tp_pf]
    refine ⟨_, rfl, tp_ws, by rw [tp_wj (by omega), tp_ws, if_neg k], by rw [tp_wk (by omega), tp_wk (by omega), tp_wk (by omega), tp_ws], by rw [tp_wk (by omega), tp_wk (by omega), tp_ws, if_neg k], fun a i w1 w2 => ?_⟩
    rw [tp_w, if_neg (by omega), tp_w, if_neg (by omega), tp_w, if_neg (by omega), tp_w, if_neg (by omega)]
end EYES
