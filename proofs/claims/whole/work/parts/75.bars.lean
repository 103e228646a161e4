/-! a bar is told -/
def te_bar (T : Nat → Nat → Nat) (f : Nat → Nat) : Nat → Nat → Nat := fun a i => if a = 0 then (if i = 2 then tB T + 1 else T 0 i) else if a = 9 ∧ 4 * tB T ≤ i ∧ i < 4 * tB T + 4 then f (i - 4 * tB T) else T a i
section BARS
variable {F p : Nat} {M N : tv_M} {Tp T : Nat → Nat → Nat} {q : Nat × Nat × Nat} {f : Nat → Nat}
theorem tb_o {a i : Nat} (h : 1 ≤ a) (h9 : a ≠ 9) : te_bar T f a i = T a i := by
  unfold te_bar
  rw [if_neg (by omega), if_neg (fun w => h9 w.1)]
theorem tb_b {k i : Nat} (hi : i < 4) : tbr (te_bar T f) k i = if k = tB T then f i else tbr T k i := by
  show te_bar T f 9 (4 * k + i) = _
  unfold te_bar
  rw [if_neg (by omega)]
  by_cases w : k = tB T
  · rw [if_pos w, if_pos ⟨rfl, by omega⟩, w, Nat.add_sub_cancel_left]
  · rw [if_neg w, if_neg (fun z => w (by omega))]
theorem tb_tcs : ∀ e, tcs (te_bar T f) e = tcs T e := by
  intro e
  induction e with
  | zero => rfl
  | succ e ih => rw [tcs, tcs, ih, show tso (te_bar T f) e = tso T e from tb_o (by omega) (by omega), show tsz (te_bar T f) e = tsz T e from tb_o (by omega) (by omega)]
theorem tb_tls : ∀ t, tls (te_bar T f) t = tls T t := by
  intro t
  induction t with
  | zero => rfl
  | succ t ih => rw [tls, tls, ih, show trw (te_bar T f) t = trw T t from tb_o (by omega) (by omega)]
theorem tb_ext : Ext T (te_bar T f) := ⟨Nat.le_refl _, Nat.le_refl _, Nat.le_succ _, fun e he => ⟨tb_o (by omega) (by omega), tb_o (by omega) (by omega), tb_o (by omega) (by omega)⟩, fun t ht => ⟨tb_o (by omega) (by omega), tb_o (by omega) (by omega), tb_o (by omega) (by omega), fun i hi => ⟨tb_o (by omega) (by omega), tb_o (by omega) (by omega)⟩⟩, fun k i hk hi => by rw [tb_b hi, if_neg (by omega)]⟩
theorem tb_g (hT : gT p T) (h30 : tB T < 30) (h0 : f 0 < tE T) (h0s : tso T (f 0) = 3) (h1 : f 1 < tsz T (f 0)) (h2 : f 2 < tE T) (h2s : tso T (f 2) = 3) (h3 : f 3 < tsz T (f 2)) (hne : f 0 ≠ f 2) : gT p (te_bar T f) := by
  obtain ⟨g1, g2, g3, g4, g5, g6, g7, g8⟩ := hT
  have hso : ∀ e, tso (te_bar T f) e = tso T e := fun e => tb_o (by omega) (by omega)
  have hsz : ∀ e, tsz (te_bar T f) e = tsz T e := fun e => tb_o (by omega) (by omega)
  refine ⟨g1, g2, by show tB T + 1 ≤ 30; omega, by show tC T = _; rw [tb_tcs]; exact g4, by show tL T = _; rw [tb_tls]; exact g5, fun e he => ?_, fun t ht => ?_, fun k hk => ?_⟩
  · unfold gTe
    rw [hso, hsz, show tco (te_bar T f) e = tco T e from tb_o (by omega) (by omega), tb_tcs]
    exact g6 e he
  · obtain ⟨a1, a2, a3, a4, a5, a6, a7, a8, a9⟩ := g7 t ht
    unfold gTt
    rw [show to1 (te_bar T f) t = to1 T t from tb_o (by omega) (by omega), show to2 (te_bar T f) t = to2 T t from tb_o (by omega) (by omega), show trw (te_bar T f) t = trw T t from tb_o (by omega) (by omega), hso, hso, hsz, hsz]
    exact ⟨a1, a2, a3, a4, a5, a6, a7, fun r k h1 h2 => by rw [show tta (te_bar T f) t (3 * r + k) = tta T t (3 * r + k) from tb_o (by omega) (by omega)]; exact a8 r k h1 h2, fun r k h1 h2 => by rw [show ttb (te_bar T f) t (3 * r + k) = ttb T t (3 * r + k) from tb_o (by omega) (by omega)]; exact a9 r k h1 h2⟩
  · have hk : k < tB T + 1 := hk
    unfold gTb
    rw [tb_b (by omega), tb_b (by omega), tb_b (by omega), tb_b (by omega)]
    by_cases w : k = tB T
    · rw [if_pos w, if_pos w, if_pos w, if_pos w, hso, hso, hsz, hsz]
      exact ⟨h0, h0s, h1, h2, h2s, h3, hne⟩
    · rw [if_neg w, if_neg w, if_neg w, if_neg w, hso, hso, hsz, hsz]
      exact g8 k (by omega)
theorem to_addBar (hT : gT p T) (cc : cT M p T) (h30 : tB T < 30) : ∃ M', To_addBar F (nI (f 0)) (nI (f 1)) (nI (f 2)) (nI (f 3)) M = some ((), M') ∧ cT M' p (te_bar T f) ∧ CF T M M' ∧ ∀ i, M'.1 68 i = M.1 68 i := by
  have hfin : ∃ M', To_addBar F (nI (f 0)) (nI (f 1)) (nI (f 2)) (nI (f 3)) M = some ((), M') ∧ M'.1 18 6 = nI (tB T + 1) ∧ (∀ i, i < 4 → M'.1 21 (4 * tB T + i) = nI (f i)) ∧ ∀ a i, ¬ (a = 18 ∧ i = 6) → ¬ (a = 21 ∧ 4 * tB T ≤ i ∧ i < 4 * tB T + 4) → M'.1 a i = M.1 a i := by
    unfold To_addBar
    rw [cc.2.2.2.1, if_pos (show nI (tB T) < 30 from nI_lt (b := 30) h30 (by omega)), show nI (tB T) * 4 = nI (4 * tB T) from by rw [Nat.mul_comm, ← nI_mul]; rfl, nI_1, show nI (4 * tB T) + 2 = nI (4 * tB T + 2) from nI_add _ 2, show nI (4 * tB T) + 3 = nI (4 * tB T + 3) from nI_add _ 3, tp_wr (by omega) (by decide), tp_wr (by omega) (by decide), tp_wr (by omega) (by decide), tp_wr (by omega) (by decide), tp_wk (by omega), tp_wk (by omega), tp_wk (by omega), tp_wk (by omega), cc.2.2.2.1, nI_1, tp_pf]
    refine ⟨_, rfl, tp_ws, fun i hi => ?_, fun a i w1 w2 => ?_⟩
    · have : i = 0 ∨ i = 1 ∨ i = 2 ∨ i = 3 := by omega
      rcases this with rfl | rfl | rfl | rfl
      · rw [tp_wk (by omega), tp_wj (by omega), tp_wj (by omega), tp_wj (by omega)]; exact tp_ws
      · rw [tp_wk (by omega), tp_wj (by omega), tp_wj (by omega)]; exact tp_ws
      · rw [tp_wk (by omega), tp_wj (by omega)]; exact tp_ws
      · rw [tp_wk (by omega)]; exact tp_ws
    · rw [tp_w, if_neg w1, tp_w, if_neg (by omega), tp_w, if_neg (by omega), tp_w, if_neg (by omega), tp_w, if_neg (by omega)]
  obtain ⟨M', f1, f2, f3, f4⟩ := hfin
  obtain ⟨c0, c4, c5, c6, c7, c8, cn, ce, ct, cb⟩ := cc
  have h8 := hT.1
  have h10 := hT.2.1
  refine ⟨M', f1, ⟨by rw [f4 _ _ (by omega) (by omega)]; exact c0, by rw [f4 _ _ (by omega) (by omega)]; exact c4, by rw [f4 _ _ (by omega) (by omega)]; exact c5, f2, by rw [f4 _ _ (by omega) (by omega)]; exact c7, by rw [f4 _ _ (by omega) (by omega)]; exact c8, fun e he => by rw [f4 _ _ (by omega) (by omega)]; exact cn e he, fun e he => ?_, fun t ht => ?_, fun k i hk hi => ?_⟩, fun a i w1 w2 w3 w4 w5 => f4 a i (by omega) (by omega), fun i => f4 68 i (by omega) (by omega)⟩
  · have he : e < tE T := he
    unfold cTe
    rw [show tso (te_bar T f) e = tso T e from tb_o (by omega) (by omega), show tsz (te_bar T f) e = tsz T e from tb_o (by omega) (by omega), show tco (te_bar T f) e = tco T e from tb_o (by omega) (by omega)]
    obtain ⟨a1, a2, a3⟩ := ce e he
    exact ⟨by rw [f4 _ _ (by omega) (by omega)]; exact a1, by rw [f4 _ _ (by omega) (by omega)]; exact a2, by rw [f4 _ _ (by omega) (by omega)]; exact a3⟩
  · have ht : t < tK T := ht
    obtain ⟨a1, a2, a3, a4, a5⟩ := ct t ht
    unfold cTt
    rw [show to1 (te_bar T f) t = to1 T t from tb_o (by omega) (by omega), show to2 (te_bar T f) t = to2 T t from tb_o (by omega) (by omega), show trw (te_bar T f) t = trw T t from tb_o (by omega) (by omega), show ∀ e, tsz (te_bar T f) e = tsz T e from fun e => tb_o (by omega) (by omega)]
    exact ⟨by rw [f4 _ _ (by omega) (by omega)]; exact a1, by rw [f4 _ _ (by omega) (by omega)]; exact a2, by rw [f4 _ _ (by omega) (by omega)]; exact a3, fun r k h1 h2 => by rw [f4 _ _ (by omega) (by omega), a4 r k h1 h2, show tta (te_bar T f) t (3 * r + k) = tta T t (3 * r + k) from tb_o (by omega) (by omega)], fun r k h1 h2 => by rw [f4 _ _ (by omega) (by omega), a5 r k h1 (by rw [show tsz (te_bar T f) (to2 T t) = tsz T (to2 T t) from tb_o (by omega) (by omega)] at h2; exact h2), show ttb (te_bar T f) t (3 * r + k) = ttb T t (3 * r + k) from tb_o (by omega) (by omega)]⟩
  · have hk : k < tB T + 1 := hk
    rw [tb_b hi]
    by_cases w : k = tB T
    · rw [if_pos w, w]; exact f3 i hi
    · rw [if_neg w, f4 _ _ (by omega) (by omega)]; exact cb k i (by omega) hi
/-- a value of a choice -/
theorem pr_val {a : Nat} (hF : 600 < F) (hg : gTp Tp) (hT : gT p T) (cc : cT M p T) (h : SY M N Tp q) (ha : a < tE T) (has : tso T a = 3) : (q.2.2 = 2 ∧ qv Tp q < tsz T a ∧ ∃ M' N', Re_takeValueOf F (nI a) M = some (1, M') ∧ M'.1 68 8 = nI (qv Tp q) ∧ Md_numberIn F 0 (nI (tsz T a) - 1) N = some (nI (qv Tp q), N') ∧ SY M' N' Tp (lx Tp q.2.1) ∧ f68 M M' ∧ fXm N N') ∨ (∃ f M' N' w, Re_takeValueOf F (nI a) M = some (0, M') ∧ Md_numberIn F 0 (nI (tsz T a) - 1) N = some (w, N') ∧ FL M' N' f q.1 ∧ f68 M M' ∧ f32 N N') := by
  have h8 := hT.1
  obtain ⟨g1, g2, g3, g4, g5⟩ := hT.2.2.2.2.2.1 a ha
  obtain ⟨p1, p2, p3, p4⟩ := tp_eyP a (by omega)
  have e1 : (nI (tsz T a) - 1 : Int32) = nI (tsz T a - 1) := by rw [show (1 : Int32) = nI 1 from rfl, nI_sub g2]
  unfold Re_takeValueOf
  rw [tp_cb (to_cho hT cc ha), if_pos has, tp_nls, tp_gl p3, (cc.2.2.2.2.2.2.2.1 a ha).2.1, e1]
  rcases pr_num (F := F) (lo := 0) (hi := tsz T a - 1) (loI := 0) (hiI := nI (tsz T a - 1)) hF hg h rfl rfl (by omega) (by omega) with ⟨k1, k2, k3, M', N', b1, b2, b3, b4, b5, b6⟩ | ⟨f, M', N', w, b1, b2, b3, b4, b5⟩
  · rw [tp_cb b1, tp_zo (Or.inr rfl)]
    exact Or.inl ⟨k1, by omega, M', N', rfl, b2, b3, b4, b5, b6⟩
  · rw [tp_cb b1, tp_zo (Or.inl rfl)]
    exact Or.inr ⟨f, M', N', w, rfl, b2, b3, b4, b5⟩
/-- the rest of a bar when a fault was found -/
theorem md_50f {k f b : Nat} {l1 s0 : Int32} (hk : k < 30) (h : FL M N f b) (h36 : N.1 249 36 = nI k) : ∃ N', Md_readBar_L50 F l1 s0 (nI k) N = some ((), N') ∧ FL M N' f b ∧ ∀ a i, ¬ (a = 249 ∧ i = 36) → ¬ (260 ≤ a ∧ a ≤ 263 ∧ i = k) → N'.1 a i = N.1 a i := by
  obtain ⟨f1, f2, f3, f4, f5, f6, f7⟩ := h
  unfold Md_readBar_L50
  rw [tp_wr hk (by decide), tp_cb (md_eyef (f := f) (by rw [tp_wk (by omega)]; exact f3) f5 f6), tp_wk (by omega), h36, tp_wr hk (by decide), tp_wk (by omega), tp_wk (by omega), f3, if_neg (show ¬ nI f ≤ 0 from nI_ge (a := 0) (b := f) (by omega) (by omega)), tp_wk (by omega), tp_wk (by omega), h36, tp_wr hk (by decide), tp_wk (by omega), tp_wk (by omega), tp_wk (by omega), h36, nI_1, tp_pf]
  refine ⟨_, rfl, ⟨f1, f2, ?_, ?_, f5, f6, f7⟩, fun a i w1 w2 => ?_⟩
  · rw [tp_wj (by omega), tp_wk (by omega), tp_wk (by omega), tp_wk (by omega)]; exact f3
  · rw [tp_wj (by omega), tp_wk (by omega), tp_wk (by omega), tp_wk (by omega)]; exact f4
  · rw [tp_w, if_neg w1, tp_w, if_neg (by omega), tp_w, if_neg (by omega), tp_w, if_neg (by omega)]
theorem s_bar (hF : 600 < F) (hp : tp_pr p) (hg : gTp Tp) (hT : gT p T) (cc : cT M p T) (mc : mT1 N p T) (h : SY M N Tp q) (h30 : tB T < 30) : ∃ (r : Int32) (M' N' : tv_M), tv_cb (Re_takeEye F 1 (-1000000) M) (fun r3 M4 => if r3 = 0 then some (0, M4) else tv_cb (Re_takeValueOf F (M4.1 68 8) M4) (fun r5 M6 => if r5 = 0 then some (0, M6) else tv_cb (Re_takeEye F 1 (M4.1 68 8) M6) (fun r7 M8 => if r7 = 0 then some (0, M8) else tv_cb (Re_takeValueOf F (M8.1 68 8) M8) (fun r9 M10 => if r9 = 0 then some (0, M10) else tv_cb (Re_takeSign F 59 M10) (fun r11 M12 => if r11 = 0 then some (0, M12) else tv_cb (To_addBar F (M4.1 68 8) (M6.1 68 8) (M8.1 68 8) (M10.1 68 8) M12) (fun r13 M14 => some (1, M14))))))) = some (r, M') ∧ (∀ k64 : tv_M → Option (Int32 × tv_M), tv_cb (Md_readBar F N) (fun _ N1 => Md_read_L228 F k64 N1) = k64 N') ∧ ((r = 1 ∧ OKS p Tp T q M N M' N') ∨ (r = 0 ∧ FLS p T M N M' N')) := by
  have h8 := hT.1
  unfold Md_readBar
  rcases pr_eye (F := F) (ch := 1) (chI := 1) (un := -1000000) hF hg hT cc mc h rfl (by omega) with ⟨a1, a2, a3, a4, M1, N1, a5, a6, a7, a8, a9, a10⟩ | ⟨f, M1, N1, w, b1, b2, b3, b4, b5⟩
  rotate_left
  · have g36 : N1.1 249 36 = nI (tB T) := by rw [b5 _ _ (by omega)]; exact mc.2.2.2.2.1
    have hfl : FL M1 (tv_w N1 260 (tB T) w) f q.1 := b3.cg rfl rfl (by rw [tp_wk (by omega)]) (by rw [tp_wk (by omega)])
    obtain ⟨N2, c1, c2, c3⟩ := md_50f (F := F) (l1 := w) (s0 := 0) h30 hfl (by rw [tp_wk (by omega)]; exact g36)
    rw [tp_cb b1, if_pos rfl, tp_cb b2, g36, tp_wr h30 (by decide), hfl.2.2.1, if_neg (show ¬ nI f ≤ 0 from nI_ge (a := 0) (b := f) (by have := hfl.2.2.2.2.1; omega) (by have := hfl.2.2.2.2.2.1; omega)), tp_wk (by omega), g36]
    refine ⟨0, M1, N2, rfl, fun k64 => by rw [tp_cb c1]; exact md_228f c2, Or.inr ⟨rfl, f, _, c2, b4.cT hT cc, b4.c, fun a i w1 _ _ _ w5 => ?_⟩⟩
    rw [c3 a i (by omega) (by omega), tp_w, if_neg (by omega), b5 a i (by omega)]
  generalize qv Tp q = va at a2 a3 a4 a6 a7
  have a3 : tso T va = 3 := a3.mpr rfl
  have mc1 := mc.f32 a10.f
  have cc1 : cT M1 p T := a9.cT hT cc
  have g36 : N1.1 249 36 = nI (tB T) := mc1.2.2.2.2.1
  have hS1 : SY M1 (tv_w N1 260 (tB T) (nI va)) Tp (lx Tp q.2.1) := a8.wn (by omega) (by omega)
  rw [tp_cb a5, if_neg (show ¬ (1 : Int32) = 0 by decide), tp_cb a7, g36, tp_wr h30 (by decide), a6, tp_wk (by omega), a8.2.2.2.2.1, if_pos (show (0 : Int32) ≤ 0 from Int32.le_refl _), tp_rd (by omega) (by decide), tp_wk (by omega), (mc1.2.2.2.2.2.1 va a2).2.1, tp_wk (by omega), g36]
  rcases pr_val (F := F) hF hg hT cc1 hS1 a2 a3 with ⟨b1, b2, M2, N2, b3, b4, b5, b6, b7, b8⟩ | ⟨f, M2, N2, w, b1, b2, b3, b4, b5⟩
  rotate_left
  · obtain ⟨N3, c1, c2, c3⟩ := md_50f (F := F) (l1 := nI va) (s0 := w) h30 b3 (by rw [b5 _ _ (by omega), tp_wk (by omega)]; exact g36)
    rw [tp_cb b1, if_pos rfl, tp_cb b2]
    refine ⟨0, M2, N3, rfl, fun k64 => by rw [tp_cb c1]; exact md_228f c2, Or.inr ⟨rfl, f, _, c2, (a9.tr b4).cT hT cc, (a9.tr b4).c, fun a i w1 _ _ _ w5 => ?_⟩⟩
    rw [c3 a i (by omega) (by omega), b5 a i (by omega), tp_w, if_neg (by omega), a10 a i (by omega)]
  generalize qv Tp (lx Tp q.2.1) = vv at b2 b4 b5
  have hN2 : ∀ a i, ¬ (a = 249 ∧ 27 ≤ i ∧ i ≤ 30) → ¬ (a = 260 ∧ i = tB T) → N2.1 a i = N.1 a i := fun a i w1 w2 => by rw [b8 a i w1, tp_w, if_neg w2, a10 a i w1]
  have mtb : ∀ N' : tv_M, (∀ a i, ¬ (a = 249 ∧ 27 ≤ i ∧ i ≤ 32) → ¬ (260 ≤ a ∧ a ≤ 263 ∧ i = tB T) → N'.1 a i = N.1 a i) → mT1 N' p T := fun N' hN => by
    obtain ⟨m1, m2, m3, m4, m5, me, mt, mb⟩ := mc
    refine ⟨by rw [hN _ _ (by omega) (by omega)]; exact m1, by rw [hN _ _ (by omega) (by omega)]; exact m2, by rw [hN _ _ (by omega) (by omega)]; exact m3, by rw [hN _ _ (by omega) (by omega)]; exact m4, by rw [hN _ _ (by omega) (by omega)]; exact m5, fun e he => ?_, fun t ht => ?_, fun k hk => ?_⟩
    · obtain ⟨x1, x2, x3⟩ := me e he
      exact ⟨by rw [hN _ _ (by omega) (by omega)]; exact x1, by rw [hN _ _ (by omega) (by omega)]; exact x2, by rw [hN _ _ (by omega) (by omega)]; exact x3⟩
    · obtain ⟨x1, x2, x3, x4, x5⟩ := mt t ht
      exact ⟨by rw [hN _ _ (by omega) (by omega)]; exact x1, by rw [hN _ _ (by omega) (by omega)]; exact x2, by rw [hN _ _ (by omega) (by omega)]; exact x3, fun r k h1 h2 => by rw [hN _ _ (by omega) (by omega)]; exact x4 r k h1 h2, fun r k h1 h2 => by rw [hN _ _ (by omega) (by omega)]; exact x5 r k h1 h2⟩
    · obtain ⟨x1, x2, x3, x4⟩ := mb k hk
      exact ⟨by rw [hN _ _ (by omega) (by omega)]; exact x1, by rw [hN _ _ (by omega) (by omega)]; exact x2, by rw [hN _ _ (by omega) (by omega)]; exact x3, by rw [hN _ _ (by omega) (by omega)]; exact x4⟩
  have cc2 : cT M2 p T := (a9.tr b7).cT hT cc
  have mc2 : mT1 (tv_w N2 262 (tB T) (nI vv)) p T := mtb _ (fun a i w1 w2 => by rw [tp_w, if_neg (by omega)]; exact hN2 a i (by omega) (by omega))
  have hS2 : SY M2 (tv_w N2 262 (tB T) (nI vv)) Tp (lx Tp (lx Tp q.2.1).2.1) := b6.wn (by omega) (by omega)
  rw [tp_cb b3, if_neg (show ¬ (1 : Int32) = 0 by decide), tp_cb b5]
  unfold Md_readBar_L50
  rw [tp_wr h30 (by decide)]
  rcases pr_eye (F := F) (ch := 1) (chI := 1) (un := nI va) hF hg hT cc2 mc2 hS2 rfl (by omega) with ⟨c1, c2, c3, c4, M3, N3, c5, c6, c7, c8, c9, c10⟩ | ⟨f, M3, N3, w, c1, c2, c3, c4, c5⟩
  rotate_left
  · have hN3 : ∀ a i, ¬ (a = 249 ∧ 27 ≤ i ∧ i ≤ 32) → ¬ (260 ≤ a ∧ a ≤ 263 ∧ i = tB T) → N3.1 a i = N.1 a i := fun a i w1 w2 => by rw [c5 a i w1, tp_w, if_neg (by omega)]; exact hN2 a i (by omega) (by omega)
    have g36' : N3.1 249 36 = nI (tB T) := by rw [hN3 _ _ (by omega) (by omega)]; exact mc.2.2.2.2.1
    rw [tp_cb c1, if_pos rfl, tp_cb c2, g36', tp_wr h30 (by decide), tp_wk (by omega), c3.2.2.1, if_neg (show ¬ nI f ≤ 0 from nI_ge (a := 0) (b := f) (by have := c3.2.2.2.2.1; omega) (by have := c3.2.2.2.2.2.1; omega)), tp_wk (by omega), g36', tp_wr h30 (by decide), tp_wk (by omega), tp_wk (by omega), g36', nI_1, tp_pf]
    have hfl : FL M3 (tv_w (tv_w (tv_w N3 261 (tB T) w) 263 (tB T) 0) 249 36 (nI (tB T + 1))) f (lx Tp (lx Tp q.2.1).2.1).1 := c3.cg rfl rfl (by rw [tp_wj (by omega), tp_wk (by omega), tp_wk (by omega)]) (by rw [tp_wj (by omega), tp_wk (by omega), tp_wk (by omega)])
    refine ⟨0, M3, _, rfl, fun k64 => md_228f hfl, Or.inr ⟨rfl, f, _, hfl, (a9.tr (b7.tr c4)).cT hT cc, (a9.tr (b7.tr c4)).c, fun a i w1 _ _ _ w5 => ?_⟩⟩
    rw [tp_w, if_neg (by omega), tp_w, if_neg (by omega), tp_w, if_neg (by omega)]; exact hN3 a i (by omega) (by omega)
  generalize qv Tp (lx Tp (lx Tp q.2.1).2.1) = vb at c2 c3 c4 c6 c7
  have c3 : tso T vb = 3 := c3.mpr rfl
  have hN3 : ∀ a i, ¬ (a = 249 ∧ 27 ≤ i ∧ i ≤ 32) → ¬ (260 ≤ a ∧ a ≤ 263 ∧ i = tB T) → N3.1 a i = N.1 a i := fun a i w1 w2 => by rw [c10 a i (by omega), tp_w, if_neg (by omega)]; exact hN2 a i (by omega) (by omega)
  have mc3 : mT1 (tv_w N3 261 (tB T) (nI vb)) p T := mtb _ (fun a i w1 w2 => by rw [tp_w, if_neg (by omega)]; exact hN3 a i w1 w2)
  have g36' : N3.1 249 36 = nI (tB T) := by rw [hN3 _ _ (by omega) (by omega)]; exact mc.2.2.2.2.1
  have cc3 : cT M3 p T := (a9.tr (b7.tr c9)).cT hT cc
  have hS3 : SY M3 (tv_w N3 261 (tB T) (nI vb)) Tp (lx Tp (lx Tp (lx Tp q.2.1).2.1).2.1) := c8.wn (by omega) (by omega)
  rw [tp_cb c5, if_neg (show ¬ (1 : Int32) = 0 by decide), tp_cb c7, g36', tp_wr h30 (by decide), hS3.2.2.2.2.1, if_pos (show (0 : Int32) ≤ 0 from Int32.le_refl _), tp_rd (by omega) (by decide), (mc3.2.2.2.2.2.1 vb c2).2.1, c6]
  rcases pr_val (F := F) hF hg hT cc3 hS3 c2 c3 with ⟨d1, d2, M4, N4, d3, d4, d5, d6, d7, d8⟩ | ⟨f, M4, N4, w, d1, d2, d3, d4, d5⟩
  rotate_left
  · have hN4 : ∀ a i, ¬ (a = 249 ∧ 27 ≤ i ∧ i ≤ 32) → ¬ (260 ≤ a ∧ a ≤ 263 ∧ i = tB T) → N4.1 a i = N.1 a i := fun a i w1 w2 => by rw [d5 a i w1, tp_w, if_neg (by omega)]; exact hN3 a i w1 w2
    have g36'' : N4.1 249 36 = nI (tB T) := by rw [hN4 _ _ (by omega) (by omega)]; exact mc.2.2.2.2.1
    rw [tp_cb d1, if_pos rfl, tp_cb d2, tp_wk (by omega), g36', tp_wr h30 (by decide), tp_wk (by omega), g36'', nI_1, tp_pf]
    have hfl : FL M4 (tv_w (tv_w N4 263 (tB T) w) 249 36 (nI (tB T + 1))) f (lx Tp (lx Tp (lx Tp q.2.1).2.1).2.1).1 := d3.cg rfl rfl (by rw [tp_wj (by omega), tp_wk (by omega)]) (by rw [tp_wj (by omega), tp_wk (by omega)])
    refine ⟨0, M4, _, rfl, fun k64 => md_228f hfl, Or.inr ⟨rfl, f, _, hfl, (a9.tr (b7.tr (c9.tr d4))).cT hT cc, (a9.tr (b7.tr (c9.tr d4))).c, fun a i w1 _ _ _ w5 => ?_⟩⟩
    rw [tp_w, if_neg (by omega), tp_w, if_neg (by omega)]; exact hN4 a i (by omega) (by omega)
  generalize qv Tp (lx Tp (lx Tp (lx Tp q.2.1).2.1).2.1) = vw at d2 d4 d5
  have hN4 : ∀ a i, ¬ (a = 249 ∧ 27 ≤ i ∧ i ≤ 32) → ¬ (260 ≤ a ∧ a ≤ 263 ∧ i = tB T) → N4.1 a i = N.1 a i := fun a i w1 w2 => by rw [d8 a i (by omega), tp_w, if_neg (by omega)]; exact hN3 a i w1 w2
  have g36'' : N4.1 249 36 = nI (tB T) := by rw [hN4 _ _ (by omega) (by omega)]; exact mc.2.2.2.2.1
  rw [tp_cb d3, if_neg (show ¬ (1 : Int32) = 0 by decide), tp_cb d5, tp_wk (by omega), g36', tp_wr h30 (by decide), tp_wk (by omega), g36'', nI_1, tp_pf, d4, b4]
  have hS5 : SY M4 (tv_w (tv_w N4 263 (tB T) (nI vw)) 249 36 (nI (tB T + 1))) Tp (lx Tp (lx Tp (lx Tp (lx Tp q.2.1).2.1).2.1).2.1) := d6.cg (fun _ _ _ => rfl) (fun _ => rfl) (fun i i1 i2 => by rw [tp_wj (by omega), tp_wk (by omega)]) (fun i => by rw [tp_wk (by omega), tp_wk (by omega)])
  have hN5 : ∀ a i, ¬ (a = 249 ∧ ((27 ≤ i ∧ i ≤ 32) ∨ i = 36)) → ¬ (260 ≤ a ∧ a ≤ 263 ∧ i = tB T) → (tv_w (tv_w N4 263 (tB T) (nI vw)) 249 36 (nI (tB T + 1))).1 a i = N.1 a i := fun a i w1 w2 => by rw [tp_w, if_neg (by omega), tp_w, if_neg (by omega)]; exact hN4 a i (by omega) (by omega)
  have k260 : (tv_w (tv_w N4 263 (tB T) (nI vw)) 249 36 (nI (tB T + 1))).1 260 (tB T) = nI va := by rw [tp_wk (by omega), tp_wk (by omega), d8 _ _ (by omega), tp_wk (by omega), c10 _ _ (by omega), tp_wk (by omega), b8 _ _ (by omega), tp_ws]
  have k262 : (tv_w (tv_w N4 263 (tB T) (nI vw)) 249 36 (nI (tB T + 1))).1 262 (tB T) = nI vv := by rw [tp_wk (by omega), tp_wk (by omega), d8 _ _ (by omega), tp_wk (by omega), c10 _ _ (by omega), tp_ws]
  have k261 : (tv_w (tv_w N4 263 (tB T) (nI vw)) 249 36 (nI (tB T + 1))).1 261 (tB T) = nI vb := by rw [tp_wk (by omega), tp_wk (by omega), d8 _ _ (by omega), tp_ws]
  have k263 : (tv_w (tv_w N4 263 (tB T) (nI vw)) 249 36 (nI (tB T + 1))).1 263 (tB T) = nI vw := by rw [tp_wk (by omega), tp_ws]
  have k36 : (tv_w (tv_w N4 263 (tB T) (nI vw)) 249 36 (nI (tB T + 1))).1 249 36 = nI (tB T + 1) := tp_ws
  generalize tv_w (tv_w N4 263 (tB T) (nI vw)) 249 36 (nI (tB T + 1)) = N5 at hS5 hN5 k260 k261 k262 k263 k36
  have hle : q.1 ≤ (lx Tp (lx Tp (lx Tp (lx Tp (lx Tp q.2.1).2.1).2.1).2.1).2.1).1 := by
    have e1 := h.2.2.2.2.2.nx
    have e2 := a8.2.2.2.2.2.nx
    have e3 := b6.2.2.2.2.2.nx
    have e4 := c8.2.2.2.2.2.nx
    have e5 := d6.2.2.2.2.2.nx
    omega
  have f4c : f68 M M4 := a9.tr (b7.tr (c9.tr d7))
  have jf5 : JF T N N5 := fun a i w1 _ _ _ w5 => hN5 a i (by omega) (by omega)
  rcases pr_end (F := F) hF hg hS5 with ⟨M6, N6, e1, e2, e3, e4, e5⟩ | ⟨M6, N6, e1, e2, e3, e4, e5⟩
  · have cc6 : cT M6 p T := (f4c.tr e4).cT hT cc
    obtain ⟨M7, u1, u2, u3, u4⟩ := to_addBar (F := F) (f := fun i => if i = 0 then va else if i = 1 then vv else if i = 2 then vb else vw) hT cc6 h30
    have u1 : To_addBar F (nI va) (nI vv) (nI vb) (nI vw) M6 = some ((), M7) := u1
    rw [tp_cb e1, if_neg (show ¬ (1 : Int32) = 0 by decide), tp_cb u1]
    refine ⟨1, M7, N6, rfl, fun k64 => e2 k64, Or.inl ⟨rfl, te_bar T (fun i => if i = 0 then va else if i = 1 then vv else if i = 2 then vb else vw), _, tb_g hT h30 a2 a3 b2 c2 c3 d2 (fun z => c4 (by have z : va = vb := z; rw [z])), tb_ext, u2, ?_, e3.cg (fun i _ _ => u4 i) (fun i => u3 69 i (by omega) (by omega) (by omega) (by omega) (by omega)) (fun _ _ _ => rfl) (fun _ => rfl), hle, fun e z1 z2 => by have z2 : e < tE T := z2; omega, (f4c.tr e4).c.tr u3, jf5.tr e5.f.j⟩⟩
    have hN6 : ∀ a i, ¬ (a = 249 ∧ ((27 ≤ i ∧ i ≤ 32) ∨ i = 36)) → ¬ (260 ≤ a ∧ a ≤ 263 ∧ i = tB T) → N6.1 a i = N.1 a i := fun a i w1 w2 => (e5 a i (by omega)).trans (hN5 a i w1 w2)
    obtain ⟨m1, m2, m3, m4, m5, me, mt, mb⟩ := mc
    refine ⟨by rw [hN6 _ _ (by omega) (by omega)]; exact m1, by rw [hN6 _ _ (by omega) (by omega)]; exact m2, by rw [hN6 _ _ (by omega) (by omega)]; exact m3, by rw [hN6 _ _ (by omega) (by omega)]; exact m4, by rw [e5 _ _ (by omega)]; exact k36, fun e he => ?_, fun t ht => ?_, fun k hk => ?_⟩
    · have he : e < tE T := he
      obtain ⟨x1, x2, x3⟩ := me e he
      unfold mTe
      rw [show tso (te_bar T (fun i => if i = 0 then va else if i = 1 then vv else if i = 2 then vb else vw)) e = tso T e from tb_o (by omega) (by omega), show tsz (te_bar T (fun i => if i = 0 then va else if i = 1 then vv else if i = 2 then vb else vw)) e = tsz T e from tb_o (by omega) (by omega), show tco (te_bar T (fun i => if i = 0 then va else if i = 1 then vv else if i = 2 then vb else vw)) e = tco T e from tb_o (by omega) (by omega)]
      exact ⟨by rw [hN6 _ _ (by omega) (by omega)]; exact x1, by rw [hN6 _ _ (by omega) (by omega)]; exact x2, by rw [hN6 _ _ (by omega) (by omega)]; exact x3⟩
    · have ht : t < tK T := ht
      obtain ⟨x1, x2, x3, x4, x5⟩ := mt t ht
      exact ⟨by rw [hN6 _ _ (by omega) (by omega)]; exact x1, by rw [hN6 _ _ (by omega) (by omega)]; exact x2, by rw [hN6 _ _ (by omega) (by omega)]; exact x3, fun r k h1 h2 => by rw [hN6 _ _ (by omega) (by omega)]; exact x4 r k h1 h2, fun r k h1 h2 => by rw [hN6 _ _ (by omega) (by omega)]; exact x5 r k h1 h2⟩
    · have hk : k < tB T + 1 := hk
      unfold mTb
      rw [tb_b (by omega), tb_b (by omega), tb_b (by omega), tb_b (by omega)]
      by_cases w : k = tB T
      · rw [if_pos w, if_pos w, if_pos w, if_pos w, w]
        exact ⟨by rw [e5 _ _ (by omega)]; exact k260, by rw [e5 _ _ (by omega)]; exact k262, by rw [e5 _ _ (by omega)]; exact k261, by rw [e5 _ _ (by omega)]; exact k263⟩
      · rw [if_neg w, if_neg w, if_neg w, if_neg w]
        obtain ⟨x1, x2, x3, x4⟩ := mb k (by omega)
        exact ⟨by rw [hN6 _ _ (by omega) (by omega)]; exact x1, by rw [hN6 _ _ (by omega) (by omega)]; exact x2, by rw [hN6 _ _ (by omega) (by omega)]; exact x3, by rw [hN6 _ _ (by omega) (by omega)]; exact x4⟩
  · rw [tp_cb e1, if_pos rfl]
    exact ⟨0, M6, N6, rfl, fun k64 => e2 k64, Or.inr ⟨rfl, 1, _, e3, (f4c.tr e4).cT hT cc, (f4c.tr e4).c, jf5.tr e5.j⟩⟩
end BARS
