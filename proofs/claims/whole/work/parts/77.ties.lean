/-! a tie is told -/
def te_tie (T : Nat → Nat → Nat) (x y r : Nat) (A B : Nat → Nat) : Nat → Nat → Nat := fun a i => if a = 0 then (if i = 1 then tK T + 1 else if i = 4 then tL T + r else T 0 i) else if a = 4 ∧ i = tK T then x else if a = 5 ∧ i = tK T then y else if a = 6 ∧ i = tK T then r else if a = 7 ∧ 9 * tK T ≤ i ∧ i < 9 * tK T + 9 then A (i - 9 * tK T) else if a = 8 ∧ 9 * tK T ≤ i ∧ i < 9 * tK T + 9 then B (i - 9 * tK T) else T a i
theorem cT.hi {M M' : tv_M} {p : Nat} {T : Nat → Nat → Nat} (hT : gT p T) (h : cT M p T) (hk : ∀ a i, 18 ≤ a → a < 38 + 3 * tK T → ¬ (22 ≤ a ∧ a < 38 ∧ a % 2 = 1) → M'.1 a i = M.1 a i) : cT M' p T := by
  obtain ⟨h0, h4, h5, h6, h7, h8, hn, he, ht, hb⟩ := h
  obtain ⟨g1, g2, g3, -⟩ := hT
  refine ⟨?_, ?_, ?_, ?_, ?_, ?_, fun e q => ?_, fun e q => ?_, fun t q => ?_, fun k i q1 q2 => ?_⟩
  · rw [hk _ _ (by omega) (by omega) (by omega)]; exact h0
  · rw [hk _ _ (by omega) (by omega) (by omega)]; exact h4
  · rw [hk _ _ (by omega) (by omega) (by omega)]; exact h5
  · rw [hk _ _ (by omega) (by omega) (by omega)]; exact h6
  · rw [hk _ _ (by omega) (by omega) (by omega)]; exact h7
  · rw [hk _ _ (by omega) (by omega) (by omega)]; exact h8
  · rw [hk _ _ (by omega) (by omega) (by omega)]; exact hn e q
  · obtain ⟨e1, e2, e3⟩ := he e q
    exact ⟨by rw [hk _ _ (by omega) (by omega) (by omega)]; exact e1, by rw [hk _ _ (by omega) (by omega) (by omega)]; exact e2, by rw [hk _ _ (by omega) (by omega) (by omega)]; exact e3⟩
  · obtain ⟨e1, e2, e3, e4, e5⟩ := ht t q
    exact ⟨by rw [hk _ _ (by omega) (by omega) (by omega)]; exact e1, by rw [hk _ _ (by omega) (by omega) (by omega)]; exact e2, by rw [hk _ _ (by omega) (by omega) (by omega)]; exact e3, fun r k f1 f2 => by rw [hk _ _ (by omega) (by omega) (by omega)]; exact e4 r k f1 f2, fun r k f1 f2 => by rw [hk _ _ (by omega) (by omega) (by omega)]; exact e5 r k f1 f2⟩
  · rw [hk _ _ (by omega) (by omega) (by omega)]; exact hb k i q1 q2
section TIES
variable {F p x y r : Nat} {M N : tv_M} {Tp T : Nat → Nat → Nat} {q : Nat × Nat × Nat} {A B : Nat → Nat}
theorem tt_o {a i : Nat} (h : 1 ≤ a) (h2 : a < 4 ∨ 9 ≤ a) : te_tie T x y r A B a i = T a i := by
  unfold te_tie
  rw [if_neg (by omega), if_neg (by omega), if_neg (by omega), if_neg (by omega), if_neg (by omega), if_neg (by omega)]
theorem tt_1 {t : Nat} : to1 (te_tie T x y r A B) t = if t = tK T then x else to1 T t := by
  show te_tie T x y r A B 4 t = _
  unfold te_tie
  by_cases h : t = tK T
  · simp [h]
  · simp [h]
theorem tt_2 {t : Nat} : to2 (te_tie T x y r A B) t = if t = tK T then y else to2 T t := by
  show te_tie T x y r A B 5 t = _
  unfold te_tie
  by_cases h : t = tK T
  · simp [h]
  · simp [h]
theorem tt_r {t : Nat} : trw (te_tie T x y r A B) t = if t = tK T then r else trw T t := by
  show te_tie T x y r A B 6 t = _
  unfold te_tie
  by_cases h : t = tK T
  · simp [h]
  · simp [h]
theorem tt_a {t i : Nat} (hi : i < 9) : tta (te_tie T x y r A B) t i = if t = tK T then A i else tta T t i := by
  show te_tie T x y r A B 7 (9 * t + i) = _
  unfold te_tie
  rw [if_neg (by omega), if_neg (by omega), if_neg (by omega), if_neg (by omega)]
  by_cases w : t = tK T
  · rw [if_pos w, if_pos ⟨rfl, by omega⟩, w, Nat.add_sub_cancel_left]
  · rw [if_neg w, if_neg (fun z => w (by omega)), if_neg (by omega)]
theorem tt_b {t i : Nat} (hi : i < 9) : ttb (te_tie T x y r A B) t i = if t = tK T then B i else ttb T t i := by
  show te_tie T x y r A B 8 (9 * t + i) = _
  unfold te_tie
  rw [if_neg (by omega), if_neg (by omega), if_neg (by omega), if_neg (by omega), if_neg (by omega)]
  by_cases w : t = tK T
  · rw [if_pos w, if_pos ⟨rfl, by omega⟩, w, Nat.add_sub_cancel_left]
  · rw [if_neg w, if_neg (fun z => w (by omega))]
theorem tt_tcs : ∀ e, tcs (te_tie T x y r A B) e = tcs T e := by
  intro e
  induction e with
  | zero => rfl
  | succ e ih => rw [tcs, tcs, ih, show tso (te_tie T x y r A B) e = tso T e from tt_o (by omega) (by omega), show tsz (te_tie T x y r A B) e = tsz T e from tt_o (by omega) (by omega)]
theorem tt_tls : ∀ t, t ≤ tK T → tls (te_tie T x y r A B) t = tls T t := by
  intro t
  induction t with
  | zero => intro _; rfl
  | succ t ih => intro ht; rw [tls, tls, ih (by omega), tt_r, if_neg (by omega)]
theorem tt_ext : Ext T (te_tie T x y r A B) := ⟨Nat.le_refl _, Nat.le_succ _, Nat.le_refl _, fun e he => ⟨tt_o (by omega) (by omega), tt_o (by omega) (by omega), tt_o (by omega) (by omega)⟩, fun t ht => ⟨by rw [tt_1, if_neg (by omega)], by rw [tt_2, if_neg (by omega)], by rw [tt_r, if_neg (by omega)], fun i hi => ⟨by rw [tt_a hi, if_neg (by omega)], by rw [tt_b hi, if_neg (by omega)]⟩⟩, fun k i hk hi => tt_o (by omega) (by omega)⟩
theorem tt_g (hT : gT p T) (h10 : tK T < 10) (hx : x < tE T) (hxs : tso T x ≠ 3) (hy : y < tE T) (hys : tso T y ≠ 3) (hxy : x ≠ y) (hr1 : 1 ≤ r) (hr3 : r ≤ 3) (hA : ∀ r' k, r' < r → k < tsz T x → A (3 * r' + k) < p) (hB : ∀ r' k, r' < r → k < tsz T y → B (3 * r' + k) < p) : gT p (te_tie T x y r A B) := by
  have hcx := (hT.col hx hxs).2.1
  have hcy := (hT.col hy hys).2.1
  have hTT := hT
  obtain ⟨g1, g2, g3, g4, g5, g6, g7, g8⟩ := hT
  have hso : ∀ e, tso (te_tie T x y r A B) e = tso T e := fun e => tt_o (by omega) (by omega)
  have hsz : ∀ e, tsz (te_tie T x y r A B) e = tsz T e := fun e => tt_o (by omega) (by omega)
  refine ⟨g1, by show tK T + 1 ≤ 10; omega, g3, by show tC T = _; rw [tt_tcs]; exact g4, ?_, fun e he => ?_, fun t ht => ?_, fun k hk => ?_⟩
  · show tL T + r = tls (te_tie T x y r A B) (tK T + 1)
    rw [tls, tt_tls _ (Nat.le_refl _), tt_r, if_pos rfl, g5]
  · unfold gTe
    rw [hso, hsz, show tco (te_tie T x y r A B) e = tco T e from tt_o (by omega) (by omega), tt_tcs]
    exact g6 e he
  · have ht : t < tK T + 1 := ht
    unfold gTt
    rw [tt_1, tt_2, tt_r]
    by_cases w : t = tK T
    · rw [if_pos w, if_pos w, if_pos w, hso, hso, hsz, hsz]
      exact ⟨hx, hy, hxs, hys, hxy, hr1, hr3, fun r' k h1 h2 => by rw [tt_a (by omega), if_pos w]; exact hA r' k h1 h2, fun r' k h1 h2 => by rw [tt_b (by omega), if_pos w]; exact hB r' k h1 h2⟩
    · rw [if_neg w, if_neg w, if_neg w, hso, hso, hsz, hsz]
      obtain ⟨a1, a2, a3, a4, a5, a6, a7, a8, a9⟩ := g7 t (by omega)
      have z1 := (hTT.col a1 a3).2.1
      have z2 := (hTT.col a2 a4).2.1
      exact ⟨a1, a2, a3, a4, a5, a6, a7, fun r' k h1 h2 => by rw [tt_a (by omega), if_neg w]; exact a8 r' k h1 h2, fun r' k h1 h2 => by rw [tt_b (by omega), if_neg w]; exact a9 r' k h1 h2⟩
  · have hb : ∀ i, tbr (te_tie T x y r A B) k i = tbr T k i := fun i => tt_o (by omega) (by omega)
    unfold gTb
    rw [hb, hb, hb, hb, hso, hso, hsz, hsz]
    exact g8 k hk
theorem md_129 {l1 l2 l3 : Int32} {t : Nat} (ht : t < 10) (h35 : N.1 249 35 = nI t) : ∃ N', Md_readTie_L129 F l1 l2 l3 N = some ((), N') ∧ N'.1 256 t = l1 ∧ N'.1 257 t = l2 ∧ N'.1 258 t = l3 ∧ N'.1 249 35 = nI (t + 1) ∧ ∀ a i, ¬ (a = 249 ∧ i = 35) → ¬ (256 ≤ a ∧ a ≤ 258 ∧ i = t) → N'.1 a i = N.1 a i := by
  unfold Md_readTie_L129
  rw [h35, tp_wr ht (by decide), tp_wk (by omega), h35, tp_wr ht (by decide), tp_wk (by omega), tp_wk (by omega), h35, tp_wr ht (by decide), tp_wk (by omega), tp_wk (by omega), tp_wk (by omega), h35, nI_1, tp_pf]
  refine ⟨_, rfl, ?_, ?_, ?_, tp_ws, fun a i w1 w2 => ?_⟩
  · rw [tp_wk (by omega), tp_wk (by omega), tp_wk (by omega), tp_ws]
  · rw [tp_wk (by omega), tp_wk (by omega), tp_ws]
  · rw [tp_wk (by omega), tp_ws]
  · rw [tp_w, if_neg w1, tp_w, if_neg (by omega), tp_w, if_neg (by omega), tp_w, if_neg (by omega)]
/-- the rest of a tie when a fault was found -/
theorem md_tief {f b t : Nat} {l1 l2 l3 : Int32} (ht : t < 10) (h : FL M N f b) (h35 : N.1 249 35 = nI t) : ∃ N', Md_readTie_L49 F l1 l2 l3 N = some ((), N') ∧ Md_readTie_L74 F l1 l2 l3 N = some ((), N') ∧ Md_readTie_L101 F l1 l2 l3 N = some ((), N') ∧ Md_readTie_L129 F l1 l2 l3 N = some ((), N') ∧ FL M N' f b ∧ ∀ a i, ¬ (a = 249 ∧ i = 35) → ¬ (256 ≤ a ∧ a ≤ 258 ∧ i = t) → N'.1 a i = N.1 a i := by
  have hne : ¬ nI f = 0 := fun w => absurd ((nI_z (by have := h.2.2.2.2.2.1; omega)).mp w) (by have := h.2.2.2.2.1; omega)
  obtain ⟨N', x1, x2, x3, x4, x5, x6⟩ := md_129 (F := F) (l1 := l1) (l2 := l2) (l3 := l3) ht h35
  have e101 : Md_readTie_L101 F l1 l2 l3 N = some ((), N') := by unfold Md_readTie_L101; rw [h.2.2.1, if_neg hne]; exact x1
  have e74 : Md_readTie_L74 F l1 l2 l3 N = some ((), N') := by unfold Md_readTie_L74; rw [h.2.2.1, if_neg hne]; exact e101
  have e49 : Md_readTie_L49 F l1 l2 l3 N = some ((), N') := by unfold Md_readTie_L49; rw [h.2.2.1, if_neg hne]; exact e74
  exact ⟨N', e49, e74, e101, x1, h.cg rfl rfl (x6 _ _ (by omega) (by omega)) (x6 _ _ (by omega) (by omega)), x6⟩
/-- the class writes at the next tie alone -/
def fNt (t : Nat) (M M' : tv_M) : Prop := ∀ a i, ¬ (a = 68 ∧ 3 ≤ i ∧ i ≤ 8) → ¬ (38 + 3 * t ≤ a ∧ a < 41 + 3 * t) → M'.1 a i = M.1 a i
theorem fNt.tr {t : Nat} {M M' M'' : tv_M} (h : fNt t M M') (g : fNt t M' M'') : fNt t M M'' := fun a i q1 q2 => (g a i q1 q2).trans (h a i q1 q2)
theorem fNt.cT {M M' : tv_M} (hT : gT p T) (h10 : tK T < 10) (hf : fNt (tK T) M M') (h : cT M p T) : cT M' p T := h.hi hT (fun a i q1 q2 q3 => hf a i (by omega) (by omega))
theorem fNt.cf {M M' : tv_M} (h10 : tK T < 10) (hf : fNt (tK T) M M') : CF T M M' := fun a i w1 w2 w3 w4 w5 => hf a i w2 (by omega)
theorem f68.nt {t : Nat} {M M' : tv_M} (h : f68 M M') : fNt t M M' := fun a i q _ => h a i q
theorem fTc.nt {t c : Nat} {M M' : tv_M} (h : fTc c M M') (hc : 38 + 3 * t ≤ c ∧ c < 41 + 3 * t) : fNt t M M' := fun a i q1 q2 => h a i q1 (by omega)
def fNm (t : Nat) (N N' : tv_M) : Prop := ∀ a i, ¬ (a = 249 ∧ ((27 ≤ i ∧ i ≤ 32) ∨ i = 35)) → ¬ (256 ≤ a ∧ a ≤ 258 ∧ i = t) → ¬ (a = 259 ∧ 18 * t ≤ i ∧ i < 18 * t + 18) → N'.1 a i = N.1 a i
theorem fNm.tr {t : Nat} {M M' M'' : tv_M} (h : fNm t M M') (g : fNm t M' M'') : fNm t M M'' := fun a i q1 q2 q3 => (g a i q1 q2 q3).trans (h a i q1 q2 q3)
theorem f32.nm {t : Nat} {M M' : tv_M} (h : f32 M M') : fNm t M M' := fun a i q _ _ => h a i (by omega)
theorem fTm.nm {t c : Nat} {M M' : tv_M} (h : fTm c M M') (hc : 18 * t ≤ c ∧ c + 9 ≤ 18 * t + 18) : fNm t M M' := fun a i q1 q2 q3 => h a i (by omega) (by omega)
theorem fNm.j {M M' : tv_M} (hf : fNm (tK T) M M') : JF T M M' := fun a i w1 w2 w3 w4 w5 => hf a i (by omega) (by omega) (by omega)
theorem mT1.nm {N N' : tv_M} (h : mT1 N p T) (hT : gT p T) (hf : fNm (tK T) N N') (h35 : N'.1 249 35 = N.1 249 35) : mT1 N' p T := by
  obtain ⟨m1, m2, m3, m4, m5, me, mt, mb⟩ := h
  refine ⟨by rw [hf _ _ (by omega) (by omega) (by omega)]; exact m1, by rw [hf _ _ (by omega) (by omega) (by omega)]; exact m2, by rw [hf _ _ (by omega) (by omega) (by omega)]; exact m3, by rw [h35]; exact m4, by rw [hf _ _ (by omega) (by omega) (by omega)]; exact m5, fun e he => ?_, fun t ht => ?_, fun k hk => ?_⟩
  · obtain ⟨x1, x2, x3⟩ := me e he
    exact ⟨by rw [hf _ _ (by omega) (by omega) (by omega)]; exact x1, by rw [hf _ _ (by omega) (by omega) (by omega)]; exact x2, by rw [hf _ _ (by omega) (by omega) (by omega)]; exact x3⟩
  · obtain ⟨x1, x2, x3, x4, x5⟩ := mt t ht
    obtain ⟨a1, a2, a3, a4, a5, a6, a7, -⟩ := hT.2.2.2.2.2.2.1 t ht
    have z1 := (hT.col a1 a3).2.1
    have z2 := (hT.col a2 a4).2.1
    exact ⟨by rw [hf _ _ (by omega) (by omega) (by omega)]; exact x1, by rw [hf _ _ (by omega) (by omega) (by omega)]; exact x2, by rw [hf _ _ (by omega) (by omega) (by omega)]; exact x3, fun r k h1 h2 => by rw [hf _ _ (by omega) (by omega) (by omega)]; exact x4 r k h1 h2, fun r k h1 h2 => by rw [hf _ _ (by omega) (by omega) (by omega)]; exact x5 r k h1 h2⟩
  · obtain ⟨x1, x2, x3, x4⟩ := mb k hk
    exact ⟨by rw [hf _ _ (by omega) (by omega) (by omega)]; exact x1, by rw [hf _ _ (by omega) (by omega) (by omega)]; exact x2, by rw [hf _ _ (by omega) (by omega) (by omega)]; exact x3, by rw [hf _ _ (by omega) (by omega) (by omega)]; exact x4⟩
theorem s_tie (hF : 600 < F) (hp : tp_pr p) (hg : gTp Tp) (hT : gT p T) (cc : cT M p T) (mc : mT1 N p T) (h : SY M N Tp q) (h10 : tK T < 10) : ∃ (res : Int32) (M' N' : tv_M), tv_cb (Re_takeEyes F (38 + 3 * tK T) M) (fun r10 M11 => if r10 = 0 then some (0, M11) else tv_cb (Re_takeNumber F 1 3 M11) (fun r12 M13 => if r12 = 0 then some (0, M13) else tv_pf M13 (38 + 3 * tK T) 2 (M13.1 68 8) (fun M14 => tv_cb (Re_takeWord F 6 M14) (fun r15 M16 => if r15 = 0 then some (0, M16) else tv_cb (Re_takeTable F (38 + 3 * tK T) (M16.1 (38 + 3 * tK T) 0) M16) (fun r17 M18 => if r17 = 0 then some (0, M18) else tv_cb (Re_takeWord F 7 M18) (fun r19 M20 => if r19 = 0 then some (0, M20) else tv_cb (Re_takeTable F (38 + 3 * tK T) (M20.1 (38 + 3 * tK T) 1) M20) (fun r21 M22 => if r21 = 0 then some (0, M22) else tv_cb (Re_takeSign F 59 M22) (fun r23 M24 => if r23 = 0 then some (0, M24) else tv_cb (To_addNextTie F M24) (fun r25 M26 => some (1, M26)))))))))) = some (res, M') ∧ (∀ k64 : tv_M → Option (Int32 × tv_M), tv_cb (Md_readTie F N) (fun _ N1 => Md_read_L228 F k64 N1) = k64 N') ∧ ((res = 1 ∧ OKS p Tp T q M N M' N') ∨ (res = 0 ∧ FLS p T M N M' N')) := by
  have h8 := hT.1
  obtain ⟨p1, p2, p3, p4, p5, p6⟩ := tp_tiP (tK T) h10
  -- a fault that ends it
  have hfail : ∀ (M1 N1 N2 : tv_M) f b, FL M1 N2 f b → fNt (tK T) M M1 → fNm (tK T) N N2 → FLS p T M N M1 N2 := fun M1 N1 N2 f b h1 h2 h3 => ⟨f, b, h1, h2.cT hT h10 cc, h2.cf h10, h3.j⟩
  unfold Re_takeEyes Md_readTie
  rw [tp_gl p4]
  -- the first eye
  rcases pr_eye (F := F) (ch := 0) (chI := 0) (un := -1000000) hF hg hT cc mc h rfl (by omega) with ⟨a1, a2, a3, a4, M1, N1, a5, a6, a7, a8, a9, a10⟩ | ⟨f, M1, N1, w, b1, b2, b3, b4, b5⟩
  rotate_left
  · obtain ⟨N2, c1, -, -, -, c2, c3⟩ := md_tief (F := F) (l1 := w) (l2 := 0) (l3 := 0) h10 b3 (by rw [b5 _ _ (by omega)]; exact mc.2.2.2.1)
    have hne : ¬ nI f = 0 := fun v => absurd ((nI_z (by have := b3.2.2.2.2.2.1; omega)).mp v) (by have := b3.2.2.2.2.1; omega)
    rw [tp_cb b1, if_pos rfl, tp_cb (c := some ((0 : Int32), M1)) rfl, if_pos rfl, tp_cb b2, tp_cb (md_eyef b3.2.2.1 b3.2.2.2.2.1 b3.2.2.2.2.2.1), tp_cb (md_numf b3.2.2.1 b3.2.2.2.2.1 b3.2.2.2.2.2.1), b3.2.2.1, if_neg hne]
    exact ⟨0, M1, N2, rfl, fun k64 => by rw [tp_cb c1]; exact md_228f c2, Or.inr ⟨rfl, hfail M1 N1 N2 f _ c2 b4.nt (b5.nm.tr (fun a i w1 w2 w3 => c3 a i (by omega) w2))⟩⟩
  have a3 : tso T (qv Tp q) ≠ 3 := fun z => absurd (a3.mp z) (by omega)
  generalize qv Tp q = va at a2 a3 a4 a6 a7
  have mc1 := mc.f32 a10.f
  have f1 : fNt (tK T) M (tv_w M1 (38 + 3 * tK T) 0 (nI va)) := fun a i w1 w2 => by rw [tp_wk (by omega)]; exact a9 a i w1
  have hS1 : SY (tv_w M1 (38 + 3 * tK T) 0 (nI va)) N1 Tp (lx Tp q.2.1) := a8.cg (fun i _ _ => by rw [tp_wk (by omega)]) (fun i => by rw [tp_wk (by omega)]) (fun _ _ _ => rfl) (fun _ => rfl)
  have k0 : (tv_w M1 (38 + 3 * tK T) 0 (nI va)).1 (38 + 3 * tK T) 0 = nI va := tp_ws
  rw [tp_cb a5, if_neg (show ¬ (1 : Int32) = 0 by decide), a6, tp_pf, k0, tp_cb a7]
  generalize tv_w M1 (38 + 3 * tK T) 0 (nI va) = M2 at f1 hS1 k0
  have cc2 : cT M2 p T := f1.cT hT h10 cc
  -- the second eye
  rcases pr_eye (F := F) (ch := 0) (chI := 0) (un := nI va) hF hg hT cc2 mc1 hS1 rfl (by omega) with ⟨b1, b2, b3, b4, M3, N3, b5, b6, b7, b8, b9, b10⟩ | ⟨f, M3, N3, w, b1, b2, b3, b4, b5⟩
  rotate_left
  · obtain ⟨N4, c1, -, -, -, c2, c3⟩ := md_tief (F := F) (l1 := nI va) (l2 := w) (l3 := 0) h10 b3 (by rw [b5 _ _ (by omega)]; exact mc1.2.2.2.1)
    have hne : ¬ nI f = 0 := fun v => absurd ((nI_z (by have := b3.2.2.2.2.2.1; omega)).mp v) (by have := b3.2.2.2.2.1; omega)
    rw [tp_cb b1, if_pos rfl, tp_cb (c := some ((0 : Int32), M3)) rfl, if_pos rfl, tp_cb b2, tp_cb (md_numf b3.2.2.1 b3.2.2.2.2.1 b3.2.2.2.2.2.1), b3.2.2.1, if_neg hne]
    exact ⟨0, M3, N4, rfl, fun k64 => by rw [tp_cb c1]; exact md_228f c2, Or.inr ⟨rfl, hfail M3 N3 N4 f _ c2 (f1.tr b4.nt) ((a10.f.nm.tr b5.nm).tr (fun a i w1 w2 w3 => c3 a i (by omega) w2))⟩⟩
  have b3 : tso T (qv Tp (lx Tp q.2.1)) ≠ 3 := fun z => absurd (b3.mp z) (by omega)
  generalize qv Tp (lx Tp q.2.1) = vb at b2 b3 b4 b6 b7
  have hab : va ≠ vb := fun z => b4 (by rw [z])
  have mc3 := mc1.f32 b10.f
  have f3 : fNt (tK T) M (tv_w M3 (38 + 3 * tK T) 1 (nI vb)) := fun a i w1 w2 => by rw [tp_wk (by omega)]; exact (f1.tr b9.nt) a i w1 w2
  have hS3 : SY (tv_w M3 (38 + 3 * tK T) 1 (nI vb)) N3 Tp (lx Tp (lx Tp q.2.1).2.1) := b8.cg (fun i _ _ => by rw [tp_wk (by omega)]) (fun i => by rw [tp_wk (by omega)]) (fun _ _ _ => rfl) (fun _ => rfl)
  have k30 : (tv_w M3 (38 + 3 * tK T) 1 (nI vb)).1 (38 + 3 * tK T) 0 = nI va := by rw [tp_wj (by omega), b9 _ _ (by omega)]; exact k0
  have k31 : (tv_w M3 (38 + 3 * tK T) 1 (nI vb)).1 (38 + 3 * tK T) 1 = nI vb := tp_ws
  rw [tp_cb b5, if_neg (show ¬ (1 : Int32) = 0 by decide), b6, tp_pf, tp_cb (c := some ((1 : Int32), tv_w M3 (38 + 3 * tK T) 1 (nI vb))) rfl, if_neg (show ¬ (1 : Int32) = 0 by decide), tp_cb b7]
  generalize tv_w M3 (38 + 3 * tK T) 1 (nI vb) = M4 at f3 hS3 k30 k31
  have g3m : fNm (tK T) N N3 := a10.f.nm.tr b10.f.nm
  -- how many rows
  rcases pr_num (F := F) (lo := 1) (hi := 3) (loI := 1) (hiI := 3) hF hg hS3 rfl rfl (by omega) (by omega) with ⟨c1, c2, c3, M5, N5, c4, c5, c6, c7, c8, c9⟩ | ⟨f, M5, N5, w, c1, c2, c3, c4, c5⟩
  rotate_left
  · obtain ⟨N6, d1, -, -, -, d2, d3⟩ := md_tief (F := F) (l1 := nI va) (l2 := nI vb) (l3 := w) h10 c3 (by rw [c5 _ _ (by omega)]; exact mc3.2.2.2.1)
    have hne : ¬ nI f = 0 := fun v => absurd ((nI_z (by have := c3.2.2.2.2.2.1; omega)).mp v) (by have := c3.2.2.2.2.1; omega)
    rw [tp_cb c1, if_pos rfl, tp_cb c2, c3.2.2.1, if_neg hne]
    exact ⟨0, M5, N6, rfl, fun k64 => by rw [tp_cb d1]; exact md_228f d2, Or.inr ⟨rfl, hfail M5 N5 N6 f _ d2 (f3.tr c4.nt) ((g3m.tr c5.nm).tr (fun a i w1 w2 w3 => d3 a i (by omega) w2))⟩⟩
  generalize qv Tp (lx Tp (lx Tp q.2.1).2.1) = vr at c2 c3 c5 c6
  have mc5 := mc3.f32 c9.f
  have f5 : fNt (tK T) M (tv_w M5 (38 + 3 * tK T) 2 (nI vr)) := fun a i w1 w2 => by rw [tp_wk (by omega)]; exact (f3.tr c8.nt) a i w1 w2
  have hS5 : SY (tv_w M5 (38 + 3 * tK T) 2 (nI vr)) N5 Tp (lx Tp (lx Tp (lx Tp q.2.1).2.1).2.1) := c7.cg (fun i _ _ => by rw [tp_wk (by omega)]) (fun i => by rw [tp_wk (by omega)]) (fun _ _ _ => rfl) (fun _ => rfl)
  have k50 : (tv_w M5 (38 + 3 * tK T) 2 (nI vr)).1 (38 + 3 * tK T) 0 = nI va := by rw [tp_wj (by omega), c8 _ _ (by omega)]; exact k30
  have k51 : (tv_w M5 (38 + 3 * tK T) 2 (nI vr)).1 (38 + 3 * tK T) 1 = nI vb := by rw [tp_wj (by omega), c8 _ _ (by omega)]; exact k31
  have k52 : (tv_w M5 (38 + 3 * tK T) 2 (nI vr)).1 (38 + 3 * tK T) 2 = nI vr := tp_ws
  rw [tp_cb c4, if_neg (show ¬ (1 : Int32) = 0 by decide), c5, tp_pf, tp_cb c6, hS5.2.2.2.2.1, if_pos rfl, tp_cb (pr_wd hF hg hS5)]
  generalize tv_w M5 (38 + 3 * tK T) 2 (nI vr) = M6 at f5 hS5 k50 k51 k52
  have g5m : fNm (tK T) N N5 := g3m.tr c9.f.nm
  have i6 := pr_wi (w := 6) (C := 25209) hg hS5 (by omega) (by decide)
  -- by
  rcases pr_word (F := F) (w := 6) hF hg hS5 (by omega) with ⟨d1, M7, N7, d2, d3, d4, d5, d6⟩ | ⟨d1, M7, N7, d2, d3, d4, d5, d6⟩
  rotate_left
  · obtain ⟨N8, u1, -, -, -, u2, u3⟩ := md_tief (F := F) (l1 := nI va) (l2 := nI vb) (l3 := nI vr) h10 d4 (by rw [d6 _ _ (by omega)]; exact mc5.2.2.2.1)
    rw [tp_cb d2, if_pos rfl, if_neg (fun v => by rw [i6.mp v] at d1; exact Bool.noConfusion d1), tp_cb d3]
    exact ⟨0, M7, N8, rfl, fun k64 => by rw [tp_cb u1]; exact md_228f u2, Or.inr ⟨rfl, hfail M7 N7 N8 1 _ u2 (f5.tr d5.nt) ((g5m.tr d6.nm).tr (fun a i w1 w2 w3 => u3 a i (by omega) w2))⟩⟩
  have mc7 := mc5.f32 d6.f
  have f7 : fNt (tK T) M M7 := f5.tr d5.nt
  have g7m : fNm (tK T) N N7 := g5m.tr d6.f.nm
  have cc7 : cT M7 p T := f7.cT hT h10 cc
  have k70 : M7.1 (38 + 3 * tK T) 0 = nI va := by rw [d5 _ _ (by omega)]; exact k50
  have k71 : M7.1 (38 + 3 * tK T) 1 = nI vb := by rw [d5 _ _ (by omega)]; exact k51
  have k72 : M7.1 (38 + 3 * tK T) 2 = nI vr := by rw [d5 _ _ (by omega)]; exact k52
  obtain ⟨-, -, ea3, -⟩ := tp_eyP va (by omega)
  obtain ⟨-, -, eb3, -⟩ := tp_eyP vb (by omega)
  obtain ⟨xa1, xa2, xa3⟩ := hT.col a2 a3
  obtain ⟨xb1, xb2, xb3⟩ := hT.col b2 b3
  -- the first table
  obtain ⟨res, M8, N8, t1, t2, t3, t4, t5⟩ := pr_tab (F := F) (tc := 38 + 3 * tK T) (e := va) (c := 39 + 3 * tK T) (at' := 18 * tK T) (rows := vr) (n := tsz T va) hF hp hg p4 ea3 p5 (by omega) (by omega) (by omega) (by omega) c2 c3 xa2 (by omega) d4 k72 (cc7.2.2.2.2.2.2.2.1 va a2).2.1 cc7.1 mc7.1
  have et1 : Re_takeTable F (38 + 3 * tK T) (nI va) M7 = some (res, M8) := by
    unfold Re_takeTable
    have e9 : Ti_tableOf F (38 + 3 * tK T) (nI va) M7 = some (some (39 + 3 * tK T), M7) := by
      unfold Ti_tableOf
      rw [tp_gl p4, k70, if_pos rfl, tp_nn p2, tp_gn p5]
    rw [tp_gl p4, tp_cb (to_lin hT cc7 a2), if_neg a3, tp_nls, tp_gl ea3, tp_cb e9]
    show tv_gn (39 + 3 * tK T) 20 (fun n13 => Re_takeTable_L29 F F (38 + 3 * tK T) (22 + 2 * va) (39 + 3 * tK T) 0 M7) = _
    rw [tp_gn p5]; exact t1
  rw [tp_cb d2, if_neg (show ¬ (1 : Int32) = 0 by decide), if_pos (i6.mpr d1), tp_cb d3, k70, tp_cb et1]
  have f8 : fNt (tK T) M M8 := f7.tr (t3.nt (by omega))
  have g8m : fNm (tK T) N N8 := g7m.tr (t4.nm (by omega))
  have h35 : N8.1 249 35 = nI (tK T) := by rw [t4 _ _ (by omega) (by omega)]; exact mc7.2.2.2.1
  unfold Md_readTie_L49
  rw [d4.2.2.2.2.1, if_pos rfl, tp_rd (by omega) (by decide), (mc7.2.2.2.2.2.1 va a2).2.1, mc7.2.2.2.1, show (18 * nI (tK T) : Int32) = nI (18 * tK T) from nI_mul 18 _, tp_cb t2]
  rcases t5 with ⟨rfl, q8, V, s1, s2, s3⟩ | ⟨rfl, f, b, s1⟩
  rotate_left
  · obtain ⟨N9, -, u1, -, -, u2, u3⟩ := md_tief (F := F) (l1 := nI va) (l2 := nI vb) (l3 := nI vr) h10 s1 h35
    rw [if_pos rfl]
    exact ⟨0, M8, N9, rfl, fun k64 => by rw [tp_cb u1]; exact md_228f u2, Or.inr ⟨rfl, hfail M8 N8 N9 f _ u2 f8 (g8m.tr (fun a i w1 w2 w3 => u3 a i (by omega) w2))⟩⟩
  rw [if_neg (show ¬ (1 : Int32) = 0 by decide)]
  unfold Md_readTie_L74
  rw [s1.2.2.2.2.1, if_pos rfl, tp_cb (pr_wd hF hg s1)]
  have i7 := pr_wi (w := 7) (C := 6385252) hg s1 (by omega) (by decide)
  -- and
  rcases pr_word (F := F) (w := 7) hF hg s1 (by omega) with ⟨v1, M9, N9, v2, v3, v4, v5, v6⟩ | ⟨v1, M9, N9, v2, v3, v4, v5, v6⟩
  rotate_left
  · obtain ⟨N10, -, -, u1, -, u2, u3⟩ := md_tief (F := F) (l1 := nI va) (l2 := nI vb) (l3 := nI vr) h10 v4 (by rw [v6 _ _ (by omega)]; exact h35)
    rw [tp_cb v2, if_pos rfl, if_neg (fun z => by rw [i7.mp z] at v1; exact Bool.noConfusion v1), tp_cb v3]
    exact ⟨0, M9, N10, rfl, fun k64 => by rw [tp_cb u1]; exact md_228f u2, Or.inr ⟨rfl, hfail M9 N9 N10 1 _ u2 (f8.tr v5.nt) ((g8m.tr v6.nm).tr (fun a i w1 w2 w3 => u3 a i (by omega) w2))⟩⟩
  have f9 : fNt (tK T) M M9 := f8.tr v5.nt
  have g9m : fNm (tK T) N N9 := g8m.tr v6.f.nm
  have cc9 : cT M9 p T := f9.cT hT h10 cc
  have h359 : N9.1 249 35 = nI (tK T) := by rw [v6 _ _ (by omega)]; exact h35
  have mc9 : mT1 N9 p T := mc.nm hT g9m (by rw [h359]; exact mc.2.2.2.1.symm)
  have k90 : M9.1 (38 + 3 * tK T) 0 = nI va := by rw [v5 _ _ (by omega), t3 _ _ (by omega) (by omega)]; exact k70
  have k91 : M9.1 (38 + 3 * tK T) 1 = nI vb := by rw [v5 _ _ (by omega), t3 _ _ (by omega) (by omega)]; exact k71
  have k92 : M9.1 (38 + 3 * tK T) 2 = nI vr := by rw [v5 _ _ (by omega), t3 _ _ (by omega) (by omega)]; exact k72
  -- the second table
  obtain ⟨res, M10, N10, t6, t7, t8, t9, t10⟩ := pr_tab (F := F) (tc := 38 + 3 * tK T) (e := vb) (c := 40 + 3 * tK T) (at' := 18 * tK T + 9) (rows := vr) (n := tsz T vb) hF hp hg p4 eb3 p6 (by omega) (by omega) (by omega) (by omega) c2 c3 xb2 (by omega) v4 k92 (cc9.2.2.2.2.2.2.2.1 vb b2).2.1 cc9.1 mc9.1
  have et2 : Re_takeTable F (38 + 3 * tK T) (nI vb) M9 = some (res, M10) := by
    unfold Re_takeTable
    have e9 : Ti_tableOf F (38 + 3 * tK T) (nI vb) M9 = some (some (40 + 3 * tK T), M9) := by
      unfold Ti_tableOf
      rw [tp_gl p4, k90, if_neg (fun z => hab (nI_inj (by omega) (by omega) z).symm), tp_nn p3, tp_gn p6]
    rw [tp_gl p4, tp_cb (to_lin hT cc9 b2), if_neg b3, tp_nls, tp_gl eb3, tp_cb e9]
    show tv_gn (40 + 3 * tK T) 20 (fun n13 => Re_takeTable_L29 F F (38 + 3 * tK T) (22 + 2 * vb) (40 + 3 * tK T) 0 M9) = _
    rw [tp_gn p6]; exact t6
  rw [tp_cb v2, if_neg (show ¬ (1 : Int32) = 0 by decide), if_pos (i7.mpr v1), tp_cb v3, k91, tp_cb et2]
  have f10 : fNt (tK T) M M10 := f9.tr (t8.nt (by omega))
  have g10m : fNm (tK T) N N10 := g9m.tr (t9.nm (by omega))
  have h3510 : N10.1 249 35 = nI (tK T) := by rw [t9 _ _ (by omega) (by omega)]; exact h359
  unfold Md_readTie_L101
  rw [v4.2.2.2.2.1, if_pos rfl, tp_rd (by omega) (by decide), (mc9.2.2.2.2.2.1 vb b2).2.1, h359, show (18 * nI (tK T) + 9 : Int32) = nI (18 * tK T + 9) from by rw [← nI_add, ← nI_mul]; rfl, tp_cb t7]
  obtain ⟨N11, w1, w2, w3, w4, w5, w6⟩ := md_129 (F := F) (l1 := nI va) (l2 := nI vb) (l3 := nI vr) h10 h3510
  have g11m : fNm (tK T) N N11 := g10m.tr (fun a i z1 z2 z3 => w6 a i (by omega) z2)
  rcases t10 with ⟨rfl, q10, V2, s4, s5, s6⟩ | ⟨rfl, f, b, s4⟩
  rotate_left
  · have hfl : FL M10 N11 f b := s4.cg rfl rfl (w6 _ _ (by omega) (by omega)) (w6 _ _ (by omega) (by omega))
    rw [if_pos rfl]
    exact ⟨0, M10, N11, rfl, fun k64 => by rw [tp_cb w1]; exact md_228f hfl, Or.inr ⟨rfl, hfail M10 N10 N11 f _ hfl f10 g11m⟩⟩
  rw [if_neg (show ¬ (1 : Int32) = 0 by decide)]
  have hS11 : SY M10 N11 Tp q10 := s4.cg (fun _ _ _ => rfl) (fun _ => rfl) (fun i _ _ => w6 _ _ (by omega) (by omega)) (fun i => w6 _ _ (by omega) (by omega))
  rcases pr_end (F := F) hF hg hS11 with ⟨M12, N12, e1, e2, e3, e4, e5⟩ | ⟨M12, N12, e1, e2, e3, e4, e5⟩
  rotate_left
  · rw [tp_cb e1, if_pos rfl]
    exact ⟨0, M12, N12, rfl, fun k64 => by rw [tp_cb w1]; exact e2 k64, Or.inr ⟨rfl, hfail M12 N11 N12 1 _ e3 (f10.tr e4.nt) (g11m.tr e5.nm)⟩⟩
  have f12 : fNt (tK T) M M12 := f10.tr e4.nt
  have g12m : fNm (tK T) N N12 := g11m.tr e5.f.nm
  have cc12 : cT M12 p T := f12.cT hT h10 cc
  have m0 : M12.1 (38 + 3 * tK T) 0 = nI va := by rw [e4 _ _ (by omega), t8 _ _ (by omega) (by omega)]; exact k90
  have m1 : M12.1 (38 + 3 * tK T) 1 = nI vb := by rw [e4 _ _ (by omega), t8 _ _ (by omega) (by omega)]; exact k91
  have m2 : M12.1 (38 + 3 * tK T) 2 = nI vr := by rw [e4 _ _ (by omega), t8 _ _ (by omega) (by omega)]; exact k92
  have hadd : To_addNextTie F M12 = some ((), tv_w (tv_w M12 18 8 (nI (tL T + vr))) 18 5 (nI (tK T + 1))) := by
    unfold To_addNextTie
    rw [cc12.2.2.1, if_neg (show ¬ (10 : Int32) ≤ nI (tK T) from nI_ge (b := 10) h10 (by omega)), tp_ap h10 (by decide) p1, tp_gl p4, cc12.2.2.2.2.2.1, m2, nI_add, tp_pf, tp_wj (by omega), cc12.2.2.1, nI_1, tp_pf]
  rw [tp_cb e1, if_neg (show ¬ (1 : Int32) = 0 by decide), tp_cb hadd]
  have hA : ∀ r' k, r' < vr → k < tsz T va → M12.1 (39 + 3 * tK T) (3 * r' + k) = nI (V (3 * r' + k)) ∧ N12.1 259 (18 * tK T + (3 * r' + k)) = nI (V (3 * r' + k)) ∧ V (3 * r' + k) < p := fun r' k z1 z2 => by
    obtain ⟨y1, y2, y3⟩ := s3 r' k (Or.inl ⟨z1, z2⟩)
    refine ⟨by rw [e4 _ _ (by omega), t8 _ _ (by omega) (by omega), v5 _ _ (by omega)]; exact y1, ?_, y3⟩
    rw [e5 _ _ (by omega), w6 _ _ (by omega) (by omega), t9 _ _ (by omega) (by omega), v6 _ _ (by omega), ← Nat.add_assoc]; exact y2
  have hB : ∀ r' k, r' < vr → k < tsz T vb → M12.1 (40 + 3 * tK T) (3 * r' + k) = nI (V2 (3 * r' + k)) ∧ N12.1 259 (18 * tK T + 9 + (3 * r' + k)) = nI (V2 (3 * r' + k)) ∧ V2 (3 * r' + k) < p := fun r' k z1 z2 => by
    obtain ⟨y1, y2, y3⟩ := s6 r' k (Or.inl ⟨z1, z2⟩)
    refine ⟨by rw [e4 _ _ (by omega)]; exact y1, ?_, y3⟩
    rw [e5 _ _ (by omega), w6 _ _ (by omega) (by omega), ← Nat.add_assoc]; exact y2
  have hle : q.1 ≤ (lx Tp q10.2.1).1 := by
    have n1 := h.2.2.2.2.2.nx
    have n2 := a8.2.2.2.2.2.nx
    have n3 := b8.2.2.2.2.2.nx
    have n4 := c7.2.2.2.2.2.nx
    have n5 := s1.2.2.2.2.2.nx
    have n6 := hS11.2.2.2.2.2.nx
    omega
  refine ⟨1, _, N12, rfl, fun k64 => by rw [tp_cb w1]; exact e2 k64, Or.inl ⟨rfl, te_tie T va vb vr V V2, _, tt_g hT h10 a2 a3 b2 b3 hab c2 c3 (fun r' k z1 z2 => (hA r' k z1 z2).2.2) (fun r' k z1 z2 => (hB r' k z1 z2).2.2), tt_ext, ?_, ?_, e3.cg (fun i _ _ => by rw [tp_wk (by omega), tp_wk (by omega)]) (fun i => by rw [tp_wk (by omega), tp_wk (by omega)]) (fun _ _ _ => rfl) (fun _ => rfl), hle, fun e z1 z2 => by have z2 : e < tE T := z2; omega, fun a i z1 z2 z3 z4 z5 => by rw [tp_w, if_neg (by omega), tp_w, if_neg (by omega)]; exact f12.cf h10 a i z1 z2 z3 z4 z5, g12m.j⟩⟩
  · obtain ⟨c0', c4', c5', c6', c7', c8', cn', ce', ct', cb'⟩ := cc12
    refine ⟨by rw [tp_wj (by omega), tp_wj (by omega)]; exact c0', by rw [tp_wj (by omega), tp_wj (by omega)]; exact c4', tp_ws, by rw [tp_wj (by omega), tp_wj (by omega)]; exact c6', by rw [tp_wj (by omega), tp_wj (by omega)]; exact c7', by rw [tp_wj (by omega), tp_ws]; rfl, fun e he => by rw [tp_wk (by omega), tp_wk (by omega)]; exact cn' e he, fun e he => ?_, fun t ht => ?_, fun k i hk hi => ?_⟩
    · have he : e < tE T := he
      obtain ⟨y1, y2, y3⟩ := ce' e he
      unfold cTe
      rw [show tso (te_tie T va vb vr V V2) e = tso T e from tt_o (by omega) (by omega), show tsz (te_tie T va vb vr V V2) e = tsz T e from tt_o (by omega) (by omega), show tco (te_tie T va vb vr V V2) e = tco T e from tt_o (by omega) (by omega)]
      exact ⟨by rw [tp_wk (by omega), tp_wk (by omega)]; exact y1, by rw [tp_wk (by omega), tp_wk (by omega)]; exact y2, by rw [tp_wk (by omega), tp_wk (by omega)]; exact y3⟩
    · have ht : t < tK T + 1 := ht
      unfold cTt
      rw [tt_1, tt_2, tt_r, show ∀ e, tsz (te_tie T va vb vr V V2) e = tsz T e from fun e => tt_o (by omega) (by omega)]
      by_cases z : t = tK T
      · rw [if_pos z, if_pos z, if_pos z, z]
        refine ⟨by rw [tp_wk (by omega), tp_wk (by omega)]; exact m0, by rw [tp_wk (by omega), tp_wk (by omega)]; exact m1, by rw [tp_wk (by omega), tp_wk (by omega)]; exact m2, fun r' k z1 z2 => ?_, fun r' k z1 z2 => ?_⟩
        · rw [tp_wk (by omega), tp_wk (by omega), tt_a (by omega), if_pos rfl]; exact (hA r' k z1 z2).1
        · rw [show tsz (te_tie T va vb vr V V2) vb = tsz T vb from tt_o (by omega) (by omega)] at z2
          rw [tp_wk (by omega), tp_wk (by omega), tt_b (by omega), if_pos rfl]; exact (hB r' k z1 z2).1
      · rw [if_neg z, if_neg z, if_neg z]
        obtain ⟨y1, y2, y3, y4, y5⟩ := ct' t (by omega)
        obtain ⟨o1, o2, o3, o4, o5, o6, o7, -⟩ := hT.2.2.2.2.2.2.1 t (by omega)
        have l1 := (hT.col o1 o3).2.1
        have l2 := (hT.col o2 o4).2.1
        refine ⟨by rw [tp_wk (by omega), tp_wk (by omega)]; exact y1, by rw [tp_wk (by omega), tp_wk (by omega)]; exact y2, by rw [tp_wk (by omega), tp_wk (by omega)]; exact y3, fun r' k z1 z2 => ?_, fun r' k z1 z2 => ?_⟩
        · rw [tp_wk (by omega), tp_wk (by omega), tt_a (by omega), if_neg z]; exact y4 r' k z1 z2
        · rw [show tsz (te_tie T va vb vr V V2) (to2 T t) = tsz T (to2 T t) from tt_o (by omega) (by omega)] at z2
          rw [tp_wk (by omega), tp_wk (by omega), tt_b (by omega), if_neg z]; exact y5 r' k z1 z2
    · have hk : k < tB T := hk
      rw [tp_wk (by omega), tp_wk (by omega), show tbr (te_tie T va vb vr V V2) k i = tbr T k i from tt_o (by omega) (by omega)]; exact cb' k i hk hi
  · obtain ⟨x1, x2, x3, x4, x5, xe, xt, xb⟩ := mc
    refine ⟨by rw [g12m _ _ (by omega) (by omega) (by omega)]; exact x1, by rw [g12m _ _ (by omega) (by omega) (by omega)]; exact x2, by rw [g12m _ _ (by omega) (by omega) (by omega)]; exact x3, by rw [e5 _ _ (by omega)]; exact w5, by rw [g12m _ _ (by omega) (by omega) (by omega)]; exact x5, fun e he => ?_, fun t ht => ?_, fun k hk => ?_⟩
    · have he : e < tE T := he
      obtain ⟨y1, y2, y3⟩ := xe e he
      unfold mTe
      rw [show tso (te_tie T va vb vr V V2) e = tso T e from tt_o (by omega) (by omega), show tsz (te_tie T va vb vr V V2) e = tsz T e from tt_o (by omega) (by omega), show tco (te_tie T va vb vr V V2) e = tco T e from tt_o (by omega) (by omega)]
      exact ⟨by rw [g12m _ _ (by omega) (by omega) (by omega)]; exact y1, by rw [g12m _ _ (by omega) (by omega) (by omega)]; exact y2, by rw [g12m _ _ (by omega) (by omega) (by omega)]; exact y3⟩
    · have ht : t < tK T + 1 := ht
      unfold mTt
      rw [tt_1, tt_2, tt_r, show ∀ e, tsz (te_tie T va vb vr V V2) e = tsz T e from fun e => tt_o (by omega) (by omega)]
      by_cases z : t = tK T
      · rw [if_pos z, if_pos z, if_pos z, z]
        refine ⟨by rw [e5 _ _ (by omega)]; exact w2, by rw [e5 _ _ (by omega)]; exact w3, by rw [e5 _ _ (by omega)]; exact w4, fun r' k z1 z2 => ?_, fun r' k z1 z2 => ?_⟩
        · rw [tt_a (by omega), if_pos rfl]; exact (hA r' k z1 z2).2.1
        · rw [show tsz (te_tie T va vb vr V V2) vb = tsz T vb from tt_o (by omega) (by omega)] at z2
          rw [tt_b (by omega), if_pos rfl]; exact (hB r' k z1 z2).2.1
      · rw [if_neg z, if_neg z, if_neg z]
        obtain ⟨y1, y2, y3, y4, y5⟩ := xt t (by omega)
        obtain ⟨o1, o2, o3, o4, o5, o6, o7, -⟩ := hT.2.2.2.2.2.2.1 t (by omega)
        have l1 := (hT.col o1 o3).2.1
        have l2 := (hT.col o2 o4).2.1
        refine ⟨by rw [g12m _ _ (by omega) (by omega) (by omega)]; exact y1, by rw [g12m _ _ (by omega) (by omega) (by omega)]; exact y2, by rw [g12m _ _ (by omega) (by omega) (by omega)]; exact y3, fun r' k z1 z2 => ?_, fun r' k z1 z2 => ?_⟩
        · rw [g12m _ _ (by omega) (by omega) (by omega), tt_a (by omega), if_neg z]; exact y4 r' k z1 z2
        · rw [show tsz (te_tie T va vb vr V V2) (to2 T t) = tsz T (to2 T t) from tt_o (by omega) (by omega)] at z2
          rw [g12m _ _ (by omega) (by omega) (by omega), tt_b (by omega), if_neg z]; exact y5 r' k z1 z2
    · have hk : k < tB T := hk
      have hb : ∀ i, tbr (te_tie T va vb vr V V2) k i = tbr T k i := fun i => tt_o (by omega) (by omega)
      obtain ⟨y1, y2, y3, y4⟩ := xb k hk
      unfold mTb
      rw [hb, hb, hb, hb]
      exact ⟨by rw [g12m _ _ (by omega) (by omega) (by omega)]; exact y1, by rw [g12m _ _ (by omega) (by omega) (by omega)]; exact y2, by rw [g12m _ _ (by omega) (by omega) (by omega)]; exact y3, by rw [g12m _ _ (by omega) (by omega) (by omega)]; exact y4⟩
end TIES
