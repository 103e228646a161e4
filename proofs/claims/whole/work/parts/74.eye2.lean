/-! an eye is told -/
def te_eye (T : Nat → Nat → Nat) (s n : Nat) : Nat → Nat → Nat := fun a i => if a = 0 then (if i = 0 then tE T + 1 else if i = 3 then tC T + (if s = 3 then 0 else n) else T 0 i) else if a = 1 ∧ i = tE T then s else if a = 2 ∧ i = tE T then n else if a = 3 ∧ i = tE T then tC T else T a i
def NE (M : tv_M) (T T' : Nat → Nat → Nat) : Prop := ∀ e, tE T ≤ e → e < tE T' → M.1 (22 + 2 * e) 5 = 0 ∧ M.1 (22 + 2 * e) 4 = nI (2 ^ tsz T' e - 1)
section EYE2
variable {F p s n : Nat} {M N : tv_M} {Tp T : Nat → Nat → Nat} {q : Nat × Nat × Nat}
theorem te_s {e : Nat} : tso (te_eye T s n) e = if e = tE T then s else tso T e := by
  show te_eye T s n 1 e = _
  unfold te_eye
  by_cases h : e = tE T
  · simp [h]
  · simp [h]
theorem te_z {e : Nat} : tsz (te_eye T s n) e = if e = tE T then n else tsz T e := by
  show te_eye T s n 2 e = _
  unfold te_eye
  by_cases h : e = tE T
  · simp [h]
  · simp [h]
theorem te_c {e : Nat} : tco (te_eye T s n) e = if e = tE T then tC T else tco T e := by
  show te_eye T s n 3 e = _
  unfold te_eye
  by_cases h : e = tE T
  · simp [h]
  · simp [h]
theorem te_hi {a i : Nat} (h : 4 ≤ a) : te_eye T s n a i = T a i := by
  unfold te_eye
  rw [if_neg (by omega), if_neg (by omega), if_neg (by omega), if_neg (by omega)]
theorem te_0 : tE (te_eye T s n) = tE T + 1 ∧ tK (te_eye T s n) = tK T ∧ tB (te_eye T s n) = tB T ∧ tC (te_eye T s n) = tC T + (if s = 3 then 0 else n) ∧ tL (te_eye T s n) = tL T := ⟨rfl, rfl, rfl, rfl, rfl⟩
theorem te_tcs : ∀ e, e ≤ tE T → tcs (te_eye T s n) e = tcs T e := by
  intro e
  induction e with
  | zero => intro _; rfl
  | succ e ih => intro he; rw [tcs, tcs, ih (by omega), te_s, te_z, if_neg (show ¬ e = tE T by omega), if_neg (show ¬ e = tE T by omega)]
theorem te_tls : ∀ t, tls (te_eye T s n) t = tls T t := by
  intro t
  induction t with
  | zero => rfl
  | succ t ih => rw [tls, tls, ih]; congr 1
theorem te_ext : Ext T (te_eye T s n) := ⟨Nat.le_succ _, Nat.le_refl _, Nat.le_refl _, fun e he => ⟨by rw [te_s, if_neg (by omega)], by rw [te_z, if_neg (by omega)], by rw [te_c, if_neg (by omega)]⟩, fun t ht => ⟨te_hi (by omega), te_hi (by omega), te_hi (by omega), fun i hi => ⟨te_hi (by omega), te_hi (by omega)⟩⟩, fun k i hk hi => te_hi (by omega)⟩
theorem te_g (hT : gT p T) (h8 : tE T < 8) (hs : s ≤ 3) (hn : 1 ≤ n) (hn4 : n ≤ 4) (hn3 : s ≠ 3 → n ≤ 3) : gT p (te_eye T s n) := by
  obtain ⟨g1, g2, g3, g4, g5, g6, g7, g8⟩ := hT
  refine ⟨by show tE T + 1 ≤ 8; omega, g2, g3, ?_, ?_, fun e he => ?_, fun t ht => ?_, fun k hk => ?_⟩
  · show tC T + (if s = 3 then 0 else n) = tcs (te_eye T s n) (tE T + 1)
    rw [tcs, te_tcs _ (Nat.le_refl _), te_s, te_z, if_pos rfl, if_pos rfl, g4]
  · show tL T = tls (te_eye T s n) (tK T)
    rw [te_tls, g5]
  · have he : e < tE T + 1 := he
    unfold gTe
    rw [te_s, te_z, te_c, te_tcs e (by omega)]
    by_cases w : e = tE T
    · rw [if_pos w, if_pos w, if_pos w, w]; exact ⟨hs, hn, hn4, hn3, g4⟩
    · rw [if_neg w, if_neg w, if_neg w]; exact g6 e (by omega)
  · obtain ⟨a1, a2, a3, a4, a5, a6, a7, a8, a9⟩ := g7 t ht
    unfold gTt
    rw [show to1 (te_eye T s n) t = to1 T t from te_hi (by omega), show to2 (te_eye T s n) t = to2 T t from te_hi (by omega), show trw (te_eye T s n) t = trw T t from te_hi (by omega), te_s, te_s, te_z, te_z, if_neg (by omega), if_neg (by omega), if_neg (by omega), if_neg (by omega)]
    exact ⟨by show to1 T t < tE T + 1; omega, by show to2 T t < tE T + 1; omega, a3, a4, a5, a6, a7, fun r k h1 h2 => by rw [show tta (te_eye T s n) t (3 * r + k) = tta T t (3 * r + k) from te_hi (by omega)]; exact a8 r k h1 h2, fun r k h1 h2 => by rw [show ttb (te_eye T s n) t (3 * r + k) = ttb T t (3 * r + k) from te_hi (by omega)]; exact a9 r k h1 h2⟩
  · obtain ⟨a1, a2, a3, a4, a5, a6, a7⟩ := g8 k hk
    unfold gTb
    have hb : ∀ i, tbr (te_eye T s n) k i = tbr T k i := fun i => te_hi (by omega)
    rw [hb, hb, hb, hb, te_s, te_s, te_z, te_z, if_neg (by omega), if_neg (by omega), if_neg (by omega), if_neg (by omega)]
    exact ⟨by show tbr T k 0 < tE T + 1; omega, a2, a3, by show tbr T k 2 < tE T + 1; omega, a5, a6, a7⟩
theorem to_addEye (hT : gT p T) (cc : cT M p T) (h8 : tE T < 8) (hs : s ≤ 3) (hn4 : n ≤ 4) : ∃ M', To_addEye F (nI s) (nI n) M = some ((), M') ∧ cT M' p (te_eye T s n) ∧ NE M' T (te_eye T s n) ∧ CF T M M' ∧ ∀ i, M'.1 68 i = M.1 68 i := by
  obtain ⟨p1, p2, p3, p4⟩ := tp_eyP (tE T) h8
  have hC := hT.C
  have hbeg : ∃ M1, Ey_begin F (22 + 2 * tE T) (nI s) (nI n) (nI (tC T)) M = some ((), M1) ∧ M1.1 (22 + 2 * tE T) 1 = nI s ∧ M1.1 (22 + 2 * tE T) 2 = nI n ∧ M1.1 (22 + 2 * tE T) 3 = nI (tC T) ∧ M1.1 (22 + 2 * tE T) 4 = nI (2 ^ n - 1) ∧ M1.1 (22 + 2 * tE T) 5 = 0 ∧ ∀ a i, ¬ (a = 22 + 2 * tE T ∧ 1 ≤ i ∧ i ≤ 5) → M1.1 a i = M.1 a i := by
    have ef : Ey_fullSet F (22 + 2 * tE T) (tv_w (tv_w (tv_w M (22 + 2 * tE T) 1 (nI s)) (22 + 2 * tE T) 2 (nI n)) (22 + 2 * tE T) 3 (nI (tC T))) = some (nI (2 ^ n - 1), tv_w (tv_w (tv_w M (22 + 2 * tE T) 1 (nI s)) (22 + 2 * tE T) 2 (nI n)) (22 + 2 * tE T) 3 (nI (tC T))) := by
      unfold Ey_fullSet
      rw [tp_gl p3, tp_wj (by omega), tp_ws, bit_ful n (by omega)]
    unfold Ey_begin
    rw [tp_gl p3, tp_pf, tp_pf, tp_pf, tp_cb ef, tp_pf, tp_pf]
    refine ⟨_, rfl, ?_, ?_, ?_, ?_, tp_ws, fun a i w => ?_⟩
    · rw [tp_wj (by omega), tp_wj (by omega), tp_wj (by omega), tp_wj (by omega), tp_ws]
    · rw [tp_wj (by omega), tp_wj (by omega), tp_wj (by omega), tp_ws]
    · rw [tp_wj (by omega), tp_wj (by omega), tp_ws]
    · rw [tp_wj (by omega), tp_ws]
    · rw [tp_w, if_neg (by omega), tp_w, if_neg (by omega), tp_w, if_neg (by omega), tp_w, if_neg (by omega), tp_w, if_neg (by omega)]
  obtain ⟨M1, b1, b2, b3, b4, b5, b6, b7⟩ := hbeg
  have hfin : ∃ M', To_addEye F (nI s) (nI n) M = some ((), M') ∧ M'.1 18 4 = nI (tE T + 1) ∧ M'.1 18 7 = nI (tC T + if s = 3 then 0 else n) ∧ ∀ a i, ¬ (a = 18 ∧ (i = 4 ∨ i = 7)) → M'.1 a i = M1.1 a i := by
    unfold To_addEye
    rw [cc.2.1, if_pos (show nI (tE T) < 8 from nI_lt (b := 8) h8 (by omega)), tp_ap h8 (by decide) p1, tp_gl p3, cc.2.2.2.2.1, tp_cb b1, b7 18 4 (by omega), cc.2.1, nI_1, tp_pf]
    by_cases k : s = 3
    · rw [if_pos (show nI s = 3 by rw [k]; rfl), if_pos k]
      exact ⟨_, rfl, tp_ws, by rw [tp_wj (by omega), b7 _ _ (by omega)]; exact cc.2.2.2.2.1, fun a i w => by rw [tp_w, if_neg (by omega)]⟩
    · rw [if_neg (show ¬ nI s = 3 from fun v => k ((nI_e3 (by omega)).mp v)), if_neg k, tp_wj (by omega), b7 18 7 (by omega), cc.2.2.2.2.1, nI_add, tp_pf]
      exact ⟨_, rfl, by rw [tp_wj (by omega), tp_ws], tp_ws, fun a i w => by rw [tp_w, if_neg (by omega), tp_w, if_neg (by omega)]⟩
  obtain ⟨M', f1, f2, f3, f4⟩ := hfin
  have f5 : ∀ a i, ¬ (a = 18 ∧ (i = 4 ∨ i = 7)) → ¬ (a = 22 + 2 * tE T ∧ 1 ≤ i ∧ i ≤ 5) → M'.1 a i = M.1 a i := fun a i w1 w2 => (f4 a i w1).trans (b7 a i w2)
  obtain ⟨c0, c4, c5, c6, c7, c8, cn, ce, ct, cb⟩ := cc
  have h10 := hT.2.1
  have h30 := hT.2.2.1
  refine ⟨M', f1, ⟨by rw [f5 _ _ (by omega) (by omega)]; exact c0, f2, by rw [f5 _ _ (by omega) (by omega)]; exact c5, by rw [f5 _ _ (by omega) (by omega)]; exact c6, f3, by rw [f5 _ _ (by omega) (by omega)]; exact c8, fun e he => by rw [f5 _ _ (by omega) (by omega)]; exact cn e he, fun e he => ?_, fun t ht => ?_, fun k i hk hi => ?_⟩, fun e he1 he2 => ?_, fun a i w1 w2 w3 w4 w5 => f5 a i (by omega) (by omega), fun i => f5 68 i (by omega) (by omega)⟩
  · have he : e < tE T + 1 := he
    unfold cTe
    rw [te_s, te_z, te_c]
    by_cases w : e = tE T
    · rw [if_pos w, if_pos w, if_pos w, w]
      exact ⟨by rw [f4 _ _ (by omega)]; exact b2, by rw [f4 _ _ (by omega)]; exact b3, by rw [f4 _ _ (by omega)]; exact b4⟩
    · rw [if_neg w, if_neg w, if_neg w]
      obtain ⟨a1, a2, a3⟩ := ce e (by omega)
      exact ⟨by rw [f5 _ _ (by omega) (by omega)]; exact a1, by rw [f5 _ _ (by omega) (by omega)]; exact a2, by rw [f5 _ _ (by omega) (by omega)]; exact a3⟩
  · have ht : t < tK T := ht
    obtain ⟨a1, a2, a3, a4, a5⟩ := ct t ht
    obtain ⟨d1, d2, -⟩ := hT.2.2.2.2.2.2.1 t ht
    unfold cTt
    rw [show to1 (te_eye T s n) t = to1 T t from te_hi (by omega), show to2 (te_eye T s n) t = to2 T t from te_hi (by omega), show trw (te_eye T s n) t = trw T t from te_hi (by omega), te_z, te_z, if_neg (by omega), if_neg (by omega)]
    exact ⟨by rw [f5 _ _ (by omega) (by omega)]; exact a1, by rw [f5 _ _ (by omega) (by omega)]; exact a2, by rw [f5 _ _ (by omega) (by omega)]; exact a3, fun r k h1 h2 => by rw [f5 _ _ (by omega) (by omega), a4 r k h1 h2, show tta (te_eye T s n) t (3 * r + k) = tta T t (3 * r + k) from te_hi (by omega)], fun r k h1 h2 => by rw [f5 _ _ (by omega) (by omega), a5 r k h1 h2, show ttb (te_eye T s n) t (3 * r + k) = ttb T t (3 * r + k) from te_hi (by omega)]⟩
  · have hk : k < tB T := hk
    rw [f5 _ _ (by omega) (by omega), cb k i hk hi, show tbr (te_eye T s n) k i = tbr T k i from te_hi (by omega)]
  · have he2 : e < tE T + 1 := he2
    have e0 : e = tE T := by omega
    subst e0
    rw [te_z, if_pos rfl]
    exact ⟨by rw [f4 _ _ (by omega)]; exact b6, by rw [f4 _ _ (by omega)]; exact b5⟩
theorem SY.wn {a i : Nat} {x : Int32} (h : SY M N Tp q) (h1 : a ≠ 249) (h2 : a ≠ 266) : SY M (tv_w N a i x) Tp q := by
  obtain ⟨s1, s2, s3, s4, s5, s6⟩ := h
  exact ⟨⟨s1.1, by rw [tp_wk (by omega)]; exact s1.2⟩, s2, ⟨by rw [tp_wk (by omega)]; exact s3.1, fun j hj => by rw [tp_wk (by omega)]; exact s3.2 j hj⟩, ⟨by rw [tp_wk (by omega)]; exact s4.1, by rw [tp_wk (by omega)]; exact s4.2.1, by rw [tp_wk (by omega)]; exact s4.2.2.1, by rw [tp_wk (by omega)]; exact s4.2.2.2⟩, by rw [tp_wk (by omega)]; exact s5, s6⟩
/-- nothing of a reader's place has changed -/
theorem SY.cg {M' N' : tv_M} (h : SY M N Tp q) (hm : ∀ i, 2 ≤ i → i ≤ 7 → M'.1 68 i = M.1 68 i) (hm2 : ∀ i, M'.1 69 i = M.1 69 i) (hn : ∀ i, 25 ≤ i → i ≤ 31 → N'.1 249 i = N.1 249 i) (hn2 : ∀ i, N'.1 266 i = N.1 266 i) : SY M' N' Tp q := by
  obtain ⟨s1, s2, s3, s4, s5, s6⟩ := h
  exact ⟨⟨⟨by rw [hm _ (by omega) (by omega)]; exact s1.1.1, fun j hj => by rw [hm2]; exact s1.1.2 j hj⟩, by rw [hm _ (by omega) (by omega), hn _ (by omega) (by omega)]; exact s1.2⟩, ⟨by rw [hm _ (by omega) (by omega)]; exact s2.1, by rw [hm _ (by omega) (by omega)]; exact s2.2.1, by rw [hm _ (by omega) (by omega)]; exact s2.2.2.1, fun w => by rw [hm _ (by omega) (by omega)]; exact s2.2.2.2 w⟩, ⟨by rw [hn _ (by omega) (by omega)]; exact s3.1, fun j hj => by rw [hn2]; exact s3.2 j hj⟩, ⟨by rw [hn _ (by omega) (by omega)]; exact s4.1, by rw [hn _ (by omega) (by omega)]; exact s4.2.1, by rw [hn _ (by omega) (by omega)]; exact s4.2.2.1, by rw [hn _ (by omega) (by omega)]; exact s4.2.2.2⟩, by rw [hn _ (by omega) (by omega)]; exact s5, s6⟩
theorem FL.cg {M' N' : tv_M} {f b : Nat} (h : FL M N f b) (h1 : M'.1 68 3 = M.1 68 3) (h2 : M'.1 68 5 = M.1 68 5) (h3 : N'.1 249 31 = N.1 249 31) (h4 : N'.1 249 32 = N.1 249 32) : FL M' N' f b := ⟨by rw [h1]; exact h.1, by rw [h2]; exact h.2.1, by rw [h3]; exact h.2.2.1, by rw [h4]; exact h.2.2.2.1, h.2.2.2.2⟩
theorem md_228f {f b : Nat} {k64 : tv_M → Option (Int32 × tv_M)} (h : FL M N f b) : Md_read_L228 F k64 N = k64 N := by
  unfold Md_read_L228
  rw [h.2.2.1, if_neg (fun w => absurd ((nI_z (by have := h.2.2.2.2.2.1; omega)).mp w) (by have := h.2.2.2.2.1; omega))]
/-- the end of a sentence -/
theorem pr_end (hF : 600 < F) (hg : gTp Tp) (h : SY M N Tp q) : (∃ M' N', Re_takeSign F 59 M = some (1, M') ∧ (∀ k64 : tv_M → Option (Int32 × tv_M), Md_read_L228 F k64 N = k64 N') ∧ SY M' N' Tp (lx Tp q.2.1) ∧ f68 M M' ∧ fXm N N') ∨ (∃ M' N', Re_takeSign F 59 M = some (0, M') ∧ (∀ k64 : tv_M → Option (Int32 × tv_M), Md_read_L228 F k64 N = k64 N') ∧ FL M' N' 1 q.1 ∧ f68 M M' ∧ f32 N N') := by
  obtain ⟨x, x1, x2⟩ := pr_sign (F := F) (c := 59) (cI := 59) hF hg h rfl (Or.inl rfl)
  have h5 := h.2.2.2.2.1
  rcases x2 with ⟨k, M', N', y1, y2, y3, y4, y5⟩ | ⟨M', N', y1, y2, y3, y4, y5⟩
  · refine Or.inl ⟨M', N', y1, fun k64 => ?_, y3, y4, y5⟩
    unfold Md_read_L228
    rw [if_pos h5, tp_cb x1, tp_cb y2]
  · refine Or.inr ⟨M', N', y1, fun k64 => ?_, y3, y4, y5⟩
    unfold Md_read_L228
    rw [if_pos h5, tp_cb x1, tp_cb y2]
/-- what a sentence leaves: a good one, a faulty one -/
def OKS (p : Nat) (Tp T : Nat → Nat → Nat) (q : Nat × Nat × Nat) (M N M' N' : tv_M) : Prop := ∃ T' q', gT p T' ∧ Ext T T' ∧ cT M' p T' ∧ mT1 N' p T' ∧ SY M' N' Tp q' ∧ q.1 ≤ q'.1 ∧ NE M' T T' ∧ CF T M M' ∧ JF T N N'
def FLS (p : Nat) (T : Nat → Nat → Nat) (M N M' N' : tv_M) : Prop := ∃ f b, FL M' N' f b ∧ cT M' p T ∧ CF T M M' ∧ JF T N N'
theorem WQ.nx (h : WQ Tp q) : q.1 ≤ (lx Tp q.2.1).1 := by
  have := (lx_P h.2.1).1
  have := h.1
  omega
theorem s_eye (hF : 600 < F) (hp : tp_pr p) (hg : gTp Tp) (hT : gT p T) (cc : cT M p T) (mc : mT1 N p T) (h : SY M N Tp q) (h8 : tE T < 8) : ∃ (r : Int32) (M' N' : tv_M), tv_cb (Re_takeSort F M) (fun r3 M4 => if r3 = 0 then some (0, M4) else if (M4.1 68 8) = 3 then Re_takeEyeSentence_L48 F (M4.1 68 8) 4 1 M4 else Re_takeEyeSentence_L48 F (M4.1 68 8) 3 1 M4) = some (r, M') ∧ (∀ k64 : tv_M → Option (Int32 × tv_M), tv_cb (Md_readEye F N) (fun _ N1 => Md_read_L228 F k64 N1) = k64 N') ∧ ((r = 1 ∧ OKS p Tp T q M N M' N') ∨ (r = 0 ∧ FLS p T M N M' N')) := by
  have hC := hT.C
  rcases pr_sort (F := F) hF hg h with ⟨s, M1, N1, hs, a1, a2, a3, a4, a5, a6⟩ | ⟨M1, N1, a1, a2, a3, a4, a5⟩
  · have mc1 := mc.f32 a6.f
    have hsel : ∀ (x : Nat), (if s = 3 then 4 else 3) = x → (if nI s = 3 then Md_readEye_L101 F (nI s) 4 1 (nI (tE T)) (tv_w N1 253 (tE T) (nI s)) else Md_readEye_L101 F (nI s) 3 1 (nI (tE T)) (tv_w N1 253 (tE T) (nI s))) = Md_readEye_L101 F (nI s) (nI x) 1 (nI (tE T)) (tv_w N1 253 (tE T) (nI s)) ∧ (if (M1.1 68 8) = 3 then Re_takeEyeSentence_L48 F (M1.1 68 8) 4 1 M1 else Re_takeEyeSentence_L48 F (M1.1 68 8) 3 1 M1) = Re_takeEyeSentence_L48 F (nI s) (nI x) 1 M1 := fun x hx => by
      rw [a2]
      by_cases k : s = 3
      · rw [if_pos k] at hx; subst hx
        rw [if_pos (show nI s = 3 by rw [k]; rfl), if_pos (show nI s = 3 by rw [k]; rfl)]; exact ⟨rfl, rfl⟩
      · rw [if_neg k] at hx; subst hx
        rw [if_neg (show ¬ nI s = 3 from fun v => k ((nI_e3 (by omega)).mp v)), if_neg (show ¬ nI s = 3 from fun v => k ((nI_e3 (by omega)).mp v))]; exact ⟨rfl, rfl⟩
    have hx3 : (if s = 3 then 4 else 3) ≤ 4 ∧ (s ≠ 3 → (if s = 3 then 4 else 3) ≤ 3) := by
      by_cases k : s = 3
      · rw [if_pos k]; exact ⟨Nat.le_refl _, fun v => absurd k v⟩
      · rw [if_neg k]; exact ⟨by omega, fun _ => Nat.le_refl _⟩
    obtain ⟨hr1, hr2⟩ := hsel _ rfl
    generalize (if s = 3 then 4 else 3) = x at hr1 hr2 hx3
    have hre : Md_readEye F N = Md_readEye_L101 F (nI s) (nI x) 1 (nI (tE T)) (tv_w N1 253 (tE T) (nI s)) := by
      rw [a3, mc1.2.1, tp_wr h8 (by decide), tp_wk (by omega), mc1.2.1]; exact hr1
    rw [tp_cb a1, if_neg (show ¬ (1 : Int32) = 0 by decide), hr2, hre]
    have hS1 : SY M1 (tv_w N1 253 (tE T) (nI s)) Tp (lx Tp q.2.1) := a4.wn (by omega) (by omega)
    unfold Re_takeEyeSentence_L48
    rcases pr_num (F := F) (lo := 1) (hi := x) (loI := 1) (hiI := nI x) hF hg hS1 rfl rfl (by omega) (by omega) with ⟨k1, k2, k3, M2, N2, b1, b2, b3, b4, b5, b6⟩ | ⟨f, M2, N2, w, b1, b2, b3, b4, b5⟩
    · generalize qv Tp (lx Tp q.2.1) = n at k2 k3 b2 b3
      have g33 : N2.1 249 33 = nI (tE T) := by rw [b6 _ _ (by omega), tp_wk (by omega)]; exact mc1.2.1
      have g34 : N2.1 249 34 = nI (tC T) := by rw [b6 _ _ (by omega), tp_wk (by omega)]; exact mc1.2.2.1
      obtain ⟨N3, c1, c2, c3, c4, c5, c6⟩ := md_eyeL (F := F) (N := N1) h8 b3 g33 g34
      rw [tp_cb b1, if_neg (show ¬ (1 : Int32) = 0 by decide), b2]
      have hS3 : SY M2 N3 Tp (lx Tp (lx Tp q.2.1).2.1) := b4.cg (fun _ _ _ => rfl) (fun _ => rfl) (fun i i1 i2 => c6 _ _ (by omega) (by omega)) (fun i => c6 _ _ (by omega) (by omega))
      have hle : q.1 ≤ (lx Tp (lx Tp (lx Tp q.2.1).2.1).2.1).1 := by
        have e1 := h.2.2.2.2.2.nx
        have e2 := a4.2.2.2.2.2.nx
        have e3 := hS3.2.2.2.2.2.nx
        omega
      have hN3 : ∀ a i, ¬ (a = 249 ∧ ((27 ≤ i ∧ i ≤ 30) ∨ i = 33 ∨ i = 34)) → ¬ (253 ≤ a ∧ a ≤ 255 ∧ i = tE T) → N3.1 a i = N.1 a i := fun a i w1 w2 => by rw [c6 a i (by omega) (by omega), b6 a i (by omega), tp_w, if_neg (by omega), a6 a i (by omega)]
      have hso : N3.1 253 (tE T) = nI s := by rw [c6 _ _ (by omega) (by omega), b6 _ _ (by omega), tp_ws]
      have jf3 : JF T N N3 := fun a i w1 w2 _ _ _ => hN3 a i (by omega) (by omega)
      rcases pr_end (F := F) hF hg hS3 with ⟨M4, N4, d1, d2, d3, d4, d5⟩ | ⟨M4, N4, d1, d2, d3, d4, d5⟩
      · have cc4 : cT M4 p T := (a5.tr (b5.tr d4)).cT hT cc
        obtain ⟨M5, e1, e2, e3, e4, e5⟩ := to_addEye (F := F) (s := s) (n := n) hT cc4 h8 hs (by omega)
        rw [tp_cb d1, if_neg (show ¬ (1 : Int32) = 0 by decide), tp_cb e1]
        refine ⟨1, M5, N4, rfl, fun k64 => by rw [tp_cb c1]; exact d2 k64, Or.inl ⟨rfl, te_eye T s n, _, te_g hT h8 hs k2 (by omega) (fun v => by have := hx3.2 v; omega), te_ext, e2, ?_, d3.cg (fun i _ _ => e5 i) (fun i => e4 69 i (by omega) (by omega) (by omega) (by omega) (by omega)) (fun _ _ _ => rfl) (fun _ => rfl), hle, e3, (a5.tr (b5.tr d4)).c.tr e4, jf3.tr d5.f.j⟩⟩
        have hN4 : ∀ a i, ¬ (a = 249 ∧ ((27 ≤ i ∧ i ≤ 30) ∨ i = 33 ∨ i = 34)) → ¬ (253 ≤ a ∧ a ≤ 255 ∧ i = tE T) → N4.1 a i = N.1 a i := fun a i w1 w2 => (d5 a i (by omega)).trans (hN3 a i w1 w2)
        obtain ⟨m1, m2, m3, m4, m5, me, mt, mb⟩ := mc
        refine ⟨by rw [hN4 _ _ (by omega) (by omega)]; exact m1, by rw [d5 _ _ (by omega)]; exact c2, ?_, by rw [hN4 _ _ (by omega) (by omega)]; exact m4, by rw [hN4 _ _ (by omega) (by omega)]; exact m5, fun e he => ?_, fun t ht => ?_, fun k hk => ?_⟩
        · rw [d5 _ _ (by omega), c3]
          show _ = nI (tC T + if s = 3 then 0 else n)
          by_cases k : s = 3
          · rw [if_pos (show nI s = 3 by rw [k]; rfl), if_pos k]; rfl
          · rw [if_neg (show ¬ nI s = 3 from fun v => k ((nI_e3 (by omega)).mp v)), if_neg k, nI_add]
        · have he : e < tE T + 1 := he
          unfold mTe
          rw [te_s, te_z, te_c]
          by_cases w : e = tE T
          · rw [if_pos w, if_pos w, if_pos w, w]
            refine ⟨by rw [d5 _ _ (by omega)]; exact hso, by rw [d5 _ _ (by omega)]; exact c4, ?_⟩
            rw [d5 _ _ (by omega), c5]
            by_cases k : s = 3
            · rw [if_pos (show nI s = 3 by rw [k]; rfl), if_pos k]
            · rw [if_neg (show ¬ nI s = 3 from fun v => k ((nI_e3 (by omega)).mp v)), if_neg k]
          · rw [if_neg w, if_neg w, if_neg w]
            obtain ⟨x1, x2, x3⟩ := me e (by omega)
            exact ⟨by rw [hN4 _ _ (by omega) (by omega)]; exact x1, by rw [hN4 _ _ (by omega) (by omega)]; exact x2, by rw [hN4 _ _ (by omega) (by omega)]; exact x3⟩
        · have ht : t < tK T := ht
          obtain ⟨x1, x2, x3, x4, x5⟩ := mt t ht
          obtain ⟨z1, z2, -⟩ := hT.2.2.2.2.2.2.1 t ht
          unfold mTt
          rw [show to1 (te_eye T s n) t = to1 T t from te_hi (by omega), show to2 (te_eye T s n) t = to2 T t from te_hi (by omega), show trw (te_eye T s n) t = trw T t from te_hi (by omega), te_z, te_z, if_neg (by omega), if_neg (by omega)]
          exact ⟨by rw [hN4 _ _ (by omega) (by omega)]; exact x1, by rw [hN4 _ _ (by omega) (by omega)]; exact x2, by rw [hN4 _ _ (by omega) (by omega)]; exact x3, fun r k h1 h2 => by rw [hN4 _ _ (by omega) (by omega), x4 r k h1 h2, show tta (te_eye T s n) t (3 * r + k) = tta T t (3 * r + k) from te_hi (by omega)], fun r k h1 h2 => by rw [hN4 _ _ (by omega) (by omega), x5 r k h1 h2, show ttb (te_eye T s n) t (3 * r + k) = ttb T t (3 * r + k) from te_hi (by omega)]⟩
        · have hk : k < tB T := hk
          obtain ⟨x1, x2, x3, x4⟩ := mb k hk
          have hb : ∀ i, tbr (te_eye T s n) k i = tbr T k i := fun i => te_hi (by omega)
          unfold mTb
          rw [hb, hb, hb, hb]
          exact ⟨by rw [hN4 _ _ (by omega) (by omega)]; exact x1, by rw [hN4 _ _ (by omega) (by omega)]; exact x2, by rw [hN4 _ _ (by omega) (by omega)]; exact x3, by rw [hN4 _ _ (by omega) (by omega)]; exact x4⟩
      · rw [tp_cb d1, if_pos rfl]
        exact ⟨0, M4, N4, rfl, fun k64 => by rw [tp_cb c1]; exact d2 k64, Or.inr ⟨rfl, 1, _, d3, (a5.tr (b5.tr d4)).cT hT cc, (a5.tr (b5.tr d4)).c, jf3.tr d5.j⟩⟩
    · rw [tp_cb b1, if_pos rfl]
      have g33 : N2.1 249 33 = nI (tE T) := by rw [b5 _ _ (by omega), tp_wk (by omega)]; exact mc1.2.1
      have g34 : N2.1 249 34 = nI (tC T) := by rw [b5 _ _ (by omega), tp_wk (by omega)]; exact mc1.2.2.1
      obtain ⟨N3, c1, c2, c3, c4, c5, c6⟩ := md_eyeL (F := F) (N := N1) h8 b2 g33 g34
      have hfl : FL M2 N3 f (lx Tp q.2.1).1 := b3.cg rfl rfl (c6 _ _ (by omega) (by omega)) (c6 _ _ (by omega) (by omega))
      refine ⟨0, M2, N3, rfl, fun k64 => by rw [tp_cb c1]; exact md_228f hfl, Or.inr ⟨rfl, f, _, hfl, (a5.tr b4).cT hT cc, (a5.tr b4).c, fun a i w1 w2 _ _ _ => ?_⟩⟩
      rw [c6 a i (by omega) (by omega), b5 a i (by omega), tp_w, if_neg (by omega), a6 a i (by omega)]
  · have mc1 := mc.f32 a5
    rw [tp_cb a1, if_pos rfl]
    have hnf : Md_numberIn F 1 3 (tv_w N1 253 (tE T) (-1000000)) = some (0, tv_w N1 253 (tE T) (-1000000)) := md_numf (f := 1) (by rw [tp_wk (by omega)]; exact a3.2.2.1) (by omega) (by omega)
    obtain ⟨N3, c1, c2, c3, c4, c5, c6⟩ := md_eyeL (F := F) (N := N1) h8 hnf (by rw [tp_wk (by omega)]; exact mc1.2.1) (by rw [tp_wk (by omega)]; exact mc1.2.2.1)
    have hre : Md_readEye F N = some ((), N3) := by
      rw [a2, mc1.2.1, tp_wr h8 (by decide), tp_wk (by omega), mc1.2.1]; exact c1
    have hfl : FL M1 N3 1 q.1 := a3.cg rfl rfl (by rw [c6 _ _ (by omega) (by omega), tp_wk (by omega)]) (by rw [c6 _ _ (by omega) (by omega), tp_wk (by omega)])
    refine ⟨0, M1, N3, rfl, fun k64 => by rw [tp_cb hre]; exact md_228f hfl, Or.inr ⟨rfl, 1, _, hfl, a4.cT hT cc, a4.c, fun a i w1 w2 _ _ _ => ?_⟩⟩
    rw [c6 a i (by omega) (by omega), tp_w, if_neg (by omega), a5 a i (by omega)]
end EYE2
