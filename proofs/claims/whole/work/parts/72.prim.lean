/-! WHAT BOTH READERS TAKE -/
def WQ (Tp : Nat → Nat → Nat) (q : Nat × Nat × Nat) : Prop := q.1 ≤ q.2.1 ∧ q.2.1 ≤ Tp 0 0 ∧ (q.2.2 = 0 ↔ Tp 0 0 ≤ q.1) ∧ (q.2.2 ≠ 0 → q.1 < q.2.1) ∧ (q.2.2 = 1 → ∀ j, q.1 ≤ j → j < q.2.1 → 97 ≤ Tp 1 j ∧ Tp 1 j ≤ 122) ∧ (q.2.2 = 2 → q.2.1 - q.1 ≤ 3 ∧ ∀ j, q.1 ≤ j → j < q.2.1 → 48 ≤ Tp 1 j ∧ Tp 1 j ≤ 57) ∧ (q.2.2 = 59 ↔ q.2.2 > 3 ∧ Tp 1 q.1 = 59) ∧ (q.2.2 = 44 ↔ q.2.2 > 3 ∧ Tp 1 q.1 = 44) ∧ q.2.2 ≤ 59
theorem WQ_lx {Tp : Nat → Nat → Nat} {pos : Nat} (h : pos ≤ Tp 0 0) : WQ Tp (lx Tp pos) := (lx_P h).2
/-- both stand at the same token, and there is no fault -/
def SY (M N : tv_M) (Tp : Nat → Nat → Nat) (q : Nat × Nat × Nat) : Prop := (cTp M Tp ∧ M.1 68 3 = N.1 249 25) ∧ cX M Tp q ∧ mTx N Tp ∧ mX N q ∧ N.1 249 31 = 0 ∧ WQ Tp q
/-- both have found a fault -/
def FL (M N : tv_M) (f b : Nat) : Prop := M.1 68 3 = nI f ∧ M.1 68 5 = nI b ∧ N.1 249 31 = nI f ∧ N.1 249 32 = nI b ∧ 1 ≤ f ∧ f ≤ 3 ∧ b ≤ 500
def f68 (M M' : tv_M) : Prop := ∀ a i, ¬ (a = 68 ∧ 3 ≤ i ∧ i ≤ 8) → M'.1 a i = M.1 a i
def f32 (N N' : tv_M) : Prop := ∀ a i, ¬ (a = 249 ∧ 27 ≤ i ∧ i ≤ 32) → N'.1 a i = N.1 a i
theorem f68.tr {M M' M'' : tv_M} (h : f68 M M') (g : f68 M' M'') : f68 M M'' := fun a i q => (g a i q).trans (h a i q)
theorem f32.tr {M M' M'' : tv_M} (h : f32 M M') (g : f32 M' M'') : f32 M M'' := fun a i q => (g a i q).trans (h a i q)
theorem fXm.f {N N' : tv_M} (h : fXm N N') : f32 N N' := fun a i q => h a i (by omega)
theorem f68.cT {M M' : tv_M} {p : Nat} {T : Nat → Nat → Nat} (hT : gT p T) (hf : f68 M M') (h : cT M p T) : cT M' p T := h.cg hT (fun a i q => hf a i (by have := q.2.1; omega))
theorem f68.tp {M M' : tv_M} {Tp : Nat → Nat → Nat} (hf : f68 M M') (h : cTp M Tp) : cTp M' Tp := ⟨by rw [hf _ _ (by omega)]; exact h.1, fun i hi => by rw [hf _ _ (by omega)]; exact h.2 i hi⟩
/-- what the reference has been told so far -/
def mT1 (N : tv_M) (p : Nat) (T : Nat → Nat → Nat) : Prop := N.1 249 2 = nI p ∧ N.1 249 33 = nI (tE T) ∧ N.1 249 34 = nI (tC T) ∧ N.1 249 35 = nI (tK T) ∧ N.1 249 36 = nI (tB T) ∧ (∀ e, e < tE T → mTe N T e) ∧ (∀ t, t < tK T → mTt N T t) ∧ ∀ k, k < tB T → mTb N T k
theorem mT1.f32 {N N' : tv_M} {p : Nat} {T : Nat → Nat → Nat} (h : mT1 N p T) (hf : f32 N N') : mT1 N' p T := by
  obtain ⟨h1, h2, h3, h4, h5, he, ht, hb⟩ := h
  refine ⟨by rw [hf _ _ (by omega)]; exact h1, by rw [hf _ _ (by omega)]; exact h2, by rw [hf _ _ (by omega)]; exact h3, by rw [hf _ _ (by omega)]; exact h4, by rw [hf _ _ (by omega)]; exact h5, fun e q => ?_, fun t q => ?_, fun k q => ?_⟩
  · obtain ⟨a, b, c⟩ := he e q
    exact ⟨by rw [hf _ _ (by omega)]; exact a, by rw [hf _ _ (by omega)]; exact b, by rw [hf _ _ (by omega)]; exact c⟩
  · obtain ⟨a, b, c, d, e⟩ := ht t q
    exact ⟨by rw [hf _ _ (by omega)]; exact a, by rw [hf _ _ (by omega)]; exact b, by rw [hf _ _ (by omega)]; exact c, fun r k r1 r2 => by rw [hf _ _ (by omega)]; exact d r k r1 r2, fun r k r1 r2 => by rw [hf _ _ (by omega)]; exact e r k r1 r2⟩
  · obtain ⟨a, b, c, d⟩ := hb k q
    exact ⟨by rw [hf _ _ (by omega)]; exact a, by rw [hf _ _ (by omega)]; exact b, by rw [hf _ _ (by omega)]; exact c, by rw [hf _ _ (by omega)]; exact d⟩
section PRIM
variable {F p : Nat} {M N : tv_M} {Tp T : Nat → Nat → Nat} {q : Nat × Nat × Nat}
def qv (Tp : Nat → Nat → Nat) (q : Nat × Nat × Nat) : Nat := dv Tp q.1 (q.2.1 - q.1)
theorem qv_lt (h : WQ Tp q) (hk : q.2.2 = 2) : qv Tp q < 1000 := by
  unfold qv
  obtain ⟨h1, h2, h3, h4, h5, h6, -⟩ := h
  obtain ⟨d1, d2⟩ := h6 hk
  exact Nat.lt_of_lt_of_le (dv_lt _ (fun j j1 j2 => d2 j j1 (by omega))) (Nat.le_trans (Nat.pow_le_pow_right (by omega) d1) (by decide))
/-- both go on -/
theorem pr_go (hF : 600 < F) (hg : gTp Tp) (h : SY M N Tp q) : ∃ M' N', Re_goOn F M = some ((), M') ∧ Md_step F N = some ((), N') ∧ SY M' N' Tp (lx Tp q.2.1) ∧ fX M M' ∧ fXm N N' := by
  obtain ⟨h1, h2, h3, h4, h5, h6⟩ := h
  obtain ⟨M', x1, x2, x3⟩ := re_go (F := F) hF hg h1.1 h6.2.1 h2.2.1
  obtain ⟨N', y1, y2, y3⟩ := md_step (F := F) hF hg h3 h6.2.1 h4.2.1
  exact ⟨M', N', x1, y1, ⟨⟨⟨by rw [x3 _ _ (by omega)]; exact h1.1.1, fun i hi => by rw [x3 _ _ (by omega)]; exact h1.1.2 i hi⟩, by rw [x3 _ _ (by omega), y3 _ _ (by omega)]; exact h1.2⟩, x2, y3.tx h3, y2, by rw [y3 _ _ (by omega)]; exact h5, WQ_lx h6.2.1⟩, x3, y3⟩
theorem SY.w8 {x : Int32} (h : SY M N Tp q) : SY (tv_w M 68 8 x) N Tp q := by
  obtain ⟨h1, h2, h3, h4, h5, h6⟩ := h
  exact ⟨⟨⟨by rw [tp_wj (by omega)]; exact h1.1.1, fun i hi => by rw [tp_wk (by omega)]; exact h1.1.2 i hi⟩, by rw [tp_wj (by omega)]; exact h1.2⟩, ⟨by rw [tp_wj (by omega)]; exact h2.1, by rw [tp_wj (by omega)]; exact h2.2.1, by rw [tp_wj (by omega)]; exact h2.2.2.1, fun w => by rw [tp_wj (by omega)]; exact h2.2.2.2 w⟩, h3, h4, h5, h6⟩
theorem md_must1 (hF : 600 < F) (hg : gTp Tp) (h : SY M N Tp q) : ∃ N', Md_must F 1 N = some ((), N') ∧ Md_step F N = some ((), N') := by
  obtain ⟨h1, h2, h3, h4, h5, h6⟩ := h
  obtain ⟨N', y1, y2, y3⟩ := md_step (F := F) hF hg h3 h6.2.1 h4.2.1
  refine ⟨N', ?_, y1⟩
  unfold Md_must
  rw [if_neg (show ¬ (1 : Int32) = 0 by decide), if_pos h5, tp_cb y1]
theorem md_badf {f : Nat} {fI : Int32} (hf : fI = nI f) (h : SY M N Tp q) : ∃ N', Md_bad F fI N = some ((), N') ∧ N'.1 249 31 = nI f ∧ N'.1 249 32 = nI q.1 ∧ (∀ a i, ¬ (a = 249 ∧ (i = 31 ∨ i = 32)) → N'.1 a i = N.1 a i) := by
  obtain ⟨h1, h2, h3, h4, h5, h6⟩ := h
  unfold Md_bad
  rw [if_pos h5, tp_pf, tp_pf, tp_wj (by omega), h4.1, hf]
  exact ⟨_, rfl, by rw [tp_wj (by omega), tp_ws], tp_ws, fun a i w => by rw [tp_w, if_neg (by omega), tp_w, if_neg (by omega)]⟩
theorem md_must0 (h : SY M N Tp q) : ∃ N', Md_must F 0 N = some ((), N') ∧ N'.1 249 31 = nI 1 ∧ N'.1 249 32 = nI q.1 ∧ f32 N N' := by
  obtain ⟨N', x1, x2, x3, x4⟩ := md_badf (F := F) (f := 1) (fI := 1) rfl h
  unfold Md_must
  rw [if_pos rfl, tp_cb x1, x2, if_neg (show ¬ nI 1 = 0 by decide)]
  exact ⟨N', rfl, x2, x3, fun a i w => x4 a i (by omega)⟩
theorem md_mustf {x : Int32} {f : Nat} (hf : N.1 249 31 = nI f) (h1 : 1 ≤ f) (h3 : f ≤ 3) : Md_must F x N = some ((), N) := by
  have hne : ¬ nI f = 0 := fun w => absurd ((nI_z (by omega)).mp w) (by omega)
  unfold Md_must Md_bad
  rw [hf, if_neg hne, if_neg hne]
  by_cases w : x = 0
  · rw [if_pos w]
    show (if N.1 249 31 = 0 then _ else _) = _
    rw [hf, if_neg hne]
  · rw [if_neg w]
theorem re_fl {f : Nat} {fI : Int32} (hf : fI = nI f) : Re_fails F fI M = some (0, tv_w M 68 3 (nI f)) := by subst hf; rfl
/-- the class's fault and the reference's -/
theorem FL_mk {f : Nat} {N' : tv_M} (hg : gTp Tp) (h : SY M N Tp q) (h1 : 1 ≤ f) (h3 : f ≤ 3) (hN1 : N'.1 249 31 = nI f) (hN2 : N'.1 249 32 = nI q.1) : FL (tv_w M 68 3 (nI f)) N' f q.1 := ⟨tp_ws, by rw [tp_wj (by omega)]; exact h.2.1.1, hN1, hN2, h1, h3, by have h6 := h.2.2.2.2.2; have := h6.1; have := h6.2.1; have := hg.1; omega⟩
theorem f68_3 {x : Int32} : f68 M (tv_w M 68 3 x) := fun a i w => by rw [tp_w, if_neg (by omega)]
theorem pr_num {lo hi : Nat} {loI hiI : Int32} (hF : 600 < F) (hg : gTp Tp) (h : SY M N Tp q) (hl : loI = nI lo) (hh : hiI = nI hi) (hlo : lo < 1000) (hhi : hi < 1000) : (q.2.2 = 2 ∧ lo ≤ qv Tp q ∧ qv Tp q ≤ hi ∧ ∃ M' N', Re_takeNumber F loI hiI M = some (1, M') ∧ M'.1 68 8 = nI (qv Tp q) ∧ Md_numberIn F loI hiI N = some (nI (qv Tp q), N') ∧ SY M' N' Tp (lx Tp q.2.1) ∧ f68 M M' ∧ fXm N N') ∨ (∃ f M' N' w, Re_takeNumber F loI hiI M = some (0, M') ∧ Md_numberIn F loI hiI N = some (w, N') ∧ FL M' N' f q.1 ∧ f68 M M' ∧ f32 N N') := by
  subst hl; subst hh
  have hS := h
  obtain ⟨h1, h2, h3, h4, h5, h6⟩ := h
  have h500 := hg.1
  obtain ⟨w1, w2, w3, w4, w5, w6, w7, w8, w9⟩ := h6
  have mk3 := (mk_e w9).2.1
  unfold Re_takeNumber Md_numberIn
  rw [h2.2.2.1, h5, if_pos (show (0 : Int32) ≤ 0 from Int32.le_refl _)]
  by_cases k : q.2.2 = 2
  · have hv := qv_lt hS.2.2.2.2.2 k
    have hvd : M.1 68 7 = nI (qv Tp q) := h2.2.2.2 k
    have hmn : Md_numberHere F N = some (nI (qv Tp q), N) := md_num hF hg h3 h4 w1 w2 k (w6 k).2
    rw [if_pos ((nI_e2 (by omega)).mpr k), tp_cb hmn, h4.2.2.2, if_pos (mk3.mpr k), tp_cb (tp_in rfl rfl), hvd]
    by_cases c1 : qv Tp q < lo
    · rw [if_pos (nI_lt c1 (by omega)), tp_cb (re_fl (f := 2) (fI := 2) rfl), tp_zo (Or.inl rfl), if_neg (show ¬ (nI lo ≤ nI (qv Tp q) ∧ nI (qv Tp q) ≤ nI hi) from fun z => absurd z.1 (nI_ge c1 (by omega))), if_pos rfl]
      obtain ⟨N', x1, x2, x3, x4⟩ := md_badf (F := F) (f := 2) (fI := 2) rfl hS
      rw [tp_cb x1]
      have hm28 : N'.1 249 28 = nI (mk q.2.2) := by rw [x4 _ _ (by omega)]; exact h4.2.2.2
      unfold Md_numberIn_L39
      rw [hm28, if_pos (mk3.mpr k), tp_cb (md_mustf x2 (by omega) (by omega))]
      exact Or.inr ⟨2, _, N', _, rfl, rfl, FL_mk hg hS (by omega) (by omega) x2 x3, f68_3, fun a i w => x4 a i (by omega)⟩
    · rw [if_neg (nI_nlt (by omega) (by omega))]
      by_cases c2 : qv Tp q ≤ hi
      · rw [if_pos (nI_le c2 (by omega)), tp_pf, if_pos (show nI lo ≤ nI (qv Tp q) ∧ nI (qv Tp q) ≤ nI hi from ⟨nI_le (by omega) (by omega), nI_le c2 (by omega)⟩), if_neg (show ¬ (1 : Int32) = 0 by decide)]
        obtain ⟨M', N', y1, y2, y3, y4, y5⟩ := pr_go (F := F) hF hg (hS.w8 (x := nI (qv Tp q)))
        obtain ⟨N'', z1, z2⟩ := md_must1 (F := F) hF hg hS
        have : N'' = N' := by rw [y2] at z2; exact (Prod.mk.inj (Option.some.inj z2)).2.symm
        subst this
        unfold Md_numberIn_L39
        rw [tp_cb y1, h4.2.2.2, if_pos (mk3.mpr k), tp_cb z1]
        exact Or.inl ⟨k, by omega, c2, M', N'', rfl, by rw [y4 _ _ (by omega)]; exact tp_ws, rfl, y3, fun a i w => by rw [y4 a i (by omega), tp_w, if_neg (by omega)], y5⟩
      · rw [if_neg (nI_ge (by omega) (by omega)), tp_cb (re_fl (f := 2) (fI := 2) rfl), tp_zo (Or.inl rfl), if_neg (show ¬ (nI lo ≤ nI (qv Tp q) ∧ nI (qv Tp q) ≤ nI hi) from fun z => absurd z.2 (nI_ge (by omega) (by omega))), if_pos rfl]
        obtain ⟨N', x1, x2, x3, x4⟩ := md_badf (F := F) (f := 2) (fI := 2) rfl hS
        rw [tp_cb x1]
        have hm28 : N'.1 249 28 = nI (mk q.2.2) := by rw [x4 _ _ (by omega)]; exact h4.2.2.2
        unfold Md_numberIn_L39
        rw [hm28, if_pos (mk3.mpr k), tp_cb (md_mustf x2 (by omega) (by omega))]
        exact Or.inr ⟨2, _, N', _, rfl, rfl, FL_mk hg hS (by omega) (by omega) x2 x3, f68_3, fun a i w => x4 a i (by omega)⟩
  · rw [if_neg (fun v => k ((nI_e2 (by omega)).mp v)), tp_cb (re_fl (f := 1) (fI := 1) rfl), tp_zo (Or.inl rfl), tp_cb (md_numX hF h4 k w9), h4.2.2.2, if_neg (fun v => k (mk3.mp v))]
    obtain ⟨N', x1, x2, x3, x4⟩ := md_must0 (F := F) hS
    unfold Md_numberIn_L39
    rw [h4.2.2.2, if_neg (fun v => k (mk3.mp v)), tp_cb x1]
    exact Or.inr ⟨1, _, N', _, rfl, rfl, FL_mk hg hS (by omega) (by omega) x2 x3, f68_3, x4⟩
theorem md_numf {f : Nat} {a b : Int32} (hf : N.1 249 31 = nI f) (h1 : 1 ≤ f) (h3 : f ≤ 3) : Md_numberIn F a b N = some (0, N) := by
  unfold Md_numberIn
  rw [hf, if_neg (show ¬ nI f ≤ 0 from nI_ge (a := 0) (b := f) (by omega) (by omega))]
theorem md_eyef {f : Nat} {a b : Int32} (hf : N.1 249 31 = nI f) (h1 : 1 ≤ f) (h3 : f ≤ 3) : Md_eyeHere F a b N = some (0, N) := by
  unfold Md_eyeHere
  rw [hf, if_neg (show ¬ nI f ≤ 0 from nI_ge (a := 0) (b := f) (by omega) (by omega))]
theorem pr_eye {ch : Nat} {chI un : Int32} (hF : 600 < F) (hg : gTp Tp) (hT : gT p T) (cc : cT M p T) (mc : mT1 N p T) (h : SY M N Tp q) (hch : chI = nI ch) (hc1 : ch ≤ 1) : (q.2.2 = 2 ∧ qv Tp q < tE T ∧ (tso T (qv Tp q) = 3 ↔ ch = 1) ∧ ¬ nI (qv Tp q) = un ∧ ∃ M' N', Re_takeEye F chI un M = some (1, M') ∧ M'.1 68 8 = nI (qv Tp q) ∧ Md_eyeHere F chI un N = some (nI (qv Tp q), N') ∧ SY M' N' Tp (lx Tp q.2.1) ∧ f68 M M' ∧ fXm N N') ∨ (∃ f M' N' w, Re_takeEye F chI un M = some (0, M') ∧ Md_eyeHere F chI un N = some (w, N') ∧ FL M' N' f q.1 ∧ f68 M M' ∧ f32 N N') := by
  subst hch
  have hS := h
  obtain ⟨h1, h2, h3, h4, h5, h6⟩ := h
  have h500 := hg.1
  have h8 := hT.1
  obtain ⟨w1, w2, w3, w4, w5, w6, w7, w8, w9⟩ := h6
  have mk3 := (mk_e w9).2.1
  unfold Re_takeEye Md_eyeHere
  rw [h2.2.2.1, h5, if_pos (show (0 : Int32) ≤ 0 from Int32.le_refl _)]
  by_cases k : q.2.2 = 2
  · have hv := qv_lt hS.2.2.2.2.2 k
    have hvd : M.1 68 7 = nI (qv Tp q) := h2.2.2.2 k
    have hmn : Md_numberHere F N = some (nI (qv Tp q), N) := md_num hF hg h3 h4 w1 w2 k (w6 k).2
    rw [if_pos ((nI_e2 (by omega)).mpr k), tp_cb hmn, h4.2.2.2, if_pos (mk3.mpr k), hvd, mc.2.1]
    -- the fault 2 of the reference
    have hbad : ∃ N', Md_bad F 2 N = some ((), N') ∧ Md_eyeHere_L59 F (nI (qv Tp q)) N' = some (nI (qv Tp q), N') ∧ FL (tv_w M 68 3 (nI 2)) N' 2 q.1 ∧ f32 N N' := by
      obtain ⟨N', x1, x2, x3, x4⟩ := md_badf (F := F) (f := 2) (fI := 2) rfl hS
      have hm28 : N'.1 249 28 = nI (mk q.2.2) := by rw [x4 _ _ (by omega)]; exact h4.2.2.2
      refine ⟨N', x1, ?_, FL_mk hg hS (by omega) (by omega) x2 x3, fun a i w => x4 a i (by omega)⟩
      unfold Md_eyeHere_L59
      rw [hm28, if_pos (mk3.mpr k), tp_cb (md_mustf x2 (by omega) (by omega))]
    obtain ⟨Nb, b1, b2, b3, b4⟩ := hbad
    by_cases c1 : qv Tp q < tE T
    · have hso := (hT.2.2.2.2.2.1 _ c1).1
      obtain ⟨p1, p2, p3, p4⟩ := tp_eyP (qv Tp q) (by omega)
      rw [tp_cb (to_eye hT cc c1), tp_nls, tp_gl p3, tp_cb (ey_choice hT cc c1), if_neg (nI_ge c1 (by omega)), tp_rd (by omega) (by decide), (mc.2.2.2.2.2.1 _ c1).1]
      have hL45 : (if nI (tso T (qv Tp q)) = 3 then Md_eyeHere_L45 F (nI ch) un (nI (qv Tp q)) 1 N else Md_eyeHere_L45 F (nI ch) un (nI (qv Tp q)) 0 N) = Md_eyeHere_L45 F (nI ch) un (nI (qv Tp q)) (if tso T (qv Tp q) = 3 then 1 else 0) N := by
        by_cases z : tso T (qv Tp q) = 3
        · rw [if_pos ((nI_e3 (by omega)).mpr z), if_pos z]
        · rw [if_neg (fun v => z ((nI_e3 (by omega)).mp v)), if_neg z]
      rw [hL45]
      unfold Md_eyeHere_L45
      have hceq : ((if tso T (qv Tp q) = 3 then 1 else 0 : Int32) = nI ch) ↔ (tso T (qv Tp q) = 3 ↔ ch = 1) := by
        have hc01 : ch = 0 ∨ ch = 1 := by omega
        by_cases z : tso T (qv Tp q) = 3
        · rw [if_pos z]
          rcases hc01 with e | e
          · rw [e]; exact ⟨fun v => absurd v (by decide), fun v => absurd (v.mp z) (by omega)⟩
          · rw [e]; exact ⟨fun _ => ⟨fun _ => rfl, fun _ => z⟩, fun _ => rfl⟩
        · rw [if_neg z]
          rcases hc01 with e | e
          · rw [e]; exact ⟨fun _ => ⟨fun v => absurd v z, fun v => absurd v (by omega)⟩, fun _ => rfl⟩
          · rw [e]; exact ⟨fun v => absurd v (by decide), fun v => absurd (v.mpr rfl) z⟩
      by_cases c2 : tso T (qv Tp q) = 3 ↔ ch = 1
      · rw [if_pos (hceq.mpr c2), if_pos (hceq.mpr c2), hvd]
        by_cases c3 : nI (qv Tp q) = un
        · rw [if_pos c3, if_pos c3, tp_cb (re_fl (f := 2) (fI := 2) rfl), tp_zo (Or.inl rfl), tp_cb b1, b2]
          exact Or.inr ⟨2, _, Nb, _, rfl, rfl, b3, f68_3, b4⟩
        · rw [if_neg c3, if_neg c3, tp_pf]
          obtain ⟨M', N', y1, y2, y3, y4, y5⟩ := pr_go (F := F) hF hg (hS.w8 (x := nI (qv Tp q)))
          obtain ⟨N'', z1, z2⟩ := md_must1 (F := F) hF hg hS
          have : N'' = N' := by rw [y2] at z2; exact (Prod.mk.inj (Option.some.inj z2)).2.symm
          subst this
          unfold Md_eyeHere_L59
          rw [tp_cb y1, h4.2.2.2, if_pos (mk3.mpr k), tp_cb z1]
          exact Or.inl ⟨k, c1, c2, c3, M', N'', rfl, by rw [y4 _ _ (by omega)]; exact tp_ws, rfl, y3, fun a i w => by rw [y4 a i (by omega), tp_w, if_neg (by omega)], y5⟩
      · rw [if_neg (fun v => c2 (hceq.mp v)), if_neg (fun v => c2 (hceq.mp v)), tp_cb (re_fl (f := 2) (fI := 2) rfl), tp_zo (Or.inl rfl), tp_cb b1, b2]
        exact Or.inr ⟨2, _, Nb, _, rfl, rfl, b3, f68_3, b4⟩
    · rw [tp_cb (to_eye_out cc (Or.inr (nI_le (by omega) (by omega)))), tp_nln, tp_cb (re_fl (f := 2) (fI := 2) rfl), tp_zo (Or.inl rfl), if_pos (nI_le (by omega) (by omega)), tp_cb b1, b2]
      exact Or.inr ⟨2, _, Nb, _, rfl, rfl, b3, f68_3, b4⟩
  · rw [if_neg (fun v => k ((nI_e2 (by omega)).mp v)), tp_cb (re_fl (f := 1) (fI := 1) rfl), tp_zo (Or.inl rfl), tp_cb (md_numX hF h4 k w9), h4.2.2.2, if_neg (fun v => k (mk3.mp v))]
    obtain ⟨N', x1, x2, x3, x4⟩ := md_must0 (F := F) hS
    unfold Md_eyeHere_L59
    rw [h4.2.2.2, if_neg (fun v => k (mk3.mp v)), tp_cb x1]
    exact Or.inr ⟨1, _, N', _, rfl, rfl, FL_mk hg hS (by omega) (by omega) x2 x3, f68_3, x4⟩
/-- a sign -/
theorem pr_sign {c : Nat} {cI : Int32} (hF : 600 < F) (hg : gTp Tp) (h : SY M N Tp q) (hc : cI = nI c) (hc2 : c = 59 ∨ c = 44) : ∃ x, Md_is F cI N = some (x, N) ∧ ((q.2.2 = c ∧ ∃ M' N', Re_takeSign F cI M = some (1, M') ∧ Md_must F x N = some ((), N') ∧ SY M' N' Tp (lx Tp q.2.1) ∧ f68 M M' ∧ fXm N N') ∨ (∃ M' N', Re_takeSign F cI M = some (0, M') ∧ Md_must F x N = some ((), N') ∧ FL M' N' 1 q.1 ∧ f68 M M' ∧ f32 N N')) := by
  subst hc
  have hS := h
  obtain ⟨h1, h2, h3, h4, h5, h6⟩ := h
  have h500 := hg.1
  obtain ⟨w1, w2, w3, w4, w5, w6, w7, w8, w9⟩ := h6
  have mk4 := (mk_e w9).2.2.2
  have hcq : (q.2.2 > 3 ∧ Tp 1 q.1 = c) ↔ q.2.2 = c := by
    rcases hc2 with e | e
    · rw [e]; exact w7.symm
    · rw [e]; exact w8.symm
  have e1 : Md_is F (nI c) N = some (if q.2.2 = c then 1 else 0, N) := by
    unfold Md_is
    rw [h4.2.2.2]
    by_cases z : q.2.2 > 3
    · have hlt : q.1 < Tp 0 0 := by
        have := w4 (by omega)
        omega
      rw [if_pos (mk4.mpr z), h4.1, tp_cb (md_byte hg h3 (by omega))]
      by_cases v : Tp 1 q.1 = c
      · rw [if_pos ((btx_e hg (by omega)).mpr ⟨hlt, v⟩), if_pos (hcq.mp ⟨z, v⟩)]
      · rw [if_neg (fun u => v ((btx_e hg (by omega)).mp u).2), if_neg (fun u => v (hcq.mpr u).2)]
    · rw [if_neg (fun v => z (mk4.mp v)), if_neg (by omega)]
  refine ⟨_, e1, ?_⟩
  unfold Re_takeSign
  rw [h2.2.2.1]
  by_cases k : q.2.2 = c
  · rw [if_pos (by rw [k]), if_pos k]
    obtain ⟨M', N', y1, y2, y3, y4, y5⟩ := pr_go (F := F) hF hg hS
    obtain ⟨N'', z1, z2⟩ := md_must1 (F := F) hF hg hS
    have : N'' = N' := by rw [y2] at z2; exact (Prod.mk.inj (Option.some.inj z2)).2.symm
    subst this
    rw [tp_cb y1]
    exact Or.inl ⟨k, M', N'', rfl, z1, y3, fun a i w => y4 a i (by omega), y5⟩
  · rw [if_neg (fun v => k (nI_inj (by omega) (by omega) v)), if_neg k, tp_cb (re_fl (f := 1) (fI := 1) rfl), tp_zo (Or.inl rfl)]
    obtain ⟨N', x1, x2, x3, x4⟩ := md_must0 (F := F) hS
    exact Or.inr ⟨_, N', rfl, x1, FL_mk hg hS (by omega) (by omega) x2 x3, f68_3, x4⟩
/-- a word -/
theorem pr_word {w : Nat} (hF : 600 < F) (hg : gTp Tp) (h : SY M N Tp q) (hw : w < 9) : (isW Tp q w = true ∧ ∃ M' N', Re_takeWord F w M = some (1, M') ∧ Md_must F 1 N = some ((), N') ∧ SY M' N' Tp (lx Tp q.2.1) ∧ f68 M M' ∧ fXm N N') ∨ (isW Tp q w = false ∧ ∃ M' N', Re_takeWord F w M = some (0, M') ∧ Md_must F 0 N = some ((), N') ∧ FL M' N' 1 q.1 ∧ f68 M M' ∧ f32 N N') := by
  have hS := h
  obtain ⟨h1, h2, h3, h4, h5, h6⟩ := h
  unfold Re_takeWord
  rw [show tv_gs w = fun o => o from funext fun o => if_pos hw]
  dsimp only
  rw [tp_cb (re_word hF hg h1.1 h2 hw h6.1 h6.2.1 h6.2.2.2.2.2.2.2.2)]
  by_cases k : isW Tp q w = true
  · rw [if_pos k, if_neg (show ¬ (1 : Int32) = 0 by decide)]
    obtain ⟨M', N', y1, y2, y3, y4, y5⟩ := pr_go (F := F) hF hg hS
    obtain ⟨N'', z1, z2⟩ := md_must1 (F := F) hF hg hS
    have : N'' = N' := by rw [y2] at z2; exact (Prod.mk.inj (Option.some.inj z2)).2.symm
    subst this
    rw [tp_cb y1]
    exact Or.inl ⟨k, M', N'', rfl, z1, y3, fun a i w => y4 a i (by omega), y5⟩
  · rw [if_neg k, if_pos rfl, tp_cb (re_fl (f := 1) (fI := 1) rfl), tp_zo (Or.inl rfl)]
    obtain ⟨N', x1, x2, x3, x4⟩ := md_must0 (F := F) hS
    exact Or.inr ⟨Bool.eq_false_iff.mpr k, _, N', rfl, x1, FL_mk hg hS (by omega) (by omega) x2 x3, f68_3, x4⟩
theorem pr_wd (hF : 600 < F) (hg : gTp Tp) (h : SY M N Tp q) : Md_word F N = some (Int64.ofNat (wv8 Tp q), N) := md_word hF hg h.2.2.1 h.2.2.2.1 h.2.2.2.2.2.1 h.2.2.2.2.2.2.1 h.2.2.2.2.2.2.2.2.2.2.2.2.2
theorem pr_wi {w : Nat} {C : Int64} (hg : gTp Tp) (h : SY M N Tp q) (hw : w < 9) (hC : C = Int64.ofNat (p256 (sby w) (wl w).length)) : (lg_cmp (Int64.ofNat (wv8 Tp q)) C = 0) ↔ isW Tp q w = true := wv_iff hg hw hC h.2.2.2.2.2.1 h.2.2.2.2.2.2.2.2.2.1
end PRIM
