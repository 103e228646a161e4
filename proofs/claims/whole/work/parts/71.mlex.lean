/-! the reference's tokens, and words -/
def mX (N : tv_M) (q : Nat × Nat × Nat) : Prop := N.1 249 29 = nI q.1 ∧ N.1 249 27 = nI q.2.1 ∧ N.1 249 30 = nI q.2.1 ∧ N.1 249 28 = nI (mk q.2.2)
def mTx (N : tv_M) (Tp : Nat → Nat → Nat) : Prop := N.1 249 26 = nI (Tp 0 0) ∧ ∀ i, i < Tp 0 0 → N.1 266 i = nI (Tp 1 i)
def fXm (N N' : tv_M) : Prop := ∀ a i, ¬ (a = 249 ∧ 27 ≤ i ∧ i ≤ 30) → N'.1 a i = N.1 a i
theorem fXm.tr {N N' N'' : tv_M} (h : fXm N N') (g : fXm N' N'') : fXm N N'' := fun a i q => (g a i q).trans (h a i q)
theorem fXm.tx {N N' : tv_M} {Tp : Nat → Nat → Nat} (h : fXm N N') (hm : mTx N Tp) : mTx N' Tp := ⟨by rw [h _ _ (by omega)]; exact hm.1, fun i hi => by rw [h _ _ (by omega)]; exact hm.2 i hi⟩
theorem md_lt256 {F : Nat} {N : tv_M} : ∀ c, c < 256 → Md_isLetter F (nI c) N = some (if isLt c then 1 else 0, N) := fun c hc => by
  unfold Md_isLetter isLt
  by_cases q1 : c < 97
  · rw [if_pos (show nI c < 97 from nI_lt (b := 97) q1 (by omega)), decide_eq_false (by omega), if_neg Bool.false_ne_true]
  · rw [if_neg (show ¬ nI c < 97 from nI_nlt (b := 97) (a := c) (by omega) (by omega))]
    by_cases q2 : 122 < c
    · rw [if_pos (show (122 : Int32) < nI c from nI_lt (a := 122) q2 (by omega)), decide_eq_false (by omega), if_neg Bool.false_ne_true]
    · rw [if_neg (show ¬ (122 : Int32) < nI c from nI_nlt (a := 122) (by omega) (by omega)), decide_eq_true (by omega), if_pos rfl]
theorem md_dg256 {F : Nat} {N : tv_M} : ∀ c, c < 256 → Md_isFigure F (nI c) N = some (if isDg c then 1 else 0, N) := fun c hc => by
  unfold Md_isFigure isDg
  by_cases q1 : c < 48
  · rw [if_pos (show nI c < 48 from nI_lt (b := 48) q1 (by omega)), decide_eq_false (by omega), if_neg Bool.false_ne_true]
  · rw [if_neg (show ¬ nI c < 48 from nI_nlt (b := 48) (a := c) (by omega) (by omega))]
    by_cases q2 : 57 < c
    · rw [if_pos (show (57 : Int32) < nI c from nI_lt (a := 57) q2 (by omega)), decide_eq_false (by omega), if_neg Bool.false_ne_true]
    · rw [if_neg (show ¬ (57 : Int32) < nI c from nI_nlt (a := 57) (by omega) (by omega)), decide_eq_true (by omega), if_pos rfl]
section MLEX
variable {F : Nat} {M N : tv_M} {Tp : Nat → Nat → Nat}
def btx (Tp : Nat → Nat → Nat) (i : Nat) : Int32 := if i < Tp 0 0 then nI (Tp 1 i) else -1000000
theorem md_byte {i : Nat} (hg : gTp Tp) (hm : mTx N Tp) (hi : i ≤ 500) : Md_byteAt F (nI i) N = some (btx Tp i, N) := by
  have h500 := hg.1
  unfold Md_byteAt btx
  rw [hm.1]
  by_cases q : i < Tp 0 0
  · rw [if_neg (nI_ge q (by omega)), if_pos q, tp_rd (by omega) (by decide), hm.2 i q]
  · rw [if_pos (nI_le (by omega) (by omega)), if_neg q]
theorem md_isl {i : Nat} (hg : gTp Tp) : Md_isLetter F (btx Tp i) N = some (if i < Tp 0 0 ∧ isLt (Tp 1 i) = true then 1 else 0, N) := by
  unfold btx
  by_cases q : i < Tp 0 0
  · rw [if_pos q, md_lt256 _ (hg.2 i)]
    by_cases w : isLt (Tp 1 i) = true
    · rw [if_pos w, if_pos ⟨q, w⟩]
    · rw [if_neg w, if_neg (fun z => w z.2)]
  · rw [if_neg q, if_neg (fun z => q z.1)]; rfl
theorem md_isd {i : Nat} (hg : gTp Tp) : Md_isFigure F (btx Tp i) N = some (if i < Tp 0 0 ∧ isDg (Tp 1 i) = true then 1 else 0, N) := by
  unfold btx
  by_cases q : i < Tp 0 0
  · rw [if_pos q, md_dg256 _ (hg.2 i)]
    by_cases w : isDg (Tp 1 i) = true
    · rw [if_pos w, if_pos ⟨q, w⟩]
    · rw [if_neg w, if_neg (fun z => w z.2)]
  · rw [if_neg q, if_neg (fun z => q z.1)]; rfl
theorem md_77 (hg : gTp Tp) : ∀ m i nn (N : tv_M), i + m = Tp 0 0 → m < nn → mTx N Tp → N.1 249 27 = nI i → ∃ N', Md_step_L77 F nn N = some ((), N') ∧ N'.1 249 27 = nI (rn Tp isLt m i) ∧ N'.1 249 30 = nI (rn Tp isLt m i) ∧ N'.1 249 28 = nI 2 ∧ N'.1 249 29 = N.1 249 29 ∧ fXm N N' := by
  have h500 := hg.1
  intro m
  induction m with
  | zero =>
    intro i nn N e1 e2 hm h27
    obtain ⟨nn, rfl⟩ : ∃ n', nn = n' + 1 := ⟨nn - 1, by omega⟩
    rw [Md_step_L77, h27, tp_cb (md_byte hg hm (by omega)), tp_cb (md_isl hg), if_neg (show ¬ (i < Tp 0 0 ∧ isLt (Tp 1 i) = true) by omega), if_pos rfl, tp_pf, tp_pf]
    exact ⟨_, rfl, by rw [tp_wj (by omega), tp_wj (by omega)]; exact h27, by rw [tp_ws, tp_wj (by omega)]; exact h27, by rw [tp_wj (by omega), tp_ws]; rfl, by rw [tp_wj (by omega), tp_wj (by omega)], fun a j w => by rw [tp_w, if_neg (by omega), tp_w, if_neg (by omega)]⟩
  | succ m ih =>
    intro i nn N e1 e2 hm h27
    obtain ⟨nn, rfl⟩ : ∃ n', nn = n' + 1 := ⟨nn - 1, by omega⟩
    rw [Md_step_L77, h27, tp_cb (md_byte hg hm (by omega)), tp_cb (md_isl hg), rn]
    by_cases q : i < Tp 0 0 ∧ isLt (Tp 1 i) = true
    · rw [if_pos q, if_pos q, if_neg (show ¬ (1 : Int32) = 0 by decide), h27, nI_1, tp_pf]
      obtain ⟨N', x1, x2, x3, x4, x5, x6⟩ := ih (i + 1) nn (tv_w N 249 27 (nI (i + 1))) (by omega) (by omega) ⟨by rw [tp_wj (by omega)]; exact hm.1, fun j hj => by rw [tp_wk (by omega)]; exact hm.2 j hj⟩ tp_ws
      exact ⟨N', x1, x2, x3, x4, by rw [x5, tp_wj (by omega)], fun a j w => by rw [x6 a j w, tp_w, if_neg (by omega)]⟩
    · rw [if_neg q, if_neg q, if_pos rfl, tp_pf, tp_pf]
      exact ⟨_, rfl, by rw [tp_wj (by omega), tp_wj (by omega)]; exact h27, by rw [tp_ws, tp_wj (by omega)]; exact h27, by rw [tp_wj (by omega), tp_ws]; rfl, by rw [tp_wj (by omega), tp_wj (by omega)], fun a j w => by rw [tp_w, if_neg (by omega), tp_w, if_neg (by omega)]⟩
theorem md_119 {b : Nat} (hg : gTp Tp) : ∀ m i nn (N : tv_M), b ≤ i → i + m = Tp 0 0 → m < nn → mTx N Tp → N.1 249 27 = nI i → N.1 249 29 = nI b → ∃ N', Md_step_L119 F nn N = some ((), N') ∧ N'.1 249 27 = nI (rn Tp isDg m i) ∧ N'.1 249 30 = nI (rn Tp isDg m i) ∧ N'.1 249 28 = nI (if 3 < rn Tp isDg m i - b then 0 else 3) ∧ N'.1 249 29 = nI b ∧ fXm N N' := by
  have h500 := hg.1
  have hstop : ∀ i (N : tv_M), b ≤ i → i ≤ 500 → N.1 249 27 = nI i → N.1 249 29 = nI b → ∃ N', (if ((N.1 249 27) - (N.1 249 29)) ≤ 3 then tv_pf N 249 28 3 (fun M27 => tv_pf M27 249 30 (M27.1 249 27) (fun M28 => some ((), M28))) else tv_pf N 249 28 0 (fun M29 => tv_pf M29 249 30 (M29.1 249 27) (fun M30 => some ((), M30)))) = some ((), N') ∧ N'.1 249 27 = nI i ∧ N'.1 249 30 = nI i ∧ N'.1 249 28 = nI (if 3 < i - b then 0 else 3) ∧ N'.1 249 29 = nI b ∧ fXm N N' := by
    intro i N hb hi h27 h29
    rw [h27, h29, nI_sub hb]
    by_cases q : 3 < i - b
    · rw [if_neg (show ¬ nI (i - b) ≤ 3 from nI_ge (a := 3) q (by omega)), if_pos q, tp_pf, tp_pf]
      exact ⟨_, rfl, by rw [tp_wj (by omega), tp_wj (by omega)]; exact h27, by rw [tp_ws, tp_wj (by omega)]; exact h27, by rw [tp_wj (by omega), tp_ws]; rfl, by rw [tp_wj (by omega), tp_wj (by omega)]; exact h29, fun a j w => by rw [tp_w, if_neg (by omega), tp_w, if_neg (by omega)]⟩
    · rw [if_pos (show nI (i - b) ≤ 3 from nI_le (b := 3) (by omega) (by omega)), if_neg q, tp_pf, tp_pf]
      exact ⟨_, rfl, by rw [tp_wj (by omega), tp_wj (by omega)]; exact h27, by rw [tp_ws, tp_wj (by omega)]; exact h27, by rw [tp_wj (by omega), tp_ws]; rfl, by rw [tp_wj (by omega), tp_wj (by omega)]; exact h29, fun a j w => by rw [tp_w, if_neg (by omega), tp_w, if_neg (by omega)]⟩
  intro m
  induction m with
  | zero =>
    intro i nn N hb e1 e2 hm h27 h29
    obtain ⟨nn, rfl⟩ : ∃ n', nn = n' + 1 := ⟨nn - 1, by omega⟩
    have hs := hstop i N hb (by omega) h27 h29
    rw [Md_step_L119, h27, tp_cb (md_byte hg hm (by omega)), tp_cb (md_isd hg), if_neg (show ¬ (i < Tp 0 0 ∧ isDg (Tp 1 i) = true) by omega), if_pos rfl]
    exact hs
  | succ m ih =>
    intro i nn N hb e1 e2 hm h27 h29
    obtain ⟨nn, rfl⟩ : ∃ n', nn = n' + 1 := ⟨nn - 1, by omega⟩
    rw [Md_step_L119, h27, tp_cb (md_byte hg hm (by omega)), tp_cb (md_isd hg), rn]
    by_cases q : i < Tp 0 0 ∧ isDg (Tp 1 i) = true
    · rw [if_pos q, if_pos q, if_neg (show ¬ (1 : Int32) = 0 by decide), h27, nI_1, tp_pf]
      obtain ⟨N', x1, x2, x3, x4, x5, x6⟩ := ih (i + 1) nn (tv_w N 249 27 (nI (i + 1))) (by omega) (by omega) (by omega) ⟨by rw [tp_wj (by omega)]; exact hm.1, fun j hj => by rw [tp_wk (by omega)]; exact hm.2 j hj⟩ tp_ws (by rw [tp_wj (by omega)]; exact h29)
      exact ⟨N', x1, x2, x3, x4, x5, fun a j w => by rw [x6 a j w, tp_w, if_neg (by omega)]⟩
    · rw [if_neg q, if_neg q, if_pos rfl]
      exact hstop i N hb (by omega) h27 h29
theorem btx_e (hg : gTp Tp) {i c : Nat} (hc : c < 256) : btx Tp i = nI c ↔ (i < Tp 0 0 ∧ Tp 1 i = c) := by
  unfold btx
  by_cases q : i < Tp 0 0
  · rw [if_pos q, nI_eq (by have := hg.2 i; omega) (by omega)]
    exact ⟨fun h => ⟨q, h⟩, fun h => h.2⟩
  · rw [if_neg q]
    exact ⟨fun h => absurd h.symm (nI_none (by omega)), fun h => absurd h.1 q⟩
theorem btx_n (hg : gTp Tp) {i : Nat} : btx Tp i = -1000000 ↔ Tp 0 0 ≤ i := by
  unfold btx
  by_cases q : i < Tp 0 0
  · rw [if_pos q]
    exact ⟨fun h => absurd h (nI_none (by have := hg.2 i; omega)), fun h => by omega⟩
  · rw [if_neg q]; exact ⟨fun _ => by omega, fun _ => rfl⟩
theorem md_step (hF : 600 < F) (hg : gTp Tp) (hm : mTx N Tp) {pos : Nat} (hpos : pos ≤ Tp 0 0) (h27 : N.1 249 27 = nI pos) : ∃ N', Md_step F N = some ((), N') ∧ mX N' (lx Tp pos) ∧ fXm N N' := by
  have h500 := hg.1
  have hh : ∀ m i nn (N1 : tv_M), i + m = Tp 0 0 → m < nn → mTx N1 Tp → N1.1 249 27 = nI i → fXm N N1 → rn Tp isSp m i = rnn Tp isSp pos → ∃ N', Md_step_L0 F nn N1 = some ((), N') ∧ mX N' (lx Tp pos) ∧ fXm N N' := by
    intro m
    induction m with
    | zero =>
      intro i nn N1 e1 e2 hm1 h271 f1 er
      obtain ⟨nn, rfl⟩ : ∃ n', nn = n' + 1 := ⟨nn - 1, by omega⟩
      have er : i = rnn Tp isSp pos := er
      have hb := btx_n (i := i) hg
      rw [Md_step_L0, h271, tp_cb (md_byte hg hm1 (by omega)), if_neg (show ¬ btx Tp i = 32 from fun w => by have := ((btx_e (c := 32) hg (by omega)).mp w).1; omega), h271, tp_cb (md_byte hg hm1 (by omega)), if_neg (show ¬ btx Tp i = 10 from fun w => by have := ((btx_e (c := 10) hg (by omega)).mp w).1; omega), h271, tp_pf, tp_wj (by omega), h271, tp_cb (md_byte (i := i) hg ⟨by rw [tp_wj (by omega)]; exact hm1.1, fun j hj => by rw [tp_wk (by omega)]; exact hm1.2 j hj⟩ (by omega)), if_pos (hb.mpr (by omega)), tp_pf, tp_pf]
      unfold lx
      rw [← er, if_pos (by omega)]
      exact ⟨_, rfl, ⟨by rw [tp_wj (by omega), tp_wj (by omega), tp_ws], by rw [tp_wj (by omega), tp_wj (by omega), tp_wj (by omega)]; exact h271, by rw [tp_ws, tp_wj (by omega), tp_wj (by omega)]; exact h271, by rw [tp_wj (by omega), tp_ws]; rfl⟩, fun a j w => by rw [tp_w, if_neg (by omega), tp_w, if_neg (by omega), tp_w, if_neg (by omega)]; exact f1 a j w⟩
    | succ m ih =>
      intro i nn N1 e1 e2 hm1 h271 f1 er
      obtain ⟨nn, rfl⟩ : ∃ n', nn = n' + 1 := ⟨nn - 1, by omega⟩
      rw [rn] at er
      have hi : i < Tp 0 0 := by omega
      have hbt : btx Tp i = nI (Tp 1 i) := if_pos hi
      have hgo : isSp (Tp 1 i) = true → ∃ N', Md_step_L0 F nn (tv_w N1 249 27 (nI (i + 1))) = some ((), N') ∧ mX N' (lx Tp pos) ∧ fXm N N' := fun w => ih (i + 1) nn _ (by omega) (by omega) ⟨by rw [tp_wj (by omega)]; exact hm1.1, fun j hj => by rw [tp_wk (by omega)]; exact hm1.2 j hj⟩ tp_ws (fun a j z => by rw [tp_w, if_neg (by omega)]; exact f1 a j z) (by rw [if_pos ⟨hi, w⟩] at er; exact er)
      rw [Md_step_L0, h271, tp_cb (md_byte hg hm1 (by omega)), h271, nI_1, tp_pf]
      by_cases q1 : Tp 1 i = 32
      · rw [if_pos (show btx Tp i = 32 from (btx_e (c := 32) hg (by omega)).mpr ⟨hi, q1⟩)]; exact hgo (decide_eq_true (Or.inl q1))
      · rw [if_neg (show ¬ btx Tp i = 32 from fun w => q1 ((btx_e (c := 32) hg (by omega)).mp w).2), tp_cb (md_byte hg hm1 (by omega))]
        by_cases q2 : Tp 1 i = 10
        · rw [if_pos (show btx Tp i = 10 from (btx_e (c := 10) hg (by omega)).mpr ⟨hi, q2⟩), h271, nI_1]; exact hgo (decide_eq_true (Or.inr q2))
        · rw [if_neg (show ¬ btx Tp i = 10 from fun w => q2 ((btx_e (c := 10) hg (by omega)).mp w).2)]
          rw [if_neg (fun w => (of_decide_eq_true w.2).elim q1 q2)] at er
          have hm2 : mTx (tv_w N1 249 29 (nI i)) Tp := ⟨by rw [tp_wj (by omega)]; exact hm1.1, fun j hj => by rw [tp_wk (by omega)]; exact hm1.2 j hj⟩
          have g27 : (tv_w N1 249 29 (nI i)).1 249 27 = nI i := by rw [tp_wj (by omega)]; exact h271
          have g29 : (tv_w N1 249 29 (nI i)).1 249 29 = nI i := tp_ws
          have f2 : fXm N (tv_w N1 249 29 (nI i)) := fun a j z => by rw [tp_w, if_neg (by omega)]; exact f1 a j z
          rw [h271, tp_pf]
          generalize tv_w N1 249 29 (nI i) = N2 at hm2 g27 g29 f2
          rw [g27, tp_cb (md_byte hg hm2 (by omega)), if_neg (fun w => absurd ((btx_n hg).mp w) (by omega)), tp_cb (md_isl hg), tp_cb (md_isd hg)]
          unfold lx
          rw [← er, if_neg (show ¬ Tp 0 0 ≤ i by omega)]
          by_cases q3 : isLt (Tp 1 i) = true
          · rw [if_pos (show i < Tp 0 0 ∧ isLt (Tp 1 i) = true from ⟨hi, q3⟩), if_neg (show ¬ (1 : Int32) = 0 by decide), if_pos q3]
            obtain ⟨N', x1, x2, x3, x4, x5, x6⟩ := md_77 (F := F) hg (Tp 0 0 - i) i F N2 (by omega) (by omega) hm2 g27
            exact ⟨N', x1, ⟨by rw [x5]; exact g29, x2, x3, x4⟩, f2.tr x6⟩
          · rw [if_neg (fun z : i < Tp 0 0 ∧ isLt (Tp 1 i) = true => q3 z.2), if_pos rfl, if_neg q3]
            by_cases q4 : isDg (Tp 1 i) = true
            · rw [if_pos (show i < Tp 0 0 ∧ isDg (Tp 1 i) = true from ⟨hi, q4⟩), if_neg (show ¬ (1 : Int32) = 0 by decide), if_pos q4]
              obtain ⟨N', x1, x2, x3, x4, x5, x6⟩ := md_119 (F := F) (b := i) hg (Tp 0 0 - i) i F N2 (Nat.le_refl _) (by omega) (by omega) hm2 g27 g29
              refine ⟨N', x1, ⟨x5, x2, x3, ?_⟩, f2.tr x6⟩
              rw [x4]
              show nI (if 3 < rnn Tp isDg i - i then 0 else 3) = nI (mk (if 3 < rnn Tp isDg i - i then 3 else 2))
              by_cases w : 3 < rnn Tp isDg i - i
              · rw [if_pos w, if_pos w]; rfl
              · rw [if_neg w, if_neg w]; rfl
            · rw [if_neg (fun z : i < Tp 0 0 ∧ isDg (Tp 1 i) = true => q4 z.2), if_pos rfl, if_neg q4, tp_pf, g27, nI_1]
              have hfin : ∀ (kI : Int32) kk, kI = nI (mk kk) → ∃ N', tv_pf (tv_w N2 249 27 (nI (i + 1))) 249 28 kI (fun M14 => tv_pf M14 249 30 (M14.1 249 27) (fun M15 => some ((), M15))) = some ((), N') ∧ mX N' (i, i + 1, kk) ∧ fXm N N' := fun kI kk e => by
                rw [tp_pf, tp_pf]
                exact ⟨_, rfl, ⟨by rw [tp_wj (by omega), tp_wj (by omega), tp_wj (by omega)]; exact g29, by rw [tp_wj (by omega), tp_wj (by omega), tp_ws], by rw [tp_ws, tp_wj (by omega), tp_ws], by rw [tp_wj (by omega), tp_ws, e]⟩, fun a j w => by rw [tp_w, if_neg (by omega), tp_w, if_neg (by omega), tp_w, if_neg (by omega)]; exact f2 a j w⟩
              by_cases q5 : Tp 1 i = 59
              · rw [if_pos (show btx Tp i = 59 from (btx_e (c := 59) hg (by omega)).mpr ⟨hi, q5⟩), if_pos q5]; exact hfin 4 59 rfl
              · rw [if_neg (show ¬ btx Tp i = 59 from fun w => q5 ((btx_e (c := 59) hg (by omega)).mp w).2), if_neg q5]
                by_cases q6 : Tp 1 i = 44
                · rw [if_pos (show btx Tp i = 44 from (btx_e (c := 44) hg (by omega)).mpr ⟨hi, q6⟩), if_pos q6]; exact hfin 4 44 rfl
                · rw [if_neg (show ¬ btx Tp i = 44 from fun w => q6 ((btx_e (c := 44) hg (by omega)).mp w).2), if_neg q6]; exact hfin 0 3 rfl
  exact hh (Tp 0 0 - pos) pos F N (by omega) (by omega) hm h27 (fun _ _ _ => rfl) rfl
/-! words -/
def wl (w : Nat) : List Nat := if w = 0 then [101, 121, 101] else if w = 1 then [118, 105, 101, 119] else if w = 2 then [109, 111, 100] else if w = 3 then [104, 101, 108, 100] else if w = 4 then [99, 104, 111, 105, 99, 101] else if w = 5 then [116, 105, 101] else if w = 6 then [98, 121] else if w = 7 then [97, 110, 100] else [98, 97, 114]
def sby (w i : Nat) : Nat := (wl w).getD i 0
theorem wl_P : ∀ w, w < 9 → tv_slen.getD w 0 = (wl w).length ∧ (wl w).length ≤ 6 ∧ 1 ≤ (wl w).length ∧ ∀ i, i < (wl w).length → 97 ≤ sby w i ∧ sby w i ≤ 122 := by decide +kernel
theorem wl_C : ∀ w, w < 9 → ∀ i, i < (wl w).length → ((((tv_sbyt.getD w []).getD i 0 &&& 255).toUInt32 % 65536).toInt32 : Int32) = nI (sby w i) := by decide +kernel
def isW (Tp : Nat → Nat → Nat) (q : Nat × Nat × Nat) (w : Nat) : Bool := decide (q.2.2 = 1) && (decide (q.2.1 - q.1 = (wl w).length) && an (fun i => decide (Tp 1 (q.1 + i) = sby w i)) (wl w).length)
theorem sg_e {c d : Nat} (hc : c < 256) (hd : d < 128) : i_sg c = nI d ↔ c = d := by
  have : ∀ c, c < 256 → ∀ d, d < 128 → (i_sg c = nI d ↔ c = d) := by decide +kernel
  exact this c hc d hd
theorem re_word {q : Nat × Nat × Nat} {w : Nat} (hF : 600 < F) (hg : gTp Tp) (hc : cTp M Tp) (hx : cX M Tp q) (hw : w < 9) (hq1 : q.1 ≤ q.2.1) (hq2 : q.2.1 ≤ Tp 0 0) (hk : q.2.2 ≤ 59) : Re_isWord F w M = some (if isW Tp q w then 1 else 0, M) := by
  have h500 := hg.1
  obtain ⟨w1, w2, w3, w4⟩ := wl_P w hw
  have elen : Js_length F w M = some (nI (wl w).length, M) := by unfold Js_length; rw [if_pos hw, w1]; rfl
  unfold Re_isWord isW
  rw [show tv_gs w = fun o => o from funext fun o => if_pos hw]
  dsimp only
  rw [hx.2.2.1, tp_cb elen, hx.1, hx.2.1, nI_sub hq1]
  by_cases k1 : q.2.2 = 1
  · rw [if_pos ((nI_e1 (by omega)).mpr k1), decide_eq_true k1, Bool.true_and]
    by_cases k2 : q.2.1 - q.1 = (wl w).length
    · rw [if_pos (by rw [k2]), decide_eq_true k2, Bool.true_and]
      have hh : ∀ d i nn, i + d = (wl w).length → d < nn → (∀ j, j < i → Tp 1 (q.1 + j) = sby w j) → Re_isWord_L28 F nn w (nI i) M = some (if an (fun i => decide (Tp 1 (q.1 + i) = sby w i)) (wl w).length then 1 else 0, M) := by
        intro d
        induction d with
        | zero =>
          intro i nn e1 e2 hj
          obtain ⟨nn, rfl⟩ : ∃ n', nn = n' + 1 := ⟨nn - 1, by omega⟩
          rw [Re_isWord_L28, show tv_gs w = fun o => o from funext fun o => if_pos hw]
          dsimp only
          rw [tp_cb elen, if_pos (nI_le (by omega) (by omega)), if_pos ((an_iff _ _).mpr (fun j hj' => decide_eq_true (hj j (by omega))))]
        | succ d ih =>
          intro i nn e1 e2 hj
          obtain ⟨nn, rfl⟩ : ∃ n', nn = n' + 1 := ⟨nn - 1, by omega⟩
          have hsb := w4 i (by omega)
          have ech : Js_charAt F w (nI i) M = some (nI (sby w i), M) := by
            unfold Js_charAt
            rw [if_pos hw, w1, if_pos (tp_inb (by omega) (by omega)), nI_clamp (by omega), wl_C w hw i (by omega)]
          rw [Re_isWord_L28, show tv_gs w = fun o => o from funext fun o => if_pos hw]
          dsimp only
          rw [tp_cb elen, if_neg (nI_ge (by omega) (by omega)), hx.1, nI_add, tp_rd (by omega) (by decide), hc.2 _ (by omega), tp_cb ech, nI_1]
          by_cases z : Tp 1 (q.1 + i) = sby w i
          · rw [if_pos ((sg_e (hg.2 _) (by omega)).mpr z)]
            exact ih (i + 1) nn (by omega) (by omega) (fun j hj' => by
              by_cases e : j = i
              · rw [e]; exact z
              · exact hj j (by omega))
          · rw [if_neg (fun v => z ((sg_e (hg.2 _) (by omega)).mp v)), if_neg]
            intro v
            exact z (of_decide_eq_true ((an_iff _ _).mp v i (by omega)))
      exact hh _ 0 F (Nat.zero_add _) (by omega) (fun j hj => absurd hj (Nat.not_lt_zero j))
    · rw [if_neg (fun v => k2 (nI_inj (by omega) (by omega) v)), decide_eq_false k2, Bool.false_and, if_neg Bool.false_ne_true]
  · rw [if_neg (fun v => k1 ((nI_e1 (by omega)).mp v)), decide_eq_false k1, Bool.false_and, if_neg Bool.false_ne_true]
def p256 (f : Nat → Nat) : Nat → Nat
  | 0 => 0
  | n + 1 => p256 f n * 256 + f n
theorem p256_lt {f : Nat → Nat} : ∀ n, (∀ k, k < n → f k < 256) → p256 f n < 256 ^ n := by
  intro n
  induction n with
  | zero => intro _; exact Nat.one_pos
  | succ n ih =>
    intro h
    have h1 := ih (fun k hk => h k (by omega))
    have h2 := h n (by omega)
    rw [p256, Nat.pow_succ]; omega
theorem p256_inj {f g : Nat → Nat} : ∀ n m, (∀ k, k < n → 1 ≤ f k ∧ f k < 256) → (∀ k, k < m → 1 ≤ g k ∧ g k < 256) → p256 f n = p256 g m → n = m ∧ ∀ k, k < n → f k = g k := by
  intro n
  induction n with
  | zero =>
    intro m h1 h2 h
    cases m with
    | zero => exact ⟨rfl, fun k hk => absurd hk (Nat.not_lt_zero k)⟩
    | succ m => have := h2 m (by omega); rw [p256, p256] at h; omega
  | succ n ih =>
    intro m h1 h2 h
    cases m with
    | zero => have := h1 n (by omega); rw [p256, p256] at h; omega
    | succ m =>
      have a1 := h1 n (by omega)
      have a2 := h2 m (by omega)
      rw [p256, p256] at h
      obtain ⟨e1, e2⟩ := ih m (fun k hk => h1 k (by omega)) (fun k hk => h2 k (by omega)) (by omega)
      subst e1
      refine ⟨rfl, fun k hk => ?_⟩
      by_cases e : k = n
      · rw [e]; omega
      · exact e2 k (by omega)
theorem i64_sh8 {n x : Nat} (hn : n < 2 ^ 50) (hx : x < 256) : ((Int64.ofNat n <<< ((8 : Int32).toInt64 &&& 63)) ||| (nI x).toInt64) = Int64.ofNat (n * 256 + x) := by
  have hX : ∀ x, x < 256 → (nI x).toInt64 = Int64.ofNat x := by decide +kernel
  rw [hX x hx]
  apply Int64.toBitVec_inj.mp
  apply BitVec.eq_of_toNat_eq
  have e : ((Int64.ofNat n <<< ((8 : Int32).toInt64 &&& 63)) ||| Int64.ofNat x).toBitVec = (BitVec.ofNat 64 n <<< 8) ||| BitVec.ofNat 64 x := rfl
  rw [e, BitVec.toNat_or, BitVec.toNat_shiftLeft, BitVec.toNat_ofNat, BitVec.toNat_ofNat, Nat.mod_eq_of_lt (show n < 2 ^ 64 by omega), Nat.mod_eq_of_lt (show x < 2 ^ 64 by omega), Nat.shiftLeft_eq, Nat.mod_eq_of_lt (show n * 2 ^ 8 < 2 ^ 64 by omega), ← Nat.shiftLeft_eq, ← Nat.shiftLeft_add_eq_or_of_lt (by omega), Nat.shiftLeft_eq]
  show _ = (BitVec.ofNat 64 (n * 256 + x)).toNat
  rw [BitVec.toNat_ofNat, Nat.mod_eq_of_lt (by omega)]
def wv8 (Tp : Nat → Nat → Nat) (q : Nat × Nat × Nat) : Nat := if q.2.2 = 1 ∧ q.2.1 - q.1 < 8 then p256 (fun i => Tp 1 (q.1 + i)) (q.2.1 - q.1) else 0
theorem mk_e {k : Nat} (h : k ≤ 59) : (nI (mk k) = 2 ↔ k = 1) ∧ (nI (mk k) = 3 ↔ k = 2) ∧ (nI (mk k) = 1 ↔ k = 0) ∧ (nI (mk k) = 4 ↔ k > 3) := by
  have : ∀ k, k < 60 → (nI (mk k) = 2 ↔ k = 1) ∧ (nI (mk k) = 3 ↔ k = 2) ∧ (nI (mk k) = 1 ↔ k = 0) ∧ (nI (mk k) = 4 ↔ k > 3) := by decide +kernel
  exact this k (by omega)
theorem md_word {q : Nat × Nat × Nat} (hF : 600 < F) (hg : gTp Tp) (hm : mTx N Tp) (hx : mX N q) (hq1 : q.1 ≤ q.2.1) (hq2 : q.2.1 ≤ Tp 0 0) (hk : q.2.2 ≤ 59) : Md_word F N = some (Int64.ofNat (wv8 Tp q), N) := by
  have h500 := hg.1
  obtain ⟨x29, x27, x30, x28⟩ := hx
  obtain ⟨k2, -⟩ := mk_e hk
  unfold Md_word wv8
  rw [x29]
  by_cases w : q.2.2 = 1 ∧ q.2.1 - q.1 < 8
  · rw [if_pos w]
    have hh : ∀ d i nn, i + d = q.2.1 - q.1 → d < nn → Md_word_L7 F nn (Int64.ofNat (p256 (fun i => Tp 1 (q.1 + i)) i)) (nI (q.1 + i)) N = some (Int64.ofNat (p256 (fun i => Tp 1 (q.1 + i)) (q.2.1 - q.1)), N) := by
      intro d
      induction d with
      | zero =>
        intro i nn e1 e2
        obtain ⟨nn, rfl⟩ : ∃ n', nn = n' + 1 := ⟨nn - 1, by omega⟩
        rw [show i = q.2.1 - q.1 by omega, Md_word_L7, x30, if_pos (nI_le (by omega) (by omega))]
      | succ d ih =>
        intro i nn e1 e2
        obtain ⟨nn, rfl⟩ : ∃ n', nn = n' + 1 := ⟨nn - 1, by omega⟩
        have hl := p256_lt (f := fun i => Tp 1 (q.1 + i)) i (fun k _ => hg.2 _)
        have hl2 : 256 ^ i ≤ 256 ^ 6 := Nat.pow_le_pow_right (by omega) (by omega)
        rw [Md_word_L7, x30, x29, x28, if_neg (nI_ge (by omega) (by omega)), if_pos (k2.mpr w.1), nI_sub hq1, if_neg (show ¬ (8 : Int32) ≤ nI (q.2.1 - q.1) from nI_ge (b := 8) w.2 (by omega)), tp_rd (by omega) (by decide), hm.2 _ (by omega), i64_sh8 (by omega) (hg.2 _), nI_1]
        exact ih (i + 1) nn (by omega) (by omega)
    exact hh _ 0 F (Nat.zero_add _) (by omega)
  · rw [if_neg w]
    obtain ⟨F', hF'⟩ : ∃ n', F = n' + 1 := ⟨F - 1, by omega⟩
    have : ∀ G, Md_word_L7 G (F' + 1) 0 (nI q.1) N = some (Int64.ofNat 0, N) := fun G => by
      rw [Md_word_L7, x30, x29, x28]
      by_cases z1 : nI q.2.1 ≤ nI q.1
      · rw [if_pos z1]; rfl
      · rw [if_neg z1]
        by_cases z2 : q.2.2 = 1
        · rw [if_pos (k2.mpr z2), nI_sub hq1, if_pos (show (8 : Int32) ≤ nI (q.2.1 - q.1) from nI_le (a := 8) (by omega) (by omega))]; rfl
        · rw [if_neg (fun v => z2 (k2.mp v))]; rfl
    have h := this F
    rw [← hF'] at h
    exact h
/-- the reference's words are the class's -/
theorem wv_iff {q : Nat × Nat × Nat} {w : Nat} {C : Int64} (hg : gTp Tp) (hw : w < 9) (hC : C = Int64.ofNat (p256 (sby w) (wl w).length)) (hq1 : q.1 ≤ q.2.1) (hlt : q.2.2 = 1 → ∀ j, q.1 ≤ j → j < q.2.1 → 97 ≤ Tp 1 j ∧ Tp 1 j ≤ 122) : (lg_cmp (Int64.ofNat (wv8 Tp q)) C = 0) ↔ isW Tp q w = true := by
  obtain ⟨w1, w2, w3, w4⟩ := wl_P w hw
  have hcb : p256 (sby w) (wl w).length < 2 ^ 63 := Nat.lt_of_lt_of_le (p256_lt _ (fun k hk => by have := w4 k hk; omega)) (Nat.le_trans (Nat.pow_le_pow_right (by omega) w2) (by decide))
  have hwb : wv8 Tp q < 2 ^ 63 := by
    unfold wv8
    by_cases z : q.2.2 = 1 ∧ q.2.1 - q.1 < 8
    · rw [if_pos z]
      exact Nat.lt_of_lt_of_le (p256_lt _ (fun k hk => by have := hlt z.1 (q.1 + k) (by omega) (by omega); omega)) (Nat.le_trans (Nat.pow_le_pow_right (by omega) (show q.2.1 - q.1 ≤ 7 by omega)) (by decide))
    · rw [if_neg z]; decide
  rw [hC, lg_cmp_z]
  unfold isW
  rw [Bool.and_eq_true, Bool.and_eq_true, decide_eq_true_eq, decide_eq_true_eq, an_iff]
  constructor
  · intro h
    have h := i64_inj hwb hcb h
    unfold wv8 at h
    by_cases z : q.2.2 = 1 ∧ q.2.1 - q.1 < 8
    · rw [if_pos z] at h
      obtain ⟨e1, e2⟩ := p256_inj _ _ (fun k hk => by have := hlt z.1 (q.1 + k) (by omega) (by omega); omega) (fun k hk => by have := w4 k hk; omega) h
      exact ⟨z.1, e1, fun k hk => decide_eq_true (e2 k (by omega))⟩
    · rw [if_neg z] at h
      have hne : p256 (sby w) (wl w).length ≠ 0 := fun e => by
        have := (p256_inj (f := sby w) (g := sby w) (wl w).length 0 (fun k hk => by have := w4 k hk; omega) (fun k hk => absurd hk (Nat.not_lt_zero k)) e).1
        omega
      omega
  · rintro ⟨h1, h2, h3⟩
    unfold wv8
    rw [if_pos ⟨h1, by omega⟩, h2]
    congr 1
    have : ∀ n, n ≤ (wl w).length → p256 (fun i => Tp 1 (q.1 + i)) n = p256 (sby w) n := by
      intro n
      induction n with
      | zero => intro _; rfl
      | succ n ih => intro hn; rw [p256, p256, ih (by omega), of_decide_eq_true (h3 n (by omega))]
    exact this _ (Nat.le_refl _)
/-- a number -/
theorem md_num {q : Nat × Nat × Nat} (hF : 600 < F) (hg : gTp Tp) (hm : mTx N Tp) (hx : mX N q) (hq1 : q.1 ≤ q.2.1) (hq2 : q.2.1 ≤ Tp 0 0) (hk : q.2.2 = 2) (hd : ∀ j, q.1 ≤ j → j < q.2.1 → 48 ≤ Tp 1 j ∧ Tp 1 j ≤ 57) : Md_numberHere F N = some (nI (dv Tp q.1 (q.2.1 - q.1)), N) := by
  have h500 := hg.1
  obtain ⟨x29, x27, x30, x28⟩ := hx
  have k3 := ((mk_e (k := q.2.2) (by omega)).2.1).mpr hk
  unfold Md_numberHere
  rw [x29]
  have hh : ∀ d i nn, i + d = q.2.1 - q.1 → d < nn → Md_numberHere_L7 F nn (nI (dv Tp q.1 i)) (nI (q.1 + i)) N = some (nI (dv Tp q.1 (q.2.1 - q.1)), N) := by
    intro d
    induction d with
    | zero =>
      intro i nn e1 e2
      obtain ⟨nn, rfl⟩ : ∃ n', nn = n' + 1 := ⟨nn - 1, by omega⟩
      rw [show i = q.2.1 - q.1 by omega, Md_numberHere_L7, x30, if_pos (nI_le (by omega) (by omega))]
    | succ d ih =>
      intro i nn e1 e2
      obtain ⟨nn, rfl⟩ : ∃ n', nn = n' + 1 := ⟨nn - 1, by omega⟩
      obtain ⟨d1, d2⟩ := hd (q.1 + i) (by omega) (by omega)
      rw [Md_numberHere_L7, x30, x28, if_neg (nI_ge (by omega) (by omega)), if_pos k3, tp_rd (by omega) (by decide), hm.2 _ (by omega), show 10 * nI (dv Tp q.1 i) + nI (Tp 1 (q.1 + i)) - 48 = nI (dv Tp q.1 i * 10 + (Tp 1 (q.1 + i) - 48)) from by
        rw [show 10 * nI (dv Tp q.1 i) = nI (10 * dv Tp q.1 i) from nI_mul 10 _, nI_add, show (48 : Int32) = nI 48 from rfl, nI_sub (by omega)]
        congr 1; omega, nI_1]
      exact ih (i + 1) nn (by omega) (by omega)
  exact hh _ 0 F (Nat.zero_add _) (by omega)
theorem md_numX {q : Nat × Nat × Nat} (hF : 600 < F) (hx : mX N q) (hk : q.2.2 ≠ 2) (hk2 : q.2.2 ≤ 59) : Md_numberHere F N = some (0, N) := by
  obtain ⟨x29, x27, x30, x28⟩ := hx
  have k3 := (mk_e hk2).2.1
  unfold Md_numberHere
  rw [x29]
  obtain ⟨F', hF'⟩ : ∃ n', F = n' + 1 := ⟨F - 1, by omega⟩
  have : ∀ G, Md_numberHere_L7 G (F' + 1) 0 (nI q.1) N = some (0, N) := fun G => by
    rw [Md_numberHere_L7, x30, x28, if_neg (fun v => hk (k3.mp v))]
    by_cases z1 : nI q.2.1 ≤ nI q.1
    · rw [if_pos z1]
    · rw [if_neg z1]
  have h := this F
  rw [← hF'] at h
  exact h
end MLEX
