/-! TOKENS -/
def isSp (c : Nat) : Bool := decide (c = 32 ∨ c = 10)
def isLt (c : Nat) : Bool := decide (97 ≤ c ∧ c ≤ 122)
def isDg (c : Nat) : Bool := decide (48 ≤ c ∧ c ≤ 57)
def rn (Tp : Nat → Nat → Nat) (f : Nat → Bool) : Nat → Nat → Nat
  | 0, i => i
  | m + 1, i => if i < Tp 0 0 ∧ f (Tp 1 i) = true then rn Tp f m (i + 1) else i
def rnn (Tp : Nat → Nat → Nat) (f : Nat → Bool) (i : Nat) : Nat := rn Tp f (Tp 0 0 - i) i
/-- begin, end, kind: 0 the end, 1 a name, 2 a number, 3 none, else a sign -/
def lx (Tp : Nat → Nat → Nat) (pos : Nat) : Nat × Nat × Nat := if Tp 0 0 ≤ rnn Tp isSp pos then (rnn Tp isSp pos, rnn Tp isSp pos, 0) else if isLt (Tp 1 (rnn Tp isSp pos)) = true then (rnn Tp isSp pos, rnn Tp isLt (rnn Tp isSp pos), 1) else if isDg (Tp 1 (rnn Tp isSp pos)) = true then (rnn Tp isSp pos, rnn Tp isDg (rnn Tp isSp pos), if 3 < rnn Tp isDg (rnn Tp isSp pos) - rnn Tp isSp pos then 3 else 2) else (rnn Tp isSp pos, rnn Tp isSp pos + 1, if Tp 1 (rnn Tp isSp pos) = 59 then 59 else if Tp 1 (rnn Tp isSp pos) = 44 then 44 else 3)
def dv (Tp : Nat → Nat → Nat) (b : Nat) : Nat → Nat
  | 0 => 0
  | m + 1 => dv Tp b m * 10 + (Tp 1 (b + m) - 48)
def mk (k : Nat) : Nat := if k = 0 then 1 else if k = 1 then 2 else if k = 2 then 3 else if k = 3 then 0 else 4
theorem rn_P {Tp : Nat → Nat → Nat} {f : Nat → Bool} : ∀ m i, i + m = Tp 0 0 → i ≤ rn Tp f m i ∧ rn Tp f m i ≤ Tp 0 0 ∧ (∀ j, i ≤ j → j < rn Tp f m i → f (Tp 1 j) = true) ∧ (rn Tp f m i < Tp 0 0 → f (Tp 1 (rn Tp f m i)) = false) := by
  intro m
  induction m with
  | zero => intro i h; exact ⟨Nat.le_refl _, by show i ≤ _; omega, fun j h1 h2 => by have h2 : j < i := h2; omega, fun h1 => by have h1 : i < Tp 0 0 := h1; omega⟩
  | succ m ih =>
    intro i h
    rw [rn]
    by_cases q : i < Tp 0 0 ∧ f (Tp 1 i) = true
    · rw [if_pos q]
      obtain ⟨h1, h2, h3, h4⟩ := ih (i + 1) (by omega)
      refine ⟨by omega, h2, fun j j1 j2 => ?_, h4⟩
      by_cases e : j = i
      · rw [e]; exact q.2
      · exact h3 j (by omega) j2
    · rw [if_neg q]
      exact ⟨Nat.le_refl _, by omega, fun j h1 h2 => by omega, fun h1 => Bool.eq_false_iff.mpr (fun w => q ⟨h1, w⟩)⟩
theorem rnn_P {Tp : Nat → Nat → Nat} {f : Nat → Bool} {i : Nat} (h : i ≤ Tp 0 0) : i ≤ rnn Tp f i ∧ rnn Tp f i ≤ Tp 0 0 ∧ (∀ j, i ≤ j → j < rnn Tp f i → f (Tp 1 j) = true) ∧ (rnn Tp f i < Tp 0 0 → f (Tp 1 (rnn Tp f i)) = false) := rn_P _ _ (by omega)
theorem rnn_gt {Tp : Nat → Nat → Nat} {f : Nat → Bool} {i : Nat} (h : i < Tp 0 0) (hf : f (Tp 1 i) = true) : i < rnn Tp f i := by
  obtain ⟨h1, h2, h3, h4⟩ := rnn_P (f := f) (Nat.le_of_lt h)
  rcases Nat.lt_or_ge i (rnn Tp f i) with q | q
  · exact q
  · have e : rnn Tp f i = i := by omega
    rw [e, hf] at h4
    exact Bool.noConfusion (h4 h)
/-- what a token is like -/
theorem lx_P {Tp : Nat → Nat → Nat} {pos : Nat} (h : pos ≤ Tp 0 0) : pos ≤ (lx Tp pos).1 ∧ (lx Tp pos).1 ≤ (lx Tp pos).2.1 ∧ (lx Tp pos).2.1 ≤ Tp 0 0 ∧ ((lx Tp pos).2.2 = 0 ↔ Tp 0 0 ≤ (lx Tp pos).1) ∧ ((lx Tp pos).2.2 ≠ 0 → (lx Tp pos).1 < (lx Tp pos).2.1) ∧ ((lx Tp pos).2.2 = 1 → ∀ j, (lx Tp pos).1 ≤ j → j < (lx Tp pos).2.1 → 97 ≤ Tp 1 j ∧ Tp 1 j ≤ 122) ∧ ((lx Tp pos).2.2 = 2 → (lx Tp pos).2.1 - (lx Tp pos).1 ≤ 3 ∧ ∀ j, (lx Tp pos).1 ≤ j → j < (lx Tp pos).2.1 → 48 ≤ Tp 1 j ∧ Tp 1 j ≤ 57) ∧ ((lx Tp pos).2.2 = 59 ↔ (lx Tp pos).2.2 > 3 ∧ Tp 1 (lx Tp pos).1 = 59) ∧ ((lx Tp pos).2.2 = 44 ↔ (lx Tp pos).2.2 > 3 ∧ Tp 1 (lx Tp pos).1 = 44) ∧ (lx Tp pos).2.2 ≤ 59 := by
  obtain ⟨h1, h2, h3, h4⟩ := rnn_P (f := isSp) h
  unfold lx
  generalize rnn Tp isSp pos = b at h1 h2
  by_cases q1 : Tp 0 0 ≤ b
  · rw [if_pos q1]
    refine ⟨h1, Nat.le_refl _, h2, ⟨fun _ => q1, fun _ => rfl⟩, fun w => absurd rfl w, fun w => ?_, fun w => ?_, ⟨fun w => ?_, fun w => ?_⟩, ⟨fun w => ?_, fun w => ?_⟩, by show 0 ≤ 59; omega⟩ <;> simp at w
  · rw [if_neg q1]
    have hb : b < Tp 0 0 := by omega
    by_cases q2 : isLt (Tp 1 b) = true
    · rw [if_pos q2]
      obtain ⟨e1, e2, e3, e4⟩ := rnn_P (f := isLt) h2
      have e5 := rnn_gt (f := isLt) hb q2
      refine ⟨h1, e1, e2, ⟨fun w => ?_, fun w => absurd w q1⟩, fun _ => e5, fun _ j j1 j2 => of_decide_eq_true (e3 j j1 j2), fun w => ?_, ⟨fun w => ?_, fun w => ?_⟩, ⟨fun w => ?_, fun w => ?_⟩, by show 1 ≤ 59; omega⟩ <;> simp at w
    · rw [if_neg q2]
      by_cases q3 : isDg (Tp 1 b) = true
      · rw [if_pos q3]
        obtain ⟨e1, e2, e3, e4⟩ := rnn_P (f := isDg) h2
        have e5 := rnn_gt (f := isDg) hb q3
        by_cases q4 : 3 < rnn Tp isDg b - b
        · rw [if_pos q4]
          refine ⟨h1, e1, e2, ⟨fun w => ?_, fun w => absurd w q1⟩, fun _ => e5, fun w => ?_, fun w => ?_, ⟨fun w => ?_, fun w => ?_⟩, ⟨fun w => ?_, fun w => ?_⟩, by show 3 ≤ 59; omega⟩ <;> simp at w
        · rw [if_neg q4]
          refine ⟨h1, e1, e2, ⟨fun w => ?_, fun w => absurd w q1⟩, fun _ => e5, fun w => ?_, fun _ => ⟨by show rnn Tp isDg b - b ≤ 3; omega, fun j j1 j2 => of_decide_eq_true (e3 j j1 j2)⟩, ⟨fun w => ?_, fun w => ?_⟩, ⟨fun w => ?_, fun w => ?_⟩, by show 2 ≤ 59; omega⟩ <;> simp at w
      · rw [if_neg q3]
        by_cases q5 : Tp 1 b = 59
        · rw [if_pos q5]
          refine ⟨h1, by show b ≤ b + 1; omega, by show b + 1 ≤ _; omega, ⟨fun w => ?_, fun w => absurd w q1⟩, fun _ => by show b < b + 1; omega, fun w => ?_, fun w => ?_, ⟨fun w => ⟨by show 59 > 3; omega, q5⟩, fun _ => rfl⟩, ⟨fun w => ?_, fun w => ?_⟩, by show 59 ≤ 59; omega⟩
          · simp at w
          · simp at w
          · simp at w
          · simp at w
          · have := w.2; rw [show (b, b + 1, 59).1 = b from rfl, q5] at this; omega
        · rw [if_neg q5]
          by_cases q6 : Tp 1 b = 44
          · rw [if_pos q6]
            refine ⟨h1, by show b ≤ b + 1; omega, by show b + 1 ≤ _; omega, ⟨fun w => ?_, fun w => absurd w q1⟩, fun _ => by show b < b + 1; omega, fun w => ?_, fun w => ?_, ⟨fun w => ?_, fun w => absurd w.2 q5⟩, ⟨fun w => ⟨by show 44 > 3; omega, q6⟩, fun _ => rfl⟩, by show 44 ≤ 59; omega⟩ <;> simp at w
          · rw [if_neg q6]
            refine ⟨h1, by show b ≤ b + 1; omega, by show b + 1 ≤ _; omega, ⟨fun w => ?_, fun w => absurd w q1⟩, fun _ => by show b < b + 1; omega, fun w => ?_, fun w => ?_, ⟨fun w => ?_, fun w => absurd w.2 q5⟩, ⟨fun w => ?_, fun w => absurd w.2 q6⟩, by show 3 ≤ 59; omega⟩ <;> simp at w
theorem dv_lt {Tp : Nat → Nat → Nat} {b : Nat} : ∀ m, (∀ j, b ≤ j → j < b + m → 48 ≤ Tp 1 j ∧ Tp 1 j ≤ 57) → dv Tp b m < 10 ^ m := by
  intro m
  induction m with
  | zero => intro _; exact Nat.one_pos
  | succ m ih =>
    intro h
    have h1 := ih (fun j j1 j2 => h j j1 (by omega))
    have h2 := h (b + m) (by omega) (by omega)
    rw [dv, Nat.pow_succ]; omega
theorem sg_sp : ∀ c, c < 256 → (i_sg c = 32 ↔ c = 32) ∧ (i_sg c = 10 ↔ c = 10) ∧ (i_sg c = 59 ↔ c = 59) ∧ (i_sg c = 44 ↔ c = 44) := by decide +kernel
theorem sg_lt : ∀ c, c < 256 → ((¬ i_sg c < 97 ∧ ¬ 122 < i_sg c) ↔ isLt c = true) := by decide +kernel
theorem sg_dg : ∀ c, c < 256 → ((¬ i_sg c < 48 ∧ ¬ 57 < i_sg c) ↔ isDg c = true) := by decide +kernel
theorem sg_lo {c : Nat} (h : c < 128) : i_sg c = nI c := if_pos h
def cX (M : tv_M) (Tp : Nat → Nat → Nat) (q : Nat × Nat × Nat) : Prop := M.1 68 5 = nI q.1 ∧ M.1 68 6 = nI q.2.1 ∧ M.1 68 4 = nI q.2.2 ∧ (q.2.2 = 2 → M.1 68 7 = nI (dv Tp q.1 (q.2.1 - q.1)))
def fX (M M' : tv_M) : Prop := ∀ a i, ¬ (a = 68 ∧ (i = 4 ∨ i = 5 ∨ i = 6 ∨ i = 7)) → M'.1 a i = M.1 a i
theorem fX.tr {M M' M'' : tv_M} (h : fX M M') (g : fX M' M'') : fX M M'' := fun a i q => (g a i q).trans (h a i q)
section LEX
variable {F : Nat} {M N : tv_M} {Tp : Nat → Nat → Nat}
theorem re_run {lo hi : Int32} {f : Nat → Bool} {b : Nat} (hg : gTp Tp) (hf : ∀ c, c < 256 → ((¬ i_sg c < lo ∧ ¬ hi < i_sg c) ↔ f c = true)) (hb : b ≤ 500) : ∀ m i nn (M : tv_M), i + m = Tp 0 0 → m < nn → cTp M Tp → M.1 68 6 = nI i → M.1 68 5 = nI b → ∃ M', Re_passRun_L0 F nn lo hi M = some (if rn Tp f m i ≤ b then 0 else 1, M') ∧ M'.1 68 6 = nI (rn Tp f m i) ∧ ∀ a j, ¬ (a = 68 ∧ j = 6) → M'.1 a j = M.1 a j := by
  have h5 := hg.1
  intro m
  induction m with
  | zero =>
    intro i nn M e1 e2 hc h6 h5'
    obtain ⟨nn, rfl⟩ : ∃ n', nn = n' + 1 := ⟨nn - 1, by omega⟩
    rw [Re_passRun_L0, hc.1, h6, h5', if_pos (nI_le (by omega) (by omega))]
    refine ⟨M, ?_, h6, fun _ _ _ => rfl⟩
    show _ = some (if i ≤ b then _ else _, M)
    by_cases q : i ≤ b
    · rw [if_pos (nI_le q (by omega)), if_pos q]
    · rw [if_neg (nI_ge (by omega) (by omega)), if_neg q]
  | succ m ih =>
    intro i nn M e1 e2 hc h6 h5'
    obtain ⟨nn, rfl⟩ : ∃ n', nn = n' + 1 := ⟨nn - 1, by omega⟩
    have hfi := hf (Tp 1 i) (hg.2 i)
    rw [Re_passRun_L0, hc.1, h6, h5', if_neg (nI_ge (by omega) (by omega)), tp_rd (by omega) (by decide), hc.2 i (by omega), tp_rd (by omega) (by decide), hc.2 i (by omega), rn]
    have hstop : ¬ f (Tp 1 i) = true → ∃ M', (if nI i ≤ nI b then some ((0 : Int32), M) else some (1, M)) = some (if (if i < Tp 0 0 ∧ f (Tp 1 i) = true then rn Tp f m (i + 1) else i) ≤ b then 0 else 1, M') ∧ M'.1 68 6 = nI (if i < Tp 0 0 ∧ f (Tp 1 i) = true then rn Tp f m (i + 1) else i) ∧ ∀ a j, ¬ (a = 68 ∧ j = 6) → M'.1 a j = M.1 a j := fun w => by
      rw [if_neg (show ¬ (i < Tp 0 0 ∧ f (Tp 1 i) = true) from fun z => w z.2)]
      refine ⟨M, ?_, h6, fun _ _ _ => rfl⟩
      by_cases q : i ≤ b
      · rw [if_pos (nI_le q (by omega)), if_pos q]
      · rw [if_neg (nI_ge (by omega) (by omega)), if_neg q]
    by_cases q1 : i_sg (Tp 1 i) < lo
    · rw [if_pos q1]; exact hstop (fun w => (hfi.mpr w).1 q1)
    · rw [if_neg q1]
      by_cases q2 : hi < i_sg (Tp 1 i)
      · rw [if_pos q2]; exact hstop (fun w => (hfi.mpr w).2 q2)
      · rw [if_neg q2, if_pos (show i < Tp 0 0 ∧ f (Tp 1 i) = true from ⟨by omega, hfi.mp ⟨q1, q2⟩⟩), tp_pf, nI_1]
        obtain ⟨M', x1, x2, x3⟩ := ih (i + 1) nn (tv_w M 68 6 (nI (i + 1))) (by omega) (by omega) ⟨by rw [tp_wj (by omega)]; exact hc.1, fun j hj => by rw [tp_wk (by omega)]; exact hc.2 j hj⟩ tp_ws (by rw [tp_wj (by omega)]; exact h5')
        exact ⟨M', x1, x2, fun a j w => by rw [x3 a j w, tp_w, if_neg w]⟩
theorem re_pass {lo hi : Int32} {f : Nat → Bool} {b i : Nat} (hF : 600 < F) (hg : gTp Tp) (hf : ∀ c, c < 256 → ((¬ i_sg c < lo ∧ ¬ hi < i_sg c) ↔ f c = true)) (hi' : i ≤ Tp 0 0) (hb : b ≤ 500) (hc : cTp M Tp) (h6 : M.1 68 6 = nI i) (h5 : M.1 68 5 = nI b) : ∃ M', Re_passRun F lo hi M = some (if rnn Tp f i ≤ b then 0 else 1, M') ∧ M'.1 68 6 = nI (rnn Tp f i) ∧ ∀ a j, ¬ (a = 68 ∧ j = 6) → M'.1 a j = M.1 a j := re_run hg hf hb _ i F M (by omega) (by have := hg.1; omega) hc h6 h5
theorem re_fig {b e : Nat} (hF : 600 < F) (hg : gTp Tp) (hbe : b ≤ e) (he : e ≤ Tp 0 0) (hd : ∀ j, b ≤ j → j < e → 48 ≤ Tp 1 j ∧ Tp 1 j ≤ 57) (hc : cTp M Tp) (h5 : M.1 68 5 = nI b) (h6 : M.1 68 6 = nI e) : ∃ v, Re_figuresValue F M = some (v, M) ∧ (e - b ≤ 3 → v = nI (dv Tp b (e - b))) := by
  have h500 := hg.1
  have hh : ∀ d m nn, m + d = (if e - b ≤ 3 then e - b else 3) → d < nn → Re_figuresValue_L7 F nn (nI (dv Tp b m)) (nI (b + m)) M = some (nI (dv Tp b (if e - b ≤ 3 then e - b else 3)), M) := by
    intro d
    induction d with
    | zero =>
      intro m nn e1 e2
      obtain ⟨nn, rfl⟩ : ∃ n', nn = n' + 1 := ⟨nn - 1, by omega⟩
      have hm3 : m ≤ 3 := by
        by_cases w : e - b ≤ 3
        · rw [if_pos w] at e1; omega
        · rw [if_neg w] at e1; omega
      rw [Re_figuresValue_L7, h6, h5, ← e1, Nat.add_zero, show nI b + 3 = nI (b + 3) from nI_add b 3]
      by_cases q : e ≤ b + m
      · rw [if_pos (nI_le q (by omega))]
      · by_cases w : e - b ≤ 3
        · rw [if_pos w] at e1; omega
        · rw [if_neg w] at e1
          rw [if_neg (nI_ge (by omega) (by omega)), if_pos (nI_le (by omega) (by omega))]
    | succ d ih =>
      intro m nn e1 e2
      obtain ⟨nn, rfl⟩ : ∃ n', nn = n' + 1 := ⟨nn - 1, by omega⟩
      have hm : m < 3 ∧ b + m < e := by
        by_cases w : e - b ≤ 3
        · rw [if_pos w] at e1; omega
        · rw [if_neg w] at e1; omega
      obtain ⟨d1, d2⟩ := hd (b + m) (by omega) (by omega)
      rw [Re_figuresValue_L7, h6, h5, show nI b + 3 = nI (b + 3) from nI_add b 3, if_neg (nI_ge (by omega) (by omega)), if_neg (nI_ge (by omega) (by omega)), tp_rd (by omega) (by decide), hc.2 _ (by omega), sg_lo (by omega), show nI (dv Tp b m) * 10 + nI (Tp 1 (b + m)) - 48 = nI (dv Tp b m * 10 + (Tp 1 (b + m) - 48)) from by
        rw [show nI (dv Tp b m) * 10 = nI (dv Tp b m * 10) from nI_mul _ 10, nI_add, show (48 : Int32) = nI 48 from rfl, nI_sub (by omega)]
        congr 1; omega, nI_1]
      exact ih (m + 1) nn (by omega) (by omega)
  have h0 := hh (if e - b ≤ 3 then e - b else 3) 0 F (by omega) (by
    by_cases w : e - b ≤ 3
    · rw [if_pos w]; omega
    · rw [if_neg w]; omega)
  refine ⟨_, by unfold Re_figuresValue; rw [h5]; exact h0, fun w => by rw [if_pos w]⟩
theorem re_go (hF : 600 < F) (hg : gTp Tp) (hc : cTp M Tp) {pos : Nat} (hpos : pos ≤ Tp 0 0) (h6 : M.1 68 6 = nI pos) : ∃ M', Re_goOn F M = some ((), M') ∧ cX M' Tp (lx Tp pos) ∧ fX M M' := by
  have h500 := hg.1
  have h52 : ∀ b (M1 : tv_M), b ≤ Tp 0 0 → cTp M1 Tp → M1.1 68 6 = nI b → fX M M1 → rnn Tp isSp pos = b → ∃ M', Re_goOn_L52 F M1 = some ((), M') ∧ cX M' Tp (lx Tp pos) ∧ fX M M' := by
    intro b M1 hb hc1 h61 f1 er
    unfold Re_goOn_L52 lx
    rw [er, tp_pf, tp_ws, tp_wj (by omega), hc1.1, h61]
    have hc2 : cTp (tv_w M1 68 5 (nI b)) Tp := ⟨by rw [tp_wj (by omega)]; exact hc1.1, fun j hj => by rw [tp_wk (by omega)]; exact hc1.2 j hj⟩
    have f2 : fX M (tv_w M1 68 5 (nI b)) := fun a i w => by rw [tp_w, if_neg (by omega)]; exact f1 a i w
    have g5 : (tv_w M1 68 5 (nI b)).1 68 5 = nI b := tp_ws
    have g6 : (tv_w M1 68 5 (nI b)).1 68 6 = nI b := by rw [tp_wj (by omega)]; exact h61
    generalize tv_w M1 68 5 (nI b) = M2 at hc2 f2 g5 g6
    by_cases q1 : Tp 0 0 ≤ b
    · rw [if_neg (nI_nlt q1 (by omega)), if_pos q1, tp_pf]
      exact ⟨_, rfl, ⟨by rw [tp_wj (by omega)]; exact g5, by rw [tp_wj (by omega)]; exact g6, tp_ws, fun w => absurd w (by show ¬ 0 = 2; omega)⟩, fun a i w => by rw [tp_w, if_neg (by omega)]; exact f2 a i w⟩
    · rw [if_pos (nI_lt (by omega) (by omega)), if_neg q1]
      obtain ⟨M3, x1, x2, x3⟩ := re_pass (F := F) (lo := 97) (hi := 122) (f := isLt) (b := b) (i := b) hF hg sg_lt hb (by omega) hc2 g6 g5
      have f3 : fX M M3 := fun a i w => by rw [x3 a i (by omega)]; exact f2 a i w
      have hc3 : cTp M3 Tp := ⟨by rw [x3 _ _ (by omega)]; exact hc2.1, fun j hj => by rw [x3 _ _ (by omega)]; exact hc2.2 j hj⟩
      have g53 : M3.1 68 5 = nI b := by rw [x3 _ _ (by omega)]; exact g5
      rw [tp_cb x1]
      by_cases q2 : isLt (Tp 1 b) = true
      · have := rnn_gt (f := isLt) (show b < Tp 0 0 by omega) q2
        rw [if_neg (show ¬ rnn Tp isLt b ≤ b by omega), if_neg (show ¬ (1 : Int32) = 0 by decide), if_pos q2, tp_pf]
        exact ⟨_, rfl, ⟨by rw [tp_wj (by omega)]; exact g53, by rw [tp_wj (by omega)]; exact x2, tp_ws, fun w => absurd w (by show ¬ 1 = 2; omega)⟩, fun a i w => by rw [tp_w, if_neg (by omega)]; exact f3 a i w⟩
      · have e3 : rnn Tp isLt b = b := by
          obtain ⟨h1, h2, h3, h4⟩ := rnn_P (f := isLt) hb
          rcases Nat.lt_or_ge b (rnn Tp isLt b) with w | w
          · exact absurd (h3 b (Nat.le_refl _) w) q2
          · omega
        rw [e3] at x2
        rw [e3, if_pos (Nat.le_refl _), if_pos rfl, if_neg q2]
        obtain ⟨M4, y1, y2, y3⟩ := re_pass (F := F) (lo := 48) (hi := 57) (f := isDg) (b := b) (i := b) hF hg sg_dg hb (by omega) hc3 x2 g53
        have f4 : fX M M4 := fun a i w => by rw [y3 a i (by omega)]; exact f3 a i w
        have hc4 : cTp M4 Tp := ⟨by rw [y3 _ _ (by omega)]; exact hc3.1, fun j hj => by rw [y3 _ _ (by omega)]; exact hc3.2 j hj⟩
        have g54 : M4.1 68 5 = nI b := by rw [y3 _ _ (by omega)]; exact g53
        rw [tp_cb y1]
        by_cases q3 : isDg (Tp 1 b) = true
        · have e5 := rnn_gt (f := isDg) (show b < Tp 0 0 by omega) q3
          obtain ⟨h1, h2, h3, h4⟩ := rnn_P (f := isDg) hb
          rw [if_neg (show ¬ rnn Tp isDg b ≤ b by omega), if_neg (show ¬ (1 : Int32) = 0 by decide), if_pos q3, y2, g54, nI_sub (by omega)]
          have hfv : ∀ k : Int32, ∃ v, Re_figuresValue F (tv_w M4 68 4 k) = some (v, tv_w M4 68 4 k) ∧ (rnn Tp isDg b - b ≤ 3 → v = nI (dv Tp b (rnn Tp isDg b - b))) := fun k => re_fig hF hg (by omega) h2 (fun j j1 j2 => of_decide_eq_true (h3 j j1 j2)) ⟨by rw [tp_wj (by omega)]; exact hc4.1, fun j hj => by rw [tp_wk (by omega)]; exact hc4.2 j hj⟩ (by rw [tp_wj (by omega)]; exact g54) (by rw [tp_wj (by omega)]; exact y2)
          by_cases q4 : 3 < rnn Tp isDg b - b
          · obtain ⟨v, v1, v2⟩ := hfv 3
            rw [if_neg (show ¬ nI (rnn Tp isDg b - b) ≤ 3 from nI_ge (a := 3) q4 (by omega)), if_pos q4, tp_pf, tp_cb v1, tp_pf]
            exact ⟨_, rfl, ⟨by rw [tp_wj (by omega), tp_wj (by omega)]; exact g54, by rw [tp_wj (by omega), tp_wj (by omega)]; exact y2, by rw [tp_wj (by omega), tp_ws]; rfl, fun w => absurd w (by show ¬ 3 = 2; omega)⟩, fun a i w => by rw [tp_w, if_neg (by omega), tp_w, if_neg (by omega)]; exact f4 a i w⟩
          · obtain ⟨v, v1, v2⟩ := hfv 2
            rw [if_pos (show nI (rnn Tp isDg b - b) ≤ 3 from nI_le (b := 3) (by omega) (by omega)), if_neg q4, tp_pf, tp_cb v1, tp_pf]
            exact ⟨_, rfl, ⟨by rw [tp_wj (by omega), tp_wj (by omega)]; exact g54, by rw [tp_wj (by omega), tp_wj (by omega)]; exact y2, by rw [tp_wj (by omega), tp_ws]; rfl, fun _ => by rw [tp_ws]; exact v2 (by omega)⟩, fun a i w => by rw [tp_w, if_neg (by omega), tp_w, if_neg (by omega)]; exact f4 a i w⟩
        · have e4 : rnn Tp isDg b = b := by
            obtain ⟨h1, h2, h3, h4⟩ := rnn_P (f := isDg) hb
            rcases Nat.lt_or_ge b (rnn Tp isDg b) with w | w
            · exact absurd (h3 b (Nat.le_refl _) w) q3
            · omega
          rw [e4] at y2
          obtain ⟨s1, s2, s3, s4⟩ := sg_sp (Tp 1 b) (hg.2 b)
          rw [e4, if_pos (Nat.le_refl _), if_pos rfl, if_neg q3, g54, tp_rd (by omega) (by decide), hc4.2 b (by omega), tp_rd (by omega) (by decide), hc4.2 b (by omega), tp_rd (by omega) (by decide), hc4.2 b (by omega)]
          have hfin : ∀ kI kk, kI = nI kk → kk ≠ 2 → ∃ M', tv_pf M4 68 4 kI (fun M12 => tv_pf M12 68 6 ((M12.1 68 5) + 1) (fun M13 => some ((), M13))) = some ((), M') ∧ cX M' Tp (b, b + 1, kk) ∧ fX M M' := fun kI kk e ne => by
            rw [tp_pf, tp_pf]
            refine ⟨_, rfl, ⟨by rw [tp_wj (by omega), tp_wj (by omega)]; exact g54, by rw [tp_ws, tp_wj (by omega), g54, nI_1], by rw [tp_wj (by omega), tp_ws, e], fun w => absurd w ne⟩, fun a i w => by rw [tp_w, if_neg (by omega), tp_w, if_neg (by omega)]; exact f4 a i w⟩
          by_cases q5 : Tp 1 b = 59
          · rw [if_pos (s3.mpr q5), if_pos q5]
            exact hfin _ 59 (by rw [q5]; decide) (by omega)
          · rw [if_neg (fun w => q5 (s3.mp w)), if_neg q5]
            by_cases q6 : Tp 1 b = 44
            · rw [if_pos (s4.mpr q6), if_pos q6]
              exact hfin _ 44 (by rw [q6]; decide) (by omega)
            · rw [if_neg (fun w => q6 (s4.mp w)), if_neg q6]
              exact hfin 3 3 rfl (by omega)
  have hh : ∀ m i nn (M1 : tv_M), i + m = Tp 0 0 → m < nn → cTp M1 Tp → M1.1 68 6 = nI i → fX M M1 → rn Tp isSp m i = rnn Tp isSp pos → ∃ M', Re_goOn_L0 F nn M1 = some ((), M') ∧ cX M' Tp (lx Tp pos) ∧ fX M M' := by
    intro m
    induction m with
    | zero =>
      intro i nn M1 e1 e2 hc1 h61 f1 er
      obtain ⟨nn, rfl⟩ : ∃ n', nn = n' + 1 := ⟨nn - 1, by omega⟩
      rw [Re_goOn_L0, hc1.1, h61, if_pos (nI_le (by omega) (by omega))]
      exact h52 i M1 (by omega) hc1 h61 f1 er.symm
    | succ m ih =>
      intro i nn M1 e1 e2 hc1 h61 f1 er
      obtain ⟨nn, rfl⟩ : ∃ n', nn = n' + 1 := ⟨nn - 1, by omega⟩
      obtain ⟨s1, s2, s3, s4⟩ := sg_sp (Tp 1 i) (hg.2 i)
      rw [rn] at er
      rw [Re_goOn_L0, hc1.1, h61, if_neg (nI_ge (by omega) (by omega)), tp_rd (by omega) (by decide), hc1.2 i (by omega), tp_rd (by omega) (by decide), hc1.2 i (by omega), tp_pf, nI_1]
      have hgo : isSp (Tp 1 i) = true → ∃ M', Re_goOn_L0 F nn (tv_w M1 68 6 (nI (i + 1))) = some ((), M') ∧ cX M' Tp (lx Tp pos) ∧ fX M M' := fun w => ih (i + 1) nn _ (by omega) (by omega) ⟨by rw [tp_wj (by omega)]; exact hc1.1, fun j hj => by rw [tp_wk (by omega)]; exact hc1.2 j hj⟩ tp_ws (fun a j z => by rw [tp_w, if_neg (by omega)]; exact f1 a j z) (by rw [if_pos ⟨by omega, w⟩] at er; exact er)
      by_cases q1 : Tp 1 i = 32
      · rw [if_pos (s1.mpr q1)]; exact hgo (decide_eq_true (Or.inl q1))
      · rw [if_neg (fun w => q1 (s1.mp w))]
        by_cases q2 : Tp 1 i = 10
        · rw [if_pos (s2.mpr q2)]; exact hgo (decide_eq_true (Or.inr q2))
        · rw [if_neg (fun w => q2 (s2.mp w))]
          rw [if_neg (fun w => (of_decide_eq_true w.2).elim q1 q2)] at er
          exact h52 i M1 (by omega) hc1 h61 f1 er.symm
  exact hh (Tp 0 0 - pos) pos F M (by omega) (by omega) hc h6 (fun _ _ _ => rfl) rfl
end LEX
