/-! WHAT THE CLASS LEARNS FROM A GOOD READING -/
theorem rs_clr (f : Nat → Bool) {k : Nat} (hk : k < 4) : (nI (rs f 4) &&& ((1 <<< (nI k &&& 31)) ^^^ (-1)) : Int32) = nI (rs (fun y => f y && !decide (y = k)) 4) := by
  have : k = 0 ∨ k = 1 ∨ k = 2 ∨ k = 3 := by omega
  simp only [rs]
  generalize f 0 = a
  generalize f 1 = b
  generalize f 2 = c
  generalize f 3 = d
  rcases this with rfl | rfl | rfl | rfl <;> cases a <;> cases b <;> cases c <;> cases d <;> decide +kernel
theorem rs_set (f : Nat → Bool) {k : Nat} (hk : k < 4) : (nI (rs f 4) ||| (1 <<< (nI k &&& 31)) : Int32) = nI (rs (fun y => f y || decide (y = k)) 4) := by
  have : k = 0 ∨ k = 1 ∨ k = 2 ∨ k = 3 := by omega
  simp only [rs]
  generalize f 0 = a
  generalize f 1 = b
  generalize f 2 = c
  generalize f 3 = d
  rcases this with rfl | rfl | rfl | rfl <;> cases a <;> cases b <;> cases c <;> cases d <;> decide +kernel
theorem rs_c4 {f g : Nat → Bool} (h : ∀ y, y < 4 → f y = g y) : rs f 4 = rs g 4 := by
  simp only [rs, h 0 (by omega), h 1 (by omega), h 2 (by omega), h 3 (by omega)]
def gwk (T : Nat → Nat → Nat) (k e v i : Nat) : Nat := rs (fun y => !brd T k e v i y) 4
def gnk (T : Nat → Nat → Nat) (k e v i : Nat) : Nat := rs (fun y => brd T k e v i y) 4
section LEARN
variable {F p : Nat} {M N : tv_M} {T : Nat → Nat → Nat}
theorem brd_1 {k a u b w y : Nat} (h0 : tbr T k 0 = a) (h1 : tbr T k 1 = u) (h2 : tbr T k 2 = b) (h3 : tbr T k 3 = w) (hab : a ≠ b) : brd T (k + 1) a u b y = (brd T k a u b y || decide (y = w)) := by
  rw [brd, h0, h1, h2, h3, decide_eq_false (p := b = a ∧ w = u ∧ a = b ∧ u = y) (fun z => hab z.1.symm), Bool.or_false]
  congr 1
  exact decide_eq_decide.mpr ⟨fun z => z.2.2.2.symm, fun z => ⟨rfl, rfl, rfl, z.symm⟩⟩
theorem brd_2 {k a u b w y : Nat} (h0 : tbr T k 0 = a) (h1 : tbr T k 1 = u) (h2 : tbr T k 2 = b) (h3 : tbr T k 3 = w) (hab : a ≠ b) : brd T (k + 1) b w a y = (brd T k b w a y || decide (y = u)) := by
  rw [brd, h0, h1, h2, h3, decide_eq_false (p := a = b ∧ u = w ∧ b = a ∧ w = y) (fun z => hab z.1), Bool.false_or]
  congr 1
  exact decide_eq_decide.mpr ⟨fun z => z.2.2.2.symm, fun z => ⟨rfl, rfl, rfl, z.symm⟩⟩
theorem brd_3 {k a u b w e v i y : Nat} (h0 : tbr T k 0 = a) (h1 : tbr T k 1 = u) (h2 : tbr T k 2 = b) (h3 : tbr T k 3 = w) (n1 : ¬ (e = a ∧ v = u ∧ i = b)) (n2 : ¬ (e = b ∧ v = w ∧ i = a)) : brd T (k + 1) e v i y = brd T k e v i y := by
  rw [brd, h0, h1, h2, h3, decide_eq_false (p := a = e ∧ u = v ∧ b = i ∧ w = y) (fun z => n1 ⟨z.1.symm, z.2.1.symm, z.2.2.1.symm⟩), decide_eq_false (p := b = e ∧ w = v ∧ a = i ∧ u = y) (fun z => n2 ⟨z.1.symm, z.2.1.symm, z.2.2.1.symm⟩), Bool.or_false, Bool.or_false]
theorem ag_lls (hF : 60 < F) (hp : tp_pr p) (hT : gT p T) (cc : cT M p T) (c0 : M.1 71 0 = nI p) (c1 : M.1 71 1 = nI 30) (c2 : M.1 106 0 = nI p) (c3 : M.1 106 1 = nI 1) : ∃ M', Ag_learnLines F M = some ((), M') ∧ cA M' p T ∧ M'.1 70 3 = 0 ∧ ∀ a i, ¬ (a = 70 ∧ i = 3) → (a < 71 ∨ 106 ≤ a) → M'.1 a i = M.1 a i := by
  have hp7 := hp.lt
  have hC := hT.C
  have hL := hT.L
  unfold Ag_learnLines
  rw [cc.2.2.2.2.1, cc.2.2.2.2.2.1]
  obtain ⟨u1, M1, a1, a2, a3, a4, a5, a6, a7, a8⟩ := sb_begin (F := F) (t := 71) (C := tC T) (x := tL T) (me := 30) (M := M) (Or.inl rfl) hC (by omega) (by omega) c1
  have cc1 : cT M1 p T := cc.fo hT a8 (by omega)
  obtain ⟨u2, M2, b1, b2⟩ := ag_lines (F := F) (t := 71) (mk := 1) (but := 99) (but32 := -1) (M := M1) (Or.inl rfl) hF hp hT cc1 (by rw [hT.n99]; exact hL) (by show _ ≤ 54; omega) (by omega) (fun _ => by rw [hT.n99]; show _ ≤ 54; omega) (ag_b1 hp hT) a2
  have b1 : Ag_addLines F 71 (-1) 1 M1 = some (u2, M2) := b1
  rw [hT.n99] at b2
  obtain ⟨b3, b4, b5, b6, b7⟩ := b2
  have hst : sb_st M2 71 (tL T) (tC T) (tC T + tL T) p (el_run p (tL T) (agA p T) 0) 0 := sb_st0 (by rw [b6 0 (by omega), a7 0 (by omega)]; exact c0) b3 (by rw [b6 7 (by omega)]; exact a3) (by rw [b6 8 (by omega)]; exact a4) (by rw [b6 9 (by omega)]; exact a5) (by rw [b6 10 (by omega), a6, if_neg (by omega)]) (fun l x q1 q2 => by
    rw [b4 l x q1 (by show x < 54; omega)]
    unfold agA
    by_cases w : x < tC T
    · rw [if_pos w, if_pos w]
    · rw [if_neg w, if_neg w]
      by_cases w2 : x = tC T + l
      · rw [if_pos w2, if_pos ⟨rfl, w2⟩]
      · rw [if_neg w2, if_neg (fun z => w2 z.2)]) b5
  obtain ⟨u4, M4, d1, d2, d3, d4⟩ := sb_put (F := F) (t := 71) (M := M2) (Or.inl rfl) hF (show _ ≤ 30 from hL) (show tC T + tL T ≤ 54 by omega) (by omega) hC hp (agA_lt hp hT) hst
  have hf : ∀ a i, (a < 71 ∨ 106 ≤ a) → M4.1 a i = M.1 a i := fun a i q => by rw [d4 a i (by show a < 71 ∨ 71 + 5 + 30 ≤ a; omega), b7 a i (by show a < 71 ∨ 71 + 5 + 30 ≤ a; omega), a8 a i (by omega)]
  rw [tp_cb a1, tp_cb b1, tp_cb d1, tp_pf]
  refine ⟨_, rfl, ⟨d2.cg (Or.inl rfl) (show _ ≤ 30 from hL) (fun a i q1 q2 => by rw [tp_wk (by omega)]), by rw [tp_wk (by omega), d3, b6 1 (by omega), a7 1 (by omega)]; exact c1, by rw [tp_wk (by omega), hf _ _ (by omega)]; exact c2, by rw [tp_wk (by omega), hf _ _ (by omega)]; exact c3⟩, tp_ws, fun a i q1 q2 => by rw [tp_w, if_neg q1]; exact hf a i q2⟩
/-- the bars are learnt one by one -/
def cGk (M : tv_M) (T : Nat → Nat → Nat) (k : Nat) : Prop := (∀ e v i, e < 8 → v < 4 → i < 8 → M.1 (203 + (4 * e + v)) i = nI (gwk T k e v i)) ∧ ∀ e, e < 8 → M.1 235 e = if bld T k e then 1 else 0
theorem ch_bar {k : Nat} (hT : gT p T) (hk : k < tB T) (h : cGk M T k) : ∃ M', Ch_bar F (nI (tbr T k 0)) (nI (tbr T k 1)) (nI (tbr T k 2)) (nI (tbr T k 3)) M = some ((), M') ∧ cGk M' T (k + 1) ∧ ∀ a i, (a < 203 ∨ 236 ≤ a) → M'.1 a i = M.1 a i := by
  have h8 := hT.1
  obtain ⟨g1, g2, g3, g4, g5, g6, g7⟩ := hT.2.2.2.2.2.2.2 k hk
  have z1 := (hT.2.2.2.2.2.1 _ g1).2.2.1
  have z2 := (hT.2.2.2.2.2.1 _ g4).2.2.1
  generalize h0 : tbr T k 0 = a at g1 g2 g3 g7 z1
  generalize h1 : tbr T k 1 = u at g3
  generalize h2 : tbr T k 2 = b at g4 g5 g6 g7 z2
  generalize h3 : tbr T k 3 = w at g6
  obtain ⟨p1, p2⟩ := ch_rowP (4 * a + u) (by omega)
  obtain ⟨p3, p4⟩ := ch_rowP (4 * b + w) (by omega)
  have hmin : ∀ M0, Jv_min F (nI a) (nI b) M0 = some (nI (if b < a then b else a), M0) := fun M0 => by
    unfold Jv_min
    by_cases q : b < a
    · rw [if_pos (nI_lt q (by omega)), if_pos q]
    · rw [if_neg (nI_nlt (by omega) (by omega)), if_neg q]
  have hlm : (if b < a then b else a) < 8 := by
    by_cases q : b < a
    · rw [if_pos q]; omega
    · rw [if_neg q]; omega
  unfold Ch_bar
  rw [show (nI a * 4 + nI u : Int32) = nI (4 * a + u) from by rw [← nI_add, Nat.mul_comm, ← nI_mul]; rfl, show (nI b * 4 + nI w : Int32) = nI (4 * b + w) from by rw [← nI_add, Nat.mul_comm, ← nI_mul]; rfl, tp_ap (by omega) (by decide) p1, tp_gn p2, tp_rd (by omega) (by decide), h.1 a u b (by omega) (by omega) (by omega), tp_wr (by omega) (by decide), tp_ap (by omega) (by decide) p3, tp_gn p4, tp_rd (by omega) (by decide), tp_w, if_neg (show ¬ (203 + (4 * b + w) = 203 + (4 * a + u) ∧ a = b) from fun z => g7 z.2), h.1 b w a (by omega) (by omega) (by omega), tp_wr (by omega) (by decide), tp_cb (hmin _), tp_wr hlm (by decide)]
  refine ⟨_, rfl, ⟨fun e v i e1 e2 e3 => ?_, fun e e1 => ?_⟩, fun a' i q => by rw [tp_w, if_neg (by omega), tp_w, if_neg (by omega), tp_w, if_neg (by omega)]⟩
  · rw [tp_wk (by omega), tp_w]
    by_cases q2 : e = b ∧ v = w ∧ i = a
    · obtain ⟨rfl, rfl, rfl⟩ := q2
      rw [if_pos ⟨rfl, rfl⟩]
      unfold gwk
      rw [rs_clr _ (by omega)]
      congr 1
      exact rs_c4 (fun y _ => by rw [brd_2 h0 h1 h2 h3 g7, Bool.not_or])
    · rw [if_neg (fun z => q2 ⟨by omega, by omega, z.2⟩), tp_w]
      by_cases q1 : e = a ∧ v = u ∧ i = b
      · obtain ⟨rfl, rfl, rfl⟩ := q1
        rw [if_pos ⟨rfl, rfl⟩]
        unfold gwk
        rw [rs_clr _ (by omega)]
        congr 1
        exact rs_c4 (fun y _ => by rw [brd_1 h0 h1 h2 h3 g7, Bool.not_or])
      · rw [if_neg (fun z => q1 ⟨by omega, by omega, z.2⟩), h.1 e v i e1 e2 e3]
        unfold gwk
        congr 1
        exact rs_c4 (fun y _ => by rw [brd_3 h0 h1 h2 h3 q1 q2])
  · rw [tp_w, bld, h0, h2]
    by_cases q : e = if b < a then b else a
    · rw [if_pos ⟨rfl, q⟩, decide_eq_true q.symm, Bool.or_true, if_pos rfl]; rfl
    · rw [if_neg (fun z => q z.2), decide_eq_false (fun z => q z.symm), Bool.or_false, tp_wk (by omega), tp_wk (by omega)]; exact h.2 e e1
theorem ch_learn (hF : 60 < F) (hT : gT p T) (cc : cT M p T) : ∃ M', Ch_learnBars F M = some ((), M') ∧ cG M' T ∧ M'.1 201 6 = 0 ∧ ∀ a i, ¬ (a = 201 ∧ i = 6) → (a < 203 ∨ 236 ≤ a) → M'.1 a i = M.1 a i := by
  have h8 := hT.1
  have h30 := hT.2.2.1
  have l1 : ∀ d j nn (M1 : tv_M), j + d = 32 → d < nn → (∀ c i, c < j → i < 8 → M1.1 (203 + c) i = 15) → (∀ a i, (a < 203 ∨ 236 ≤ a) → M1.1 a i = M.1 a i) → ∃ M2, Ch_learnBars_L2 F nn (nI j) M1 = Ch_learnBars_L27 F F 0 M2 ∧ (∀ c i, c < 32 → i < 8 → M2.1 (203 + c) i = 15) ∧ (∀ a i, (a < 203 ∨ 236 ≤ a) → M2.1 a i = M.1 a i) := by
    intro d
    induction d with
    | zero =>
      intro j nn M1 e1 e2 e3 e4
      obtain ⟨nn, rfl⟩ : ∃ n', nn = n' + 1 := ⟨nn - 1, by omega⟩
      have : j = 32 := by omega
      subst this
      rw [Ch_learnBars_L2, if_pos (show (32 : Int32) ≤ nI 32 from Int32.le_refl _)]
      exact ⟨M1, rfl, e3, e4⟩
    | succ d ih =>
      intro j nn M1 e1 e2 e3 e4
      obtain ⟨nn, rfl⟩ : ∃ n', nn = n' + 1 := ⟨nn - 1, by omega⟩
      obtain ⟨p1, p2⟩ := ch_rowP j (by omega)
      rw [Ch_learnBars_L2, if_neg (show ¬ (32 : Int32) ≤ nI j from nI_ge (b := 32) (by omega) (by omega)), tp_ap (by omega) (by decide) p1, tp_gn p2, tp_cb (jv_fill p2 (by decide) (by omega)), nI_1]
      refine ih (j + 1) nn _ (by omega) (by omega) (fun c i q1 q2 => ?_) (fun a i q => ?_)
      · rw [tp_wc1]
        by_cases q : c = j
        · rw [if_pos (by omega), if_pos q2]
        · rw [if_neg (by omega)]; exact e3 c i (by omega) q2
      · rw [tp_wc1, if_neg (by omega)]; exact e4 a i q
  obtain ⟨M2, x1, x2, x3⟩ := l1 32 0 F M (by omega) (by omega) (fun c i q => absurd q (Nat.not_lt_zero _)) (fun _ _ _ => rfl)
  have l2 : ∀ d j nn (M1 : tv_M), j + d = 8 → d < nn → (∀ c i, c < 32 → i < 8 → M1.1 (203 + c) i = 15) → (∀ i, i < j → M1.1 235 i = 0) → (∀ a i, (a < 203 ∨ 236 ≤ a) → M1.1 a i = M.1 a i) → ∃ M3, Ch_learnBars_L27 F nn (nI j) M1 = Ch_learnBars_L48 F F 0 M3 ∧ (∀ c i, c < 32 → i < 8 → M3.1 (203 + c) i = 15) ∧ (∀ i, i < 8 → M3.1 235 i = 0) ∧ (∀ a i, (a < 203 ∨ 236 ≤ a) → M3.1 a i = M.1 a i) := by
    intro d
    induction d with
    | zero =>
      intro j nn M1 e1 e2 e3 e4 e5
      obtain ⟨nn, rfl⟩ : ∃ n', nn = n' + 1 := ⟨nn - 1, by omega⟩
      have : j = 8 := by omega
      subst this
      rw [Ch_learnBars_L27, if_pos (show (8 : Int32) ≤ nI 8 from Int32.le_refl _)]
      exact ⟨M1, rfl, e3, e4, e5⟩
    | succ d ih =>
      intro j nn M1 e1 e2 e3 e4 e5
      obtain ⟨nn, rfl⟩ : ∃ n', nn = n' + 1 := ⟨nn - 1, by omega⟩
      rw [Ch_learnBars_L27, if_neg (show ¬ (8 : Int32) ≤ nI j from nI_ge (b := 8) (by omega) (by omega)), tp_wr (by omega) (by decide), nI_1]
      refine ih (j + 1) nn _ (by omega) (by omega) (fun c i q1 q2 => ?_) (fun i q => ?_) (fun a i q => ?_)
      · rw [tp_wk (by omega)]; exact e3 c i q1 q2
      · rw [tp_w]
        by_cases w : i = j
        · rw [if_pos ⟨rfl, w⟩]; rfl
        · rw [if_neg (fun z => w z.2)]; exact e4 i (by omega)
      · rw [tp_wk (by omega)]; exact e5 a i q
  obtain ⟨M3, y1, y2, y3, y4⟩ := l2 8 0 F M2 (by omega) (by omega) x2 (fun i q => absurd q (Nat.not_lt_zero _)) x3
  have l3 : ∀ d j nn (M1 : tv_M), j + d = tB T → d < nn → cGk M1 T j → (∀ a i, (a < 203 ∨ 236 ≤ a) → M1.1 a i = M.1 a i) → ∃ M4, Ch_learnBars_L48 F nn (nI j) M1 = some ((), tv_w M4 201 6 0) ∧ cGk M4 T (tB T) ∧ (∀ a i, (a < 203 ∨ 236 ≤ a) → M4.1 a i = M.1 a i) := by
    intro d
    induction d with
    | zero =>
      intro j nn M1 e1 e2 e3 e4
      obtain ⟨nn, rfl⟩ : ∃ n', nn = n' + 1 := ⟨nn - 1, by omega⟩
      have : j = tB T := by omega
      subst this
      rw [Ch_learnBars_L48, e4 18 6 (by omega), cc.2.2.2.1, if_pos (Int32.le_refl _), tp_pf]
      exact ⟨M1, rfl, e3, e4⟩
    | succ d ih =>
      intro j nn M1 e1 e2 e3 e4
      obtain ⟨nn, rfl⟩ : ∃ n', nn = n' + 1 := ⟨nn - 1, by omega⟩
      have hb : ∀ i, i < 4 → M1.1 21 (4 * j + i) = nI (tbr T j i) := fun i hi => by rw [e4 _ _ (by omega)]; exact cc.2.2.2.2.2.2.2.2.2 j i (by omega) hi
      obtain ⟨M5, w1, w2, w3⟩ := ch_bar (F := F) hT (show j < tB T by omega) e3
      rw [Ch_learnBars_L48, e4 18 6 (by omega), cc.2.2.2.1, if_neg (nI_ge (by omega) (by omega)), show nI j * 4 = nI (4 * j + 0) from by rw [Nat.mul_comm, Nat.add_zero, ← nI_mul]; rfl, show (nI (4 * j + 0) + 1 : Int32) = nI (4 * j + 1) from nI_add _ 1, show (nI (4 * j + 0) + 2 : Int32) = nI (4 * j + 2) from nI_add _ 2, show (nI (4 * j + 0) + 3 : Int32) = nI (4 * j + 3) from nI_add _ 3, tp_rd (by omega) (by decide), tp_rd (by omega) (by decide), tp_rd (by omega) (by decide), tp_rd (by omega) (by decide), hb 0 (by omega), hb 1 (by omega), hb 2 (by omega), hb 3 (by omega), tp_cb w1, nI_1]
      exact ih (j + 1) nn M5 (by omega) (by omega) w2 (fun a i q => by rw [w3 a i q]; exact e4 a i q)
  obtain ⟨M4, z1, z2, z3⟩ := l3 (tB T) 0 F M3 (by omega) (by omega) ⟨fun e v i e1 e2 e3 => by rw [y2 (4 * e + v) i (by omega) e3]; rfl, fun e he => by rw [y3 e he]; rfl⟩ y4
  refine ⟨tv_w M4 201 6 0, ?_, ⟨fun e v i e1 e2 e3 => by rw [tp_wk (by omega)]; exact z2.1 e v i (by omega) e2 e3, fun e e1 => by rw [tp_wk (by omega)]; exact z2.2 e (by omega)⟩, tp_ws, fun a i q1 q2 => by rw [tp_w, if_neg q1]; exact z3 a i q2⟩
  unfold Ch_learnBars
  rw [show (0 : Int32) = nI 0 from rfl, x1]
  exact y1.trans z1
end LEARN
