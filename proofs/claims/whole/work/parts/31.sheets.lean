/-! SHEETS, on both sides -/
theorem tp_kT {n : Nat} (h : n < 2 ^ 31) : (OfNat.ofNat n : Int32).toInt = n := nI_toInt h
theorem tp_0T : (0 : Int32).toInt = 0 := rfl
theorem tp_m1T : (-1 : Int32).toInt = -1 := rfl
theorem tp_if {α : Type} {c : Prop} [Decidable c] {a b x : α} (h1 : c → a = x) (h2 : ¬ c → b = x) : (if c then a else b) = x := by
  by_cases h : c
  · rw [if_pos h]; exact h1 h
  · rw [if_neg h]; exact h2 h
theorem tp_w2 {M : tv_M} {k j : Nat} {x : Int32} : (tv_w M k j x).2 = M.2 := rfl
theorem tp_wc1 {M : tv_M} {k a i : Nat} {f : Nat → Int32} : (tv_wc M k f).1 a i = if a = k then f i else M.1 a i := rfl
theorem tp_wc2 {M : tv_M} {k : Nat} {f : Nat → Int32} : (tv_wc M k f).2 = M.2 := rfl
theorem tp_ext {M M' : tv_M} (h1 : ∀ a i, M.1 a i = M'.1 a i) (h2 : ∀ a i, M.2 a i = M'.2 a i) : M = M' := by
  obtain ⟨I, J⟩ := M
  obtain ⟨I', J'⟩ := M'
  have e1 : I = I' := funext fun a => funext fun i => h1 a i
  have e2 : J = J' := funext fun a => funext fun i => h2 a i
  rw [e1, e2]
/-- a place out of 0 .. n-1 -/
def tp_out (a : Int32) (n : Nat) : Prop := a < 0 ∨ nI n ≤ a
theorem tp_ix (a : Int32) {n : Nat} (hn : n < 2 ^ 31) : tp_out a n ∨ ∃ j, j < n ∧ a = nI j := by
  rcases pk_ix a hn with h | h | h
  · exact Or.inl (Or.inl h)
  · exact Or.inl (Or.inr h)
  · exact Or.inr h
theorem xs_at_out {F : Nat} {a : Int32} {M : tv_M} (h : tp_out a 8) : Xx_sheetAt F a M = some (none, M) := by
  unfold Xx_sheetAt
  by_cases h1 : a < 0
  · rw [if_pos h1]
  · rw [if_neg h1, if_neg (Int32.not_lt.mpr (h.resolve_left h1))]
theorem xs_at {F s : Nat} {M : tv_M} (h : s < 8) : Xx_sheetAt F (nI s) M = some (some (2 + 2 * s), M) := by
  obtain ⟨h1, h2, h3, h4⟩ := tp_shP s h
  unfold Xx_sheetAt
  rw [if_neg (nI_pos (by omega)), if_pos (show nI s < 8 from nI_lt h (by decide)), tp_ap h (by decide) h1, tp_gl h3]
theorem xs_found {F : Nat} {a : Int32} {M : tv_M} : Xx_found F a M = some ((-1000010) - a, tv_w M 0 9 a) := rfl
theorem xs_passed {F : Nat} {a : Int32} {M : tv_M} : Xx_passed F a M = some (a, tv_w M 0 9 0) := rfl
/-- a row filled from i on -/
theorem jv_fill_L {F k N : Nat} {x : Int32} (hl : tv_lay[k]? = some (20, N)) (hN : N < 2 ^ 31) : ∀ (m i nn : Nat) (M : tv_M), i + m = N → m < nn → Jv_fill_L5 F nn k x (nI i) (nI N) M = some ((), tv_wc M k (fun j => if i ≤ j ∧ j < N then x else M.1 k j)) := by
  intro m
  induction m with
  | zero =>
    intro i nn M h1 h2
    obtain ⟨nn, rfl⟩ : ∃ n', nn = n' + 1 := ⟨nn - 1, by omega⟩
    rw [Jv_fill_L5, tp_gn hl, if_pos (nI_le (by omega) (by omega))]
    refine congrArg some (congrArg _ (tp_ext (fun a j => ?_) (fun a j => rfl)))
    rw [tp_wc1, if_neg (show ¬ (i ≤ j ∧ j < N) by omega)]
    by_cases e : a = k
    · rw [if_pos e, e]
    · rw [if_neg e]
  | succ m ih =>
    intro i nn M h1 h2
    obtain ⟨nn, rfl⟩ : ∃ n', nn = n' + 1 := ⟨nn - 1, by omega⟩
    rw [Jv_fill_L5, tp_gn hl, if_neg (nI_ge (by omega) (by omega)), tp_wr (by omega) hN, nI_1, ih (i + 1) nn _ (by omega) (by omega)]
    refine congrArg some (congrArg _ (tp_ext (fun a j => ?_) (fun a j => rfl)))
    rw [tp_wc1, tp_wc1, tp_w]
    by_cases e : a = k
    · rw [if_pos e, if_pos e]
      by_cases hj : j = i
      · rw [if_neg (by omega), if_pos ⟨rfl, hj⟩, if_pos (by omega)]
      · by_cases hj2 : i + 1 ≤ j ∧ j < N
        · rw [if_pos hj2, if_pos (by omega)]
        · rw [if_neg hj2, tp_w, if_neg (by omega), if_neg (by omega)]
    · rw [if_neg e, if_neg e, if_neg (by omega)]
theorem jv_fill {F k N : Nat} {x : Int32} {M : tv_M} (hl : tv_lay[k]? = some (20, N)) (hN : N < 2 ^ 31) (hF : N < F) : Jv_fill F k x M = some ((), tv_wc M k (fun j => if j < N then x else M.1 k j)) := by
  unfold Jv_fill
  rw [tp_gn hl]
  refine (jv_fill_L hl hN N 0 F M (by omega) hF).trans ?_
  simp
def xs_begun (M : tv_M) (s : Nat) (l n : Int32) : tv_M := tv_wc (tv_w (tv_w M (2 + 2 * s) 0 l) (2 + 2 * s) 1 n) (3 + 2 * s) (fun j => if j < 40 then 0 else M.1 (3 + 2 * s) j)
theorem xs_begin {F s : Nat} {l n : Int32} {M : tv_M} (h : s < 8) (hF : 40 < F) : Sh_begin F (2 + 2 * s) l n M = some ((), xs_begun M s l n) := by
  obtain ⟨h1, h2, h3, h4⟩ := tp_shP s h
  unfold Sh_begin
  rw [tp_gl h3, tp_pf, tp_pf, tp_nn h2, tp_gn h4, tp_cb (jv_fill h4 (by decide) hF)]
  refine congrArg some (congrArg _ ?_)
  unfold xs_begun
  refine congrArg (tv_wc _ _) (funext fun j => ?_)
  rw [tp_wk (by omega), tp_wk (by omega)]
theorem xs_missing {F s : Nat} {M : tv_M} (h : s < 8) : Sh_isMissing F (2 + 2 * s) M = some (if M.1 (2 + 2 * s) 0 = -1 then 1 else 0, M) := by
  unfold Sh_isMissing
  rw [tp_gl (tp_shP s h).2.2.1]
  by_cases e : M.1 (2 + 2 * s) 0 = -1
  · rw [if_pos e, if_pos e]
  · rw [if_neg e, if_neg e]
theorem xs_reaches {F s len : Nat} {a b : Int32} {M : tv_M} (h : s < 8) (hl : M.1 (2 + 2 * s) 1 = nI len) (h40 : len ≤ 40) : Sh_reaches F (2 + 2 * s) a b M = some (if 0 ≤ a.toInt ∧ 0 ≤ b.toInt ∧ a.toInt + b.toInt ≤ len then 1 else 0, M) := by
  unfold Sh_reaches
  have hT : (nI len).toInt = len := nI_toInt (by omega)
  rw [tp_gl (tp_shP s h).2.2.1, hl]
  simp only [tp_lt, tp_0T, hT]
  by_cases h1 : a.toInt < 0
  · rw [if_pos h1, if_neg (by omega)]
  · rw [if_neg h1]
    by_cases h2 : b.toInt < 0
    · rw [if_pos h2, if_neg (by omega)]
    · rw [if_neg h2]
      by_cases h3 : (len : Int) < a.toInt
      · rw [if_pos h3, if_neg (by omega)]
      · rw [if_neg h3, tp_sub _ _ (by omega) (by omega), hT]
        by_cases h4 : (len : Int) - a.toInt < b.toInt
        · rw [if_pos h4, if_neg (by omega)]
        · rw [if_neg h4, if_pos (by omega)]
/-- a number cut to a lane -/
def tp_cut (l : Nat) (v : Int32) : Int32 := if l = 0 then v.toInt8.toInt32 else if l = 1 then v.toInt16.toInt32 else v
theorem xs_cut {F s l : Nat} {v : Int32} {M : tv_M} (h : s < 8) (hl : M.1 (2 + 2 * s) 0 = nI l) (hl3 : l < 3) : Sh_cut F (2 + 2 * s) v M = some (tp_cut l v, M) := by
  unfold Sh_cut tp_cut
  rw [tp_gl (tp_shP s h).2.2.1, hl]
  have : l = 0 ∨ l = 1 ∨ l = 2 := by omega
  rcases this with rfl | rfl | rfl
  · rfl
  · rfl
  · rfl
theorem xs_put {F s l len i : Nat} {v : Int32} {M : tv_M} (h : s < 8) (hl : M.1 (2 + 2 * s) 0 = nI l) (hl3 : l < 3) (hn : M.1 (2 + 2 * s) 1 = nI len) (h40 : len ≤ 40) (hi : i < len) : Sh_put F (2 + 2 * s) (nI i) v M = some (tp_cut l v, tv_w M (3 + 2 * s) i (tp_cut l v)) := by
  obtain ⟨h1, h2, h3, h4⟩ := tp_shP s h
  unfold Sh_put
  rw [tp_gl h3, tp_cb (xs_reaches h hn h40), if_pos (show 0 ≤ (nI i).toInt ∧ 0 ≤ (1 : Int32).toInt ∧ (nI i).toInt + (1 : Int32).toInt ≤ len by
    rw [nI_toInt (by omega)]
    refine ⟨by omega, by decide, ?_⟩
    show (i : Int) + 1 ≤ len
    omega), if_neg (show ¬ (1 : Int32) = 0 by decide), tp_nn h2, tp_gn h4, tp_cb (xs_cut h hl hl3), tp_wr (by omega) (by decide), tp_nn h2, tp_gn h4, tp_rd (by omega) (by decide), tp_ws]
theorem xs_rests_L {F s : Nat} {p : Int32} {M : tv_M} (h : s < 8) (a b : Int32) (i n : Nat) (ha : a = nI i) (hb : b = nI n) (hin : i + n ≤ 40) : ∀ (m j nn : Nat), j + m = n → m < nn → Sh_holdsRests_L11 F nn (2 + 2 * s) a b p (nI (i + j)) M = some (if ∀ k, j ≤ k → k < n → ¬ (M.1 (3 + 2 * s) (i + k) < 0) ∧ M.1 (3 + 2 * s) (i + k) < p then 1 else 0, M) := by
  sorry
