/-! SHEETS, on the class's side -/
theorem xs_at_out {F : Nat} {a : Int32} {M : tv_M} (h : tp_out a 8) : Xx_sheetAt F a M = some (none, M) := by
  unfold Xx_sheetAt
  by_cases h1 : a < 0
  · rw [if_pos h1]
  · rw [if_neg h1, if_neg (show ¬ a < 8 from Int32.not_lt.mpr (h.resolve_left h1))]
theorem xs_at {F s : Nat} {M : tv_M} (h : s < 8) : Xx_sheetAt F (nI s) M = some (some (2 + 2 * s), M) := by
  obtain ⟨h1, h2, h3, h4⟩ := tp_shP s h
  unfold Xx_sheetAt
  rw [if_neg (nI_pos (by omega)), if_pos (show nI s < 8 from nI_lt h (by decide)), tp_ap h (by decide) h1, tp_gl h3]
theorem xs_found {F : Nat} {a : Int32} {M : tv_M} : Xx_found F a M = some ((-1000010) - a, tv_w M 0 9 a) := rfl
theorem xs_passed {F : Nat} {a : Int32} {M : tv_M} : Xx_passed F a M = some (a, tv_w M 0 9 0) := rfl
def xs_begun (M : tv_M) (s : Nat) (l n : Int32) : tv_M := tv_wc (tv_w (tv_w M (2 + 2 * s) 0 l) (2 + 2 * s) 1 n) (3 + 2 * s) (fun j => if j < 40 then 0 else M.1 (3 + 2 * s) j)
theorem xs_begin {F s : Nat} {l n : Int32} {M : tv_M} (h : s < 8) (hF : 40 < F) : Sh_begin F (2 + 2 * s) l n M = some ((), xs_begun M s l n) := by
  obtain ⟨h1, h2, h3, h4⟩ := tp_shP s h
  unfold Sh_begin
  rw [tp_gl h3, tp_pf, tp_pf, tp_nn h2, tp_gn h4, tp_cb (jv_fill h4 (by decide) hF)]
  refine congrArg some (congrArg _ ?_)
  unfold xs_begun
  refine congrArg (tv_wc _ _) (funext fun j => ?_)
  rw [tp_wk (by omega), tp_wk (by omega)]
theorem xs_missing {F s : Nat} {M : tv_M} (h : s < 8) : Sh_isMissing F (2 + 2 * s) M = some (if M.1 (2 + 2 * s) 0 = -1 then 1 else 0, M) := by
  unfold Sh_isMissing
  rw [tp_gl (tp_shP s h).2.2.1]
  by_cases e : M.1 (2 + 2 * s) 0 = -1
  · rw [if_pos e, if_pos e]
  · rw [if_neg e, if_neg e]
theorem xs_reaches {F s len : Nat} {a b : Int32} {M : tv_M} (h : s < 8) (hl : M.1 (2 + 2 * s) 1 = nI len) (h40 : len ≤ 40) : Sh_reaches F (2 + 2 * s) a b M = some (if 0 ≤ a.toInt ∧ 0 ≤ b.toInt ∧ a.toInt + b.toInt ≤ len then 1 else 0, M) := by
  unfold Sh_reaches
  have hT : (nI len).toInt = len := nI_toInt (by omega)
  rw [tp_gl (tp_shP s h).2.2.1, hl]
  simp only [tp_lt, tp_0T, hT]
  by_cases h1 : a.toInt < 0
  · rw [if_pos h1, if_neg (by omega)]
  · rw [if_neg h1]
    by_cases h2 : b.toInt < 0
    · rw [if_pos h2, if_neg (by omega)]
    · rw [if_neg h2]
      by_cases h3 : (len : Int) < a.toInt
      · rw [if_pos h3, if_neg (by omega)]
      · rw [if_neg h3, tp_sub _ _ (by omega) (by omega), hT]
        by_cases h4 : (len : Int) - a.toInt < b.toInt
        · rw [if_pos h4, if_neg (by omega)]
        · rw [if_neg h4, if_pos (by omega)]
/-- a number cut to a lane -/
def tp_cut (l : Nat) (v : Int32) : Int32 := if l = 0 then v.toInt8.toInt32 else if l = 1 then v.toInt16.toInt32 else v
theorem xs_cut {F s l : Nat} {v : Int32} {M : tv_M} (h : s < 8) (hl : M.1 (2 + 2 * s) 0 = nI l) (hl3 : l < 3) : Sh_cut F (2 + 2 * s) v M = some (tp_cut l v, M) := by
  unfold Sh_cut tp_cut
  rw [tp_gl (tp_shP s h).2.2.1, hl]
  have : l = 0 ∨ l = 1 ∨ l = 2 := by omega
  rcases this with rfl | rfl | rfl
  · rfl
  · rfl
  · rfl
theorem xs_put {F s l len i : Nat} {v : Int32} {M : tv_M} (h : s < 8) (hl : M.1 (2 + 2 * s) 0 = nI l) (hl3 : l < 3) (hn : M.1 (2 + 2 * s) 1 = nI len) (h40 : len ≤ 40) (hi : i < len) : Sh_put F (2 + 2 * s) (nI i) v M = some (tp_cut l v, tv_w M (3 + 2 * s) i (tp_cut l v)) := by
  obtain ⟨h1, h2, h3, h4⟩ := tp_shP s h
  unfold Sh_put
  rw [tp_gl h3, tp_cb (xs_reaches h hn h40), if_pos (show 0 ≤ (nI i).toInt ∧ 0 ≤ (1 : Int32).toInt ∧ (nI i).toInt + (1 : Int32).toInt ≤ len by
    rw [nI_toInt (by omega)]
    refine ⟨by omega, by decide, ?_⟩
    show (i : Int) + 1 ≤ len
    omega), if_neg (show ¬ (1 : Int32) = 0 by decide), tp_nn h2, tp_gn h4, tp_cb (xs_cut h hl hl3), tp_wr (by omega) (by decide), tp_nn h2, tp_gn h4, tp_rd (by omega) (by decide), tp_ws]
theorem xs_rests {F s i n p : Nat} {M : tv_M} (h : s < 8) (hF : 60 < F) {len : Nat} (hl : M.1 (2 + 2 * s) 1 = nI len) (h40 : len ≤ 40) (hin : i + n ≤ len) (hp : p ≤ 7) : Sh_holdsRests F (2 + 2 * s) (nI i) (nI n) (nI p) M = some (if ∀ k, k < n → 0 ≤ (M.1 (3 + 2 * s) (i + k)).toInt ∧ (M.1 (3 + 2 * s) (i + k)).toInt < p then 1 else 0, M) := by
  obtain ⟨h1, h2, h3, h4⟩ := tp_shP s h
  have hq : tq (Sh_holdsRests F (2 + 2 * s) (nI i) (nI n) (nI p) M) (fun r M' => M' = M ∧ r = if ∀ k, k < n → 0 ≤ (M.1 (3 + 2 * s) (i + k)).toInt ∧ (M.1 (3 + 2 * s) (i + k)).toInt < p then 1 else 0) := by
    unfold Sh_holdsRests
    rw [tp_gl h3, tp_cb (xs_reaches h hl h40), if_pos (show 0 ≤ (nI i).toInt ∧ 0 ≤ (nI n).toInt ∧ (nI i).toInt + (nI n).toInt ≤ len by rw [nI_toInt (by omega), nI_toInt (by omega)]; omega), if_neg (show ¬ (1 : Int32) = 0 by decide)]
    have hp32 : (nI p).toInt = p := nI_toInt (by omega)
    refine tl_loop (g := fun nn j M => Sh_holdsRests_L14 F nn (2 + 2 * s) (nI i) (nI n) (nI p) (nI (i + j)) M) (N := n) (Inv := fun j M' => M' = M ∧ ∀ k, k < j → 0 ≤ (M.1 (3 + 2 * s) (i + k)).toInt ∧ (M.1 (3 + 2 * s) (i + k)).toInt < p) ?_ ?_ n 0 F M (by omega) (by omega) ⟨rfl, fun k hk => absurd hk (by omega)⟩
    · rintro nn j M' hj ⟨rfl, hI⟩
      try dsimp only
      have e0 : Sh_holdsRests_L14 F (nn + 1) (2 + 2 * s) (nI i) (nI n) (nI p) (nI (i + j)) M' = if M'.1 (3 + 2 * s) (i + j) < 0 then some (0, M') else if M'.1 (3 + 2 * s) (i + j) < nI p then Sh_holdsRests_L14 F nn (2 + 2 * s) (nI i) (nI n) (nI p) (nI (i + (j + 1))) M' else some (0, M') := by
        rw [Sh_holdsRests_L14, tp_gl h3, nI_add, if_neg (nI_ge (by omega) (by omega)), tp_nn h2, tp_gn h4, tp_rd (by omega) (by omega), tp_nn h2, tp_gn h4, tp_rd (by omega) (by omega), nI_1, Nat.add_assoc]
      rw [e0]
      by_cases q1 : M'.1 (3 + 2 * s) (i + j) < 0
      · rw [if_pos q1]
        refine Or.inr (tq_some ⟨rfl, ?_⟩)
        rw [tp_lt, tp_0T] at q1
        rw [if_neg (fun w => by have := (w j hj).1; omega)]
      · rw [if_neg q1]
        rw [tp_lt, tp_0T] at q1
        by_cases q2 : M'.1 (3 + 2 * s) (i + j) < nI p
        · rw [if_pos q2]
          rw [tp_lt, hp32] at q2
          refine Or.inl ⟨M', ⟨rfl, fun k hk => ?_⟩, rfl⟩
          by_cases e : k = j
          · subst e; omega
          · exact hI k (by omega)
        · rw [if_neg q2]
          rw [tp_lt, hp32] at q2
          refine Or.inr (tq_some ⟨rfl, ?_⟩)
          rw [if_neg (fun w => by have := (w j hj).2; omega)]
    · rintro nn M' ⟨rfl, hI⟩
      try dsimp only
      rw [Sh_holdsRests_L14, tp_gl h3, nI_add, if_pos (nI_le (by omega) (by omega))]
      exact tq_some ⟨rfl, by rw [if_pos hI]⟩
  obtain ⟨r, M', e, rfl, rfl⟩ := hq
  exact e
/-! the reference's small questions -/
theorem md_in_out {F n : Nat} {a : Int32} {hi : Int64} {N : tv_M} (h : tp_out a n) (hn : n < 2 ^ 31) (hh : hi = (nI n - 1 : Int32).toInt64) : Md_in F a.toInt64 0 hi N = some (0, N) := by
  rw [tp_in (lo := 0) (b := 0) (c := nI n - 1) rfl hh, if_neg]
  rintro ⟨h1, h2⟩
  rcases h with h | h
  · exact absurd h (Int32.not_lt.mpr h1)
  · rw [tp_le, nI_toInt hn] at h
    rw [tp_le, tp_sub _ _ (by rw [nI_toInt hn]; show _ ≤ (n : Int) - 1; omega) (by rw [nI_toInt hn]; show (n : Int) - 1 < _; omega), nI_toInt hn] at h2
    have : (1 : Int32).toInt = 1 := rfl
    omega
theorem md_in_in {F n j : Nat} {hi : Int64} {N : tv_M} (h : j < n) (hn : n < 2 ^ 31) (hh : hi = (nI n - 1 : Int32).toInt64) : Md_in F (nI j).toInt64 0 hi N = some (1, N) := by
  rw [tp_in (lo := 0) (b := 0) (c := nI n - 1) rfl hh, if_pos]
  refine ⟨nI_pos' (by omega), ?_⟩
  obtain ⟨m, rfl⟩ : ∃ m, n = m + 1 := ⟨n - 1, by omega⟩
  rw [nI_pred]
  exact nI_le (by omega) (by omega)
theorem md_sh_out {F : Nat} {a : Int32} {N : tv_M} (h : tp_out a 8) : Md_isSheet F a N = some (0, N) := by
  unfold Md_isSheet
  rw [tp_cb (md_in_out h (by decide) (by decide)), tp_zo (Or.inl rfl)]
theorem md_sh {F s : Nat} {N : tv_M} (h : s < 8) : Md_isSheet F (nI s) N = some (1, N) := by
  unfold Md_isSheet
  rw [tp_cb (md_in_in h (by decide) (by decide)), tp_zo (Or.inr rfl)]
theorem md_find {F : Nat} {a : Int32} {N : tv_M} : Md_finding F a N = some ((-1000010) - a, tv_w N 249 1 a) := rfl
/-! the sheets of both -/
def i_ln (n : Nat) : Int32 := if n = 0 then -1 else nI (n - 1)
def gS (S0 : Nat → Nat → Nat) : Prop := ∀ s, s < 8 → S0 0 s ≤ 3 ∧ S0 1 s ≤ 40
def cS (M : tv_M) (S0 : Nat → Nat → Nat) (S1 : Nat → Nat → Int32) : Prop := ∀ s, s < 8 → M.1 (2 + 2 * s) 0 = i_ln (S0 0 s) ∧ (S0 0 s ≠ 0 → M.1 (2 + 2 * s) 1 = nI (S0 1 s) ∧ ∀ i, i < 40 → M.1 (3 + 2 * s) i = S1 s i)
def mS (N : tv_M) (S0 : Nat → Nat → Nat) (S1 : Nat → Nat → Int32) : Prop := ∀ s, s < 8 → N.1 250 s = i_ln (S0 0 s) ∧ (S0 0 s ≠ 0 → N.1 251 s = nI (S0 1 s) ∧ ∀ i, i < 40 → N.1 252 (40 * s + i) = S1 s i)
def cZ (M : tv_M) (p : Nat) (Z : Nat → Nat) : Prop := M.1 0 0 = nI p ∧ M.1 0 9 = nI (Z 0)
def mZ (N : tv_M) (Z : Nat → Nat) : Prop := N.1 249 1 = nI (Z 0) ∧ N.1 249 25 = nI (Z 1)
theorem cS.cg {M M' : tv_M} {S0 : Nat → Nat → Nat} {S1 : Nat → Nat → Int32} (h : cS M S0 S1) (hk : ∀ a i, 2 ≤ a → a < 18 → M'.1 a i = M.1 a i) : cS M' S0 S1 := fun s hs => by
  obtain ⟨h1, h2⟩ := h s hs
  refine ⟨by rw [hk _ _ (by omega) (by omega)]; exact h1, fun q => ⟨?_, fun i hi => ?_⟩⟩
  · rw [hk _ _ (by omega) (by omega)]; exact (h2 q).1
  · rw [hk _ _ (by omega) (by omega)]; exact (h2 q).2 i hi
theorem mS.cg {N N' : tv_M} {S0 : Nat → Nat → Nat} {S1 : Nat → Nat → Int32} (h : mS N S0 S1) (hk : ∀ a i, 250 ≤ a → a < 253 → N'.1 a i = N.1 a i) : mS N' S0 S1 := fun s hs => by
  obtain ⟨h1, h2⟩ := h s hs
  refine ⟨by rw [hk _ _ (by omega) (by omega)]; exact h1, fun q => ⟨?_, fun i hi => ?_⟩⟩
  · rw [hk _ _ (by omega) (by omega)]; exact (h2 q).1
  · rw [hk _ _ (by omega) (by omega)]; exact (h2 q).2 i hi
theorem i_ln_m {n : Nat} (h : n ≤ 3) : i_ln n = -1 ↔ n = 0 := by
  have : n = 0 ∨ n = 1 ∨ n = 2 ∨ n = 3 := by omega
  rcases this with rfl | rfl | rfl | rfl <;> decide
theorem i_ln_p {n : Nat} (h : n ≤ 3) : (0 ≤ i_ln n) ↔ n ≠ 0 := by
  have : n = 0 ∨ n = 1 ∨ n = 2 ∨ n = 3 := by omega
  rcases this with rfl | rfl | rfl | rfl <;> decide
theorem i_ln_l {n : Nat} (h : n ≤ 3) : (i_ln n < 0) ↔ n = 0 := by
  have : n = 0 ∨ n = 1 ∨ n = 2 ∨ n = 3 := by omega
  rcases this with rfl | rfl | rfl | rfl <;> decide
theorem i_ln_i {n m : Nat} (h : n ≤ 3) (h' : m ≤ 3) : i_ln n = i_ln m ↔ n = m := by
  have a : n = 0 ∨ n = 1 ∨ n = 2 ∨ n = 3 := by omega
  have b : m = 0 ∨ m = 1 ∨ m = 2 ∨ m = 3 := by omega
  rcases a with rfl | rfl | rfl | rfl <;> rcases b with rfl | rfl | rfl | rfl <;> decide
theorem i_ln_s {n : Nat} (h : n ≠ 0) : i_ln n = nI (n - 1) := if_neg h
/-- what a sheet call may change in the reference -/
def fS (N N' : tv_M) : Prop := ∀ a i, ¬ (a = 249 ∧ (i = 0 ∨ i = 1)) → (a < 250 ∨ 253 ≤ a) → N'.1 a i = N.1 a i
