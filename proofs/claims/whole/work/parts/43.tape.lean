/-! THE TAPE -/
def i_sg (n : Nat) : Int32 := if n < 128 then nI n else nI n - 256
theorem sg_P : ∀ m, m < 256 → (nI m).toInt8.toInt32 = i_sg m := by decide +kernel
theorem sg_Q : ∀ m, m < 256 → vp_nar .byte (i_sg m) = i_sg m := by decide +kernel
def bt (x : Int64) : Nat := x.toBitVec.toNat % 256
theorem bt_lt (x : Int64) : bt x < 256 := Nat.mod_lt _ (by decide)
theorem bt_m (x : Int64) : (x &&& 255).toInt32 = nI (bt x) := by
  apply Int32.toBitVec_inj.mp
  apply BitVec.eq_of_toNat_eq
  unfold bt nI
  simp
  rw [BitVec.signExtend_eq_setWidth_of_le _ (by decide), BitVec.toNat_setWidth, show (255 : Nat) = 2 ^ 8 - 1 from rfl, Nat.and_two_pow_sub_one_eq_mod]
  omega
theorem bt_8 (x : Int64) : x.toInt32.toInt8 = (nI (bt x)).toInt8 := by
  apply Int8.toBitVec_inj.mp
  apply BitVec.eq_of_toNat_eq
  unfold bt nI
  simp
  rw [BitVec.signExtend_eq_setWidth_of_le _ (by decide), BitVec.toNat_setWidth]
theorem bt_c (x : Int64) : vp_nar .byte (x.toInt32.toInt8.toInt32) = i_sg (bt x) := by
  rw [bt_8, sg_P _ (bt_lt x), sg_Q _ (bt_lt x)]
def gTp (Tp : Nat → Nat → Nat) : Prop := Tp 0 0 ≤ 500 ∧ ∀ i, Tp 1 i < 256
def cTp (M : tv_M) (Tp : Nat → Nat → Nat) : Prop := M.1 68 2 = nI (Tp 0 0) ∧ ∀ i, i < Tp 0 0 → M.1 69 i = i_sg (Tp 1 i)
def mTp (N : tv_M) (Tp : Nat → Nat → Nat) : Prop := N.1 249 24 = nI (Tp 0 0) ∧ ∀ i, i < Tp 0 0 → N.1 266 i = nI (Tp 1 i)
/-- the tape with the bytes of w behind it -/
def tp_fd (Tp : Nat → Nat → Nat) (w : Int64) (n : Nat) : Nat → Nat → Nat := fun t i => if t = 0 then (if i = 0 then Tp 0 0 + n else Tp 0 i) else if t = 1 ∧ Tp 0 0 ≤ i ∧ i < Tp 0 0 + n then bt (w >>> ((8 * nI (n - 1 - (i - Tp 0 0)) : Int32).toInt64 &&& 63)) else Tp t i
theorem re_app {F n : Nat} {w : Int64} {M : tv_M} {Tp : Nat → Nat → Nat} (hF : 60 < F) (hn : n ≤ 8) (hn1 : 1 ≤ n) (hc : cTp M Tp) (hl : Tp 0 0 + n ≤ 500) : tq (Re_append F w (nI n) M) (fun r M' => r = nI (Tp 0 0 + n) ∧ cTp M' (tp_fd Tp w n) ∧ ∀ a i, ¬ (a = 68 ∧ i = 2) → a ≠ 69 → M'.1 a i = M.1 a i) := by
  unfold Re_append
  rw [show nI n - 1 = nI (n - 1) from nI_sub (b := 1) hn1]
  have h : ∀ m k nn M', k + m = n → m < nn → M'.1 68 2 = nI (Tp 0 0 + k) → (∀ i, i < Tp 0 0 + k → M'.1 69 i = i_sg (tp_fd Tp w n 1 i)) → (∀ a i, ¬ (a = 68 ∧ i = 2) → a ≠ 69 → M'.1 a i = M.1 a i) → tq (Re_append_L5 F nn w (nI (n - k) - 1) M') (fun r M' => r = nI (Tp 0 0 + n) ∧ cTp M' (tp_fd Tp w n) ∧ ∀ a i, ¬ (a = 68 ∧ i = 2) → a ≠ 69 → M'.1 a i = M.1 a i) := by
    intro m
    induction m with
    | zero =>
      intro k nn M' e1 e2 h1 h2 h3
      obtain ⟨nn, rfl⟩ : ∃ n', nn = n' + 1 := ⟨nn - 1, by omega⟩
      have : k = n := by omega
      subst this
      rw [Re_append_L5, Nat.sub_self, if_pos (by decide), h1]
      exact tq_some ⟨rfl, ⟨h1, h2⟩, h3⟩
    | succ m ih =>
      intro k nn M' e1 e2 h1 h2 h3
      obtain ⟨nn, rfl⟩ : ∃ n', nn = n' + 1 := ⟨nn - 1, by omega⟩
      rw [show nI (n - k) - 1 = nI (n - 1 - k) from by rw [show n - k = (n - 1 - k) + 1 by omega, nI_pred], Re_append_L5, if_neg (nI_pos (by omega)), h1, if_neg (show ¬ (500 : Int32) ≤ nI (Tp 0 0 + k) from nI_ge (b := 500) (by omega) (by omega)), tp_wr (by omega) (by omega), tp_pf, tp_wk (by omega), h1, nI_1, bt_c]
      have := ih (k + 1) nn (tv_w (tv_w M' 69 (Tp 0 0 + k) (i_sg (bt (w >>> ((8 * nI (n - 1 - k) : Int32).toInt64 &&& 63))))) 68 2 (nI (Tp 0 0 + k + 1))) (by omega) (by omega) tp_ws (fun i hi => ?_) (fun a i q1 q2 => ?_)
      · rw [show nI (n - (k + 1)) - 1 = nI (n - 1 - k) + (-1) from by
          rw [show n - (k + 1) = n - 1 - k by omega]; exact Int32.sub_eq_add_neg _ _] at this
        exact this
      · rw [tp_wk (by omega), tp_w]
        by_cases e : i = Tp 0 0 + k
        · subst e
          rw [if_pos ⟨rfl, rfl⟩]
          unfold tp_fd
          rw [if_neg (by omega), if_pos (by omega), show n - 1 - (Tp 0 0 + k - Tp 0 0) = n - 1 - k by omega]
        · rw [if_neg (fun w => e w.2)]; exact h2 i (by omega)
      · rw [tp_w, if_neg q1, tp_wk q2]; exact h3 a i q1 q2
  have := h n 0 F M (by omega) (by omega) hc.1 (fun i hi => ?_) (fun _ _ _ _ => rfl)
  · rw [Nat.sub_zero, show nI n - 1 = nI (n - 1) from nI_sub (b := 1) hn1] at this
    exact this
  · unfold tp_fd
    rw [if_neg (by omega), if_neg (by omega)]; exact hc.2 i (by omega)
theorem md_app {F n : Nat} {w : Int64} {M : tv_M} {Tp : Nat → Nat → Nat} (hF : 60 < F) (hn : n ≤ 8) (hn1 : 1 ≤ n) (hc : mTp M Tp) (hl : Tp 0 0 + n ≤ 500) : tq (Md_feed_L40 F F w (nI n - 1) M) (fun r M' => r = nI (Tp 0 0 + n) ∧ mTp M' (tp_fd Tp w n) ∧ ∀ a i, ¬ (a = 249 ∧ i = 24) → a ≠ 266 → M'.1 a i = M.1 a i) := by
  have h : ∀ m k nn M', k + m = n → m < nn → M'.1 249 24 = nI (Tp 0 0 + k) → (∀ i, i < Tp 0 0 + k → M'.1 266 i = nI (tp_fd Tp w n 1 i)) → (∀ a i, ¬ (a = 249 ∧ i = 24) → a ≠ 266 → M'.1 a i = M.1 a i) → tq (Md_feed_L40 F nn w (nI (n - k) - 1) M') (fun r M' => r = nI (Tp 0 0 + n) ∧ mTp M' (tp_fd Tp w n) ∧ ∀ a i, ¬ (a = 249 ∧ i = 24) → a ≠ 266 → M'.1 a i = M.1 a i) := by
    intro m
    induction m with
    | zero =>
      intro k nn M' e1 e2 h1 h2 h3
      obtain ⟨nn, rfl⟩ : ∃ n', nn = n' + 1 := ⟨nn - 1, by omega⟩
      have : k = n := by omega
      subst this
      rw [Md_feed_L40, Nat.sub_self, if_pos (by decide), h1]
      exact tq_some ⟨rfl, ⟨h1, h2⟩, h3⟩
    | succ m ih =>
      intro k nn M' e1 e2 h1 h2 h3
      obtain ⟨nn, rfl⟩ : ∃ n', nn = n' + 1 := ⟨nn - 1, by omega⟩
      rw [show nI (n - k) - 1 = nI (n - 1 - k) from by rw [show n - k = (n - 1 - k) + 1 by omega, nI_pred], Md_feed_L40, if_neg (nI_pos (by omega)), h1, tp_wr (by omega) (by omega), tp_pf, tp_wk (by omega), h1, nI_1, bt_m]
      have := ih (k + 1) nn (tv_w (tv_w M' 266 (Tp 0 0 + k) (nI (bt (w >>> ((8 * nI (n - 1 - k) : Int32).toInt64 &&& 63))))) 249 24 (nI (Tp 0 0 + k + 1))) (by omega) (by omega) tp_ws (fun i hi => ?_) (fun a i q1 q2 => ?_)
      · rw [show nI (n - (k + 1)) - 1 = nI (n - 1 - k) + (-1) from by
          rw [show n - (k + 1) = n - 1 - k by omega]; exact Int32.sub_eq_add_neg _ _] at this
        exact this
      · rw [tp_wk (by omega), tp_w]
        by_cases e : i = Tp 0 0 + k
        · subst e
          rw [if_pos ⟨rfl, rfl⟩]
          unfold tp_fd
          rw [if_neg (by omega), if_pos (by omega), show n - 1 - (Tp 0 0 + k - Tp 0 0) = n - 1 - k by omega]
        · rw [if_neg (fun w => e w.2)]; exact h2 i (by omega)
      · rw [tp_w, if_neg q1, tp_wk q2]; exact h3 a i q1 q2
  have := h n 0 F M (by omega) (by omega) hc.1 (fun i hi => ?_) (fun _ _ _ _ => rfl)
  · rw [Nat.sub_zero] at this
    exact this
  · unfold tp_fd
    rw [if_neg (by omega), if_neg (by omega)]; exact hc.2 i (by omega)
theorem op_feed {F : Nat} {w : Int64} {a : Int32} {M N : tv_M} {Tp : Nat → Nat → Nat} (hF : 60 < F) (hg : gTp Tp) (hc : cTp M Tp) (hm : mTp N Tp) : ∃ (r : Int32) (Tp' : Nat → Nat → Nat), gTp Tp' ∧ tq (Xx_feed F w a M) (fun q M' => q = r ∧ cTp M' Tp' ∧ ∀ a i, ¬ (a = 68 ∧ i = 2) → a ≠ 69 → M'.1 a i = M.1 a i) ∧ tq (Md_feed F w a N) (fun q N' => q = r ∧ mTp N' Tp' ∧ ∀ a i, ¬ (a = 249 ∧ (i = 0 ∨ i = 24)) → a ≠ 266 → N'.1 a i = N.1 a i) := by
  have hm0 : mTp (tv_w N 249 0 0) Tp := ⟨by rw [tp_wj (by omega)]; exact hm.1, fun i hi => by rw [tp_wk (by omega)]; exact hm.2 i hi⟩
  have e8 : Md_in F a.toInt64 1 8 (tv_w N 249 0 0) = some (if (1 : Int32) ≤ a ∧ a ≤ 8 then 1 else 0, tv_w N 249 0 0) := tp_in rfl rfl
  have hsame : ∀ r : Int32, Xx_feed F w a M = some (r, M) → Md_feed F w a N = some (r, tv_w N 249 0 0) → ∃ (r : Int32) (Tp' : Nat → Nat → Nat), gTp Tp' ∧ tq (Xx_feed F w a M) (fun q M' => q = r ∧ cTp M' Tp' ∧ ∀ a i, ¬ (a = 68 ∧ i = 2) → a ≠ 69 → M'.1 a i = M.1 a i) ∧ tq (Md_feed F w a N) (fun q N' => q = r ∧ mTp N' Tp' ∧ ∀ a i, ¬ (a = 249 ∧ (i = 0 ∨ i = 24)) → a ≠ 266 → N'.1 a i = N.1 a i) := fun r h1 h2 => ⟨r, Tp, hg, tq_eq h1 ⟨rfl, hc, fun _ _ _ _ => rfl⟩, tq_eq h2 ⟨rfl, hm0, fun a i q1 q2 => by rw [tp_w, if_neg (by omega)]⟩⟩
  have l1 : (1 : Int32).toInt = 1 := rfl
  have l8 : (8 : Int32).toInt = 8 := rfl
  have l500 : (500 : Int32).toInt = 500 := rfl
  by_cases h1 : a < 1
  · refine hsame (-1000001) ?_ ?_
    · unfold Xx_feed; rw [if_pos h1]
    · unfold Md_feed; rw [tp_pf, tp_cb e8, if_neg (show ¬ ((1 : Int32) ≤ a ∧ a ≤ 8) from fun q => Int32.not_lt.mpr q.1 h1), if_pos rfl]
  by_cases h2 : a ≤ 8
  · obtain ⟨n, hn, rfl⟩ : ∃ n : Nat, n < 2 ^ 31 ∧ a = nI n := nI_of (fun q => h1 (by rw [tp_lt] at q ⊢; rw [tp_0T] at q; omega))
    rw [tp_lt, nI_toInt hn, l1] at h1
    rw [tp_le, nI_toInt hn, l8] at h2
    have hlen := hg.1
    have er : Re_hasRoomFor F (nI n) M = some (if Tp 0 0 + n ≤ 500 then 1 else 0, M) := by
      unfold Re_hasRoomFor
      rw [hc.1, show (500 : Int32) - nI (Tp 0 0) = nI (500 - Tp 0 0) from nI_sub (a := 500) hlen]
      by_cases q : Tp 0 0 + n ≤ 500
      · rw [if_neg (nI_nlt (by omega) (by omega)), if_pos q]
      · rw [if_pos (nI_lt (by omega) (by omega)), if_neg q]
    have e1 : Xx_feed F w (nI n) M = if Tp 0 0 + n ≤ 500 then tv_cb (Re_append F w (nI n) M) (fun r3 M4 => some (r3, M4)) else some (-1000003, M) := by
      unfold Xx_feed
      rw [if_neg (show ¬ nI n < 1 from nI_nlt (b := 1) (by omega) (by omega)), if_pos (show nI n ≤ 8 from nI_le (b := 8) (by omega) (by omega)), tp_cb er]
      by_cases q : Tp 0 0 + n ≤ 500
      · rw [if_pos q, if_pos q, if_neg (show ¬ (1 : Int32) = 0 by decide)]
      · rw [if_neg q, if_neg q, if_pos rfl]
    have e2 : Md_feed F w (nI n) N = if Tp 0 0 + n ≤ 500 then Md_feed_L40 F F w (nI n - 1) (tv_w N 249 0 0) else some (-1000003, tv_w N 249 0 0) := by
      unfold Md_feed
      rw [tp_pf, tp_cb e8, if_pos (show (1 : Int32) ≤ nI n ∧ nI n ≤ 8 from ⟨nI_le (a := 1) (by omega) (by omega), nI_le (b := 8) (by omega) (by omega)⟩), if_neg (show ¬ (1 : Int32) = 0 by decide), hm0.1, nI_add]
      by_cases q : Tp 0 0 + n ≤ 500
      · rw [if_pos (show nI (Tp 0 0 + n) ≤ 500 from nI_le (b := 500) q (by omega)), if_pos q]
      · rw [if_neg (show ¬ nI (Tp 0 0 + n) ≤ 500 from nI_ge (a := 500) (by omega) (by omega)), if_neg q]
    by_cases q : Tp 0 0 + n ≤ 500
    · rw [if_pos q] at e1 e2
      refine ⟨nI (Tp 0 0 + n), tp_fd Tp w n, ⟨by show Tp 0 0 + n ≤ 500; exact q, fun i => ?_⟩, ?_, ?_⟩
      · unfold tp_fd
        rw [if_neg (by omega)]
        by_cases v : 1 = 1 ∧ Tp 0 0 ≤ i ∧ i < Tp 0 0 + n
        · rw [if_pos v]; exact bt_lt _
        · rw [if_neg v]; exact hg.2 i
      · rw [e1]
        exact tq_cb (re_app hF (by omega) (by omega) hc q) (fun r M' h => tq_some h)
      · rw [e2]
        refine tq_mono (md_app hF (by omega) (by omega) hm0 q) (fun r N' h => ⟨h.1, h.2.1, fun a i q1 q2 => ?_⟩)
        rw [h.2.2 a i (by omega) q2, tp_w, if_neg (by omega)]
    · rw [if_neg q] at e1 e2
      exact hsame _ e1 e2
  · refine hsame (-1000001) ?_ ?_
    · unfold Xx_feed; rw [if_neg h1, if_neg h2]
    · unfold Md_feed; rw [tp_pf, tp_cb e8, if_neg (show ¬ ((1 : Int32) ≤ a ∧ a ≤ 8) from fun q => h2 q.2), if_pos rfl]
