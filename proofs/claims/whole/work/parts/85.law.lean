/-! THE FIRST MEMORY, AND THE LAW'S LOOP -/
section LAWEND
theorem st_0 {p : Int32} {k j : Nat} (h : ¬ ((j = 0 ∧ (k = 0 ∨ k = 18 ∨ k = 71 ∨ k = 106)) ∨ (k = 249 ∧ j = 2) ∨ (k = 71 ∧ j = 1) ∨ (k = 106 ∧ j = 1) ∨ (j = 0 ∧ 2 ≤ k ∧ k < 18 ∧ k % 2 = 0) ∨ ((k = 195 ∨ k = 250) ∧ j < 8) ∨ (j = 0 ∧ 22 ≤ k ∧ k < 38 ∧ k % 2 = 0))) : (st_M p).1 k j = 0 := by
  show (if k < 281 then st_I p k j else 0) = 0
  unfold st_I
  by_cases w : k < 281
  · rw [if_pos w, if_neg (by omega), if_neg (by omega), if_neg (by omega), if_neg (by omega), if_neg (by omega), if_neg (by omega), if_neg (by omega)]
  · rw [if_neg w]
theorem st_m1 {p : Int32} {k j : Nat} (h : (j = 0 ∧ 2 ≤ k ∧ k < 18 ∧ k % 2 = 0) ∨ ((k = 195 ∨ k = 250) ∧ j < 8)) : (st_M p).1 k j = -1 := by
  show (if k < 281 then st_I p k j else 0) = -1
  unfold st_I
  rw [if_pos (by omega), if_neg (by omega), if_neg (by omega), if_neg (by omega), if_neg (by omega)]
  by_cases w : j = 0 ∧ 2 ≤ k ∧ k < 18 ∧ k % 2 = 0
  · rw [if_pos w]
  · rw [if_neg w, if_pos (by omega)]
theorem st_ey {p : Int32} {e : Nat} (h : e < 8) : (st_M p).1 (22 + 2 * e) 0 = nI e := by
  show (if 22 + 2 * e < 281 then st_I p (22 + 2 * e) 0 else 0) = _
  unfold st_I
  rw [if_pos (by omega), if_neg (by omega), if_neg (by omega), if_neg (by omega), if_neg (by omega), if_neg (by omega), if_neg (by omega), if_pos (by omega), show (22 + 2 * e - 22) / 2 = e by omega]; rfl
theorem st_p {p : Int32} : (st_M p).1 0 0 = p ∧ (st_M p).1 18 0 = p ∧ (st_M p).1 71 0 = p ∧ (st_M p).1 106 0 = p ∧ (st_M p).1 249 2 = p ∧ (st_M p).1 71 1 = 30 ∧ (st_M p).1 106 1 = 1 := ⟨rfl, rfl, rfl, rfl, rfl, rfl, rfl⟩
theorem st_JJ {p : Nat} (hp : tp_pr p) : JJ p (st_M (nI p)) (st_M (nI p)) := by
  have hp2 := hp.lt
  obtain ⟨a1, a2, a3, a4, a5, a6, a7⟩ := st_p (p := nI p)
  refine ⟨fun _ _ => 0, fun _ _ => 0, fun _ _ => 0, fun _ _ => 0, fun _ _ => 0, fun _ _ => 0, fun _ _ => 0, fun _ => 0, fun _ => 0, ⟨fun s hs => ⟨Nat.zero_le _, Nat.zero_le _⟩, Nat.zero_le _, ⟨Nat.zero_le _, Nat.zero_le _, Nat.zero_le _, rfl, rfl, fun e he => absurd he (Nat.not_lt_zero _), fun e he => absurd he (Nat.not_lt_zero _), fun e he => absurd he (Nat.not_lt_zero _)⟩, ⟨Nat.zero_le _, fun i => by show 0 < 256; omega⟩, ⟨fun e he => absurd he (Nat.not_lt_zero _), fun c => by show 0 < p; omega⟩, fun e he => absurd he (Nat.not_lt_zero _), ⟨Nat.zero_le _, fun e _ => rfl, fun e he => absurd he (Nat.not_lt_zero _), fun c => ⟨by show 0 < p; omega, fun _ => rfl⟩⟩, Nat.zero_le _⟩, ⟨fun s hs => ⟨st_m1 (by omega), fun w => absurd rfl w⟩, ⟨a1, st_0 (by omega)⟩, ⟨a2, st_0 (by omega), st_0 (by omega), st_0 (by omega), st_0 (by omega), st_0 (by omega), fun e he => st_ey he, fun e he => absurd he (Nat.not_lt_zero _), fun e he => absurd he (Nat.not_lt_zero _), fun k i hk => absurd hk (Nat.not_lt_zero _)⟩, ⟨st_0 (by omega), fun i hi => absurd hi (Nat.not_lt_zero _)⟩, st_0 (by omega), fun e he => absurd he (Nat.not_lt_zero _), fun e he => absurd he (Nat.not_lt_zero _), ⟨fun e v i he => absurd he (Nat.not_lt_zero _), fun e he => absurd he (Nat.not_lt_zero _)⟩, Or.inl (st_0 (by omega)), ⟨st_0 (by omega), fun e he => st_m1 (by omega), fun e he w => absurd rfl w, fun c hc => st_0 (by omega)⟩, Or.inl (st_0 (by omega)), ⟨⟨a3, st_0 (by omega), st_0 (by omega), st_0 (by omega), st_0 (by omega), st_0 (by omega), fun l x hl => absurd hl (Nat.not_lt_zero _), fun l hl => absurd hl (Nat.not_lt_zero _), fun k hk => absurd hk (Nat.not_lt_zero _), fun k hk => absurd hk (Nat.not_lt_zero _)⟩, a6, a4, a7⟩, Or.inl (st_0 (by omega)), Or.inl (st_0 (by omega)), ⟨st_0 (by omega), fun i hi => absurd hi (Nat.not_lt_zero _)⟩⟩, ⟨fun s hs => ⟨st_m1 (by omega), fun w => absurd rfl w⟩, ⟨st_0 (by omega), st_0 (by omega)⟩, ⟨a5, st_0 (by omega), st_0 (by omega), st_0 (by omega), st_0 (by omega), fun e he => absurd he (Nat.not_lt_zero _), fun e he => absurd he (Nat.not_lt_zero _), fun e he => absurd he (Nat.not_lt_zero _)⟩, ⟨st_0 (by omega), fun i hi => absurd hi (Nat.not_lt_zero _)⟩, fun e he => absurd he (Nat.not_lt_zero _), fun e he => absurd he (Nat.not_lt_zero _), fun e v i h1 h2 h3 => st_0 (by omega), ⟨st_0 (by omega), fun e he => absurd he (Nat.not_lt_zero _), fun e he => absurd he (Nat.not_lt_zero _), fun c hc => absurd hc (Nat.not_lt_zero _)⟩, ⟨st_0 (by omega), fun i hi => absurd hi (Nat.not_lt_zero _)⟩⟩⟩
theorem tl_rdj {L j : Nat} {xs : Nat → Int32} {f : Int32 → Option (Int32 × tv_M)} (h : j < L) (hL : L ≤ 3073) : tl_rd L xs (nI j) f = f (xs j) := by
  unfold tl_rd
  rw [if_pos (tp_inb h (by omega)), nI_clamp (by omega)]
set_option maxHeartbeats 4000000 in
theorem lw_loop {F L p : Nat} {xs : Nat → Int32} (hF : 200000 < F) (hp : tp_pr p) (hL : L ≤ 3073) (h6 : 6 ≤ L) : ∀ d nn j (M : tv_M), L - j ≤ d → d < nn → j ≤ 3079 → JJ p M M → ∃ r M', Lw_law_L28 F L xs nn (nI j) M = some (r, M') := by
  intro d
  induction d with
  | zero =>
    intro nn j M e1 e2 e3 h
    obtain ⟨nn, rfl⟩ : ∃ n', nn = n' + 1 := ⟨nn - 1, by omega⟩
    rw [Lw_law_L28, if_pos (show Int32.ofNat L - 6 < nI j from by
      show nI L - nI 6 < nI j
      rw [nI_sub h6]; exact nI_lt (by omega) (by omega))]
    exact ⟨_, _, rfl⟩
  | succ d ih =>
    intro nn j M e1 e2 e3 h
    obtain ⟨nn, rfl⟩ : ∃ n', nn = n' + 1 := ⟨nn - 1, by omega⟩
    by_cases hj : L - 6 < j
    · rw [Lw_law_L28, if_pos (show Int32.ofNat L - 6 < nI j from by
        show nI L - nI 6 < nI j
        rw [nI_sub h6]; exact nI_lt hj (by omega))]
      exact ⟨_, _, rfl⟩
    · have go : ∀ N', JJ p N' N' → ∃ r M', Lw_law_L28 F L xs nn (nI (j + 6)) N' = some (r, M') := fun N' hN => ih nn (j + 6) N' (by omega) (by omega) (by omega) hN
      rw [Lw_law_L28, if_neg (show ¬ Int32.ofNat L - 6 < nI j from by
        show ¬ nI L - nI 6 < nI j
        rw [nI_sub h6]; exact nI_nlt (by omega) (by omega)), show (nI j + 1 : Int32) = nI (j + 1) from nI_add _ 1, show (nI j + 2 : Int32) = nI (j + 2) from nI_add _ 2, show (nI j + 3 : Int32) = nI (j + 3) from nI_add _ 3, show (nI j + 4 : Int32) = nI (j + 4) from nI_add _ 4, show (nI j + 5 : Int32) = nI (j + 5) from nI_add _ 5, show (nI j + 6 : Int32) = nI (j + 6) from nI_add _ 6, tl_rdj (by omega) hL]
      by_cases k0 : (xs j &&& 31) = 0
      · obtain ⟨r, M', N', a1, a2, a3⟩ := lw_one (x := fun M => Xx_sheet F (xs (j + 1)) (xs (j + 2)) (xs (j + 3)) M) (y := fun M => Md_sheet F (xs (j + 1)) (xs (j + 2)) (xs (j + 3)) M) (fun M N h => jj_sheet hF hp h) h
        have a1 : Xx_sheet F (xs (j + 1)) (xs (j + 2)) (xs (j + 3)) M = some (r, M') := a1
        have a2 : Md_sheet F (xs (j + 1)) (xs (j + 2)) (xs (j + 3)) M' = some (r, N') := a2
        rw [if_pos k0, tl_rdj (by omega) hL, tl_rdj (by omega) hL, tl_rdj (by omega) hL, tp_cb a1, tl_rdj (by omega) hL, tl_rdj (by omega) hL, tl_rdj (by omega) hL, tp_cb a2, if_pos rfl]
        exact go N' a3
      rw [if_neg k0]
      by_cases k1 : (xs j &&& 31) = 1
      · obtain ⟨r, M', N', a1, a2, a3⟩ := lw_one (x := fun M => Xx_set F (xs (j + 1)) (xs (j + 2)) (xs (j + 3)) M) (y := fun M => Md_set F (xs (j + 1)) (xs (j + 2)) (xs (j + 3)) M) (fun M N h => jj_set hF hp h) h
        have a1 : Xx_set F (xs (j + 1)) (xs (j + 2)) (xs (j + 3)) M = some (r, M') := a1
        have a2 : Md_set F (xs (j + 1)) (xs (j + 2)) (xs (j + 3)) M' = some (r, N') := a2
        rw [if_pos k1, tl_rdj (by omega) hL, tl_rdj (by omega) hL, tl_rdj (by omega) hL, tp_cb a1, tl_rdj (by omega) hL, tl_rdj (by omega) hL, tl_rdj (by omega) hL, tp_cb a2, if_pos rfl]
        exact go N' a3
      rw [if_neg k1]
      by_cases k2 : (xs j &&& 31) = 2
      · obtain ⟨r, M', N', a1, a2, a3⟩ := lw_one (x := fun M => Xx_copy F (xs (j + 1)) (xs (j + 2)) (xs (j + 3)) (xs (j + 4)) (xs (j + 5)) M) (y := fun M => Md_copy F (xs (j + 1)) (xs (j + 2)) (xs (j + 3)) (xs (j + 4)) (xs (j + 5)) M) (fun M N h => jj_copy hF hp h) h
        have a1 : Xx_copy F (xs (j + 1)) (xs (j + 2)) (xs (j + 3)) (xs (j + 4)) (xs (j + 5)) M = some (r, M') := a1
        have a2 : Md_copy F (xs (j + 1)) (xs (j + 2)) (xs (j + 3)) (xs (j + 4)) (xs (j + 5)) M' = some (r, N') := a2
        rw [if_pos k2, tl_rdj (by omega) hL, tl_rdj (by omega) hL, tl_rdj (by omega) hL, tl_rdj (by omega) hL, tl_rdj (by omega) hL, tp_cb a1, tl_rdj (by omega) hL, tl_rdj (by omega) hL, tl_rdj (by omega) hL, tl_rdj (by omega) hL, tl_rdj (by omega) hL, tp_cb a2, if_pos rfl]
        exact go N' a3
      rw [if_neg k2]
      by_cases k3 : (xs j &&& 31) = 3
      · obtain ⟨r, M', N', a1, a2, a3⟩ := lw_one (x := fun M => Xx_drop F (xs (j + 1)) M) (y := fun M => Md_drop F (xs (j + 1)) M) (fun M N h => jj_drop hF hp h) h
        have a1 : Xx_drop F (xs (j + 1)) M = some (r, M') := a1
        have a2 : Md_drop F (xs (j + 1)) M' = some (r, N') := a2
        rw [if_pos k3, tl_rdj (by omega) hL, tp_cb a1, tl_rdj (by omega) hL, tp_cb a2, if_pos rfl]
        exact go N' a3
      rw [if_neg k3]
      by_cases k4 : (xs j &&& 31) = 4
      · obtain ⟨r, M', N', a1, a2, a3⟩ := lw_one (x := fun M => Xx_feed F ((((xs (j + 1)).toInt64) <<< ((32 : Int32).toInt64 &&& 63)) ||| (((xs (j + 2)).toInt64) &&& 4294967295)) (xs (j + 3)) M) (y := fun M => Md_feed F ((((xs (j + 1)).toInt64) <<< ((32 : Int32).toInt64 &&& 63)) ||| (((xs (j + 2)).toInt64) &&& 4294967295)) (xs (j + 3)) M) (fun M N h => jj_feed hF hp h) h
        have a1 : Xx_feed F ((((xs (j + 1)).toInt64) <<< ((32 : Int32).toInt64 &&& 63)) ||| (((xs (j + 2)).toInt64) &&& 4294967295)) (xs (j + 3)) M = some (r, M') := a1
        have a2 : Md_feed F ((((xs (j + 1)).toInt64) <<< ((32 : Int32).toInt64 &&& 63)) ||| (((xs (j + 2)).toInt64) &&& 4294967295)) (xs (j + 3)) M' = some (r, N') := a2
        rw [if_pos k4, tl_rdj (by omega) hL, tl_rdj (by omega) hL, tl_rdj (by omega) hL, tp_cb a1, tl_rdj (by omega) hL, tl_rdj (by omega) hL, tl_rdj (by omega) hL, tp_cb a2, if_pos rfl]
        exact go N' a3
      rw [if_neg k4]
      by_cases k5 : (xs j &&& 31) = 5
      · obtain ⟨r, M', N', a1, a2, a3⟩ := lw_one (x := fun M => Xx_read F M) (y := fun M => Md_read F M) (fun M N h => jj_read hF hp h) h
        have a1 : Xx_read F M = some (r, M') := a1
        have a2 : Md_read F M' = some (r, N') := a2
        rw [if_pos k5, tp_cb a1, tp_cb a2, if_pos rfl]
        exact go N' a3
      rw [if_neg k5]
      by_cases k6 : (xs j &&& 31) = 6
      · obtain ⟨r, M', N', a1, a2, a3⟩ := lw_one (x := fun M => Xx_fault F M) (y := fun M => Md_fault F M) (fun M N h => jj_fault hF hp h) h
        have a1 : Xx_fault F M = some (r, M') := a1
        have a2 : Md_fault F M' = some (r, N') := a2
        rw [if_pos k6, tp_cb a1, tp_cb a2, if_pos rfl]
        exact go N' a3
      rw [if_neg k6]
      by_cases k7 : (xs j &&& 31) = 7
      · obtain ⟨r, M', N', a1, a2, a3⟩ := lw_one (x := fun M => Xx_eye F (xs (j + 1)) (xs (j + 2)) M) (y := fun M => Md_eye F (xs (j + 1)) (xs (j + 2)) M) (fun M N h => jj_eye hF hp h) h
        have a1 : Xx_eye F (xs (j + 1)) (xs (j + 2)) M = some (r, M') := a1
        have a2 : Md_eye F (xs (j + 1)) (xs (j + 2)) M' = some (r, N') := a2
        rw [if_pos k7, tl_rdj (by omega) hL, tl_rdj (by omega) hL, tp_cb a1, tl_rdj (by omega) hL, tl_rdj (by omega) hL, tp_cb a2, if_pos rfl]
        exact go N' a3
      rw [if_neg k7]
      by_cases k8 : (xs j &&& 31) = 8
      · obtain ⟨r, M', N', a1, a2, a3⟩ := lw_one (x := fun M => Xx_all F (xs (j + 1)) M) (y := fun M => Md_all F (xs (j + 1)) M) (fun M N h => jj_all hF hp h) h
        have a1 : Xx_all F (xs (j + 1)) M = some (r, M') := a1
        have a2 : Md_all F (xs (j + 1)) M' = some (r, N') := a2
        rw [if_pos k8, tl_rdj (by omega) hL, tp_cb a1, tl_rdj (by omega) hL, tp_cb a2, if_pos rfl]
        exact go N' a3
      rw [if_neg k8]
      by_cases k9 : (xs j &&& 31) = 9
      · obtain ⟨r, M', N', a1, a2, a3⟩ := lw_one (x := fun M => Xx_basis F (xs (j + 1)) (xs (j + 2)) M) (y := fun M => Md_basis F (xs (j + 1)) (xs (j + 2)) M) (fun M N h => jj_basis hF hp h) h
        have a1 : Xx_basis F (xs (j + 1)) (xs (j + 2)) M = some (r, M') := a1
        have a2 : Md_basis F (xs (j + 1)) (xs (j + 2)) M' = some (r, N') := a2
        rw [if_pos k9, tl_rdj (by omega) hL, tl_rdj (by omega) hL, tp_cb a1, tl_rdj (by omega) hL, tl_rdj (by omega) hL, tp_cb a2, if_pos rfl]
        exact go N' a3
      rw [if_neg k9]
      by_cases k10 : (xs j &&& 31) = 10
      · obtain ⟨r, M', N', a1, a2, a3⟩ := lw_one (x := fun M => Xx_reading F (xs (j + 1)) (xs (j + 2)) (xs (j + 3)) M) (y := fun M => Md_reading F (xs (j + 1)) (xs (j + 2)) (xs (j + 3)) M) (fun M N h => jj_reading hF hp h) h
        have a1 : Xx_reading F (xs (j + 1)) (xs (j + 2)) (xs (j + 3)) M = some (r, M') := a1
        have a2 : Md_reading F (xs (j + 1)) (xs (j + 2)) (xs (j + 3)) M' = some (r, N') := a2
        rw [if_pos k10, tl_rdj (by omega) hL, tl_rdj (by omega) hL, tl_rdj (by omega) hL, tp_cb a1, tl_rdj (by omega) hL, tl_rdj (by omega) hL, tl_rdj (by omega) hL, tp_cb a2, if_pos rfl]
        exact go N' a3
      rw [if_neg k10]
      by_cases k11 : (xs j &&& 31) = 11
      · obtain ⟨r, M', N', a1, a2, a3⟩ := lw_one (x := fun M => Xx_unread F (xs (j + 1)) M) (y := fun M => Md_unread F (xs (j + 1)) M) (fun M N h => jj_unread hF hp h) h
        have a1 : Xx_unread F (xs (j + 1)) M = some (r, M') := a1
        have a2 : Md_unread F (xs (j + 1)) M' = some (r, N') := a2
        rw [if_pos k11, tl_rdj (by omega) hL, tp_cb a1, tl_rdj (by omega) hL, tp_cb a2, if_pos rfl]
        exact go N' a3
      rw [if_neg k11]
      by_cases k12 : (xs j &&& 31) = 12
      · obtain ⟨r, M', N', a1, a2, a3⟩ := lw_one (x := fun M => Xx_fill F (xs (j + 1)) M) (y := fun M => Md_fill F (xs (j + 1)) M) (fun M N h => jj_fill hF hp h) h
        have a1 : Xx_fill F (xs (j + 1)) M = some (r, M') := a1
        have a2 : Md_fill F (xs (j + 1)) M' = some (r, N') := a2
        rw [if_pos k12, tl_rdj (by omega) hL, tp_cb a1, tl_rdj (by omega) hL, tp_cb a2, if_pos rfl]
        exact go N' a3
      rw [if_neg k12]
      by_cases k13 : (xs j &&& 31) = 13
      · obtain ⟨r, M', N', a1, a2, a3⟩ := lw_one (x := fun M => Xx_fixed F (xs (j + 1)) M) (y := fun M => Md_fixed F (xs (j + 1)) M) (fun M N h => jj_fixed hF hp h) h
        have a1 : Xx_fixed F (xs (j + 1)) M = some (r, M') := a1
        have a2 : Md_fixed F (xs (j + 1)) M' = some (r, N') := a2
        rw [if_pos k13, tl_rdj (by omega) hL, tp_cb a1, tl_rdj (by omega) hL, tp_cb a2, if_pos rfl]
        exact go N' a3
      rw [if_neg k13]
      by_cases k14 : (xs j &&& 31) = 14
      · obtain ⟨r, M', N', a1, a2, a3⟩ := lw_one (x := fun M => Xx_fewest F M) (y := fun M => Md_fewest F M) (fun M N h => jj_fewest hF hp h) h
        have a1 : Xx_fewest F M = some (r, M') := a1
        have a2 : Md_fewest F M' = some (r, N') := a2
        rw [if_pos k14, tp_cb a1, tp_cb a2, if_pos rfl]
        exact go N' a3
      rw [if_neg k14]
      by_cases k15 : (xs j &&& 31) = 15
      · obtain ⟨r, M', N', a1, a2, a3⟩ := lw_one (x := fun M => Xx_met F (xs (j + 1)) (xs (j + 2)) (xs (j + 3)) M) (y := fun M => Md_met F (xs (j + 1)) (xs (j + 2)) (xs (j + 3)) M) (fun M N h => jj_met hF hp h) h
        have a1 : Xx_met F (xs (j + 1)) (xs (j + 2)) (xs (j + 3)) M = some (r, M') := a1
        have a2 : Md_met F (xs (j + 1)) (xs (j + 2)) (xs (j + 3)) M' = some (r, N') := a2
        rw [if_pos k15, tl_rdj (by omega) hL, tl_rdj (by omega) hL, tl_rdj (by omega) hL, tp_cb a1, tl_rdj (by omega) hL, tl_rdj (by omega) hL, tl_rdj (by omega) hL, tp_cb a2, if_pos rfl]
        exact go N' a3
      rw [if_neg k15]
      by_cases k16 : (xs j &&& 31) = 16
      · obtain ⟨r, M', N', a1, a2, a3⟩ := lw_one (x := fun M => Xx_cost F (xs (j + 1)) M) (y := fun M => Md_cost F (xs (j + 1)) M) (fun M N h => jj_cost hF hp h) h
        have a1 : Xx_cost F (xs (j + 1)) M = some (r, M') := a1
        have a2 : Md_cost F (xs (j + 1)) M' = some (r, N') := a2
        rw [if_pos k16, tl_rdj (by omega) hL, tp_cb a1, tl_rdj (by omega) hL, tp_cb a2, if_pos rfl]
        exact go N' a3
      rw [if_neg k16]
      by_cases k17 : (xs j &&& 31) = 17
      · obtain ⟨r, M', N', a1, a2, a3⟩ := lw_one (x := fun M => Xx_hear F (xs (j + 1)) (xs (j + 2)) (xs (j + 3)) M) (y := fun M => Md_hear F (xs (j + 1)) (xs (j + 2)) (xs (j + 3)) M) (fun M N h => jj_hear hF hp h) h
        have a1 : Xx_hear F (xs (j + 1)) (xs (j + 2)) (xs (j + 3)) M = some (r, M') := a1
        have a2 : Md_hear F (xs (j + 1)) (xs (j + 2)) (xs (j + 3)) M' = some (r, N') := a2
        rw [if_pos k17, tl_rdj (by omega) hL, tl_rdj (by omega) hL, tl_rdj (by omega) hL, tp_cb a1, tl_rdj (by omega) hL, tl_rdj (by omega) hL, tl_rdj (by omega) hL, tp_cb a2, if_pos rfl]
        exact go N' a3
      rw [if_neg k17]
      by_cases k18 : (xs j &&& 31) = 18
      · obtain ⟨r, M', N', a1, a2, a3⟩ := lw_one (x := fun M => Xx_now F (xs (j + 1)) (xs (j + 2)) (xs (j + 3)) M) (y := fun M => Md_now F (xs (j + 1)) (xs (j + 2)) (xs (j + 3)) M) (fun M N h => jj_now hF hp h) h
        have a1 : Xx_now F (xs (j + 1)) (xs (j + 2)) (xs (j + 3)) M = some (r, M') := a1
        have a2 : Md_now F (xs (j + 1)) (xs (j + 2)) (xs (j + 3)) M' = some (r, N') := a2
        rw [if_pos k18, tl_rdj (by omega) hL, tl_rdj (by omega) hL, tl_rdj (by omega) hL, tp_cb a1, tl_rdj (by omega) hL, tl_rdj (by omega) hL, tl_rdj (by omega) hL, tp_cb a2, if_pos rfl]
        exact go N' a3
      rw [if_neg k18]
      by_cases k19 : (xs j &&& 31) = 19
      · obtain ⟨r, M', N', a1, a2, a3⟩ := lw_one (x := fun M => Xx_tick F (xs (j + 1)) M) (y := fun M => Md_tick F (xs (j + 1)) M) (fun M N h => jj_tick hF hp h) h
        have a1 : Xx_tick F (xs (j + 1)) M = some (r, M') := a1
        have a2 : Md_tick F (xs (j + 1)) M' = some (r, N') := a2
        rw [if_pos k19, tl_rdj (by omega) hL, tp_cb a1, tl_rdj (by omega) hL, tp_cb a2, if_pos rfl]
        exact go N' a3
      rw [if_neg k19]
      by_cases k20 : (xs j &&& 31) = 20
      · obtain ⟨r, M', N', a1, a2, a3⟩ := lw_one (x := fun M => Xx_says F (xs (j + 1)) (xs (j + 2)) M) (y := fun M => Md_says F (xs (j + 1)) (xs (j + 2)) M) (fun M N h => jj_says hF hp h) h
        have a1 : Xx_says F (xs (j + 1)) (xs (j + 2)) M = some (r, M') := a1
        have a2 : Md_says F (xs (j + 1)) (xs (j + 2)) M' = some (r, N') := a2
        rw [if_pos k20, tl_rdj (by omega) hL, tl_rdj (by omega) hL, tp_cb a1, tl_rdj (by omega) hL, tl_rdj (by omega) hL, tp_cb a2, if_pos rfl]
        exact go N' a3
      rw [if_neg k20]
      by_cases k21 : (xs j &&& 31) = 21
      · obtain ⟨r, M', N', a1, a2, a3⟩ := lw_one (x := fun M => Xx_settles F (xs (j + 1)) M) (y := fun M => Md_settles F (xs (j + 1)) M) (fun M N h => jj_settles hF hp h) h
        have a1 : Xx_settles F (xs (j + 1)) M = some (r, M') := a1
        have a2 : Md_settles F (xs (j + 1)) M' = some (r, N') := a2
        rw [if_pos k21, tl_rdj (by omega) hL, tp_cb a1, tl_rdj (by omega) hL, tp_cb a2, if_pos rfl]
        exact go N' a3
      rw [if_neg k21]
      by_cases k22 : (xs j &&& 31) = 22
      · obtain ⟨r, M', N', a1, a2, a3⟩ := lw_one (x := fun M => Xx_choose F (xs (j + 1)) (xs (j + 2)) M) (y := fun M => Md_choose F (xs (j + 1)) (xs (j + 2)) M) (fun M N h => jj_choose hF hp h) h
        have a1 : Xx_choose F (xs (j + 1)) (xs (j + 2)) M = some (r, M') := a1
        have a2 : Md_choose F (xs (j + 1)) (xs (j + 2)) M' = some (r, N') := a2
        rw [if_pos k22, tl_rdj (by omega) hL, tl_rdj (by omega) hL, tp_cb a1, tl_rdj (by omega) hL, tl_rdj (by omega) hL, tp_cb a2, if_pos rfl]
        exact go N' a3
      rw [if_neg k22]
      by_cases k23 : (xs j &&& 31) = 23
      · obtain ⟨r, M', N', a1, a2, a3⟩ := lw_one (x := fun M => Xx_narrow F M) (y := fun M => Md_narrow F M) (fun M N h => jj_narrow hF hp h) h
        have a1 : Xx_narrow F M = some (r, M') := a1
        have a2 : Md_narrow F M' = some (r, N') := a2
        rw [if_pos k23, tp_cb a1, tp_cb a2, if_pos rfl]
        exact go N' a3
      rw [if_neg k23]
      by_cases k24 : (xs j &&& 31) = 24
      · obtain ⟨r, M', N', a1, a2, a3⟩ := lw_one (x := fun M => Xx_fills F (xs (j + 1)) M) (y := fun M => Md_fills F (xs (j + 1)) M) (fun M N h => jj_fills hF hp h) h
        have a1 : Xx_fills F (xs (j + 1)) M = some (r, M') := a1
        have a2 : Md_fills F (xs (j + 1)) M' = some (r, N') := a2
        rw [if_pos k24, tl_rdj (by omega) hL, tp_cb a1, tl_rdj (by omega) hL, tp_cb a2, if_pos rfl]
        exact go N' a3
      rw [if_neg k24]
      by_cases k25 : (xs j &&& 31) = 25
      · obtain ⟨r, M', N', a1, a2, a3⟩ := lw_one (x := fun M => Xx_kind F (xs (j + 1)) M) (y := fun M => Md_kind F (xs (j + 1)) M) (fun M N h => jj_kind hF hp h) h
        have a1 : Xx_kind F (xs (j + 1)) M = some (r, M') := a1
        have a2 : Md_kind F (xs (j + 1)) M' = some (r, N') := a2
        rw [if_pos k25, tl_rdj (by omega) hL, tp_cb a1, tl_rdj (by omega) hL, tp_cb a2, if_pos rfl]
        exact go N' a3
      rw [if_neg k25]
      by_cases k26 : (xs j &&& 31) = 26
      · obtain ⟨r, M', N', a1, a2, a3⟩ := lw_one (x := fun M => Xx_as F (xs (j + 1)) (xs (j + 2)) M) (y := fun M => Md_as F (xs (j + 1)) (xs (j + 2)) M) (fun M N h => jj_as hF hp h) h
        have a1 : Xx_as F (xs (j + 1)) (xs (j + 2)) M = some (r, M') := a1
        have a2 : Md_as F (xs (j + 1)) (xs (j + 2)) M' = some (r, N') := a2
        rw [if_pos k26, tl_rdj (by omega) hL, tl_rdj (by omega) hL, tp_cb a1, tl_rdj (by omega) hL, tl_rdj (by omega) hL, tp_cb a2, if_pos rfl]
        exact go N' a3
      rw [if_neg k26]
      by_cases k27 : (xs j &&& 31) = 27
      · obtain ⟨r, M', N', a1, a2, a3⟩ := lw_one (x := fun M => Xx_ask F (xs (j + 1)) (xs (j + 2)) M) (y := fun M => Md_ask F (xs (j + 1)) (xs (j + 2)) M) (fun M N h => jj_ask hF hp h) h
        have a1 : Xx_ask F (xs (j + 1)) (xs (j + 2)) M = some (r, M') := a1
        have a2 : Md_ask F (xs (j + 1)) (xs (j + 2)) M' = some (r, N') := a2
        rw [if_pos k27, tl_rdj (by omega) hL, tl_rdj (by omega) hL, tp_cb a1, tl_rdj (by omega) hL, tl_rdj (by omega) hL, tp_cb a2, if_pos rfl]
        exact go N' a3
      rw [if_neg k27]
      by_cases k28 : (xs j &&& 31) = 28
      · obtain ⟨r, M', N', a1, a2, a3⟩ := lw_one (x := fun M => Xx_trace F (xs (j + 1)) M) (y := fun M => Md_trace F (xs (j + 1)) M) (fun M N h => jj_trace hF hp h) h
        have a1 : Xx_trace F (xs (j + 1)) M = some (r, M') := a1
        have a2 : Md_trace F (xs (j + 1)) M' = some (r, N') := a2
        rw [if_pos k28, tl_rdj (by omega) hL, tp_cb a1, tl_rdj (by omega) hL, tp_cb a2, if_pos rfl]
        exact go N' a3
      rw [if_neg k28]
      by_cases k29 : (xs j &&& 31) = 29
      · obtain ⟨r, M', N', a1, a2, a3⟩ := lw_one (x := fun M => Xx_count F (xs (j + 1)) M) (y := fun M => Md_count F (xs (j + 1)) M) (fun M N h => jj_count hF hp h) h
        have a1 : Xx_count F (xs (j + 1)) M = some (r, M') := a1
        have a2 : Md_count F (xs (j + 1)) M' = some (r, N') := a2
        rw [if_pos k29, tl_rdj (by omega) hL, tp_cb a1, tl_rdj (by omega) hL, tp_cb a2, if_pos rfl]
        exact go N' a3
      rw [if_neg k29]
      by_cases k30 : (xs j &&& 31) = 30
      · obtain ⟨r, M', N', a1, a2, a3⟩ := lw_one (x := fun M => Xx_status F M) (y := fun M => Md_status F M) (fun M N h => jj_status hF hp h) h
        have a1 : Xx_status F M = some (r, M') := a1
        have a2 : Md_status F M' = some (r, N') := a2
        rw [if_pos k30, tp_cb a1, tp_cb a2, if_pos rfl]
        exact go N' a3
      rw [if_neg k30]
      exact go M h
theorem pu_holds : pu_law := by
  intro L xs p hL hp
  have hp' : ∃ n, tp_pr n ∧ p = nI n := by
    rcases hp with rfl | rfl | rfl | rfl
    · exact ⟨2, Or.inl rfl, rfl⟩
    · exact ⟨3, Or.inr (Or.inl rfl), rfl⟩
    · exact ⟨5, Or.inr (Or.inr (Or.inl rfl)), rfl⟩
    · exact ⟨7, Or.inr (Or.inr (Or.inr rfl)), rfl⟩
  obtain ⟨n, hn, rfl⟩ := hp'
  by_cases h6 : 6 ≤ L
  · obtain ⟨r, M', hr⟩ := lw_loop (F := 200001) (xs := xs) (by omega) hn hL h6 L (L + 1) 1 (st_M (nI n)) (by omega) (by omega) (by omega) (st_JJ hn)
    exact ⟨200001, L + 1, r, M', hr⟩
  · refine ⟨200001, 1, 1, st_M (nI n), ?_⟩
    rw [Lw_law_L28, if_pos]
    have : L = 0 ∨ L = 1 ∨ L = 2 ∨ L = 3 ∨ L = 4 ∨ L = 5 := by omega
    rcases this with rfl | rfl | rfl | rfl | rfl | rfl <;> decide +kernel
end LAWEND
