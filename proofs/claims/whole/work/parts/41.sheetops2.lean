/-! sheet, set, copy -/
theorem cS_up {M M' : tv_M} {S0 : Nat → Nat → Nat} {S1 : Nat → Nat → Int32} {s l n : Nat} {f : Nat → Int32} (hc : cS M S0 S1) (h1 : M'.1 (2 + 2 * s) 0 = i_ln l) (h2 : l ≠ 0 → M'.1 (2 + 2 * s) 1 = nI n ∧ ∀ i, i < 40 → M'.1 (3 + 2 * s) i = f i) (hk : ∀ a i, 2 ≤ a → a < 18 → a ≠ 2 + 2 * s → a ≠ 3 + 2 * s → M'.1 a i = M.1 a i) : cS M' (fun t x => if x = s then (if t = 0 then l else n) else S0 t x) (fun x i => if x = s then f i else S1 x i) := fun x hx => by
  by_cases w : x = s
  · subst w
    simp only [if_true]
    exact ⟨h1, h2⟩
  · simp only [if_neg w]
    obtain ⟨k1, k2⟩ := hc x hx
    refine ⟨by rw [hk _ _ (by omega) (by omega) (by omega) (by omega)]; exact k1, fun q => ⟨?_, fun i hi => ?_⟩⟩
    · rw [hk _ _ (by omega) (by omega) (by omega) (by omega)]; exact (k2 q).1
    · rw [hk _ _ (by omega) (by omega) (by omega) (by omega)]; exact (k2 q).2 i hi
theorem mS_up {N N' : tv_M} {S0 : Nat → Nat → Nat} {S1 : Nat → Nat → Int32} {s l n : Nat} {f : Nat → Int32} (hc : mS N S0 S1) (h1 : N'.1 250 s = i_ln l) (h2 : l ≠ 0 → N'.1 251 s = nI n ∧ ∀ i, i < 40 → N'.1 252 (40 * s + i) = f i) (hk : ∀ x, x ≠ s → N'.1 250 x = N.1 250 x ∧ N'.1 251 x = N.1 251 x ∧ ∀ i, i < 40 → N'.1 252 (40 * x + i) = N.1 252 (40 * x + i)) : mS N' (fun t x => if x = s then (if t = 0 then l else n) else S0 t x) (fun x i => if x = s then f i else S1 x i) := fun x hx => by
  by_cases w : x = s
  · subst w
    simp only [if_true]
    exact ⟨h1, h2⟩
  · simp only [if_neg w]
    obtain ⟨k1, k2⟩ := hc x hx
    obtain ⟨j1, j2, j3⟩ := hk x w
    refine ⟨by rw [j1]; exact k1, fun q => ⟨?_, fun i hi => ?_⟩⟩
    · rw [j2]; exact (k2 q).1
    · rw [j3 i hi]; exact (k2 q).2 i hi
theorem gS_up {S0 : Nat → Nat → Nat} {s l n : Nat} (hg : gS S0) (hl : l ≤ 3) (hn : n ≤ 40) : gS (fun t x => if x = s then (if t = 0 then l else n) else S0 t x) := fun x hx => by
  by_cases w : x = s
  · subst w; simp only [if_true]; exact ⟨hl, hn⟩
  · simp only [if_neg w]; exact hg x hx
theorem tp_add64 (a b : Int32) : (a.toInt64 + b.toInt64).toInt = a.toInt + b.toInt := by
  rw [Int64.toInt_add, Int32.toInt_toInt64, Int32.toInt_toInt64, Int.bmod_def]
  have := tp_rng a
  have := tp_rng b
  omega
theorem tp_lcs (a b : Int32) {n : Nat} (hn : n < 2 ^ 31) : 0 < lg_cmp (a.toInt64 + b.toInt64) (nI n).toInt64 ↔ (n : Int) < a.toInt + b.toInt := by
  rw [tp_lcmp_gt, Int64.lt_iff_toInt_lt, tp_add64, Int32.toInt_toInt64, nI_toInt hn]
section SHEETOPS2
variable {F p : Nat} {a b c d e : Int32} {M N N' : tv_M} {S0 : Nat → Nat → Nat} {S1 : Nat → Nat → Int32} {Z : Nat → Nat} {x y : Option (Int32 × tv_M)}
theorem rS_up {r : Int32} {s l n : Nat} {f : Nat → Int32} {M' N' : tv_M} (hg : gS S0) (hc : cS M S0 S1) (hz : cZ M p Z) (hm : mS N S0 S1) (hmz : mZ N Z) (hs : s < 8) (hl : l ≤ 3) (hn : n ≤ 40) (hx : x = some (r, M')) (hy : y = some (r, N')) (h1 : M'.1 (2 + 2 * s) 0 = i_ln l) (h2 : l ≠ 0 → M'.1 (2 + 2 * s) 1 = nI n ∧ ∀ i, i < 40 → M'.1 (3 + 2 * s) i = f i) (hz0 : M'.1 0 9 = 0) (hk : ∀ a i, a ≠ 2 + 2 * s → a ≠ 3 + 2 * s → ¬ (a = 0 ∧ i = 9) → M'.1 a i = M.1 a i) (g1 : N'.1 250 s = i_ln l) (g2 : l ≠ 0 → N'.1 251 s = nI n ∧ ∀ i, i < 40 → N'.1 252 (40 * s + i) = f i) (gk : ∀ x, x ≠ s → N'.1 250 x = N.1 250 x ∧ N'.1 251 x = N.1 251 x ∧ ∀ i, i < 40 → N'.1 252 (40 * x + i) = N.1 252 (40 * x + i)) (gz : N'.1 249 1 = 0) (gf : fS N N') : rS p Z M N x y := by
  refine ⟨r, fun t x => if x = s then (if t = 0 then l else n) else S0 t x, fun x i => if x = s then f i else S1 x i, fun i => if i = 0 then 0 else Z i, gS_up hg hl hn, Nat.zero_le _, rfl, tq_eq hx ⟨rfl, cS_up hc h1 h2 (fun a i q1 q2 q3 q4 => hk a i q3 q4 (by omega)), ⟨?_, hz0⟩, fun a i ha => hk a i (by omega) (by omega) (by omega)⟩, tq_eq hy ⟨rfl, mS_up hm g1 g2 gk, ⟨gz, ?_⟩, gf⟩⟩
  · rw [hk 0 0 (by omega) (by omega) (by omega)]; exact hz.1
  · rw [gf 249 25 (by omega) (by omega)]; exact hmz.2
theorem md_sheet_L {F s n : Nat} {N : tv_M} (hF : 60 < F) (hs : s < 8) : ∃ N', Md_sheet_L65 F F (nI s) (nI n) 0 N = some (nI n, N') ∧ (∀ i, i < 40 → N'.1 252 (40 * s + i) = 0) ∧ ∀ a i, ¬ (a = 252 ∧ 40 * s ≤ i ∧ i < 40 * s + 40) → N'.1 a i = N.1 a i := by
  have h := tl_to0 (g := fun nn j N => Md_sheet_L65 F nn (nI s) (nI n) (nI j) N) (N := 40) (F := F) (s := N) (o := fun N => some (nI n, N)) (Inv := fun j N' => (∀ i, i < j → N'.1 252 (40 * s + i) = 0) ∧ ∀ a i, ¬ (a = 252 ∧ 40 * s ≤ i ∧ i < 40 * s + 40) → N'.1 a i = N.1 a i) (by omega) ⟨fun i hi => absurd hi (by omega), fun _ _ _ => rfl⟩ ?_ ?_
  · obtain ⟨Y, ⟨y1, y2⟩, y3⟩ := h
    exact ⟨Y, y3, y1, y2⟩
  · rintro nn j N' hj ⟨h1, h2⟩
    try dsimp only
    refine ⟨tv_w N' 252 (40 * s + j) 0, ⟨fun i hi => ?_, fun a i q => ?_⟩, ?_⟩
    · rw [tp_w]
      by_cases e : i = j
      · rw [if_pos ⟨rfl, by omega⟩]
      · rw [if_neg (by omega)]; exact h1 i (by omega)
    · rw [tp_w, if_neg (by omega)]; exact h2 a i q
    · rw [Md_sheet_L65, if_neg (show ¬ (40 : Int32) ≤ nI j from nI_ge (b := 40) hj (by omega)), show (40 : Int32) * nI s + nI j = nI (40 * s + j) from by rw [← nI_add, ← nI_mul]; rfl, tp_wr (by omega) (by omega), nI_1]
  · rintro nn N' ⟨h1, h2⟩
    try dsimp only
    rw [Md_sheet_L65, if_pos (show (40 : Int32) ≤ nI 40 by decide)]
theorem op_sheet (hF : 60 < F) (hg : gS S0) (hZ : Z 0 ≤ 5) (hc : cS M S0 S1) (hz : cZ M p Z) (hm : mS N S0 S1) (hmz : mZ N Z) : rS p Z M N (Xx_sheet F a b c M) (Md_sheet F a b c N) := by
  unfold Xx_sheet Md_sheet
  rcases tp_ix a (n := 8) (by decide) with h | ⟨s, hs, rfl⟩
  · exact rS_same (r := -1000001) hg hZ hc hz hm hmz (by rw [tp_cb (xs_at_out h), tp_nln]) (by rw [tp_pf, tp_cb (md_sh_out h), if_pos rfl])
  obtain ⟨p1, p2, p3, p4⟩ := tp_shP s hs
  rw [tp_cb (xs_at hs), tp_nls, tp_gl p3, tp_pf, tp_cb (md_sh hs), if_neg (show ¬ (1 : Int32) = 0 by decide)]
  rcases tp_ix b (n := 3) (by decide) with h | ⟨l, hl, rfl⟩
  · refine rS_same (r := -1000001) hg hZ hc hz hm hmz ?_ (by rw [tp_cb (md_in_out h (by decide) (by decide)), if_pos rfl])
    rcases h with h | h
    · rw [if_pos h]
    · by_cases h0 : b < 0
      · rw [if_pos h0]
      · rw [if_neg h0, if_pos]
        rw [tp_le, nI_toInt (by decide)] at h
        rw [tp_lt]
        have : (2 : Int32).toInt = 2 := rfl
        omega
  · rw [if_neg (nI_pos (by omega)), if_neg (show ¬ (2 : Int32) < nI l from nI_nlt (a := 2) (by omega) (by omega)), tp_cb (md_in_in hl (by decide) (by decide)), if_neg (show ¬ (1 : Int32) = 0 by decide)]
    by_cases h1 : c ≤ 40
    · rw [if_pos h1, if_pos h1, tp_pf]
      by_cases h2 : 0 ≤ c
      · rw [if_pos h2, if_pos h2, tp_cb (xs_begin hs (by omega)), tp_wr hs (by decide), tp_wr hs (by decide)]
        rw [tp_le] at h1 h2
        have e40 : (40 : Int32).toInt = 40 := rfl
        obtain ⟨n, hn, rfl⟩ : ∃ n, n ≤ 40 ∧ c = nI n := ⟨c.toInt.toNat, by rw [tp_0T] at h2; omega, tp_of c h2⟩
        obtain ⟨N', e1, e2, e3⟩ := md_sheet_L (n := n) (N := tv_w (tv_w (tv_w (tv_w N 249 0 0) 249 1 0) 250 s (nI l)) 251 s (nI n)) hF hs
        refine rS_up (r := nI n) (s := s) (l := l + 1) (n := n) (f := fun _ => 0) (M' := tv_w (xs_begun M s (nI l) (nI n)) 0 9 0) (N' := N') hg hc hz hm hmz hs (by omega) hn rfl e1 ?_ (fun _ => ⟨?_, fun i hi => ?_⟩) tp_ws (fun a i q1 q2 q3 => ?_) ?_ (fun _ => ⟨?_, e2⟩) (fun x hx => ⟨?_, ?_, fun i hi => ?_⟩) ?_ (fun a i q1 q2 => ?_)
        · unfold xs_begun
          rw [tp_wk (by omega), tp_wc1, if_neg (by omega), tp_wj (by omega), tp_ws]; rfl
        · unfold xs_begun
          rw [tp_wk (by omega), tp_wc1, if_neg (by omega), tp_ws]
        · unfold xs_begun
          rw [tp_wk (by omega), tp_wc1, if_pos rfl, if_pos hi]
        · unfold xs_begun
          rw [tp_w, if_neg q3, tp_wc1, if_neg q2, tp_wk q1, tp_wk q1]
        · rw [e3 250 s (by omega), tp_wk (by omega), tp_ws]; rfl
        · rw [e3 251 s (by omega), tp_ws]
        · rw [e3 250 x (by omega), tp_wk (by omega), tp_wj hx, tp_wk (by omega), tp_wk (by omega)]
        · rw [e3 251 x (by omega), tp_wj hx, tp_wk (by omega), tp_wk (by omega), tp_wk (by omega)]
        · rw [e3 252 _ (by omega), tp_wk (by omega), tp_wk (by omega), tp_wk (by omega), tp_wk (by omega)]
        · rw [e3 249 1 (by omega), tp_wk (by omega), tp_wk (by omega), tp_ws]
        · rw [e3 a i (by omega), tp_wk (by omega), tp_wk (by omega), tp_w, if_neg (by omega), tp_w, if_neg (by omega)]
      · rw [if_neg h2, if_neg h2]
        exact rS_find (k := 4) (N' := tv_w (tv_w (tv_w N 249 0 0) 249 1 0) 249 1 4) (by omega) hg hc hz hm hmz (((f01.rf.w (Or.inl rfl)).w (Or.inr rfl)).w (Or.inr rfl)) tp_ws rfl rfl
    · rw [if_neg h1, if_neg h1]
      exact rS_same (r := -1000001) hg hZ hc hz hm hmz rfl rfl
theorem op_set (hF : 60 < F) (hg : gS S0) (hZ : Z 0 ≤ 5) (hc : cS M S0 S1) (hz : cZ M p Z) (hm : mS N S0 S1) (hmz : mZ N Z) : rS p Z M N (Xx_set F a b c M) (Md_set F a b c N) := by
  unfold Xx_set Md_set
  rcases tp_ix a (n := 8) (by decide) with h | ⟨s, hs, rfl⟩
  · exact rS_same (r := -1000001) hg hZ hc hz hm hmz (by rw [tp_cb (xs_at_out h), tp_nln]) (by rw [tp_pf, tp_cb (md_sh_out h), if_pos rfl])
  obtain ⟨p1, p2, p3, p4⟩ := tp_shP s hs
  obtain ⟨c1, c2⟩ := hc s hs
  obtain ⟨m1, m2⟩ := hm s hs
  obtain ⟨g1, g2⟩ := hg s hs
  have hN1 : (tv_w (tv_w N 249 0 0) 249 1 0).1 250 s = i_ln (S0 0 s) := by rw [tp_wk (by omega), tp_wk (by omega)]; exact m1
  rw [tp_cb (xs_at hs), tp_nls, tp_gl p3, tp_cb (xs_missing hs), c1, tp_pf, tp_cb (md_sh hs), if_neg (show ¬ (1 : Int32) = 0 by decide), tp_pf, tp_rd hs (by decide), hN1]
  by_cases q : S0 0 s = 0
  · rw [if_pos ((i_ln_m g1).mpr q), if_neg (show ¬ (1 : Int32) = 0 by decide), if_neg (fun w => (i_ln_p g1).mp w q)]
    exact rS_find (k := 1) (N' := tv_w (tv_w (tv_w N 249 0 0) 249 1 0) 249 1 1) (by omega) hg hc hz hm hmz (((f01.rf.w (Or.inl rfl)).w (Or.inr rfl)).w (Or.inr rfl)) tp_ws rfl rfl
  obtain ⟨c3, c4⟩ := c2 q
  obtain ⟨m3, m4⟩ := m2 q
  have hN2 : (tv_w (tv_w N 249 0 0) 249 1 0).1 251 s = nI (S0 1 s) := by rw [tp_wk (by omega), tp_wk (by omega)]; exact m3
  rw [if_neg (fun w => q ((i_ln_m g1).mp w)), if_pos rfl, if_pos ((i_ln_p g1).mpr q), tp_rd hs (by decide), hN2, tp_cb (xs_reaches hs c3 g2)]
  rcases tp_ix b (n := S0 1 s) (by omega) with h | ⟨i, hi, rfl⟩
  · rw [tp_cb (md_in_out h (by omega) rfl), if_pos rfl, if_neg (show ¬ (0 ≤ b.toInt ∧ 0 ≤ (1 : Int32).toInt ∧ b.toInt + (1 : Int32).toInt ≤ (S0 1 s : Nat)) from ?_), if_pos rfl]
    · exact rS_find (k := 2) (N' := tv_w (tv_w (tv_w N 249 0 0) 249 1 0) 249 1 2) (by omega) hg hc hz hm hmz (((f01.rf.w (Or.inl rfl)).w (Or.inr rfl)).w (Or.inr rfl)) tp_ws rfl rfl
    · have : (1 : Int32).toInt = 1 := rfl
      rcases h with h | h
      · rw [tp_lt, tp_0T] at h; omega
      · rw [tp_le, nI_toInt (by omega)] at h; omega
  · have hl3 : S0 0 s - 1 < 3 := by omega
    rw [tp_cb (md_in_in hi (by omega) rfl), if_neg (show ¬ (1 : Int32) = 0 by decide), if_pos (show 0 ≤ (nI i).toInt ∧ 0 ≤ (1 : Int32).toInt ∧ (nI i).toInt + (1 : Int32).toInt ≤ (S0 1 s : Nat) from ?_), if_neg (show ¬ (1 : Int32) = 0 by decide), tp_cb (xs_put hs (c1.trans (i_ln_s q)) hl3 c3 g2 hi)]
    · have hN3 : ∀ v, (tv_rd (tv_w (tv_w N 249 0 0) 249 1 0) 250 8 (nI s) (fun x9 => if x9 = 0 then tv_wr (tv_w (tv_w N 249 0 0) 249 1 0) 252 320 ((40 * nI s) + nI i) ((c : Int32).toInt8.toInt32) (fun M15 => tv_rd M15 252 320 ((40 * nI s) + nI i) (fun x16 => some (x16, M15))) else tv_rd (tv_w (tv_w N 249 0 0) 249 1 0) 250 8 (nI s) (fun x10 => if x10 = 1 then tv_wr (tv_w (tv_w N 249 0 0) 249 1 0) 252 320 ((40 * nI s) + nI i) ((c : Int32).toInt16.toInt32) (fun M13 => tv_rd M13 252 320 ((40 * nI s) + nI i) (fun x14 => some (x14, M13))) else tv_wr (tv_w (tv_w N 249 0 0) 249 1 0) 252 320 ((40 * nI s) + nI i) c (fun M11 => tv_rd M11 252 320 ((40 * nI s) + nI i) (fun x12 => some (x12, M11)))))) = v → v = some (tp_cut (S0 0 s - 1) c, tv_w (tv_w (tv_w N 249 0 0) 249 1 0) 252 (40 * s + i) (tp_cut (S0 0 s - 1) c)) := by
        intro v hv
        rw [← hv, tp_rd hs (by decide), hN1, i_ln_s q, tp_rd hs (by decide), hN1, i_ln_s q, show (40 : Int32) * nI s + nI i = nI (40 * s + i) from by rw [← nI_add, ← nI_mul]; rfl, tp_wr (by omega) (by decide), tp_wr (by omega) (by decide), tp_wr (by omega) (by decide), tp_rd (by omega) (by decide), tp_rd (by omega) (by decide), tp_rd (by omega) (by decide), tp_ws, tp_ws, tp_ws]
        unfold tp_cut
        have : S0 0 s - 1 = 0 ∨ S0 0 s - 1 = 1 ∨ S0 0 s - 1 = 2 := by omega
        rcases this with w | w | w <;> rw [w] <;> rfl
      refine rS_up (r := tp_cut (S0 0 s - 1) c) (s := s) (l := S0 0 s) (n := S0 1 s) (f := fun k => if k = i then tp_cut (S0 0 s - 1) c else S1 s k) (M' := tv_w (tv_w M (3 + 2 * s) i (tp_cut (S0 0 s - 1) c)) 0 9 0) (N' := tv_w (tv_w (tv_w N 249 0 0) 249 1 0) 252 (40 * s + i) (tp_cut (S0 0 s - 1) c)) hg hc hz hm hmz hs g1 g2 rfl (hN3 _ rfl) ?_ (fun _ => ⟨?_, fun k hk => ?_⟩) tp_ws (fun a k q1 q2 q3 => ?_) ?_ (fun _ => ⟨?_, fun k hk => ?_⟩) (fun x hx => ⟨?_, ?_, fun k hk => ?_⟩) ?_ (fun a k q1 q2 => ?_)
      · rw [tp_wk (by omega), tp_wk (by omega)]; exact c1
      · rw [tp_wk (by omega), tp_wk (by omega)]; exact c3
      · rw [tp_wk (by omega), tp_w]
        by_cases w : k = i
        · rw [if_pos ⟨rfl, w⟩, if_pos w]
        · rw [if_neg (fun w' => w w'.2), if_neg w]; exact c4 k hk
      · rw [tp_w, if_neg q3, tp_wk q2]
      · rw [tp_wk (by omega)]; exact hN1
      · rw [tp_wk (by omega)]; exact hN2
      · rw [tp_w]
        by_cases w : k = i
        · rw [if_pos ⟨rfl, by omega⟩, if_pos w]
        · rw [if_neg (by omega), if_neg w, tp_wk (by omega), tp_wk (by omega)]; exact m4 k hk
      · rw [tp_wk (by omega), tp_wk (by omega), tp_wk (by omega)]
      · rw [tp_wk (by omega), tp_wk (by omega), tp_wk (by omega)]
      · rw [tp_wj (by omega), tp_wk (by omega), tp_wk (by omega)]
      · rw [tp_wk (by omega), tp_ws]
      · rw [tp_wk (by omega), tp_w, if_neg (by omega), tp_w, if_neg (by omega)]
    · have : (1 : Int32).toInt = 1 := rfl
      rw [nI_toInt (by omega)]; omega
end SHEETOPS2
