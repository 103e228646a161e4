/-! copy -/
theorem md_copy_L {F s u i j n : Nat} {up : Bool} {N : tv_M} (hF : 60 < F) (hs : s < 8) (hu : u < 8) (hi : i + n ≤ 40) (hj : j + n ≤ 40) (hup : up = decide (j ≤ i)) : ∃ N', Md_copy_L143 F F (nI s) (nI i) (nI u) (nI j) (nI n) (if up then 1 else 0) 0 N = some (nI n, N') ∧ (∀ y, N'.1 252 y = if 40 * u + j ≤ y ∧ y < 40 * u + j + n then N.1 252 (40 * s + i + (y - (40 * u + j))) else N.1 252 y) ∧ ∀ a k, a ≠ 252 → N'.1 a k = N.1 a k := by
  cases up with
  | true =>
    have hij : j ≤ i := of_decide_eq_true hup.symm
    have h := tl_to0 (g := fun nn k N => Md_copy_L143 F nn (nI s) (nI i) (nI u) (nI j) (nI n) 1 (nI k) N) (N := n) (F := F) (s := N) (o := fun N => some (nI n, N)) (Inv := fun k N' => (∀ y, N'.1 252 y = if 40 * u + j ≤ y ∧ y < 40 * u + j + k then N.1 252 (40 * s + i + (y - (40 * u + j))) else N.1 252 y) ∧ ∀ a k, a ≠ 252 → N'.1 a k = N.1 a k) (by omega) ⟨fun y => by rw [if_neg (by omega)], fun _ _ _ => rfl⟩ ?_ ?_
    · obtain ⟨Y, ⟨y1, y2⟩, y3⟩ := h
      exact ⟨Y, y3, y1, y2⟩
    · rintro nn k N' hk ⟨h1, h2⟩
      try dsimp only
      refine ⟨tv_w N' 252 (40 * u + j + k) (N.1 252 (40 * s + i + k)), ⟨fun y => ?_, fun a k' q => ?_⟩, ?_⟩
      · rw [tp_w]
        by_cases e : y = 40 * u + j + k
        · subst e; rw [if_pos ⟨rfl, rfl⟩, if_pos (by omega), Nat.add_sub_cancel_left]
        · rw [if_neg (fun w => e w.2), h1 y]
          by_cases e2 : 40 * u + j ≤ y ∧ y < 40 * u + j + k
          · rw [if_pos e2, if_pos (by omega)]
          · rw [if_neg e2, if_neg (by omega)]
      · rw [tp_wk q]; exact h2 a k' q
      · rw [Md_copy_L143, if_neg (nI_ge hk (by omega)), if_neg (show ¬ (1 : Int32) = 0 by decide)]
        unfold Md_copy_L167
        rw [show (40 : Int32) * nI s + nI i + nI k = nI (40 * s + i + k) from by rw [← nI_add, ← nI_add, ← nI_mul]; rfl, tp_rd (by omega) (by decide), h1 (40 * s + i + k), if_neg (by omega), show (40 : Int32) * nI u + nI j + nI k = nI (40 * u + j + k) from by rw [← nI_add, ← nI_add, ← nI_mul]; rfl, tp_wr (by omega) (by decide), nI_1]
    · rintro nn N' ⟨h1, h2⟩
      try dsimp only
      rw [Md_copy_L143, if_pos (nI_le (by omega) (by omega))]
  | false =>
    have hij : ¬ j ≤ i := of_decide_eq_false hup.symm
    have h := tl_to0 (g := fun nn k N => Md_copy_L143 F nn (nI s) (nI i) (nI u) (nI j) (nI n) 0 (nI k) N) (N := n) (F := F) (s := N) (o := fun N => some (nI n, N)) (Inv := fun k N' => (∀ y, N'.1 252 y = if 40 * u + j + (n - k) ≤ y ∧ y < 40 * u + j + n then N.1 252 (40 * s + i + (y - (40 * u + j))) else N.1 252 y) ∧ ∀ a k, a ≠ 252 → N'.1 a k = N.1 a k) (by omega) ⟨fun y => by rw [if_neg (by omega)], fun _ _ _ => rfl⟩ ?_ ?_
    · obtain ⟨Y, ⟨y1, y2⟩, y3⟩ := h
      refine ⟨Y, y3, fun y => ?_, y2⟩
      rw [y1 y, Nat.sub_self, Nat.add_zero]
    · rintro nn k N' hk ⟨h1, h2⟩
      try dsimp only
      refine ⟨tv_w N' 252 (40 * u + j + (n - 1 - k)) (N.1 252 (40 * s + i + (n - 1 - k))), ⟨fun y => ?_, fun a k' q => ?_⟩, ?_⟩
      · rw [tp_w]
        by_cases e : y = 40 * u + j + (n - 1 - k)
        · subst e; rw [if_pos ⟨rfl, rfl⟩, if_pos (by omega), Nat.add_sub_cancel_left]
        · rw [if_neg (fun w => e w.2), h1 y]
          by_cases e2 : 40 * u + j + (n - k) ≤ y ∧ y < 40 * u + j + n
          · rw [if_pos e2, if_pos (by omega)]
          · rw [if_neg e2, if_neg (by omega)]
      · rw [tp_wk q]; exact h2 a k' q
      · rw [Md_copy_L143, if_neg (nI_ge hk (by omega)), if_pos (show (0 : Int32) = 0 from rfl)]
        unfold Md_copy_L167
        rw [show nI n - 1 - nI k = nI (n - 1 - k) from by rw [show nI n - 1 = nI (n - 1) from nI_sub (b := 1) (by omega), nI_sub (by omega)], show (40 : Int32) * nI s + nI i + nI (n - 1 - k) = nI (40 * s + i + (n - 1 - k)) from by rw [← nI_add, ← nI_add, ← nI_mul]; rfl, tp_rd (by omega) (by decide), h1 (40 * s + i + (n - 1 - k)), if_neg (by omega), show (40 : Int32) * nI u + nI j + nI (n - 1 - k) = nI (40 * u + j + (n - 1 - k)) from by rw [← nI_add, ← nI_add, ← nI_mul]; rfl, tp_wr (by omega) (by decide), nI_1]
    · rintro nn N' ⟨h1, h2⟩
      try dsimp only
      rw [Md_copy_L143, if_pos (nI_le (by omega) (by omega))]
section COPY
variable {F p : Nat} {a b c d e : Int32} {M N N' : tv_M} {S0 : Nat → Nat → Nat} {S1 : Nat → Nat → Int32} {Z : Nat → Nat}
theorem op_copy (hF : 60 < F) (hg : gS S0) (hZ : Z 0 ≤ 5) (hc : cS M S0 S1) (hz : cZ M p Z) (hm : mS N S0 S1) (hmz : mZ N Z) : rS p Z M N (Xx_copy F a b c d e M) (Md_copy F a b c d e N) := by
  unfold Xx_copy Md_copy
  rcases tp_ix a (n := 8) (by decide) with h | ⟨s, hs, rfl⟩
  · rcases tp_ix c (n := 8) (by decide) with h' | ⟨u, hu, rfl⟩
    · exact rS_same (r := -1000001) hg hZ hc hz hm hmz (by rw [tp_cb (xs_at_out h), tp_cb (xs_at_out h'), tp_nln]) (by rw [tp_pf, tp_cb (md_sh_out h), if_pos rfl])
    · exact rS_same (r := -1000001) hg hZ hc hz hm hmz (by rw [tp_cb (xs_at_out h), tp_cb (xs_at hu), tp_nln]) (by rw [tp_pf, tp_cb (md_sh_out h), if_pos rfl])
  obtain ⟨p1, p2, p3, p4⟩ := tp_shP s hs
  obtain ⟨c1, c2⟩ := hc s hs
  obtain ⟨m1, m2⟩ := hm s hs
  obtain ⟨g1, g2⟩ := hg s hs
  rcases tp_ix c (n := 8) (by decide) with h' | ⟨u, hu, rfl⟩
  · exact rS_same (r := -1000001) hg hZ hc hz hm hmz (by rw [tp_cb (xs_at hs), tp_cb (xs_at_out h'), tp_nls, tp_gl p3, tp_nln]) (by rw [tp_pf, tp_cb (md_sh hs), if_neg (show ¬ (1 : Int32) = 0 by decide), tp_cb (md_sh_out h'), if_pos rfl])
  obtain ⟨p1', p2', p3', p4'⟩ := tp_shP u hu
  obtain ⟨c1', c2'⟩ := hc u hu
  obtain ⟨m1', m2'⟩ := hm u hu
  obtain ⟨g1', g2'⟩ := hg u hu
  have hN1 : (tv_w (tv_w N 249 0 0) 249 1 0).1 250 s = i_ln (S0 0 s) := by rw [tp_wk (by omega), tp_wk (by omega)]; exact m1
  have hN1' : (tv_w (tv_w N 249 0 0) 249 1 0).1 250 u = i_ln (S0 0 u) := by rw [tp_wk (by omega), tp_wk (by omega)]; exact m1'
  have hff : ∀ k : Int32, f01 N (tv_w (tv_w (tv_w N 249 0 0) 249 1 0) 249 1 k) := fun k => ((f01.rf.w (Or.inl rfl)).w (Or.inr rfl)).w (Or.inr rfl)
  rw [tp_cb (xs_at hs), tp_cb (xs_at hu), tp_nls, tp_gl p3, tp_nls, tp_gl p3', tp_cb (xs_missing hs), c1, tp_pf, tp_cb (md_sh hs), if_neg (show ¬ (1 : Int32) = 0 by decide), tp_cb (md_sh hu), if_neg (show ¬ (1 : Int32) = 0 by decide), tp_pf, tp_rd hs (by decide), hN1]
  by_cases q : S0 0 s = 0
  · rw [if_pos ((i_ln_m g1).mpr q), if_neg (show ¬ (1 : Int32) = 0 by decide), if_pos ((i_ln_l g1).mpr q)]
    exact rS_find (k := 1) (N' := tv_w (tv_w (tv_w N 249 0 0) 249 1 0) 249 1 1) (by omega) hg hc hz hm hmz (hff 1) tp_ws rfl rfl
  rw [if_neg (fun w => q ((i_ln_m g1).mp w)), if_pos (show (0 : Int32) = 0 from rfl), if_neg (fun w => q ((i_ln_l g1).mp w)), tp_cb (xs_missing hu), c1', tp_rd hu (by decide), hN1']
  by_cases q' : S0 0 u = 0
  · rw [if_pos ((i_ln_m g1').mpr q'), if_neg (show ¬ (1 : Int32) = 0 by decide), if_neg (fun w => (i_ln_p g1').mp w q')]
    exact rS_find (k := 1) (N' := tv_w (tv_w (tv_w N 249 0 0) 249 1 0) 249 1 1) (by omega) hg hc hz hm hmz (hff 1) tp_ws rfl rfl
  rw [if_neg (fun w => q' ((i_ln_m g1').mp w)), if_pos (show (0 : Int32) = 0 from rfl), if_pos ((i_ln_p g1').mpr q'), c1, tp_rd hs (by decide), hN1, tp_rd hu (by decide), hN1']
  by_cases ql : ¬ S0 0 s = S0 0 u
  · rw [if_neg (fun w => ql ((i_ln_i g1 g1').mp w)), if_neg (fun w => ql ((i_ln_i g1 g1').mp w))]
    exact rS_find (k := 5) (N' := tv_w (tv_w (tv_w N 249 0 0) 249 1 0) 249 1 5) (by omega) hg hc hz hm hmz (hff 5) tp_ws rfl rfl
  have ql := Classical.not_not.mp ql
  obtain ⟨c3, c4⟩ := c2 q
  obtain ⟨m3, m4⟩ := m2 q
  obtain ⟨c3', c4'⟩ := c2' q'
  obtain ⟨m3', m4'⟩ := m2' q'
  have hN2 : (tv_w (tv_w N 249 0 0) 249 1 0).1 251 s = nI (S0 1 s) := by rw [tp_wk (by omega), tp_wk (by omega)]; exact m3
  have hN2' : (tv_w (tv_w N 249 0 0) 249 1 0).1 251 u = nI (S0 1 u) := by rw [tp_wk (by omega), tp_wk (by omega)]; exact m3'
  rw [if_pos ((i_ln_i g1 g1').mpr ql), if_pos ((i_ln_i g1 g1').mpr ql), tp_cb (xs_reaches hs c3 g2), tp_rd hs (by decide), hN2, tp_rd hu (by decide), hN2']
  have hbad : ∀ y, y = tv_cb (Md_finding F 2 (tv_w (tv_w N 249 0 0) 249 1 0)) (fun r M => some (r, M)) → rS p Z M N (tv_cb (Xx_found F 2 M) (fun r M => some (r, M))) y := fun y hy => rS_find (k := 2) (N' := tv_w (tv_w (tv_w N 249 0 0) 249 1 0) 249 1 2) (by omega) hg hc hz hm hmz (hff 2) tp_ws rfl (hy.trans rfl)
  simp only [tp_lcs _ _ (show S0 1 s < 2 ^ 31 by omega), ← Int32.not_lt (a := 0), tp_lcs _ _ (show S0 1 u < 2 ^ 31 by omega)]
  by_cases hb0 : b < 0
  · rw [if_pos hb0]
    rw [tp_lt, tp_0T] at hb0
    rw [if_neg (show ¬ (0 ≤ b.toInt ∧ 0 ≤ e.toInt ∧ b.toInt + e.toInt ≤ (S0 1 s : Nat)) by omega), if_pos rfl]
    exact hbad _ rfl
  rw [if_neg hb0]
  rw [tp_lt, tp_0T] at hb0
  by_cases hd0 : d < 0
  · rw [if_pos hd0]
    rw [tp_lt, tp_0T] at hd0
    by_cases w : 0 ≤ b.toInt ∧ 0 ≤ e.toInt ∧ b.toInt + e.toInt ≤ (S0 1 s : Nat)
    · rw [if_pos w, if_neg (show ¬ (1 : Int32) = 0 by decide), tp_cb (xs_reaches hu c3' g2'), if_neg (show ¬ (0 ≤ d.toInt ∧ 0 ≤ e.toInt ∧ d.toInt + e.toInt ≤ (S0 1 u : Nat)) by omega), if_pos rfl]
      exact hbad _ rfl
    · rw [if_neg w, if_pos rfl]
      exact hbad _ rfl
  rw [if_neg hd0]
  rw [tp_lt, tp_0T] at hd0
  by_cases he0 : e < 0
  · rw [if_pos he0]
    rw [tp_lt, tp_0T] at he0
    rw [if_neg (show ¬ (0 ≤ b.toInt ∧ 0 ≤ e.toInt ∧ b.toInt + e.toInt ≤ (S0 1 s : Nat)) by omega), if_pos rfl]
    exact hbad _ rfl
  rw [if_neg he0]
  rw [tp_lt, tp_0T] at he0
  by_cases w : (S0 1 s : Nat) < b.toInt + e.toInt
  · rw [if_pos w, if_neg (show ¬ (0 ≤ b.toInt ∧ 0 ≤ e.toInt ∧ b.toInt + e.toInt ≤ (S0 1 s : Nat)) by omega), if_pos rfl]
    exact hbad _ rfl
  rw [if_neg w, if_pos (show 0 ≤ b.toInt ∧ 0 ≤ e.toInt ∧ b.toInt + e.toInt ≤ (S0 1 s : Nat) by omega), if_neg (show ¬ (1 : Int32) = 0 by decide), tp_cb (xs_reaches hu c3' g2')]
  by_cases w' : (S0 1 u : Nat) < d.toInt + e.toInt
  · rw [if_neg (show ¬ (0 ≤ d.toInt ∧ 0 ≤ e.toInt ∧ d.toInt + e.toInt ≤ (S0 1 u : Nat)) by omega), if_pos rfl, if_neg (fun q => q w')]
    exact hbad _ rfl
  rw [if_pos (show 0 ≤ d.toInt ∧ 0 ≤ e.toInt ∧ d.toInt + e.toInt ≤ (S0 1 u : Nat) by omega), if_neg (show ¬ (1 : Int32) = 0 by decide), if_pos w']
  obtain ⟨i, hi, rfl⟩ : ∃ i, i ≤ 40 ∧ b = nI i := ⟨b.toInt.toNat, by omega, tp_of b (by omega)⟩
  obtain ⟨j, hj, rfl⟩ : ∃ i, i ≤ 40 ∧ d = nI i := ⟨d.toInt.toNat, by omega, tp_of d (by omega)⟩
  obtain ⟨n, hn, rfl⟩ : ∃ i, i ≤ 40 ∧ e = nI i := ⟨e.toInt.toNat, by omega, tp_of e (by omega)⟩
  rw [nI_toInt (by omega), nI_toInt (by omega)] at w w'
  obtain ⟨N', e1, e2, e3⟩ := md_copy_L (i := i) (j := j) (n := n) (up := decide (j ≤ i)) (N := tv_w (tv_w N 249 0 0) 249 1 0) hF hs hu (by omega) (by omega) rfl
  have ey : (if nI i < nI j then Md_copy_L143 F F (nI s) (nI i) (nI u) (nI j) (nI n) 0 0 (tv_w (tv_w N 249 0 0) 249 1 0) else Md_copy_L143 F F (nI s) (nI i) (nI u) (nI j) (nI n) 1 0 (tv_w (tv_w N 249 0 0) 249 1 0)) = some (nI n, N') := by
    rw [← e1]
    by_cases v : j ≤ i
    · rw [if_neg (nI_nlt v (by omega)), decide_eq_true v]; rfl
    · rw [if_pos (nI_lt (by omega) (by omega)), decide_eq_false v]; rfl
  have hN0 : ∀ x k, x < 8 → k < 40 → (tv_w (tv_w N 249 0 0) 249 1 0).1 252 (40 * x + k) = N.1 252 (40 * x + k) := fun x k _ _ => by rw [tp_wk (by omega), tp_wk (by omega)]
  rw [tp_nn p2, tp_gn p4, tp_nn p2', tp_gn p4']
  refine rS_up (r := nI n) (s := u) (l := S0 0 u) (n := S0 1 u) (f := fun k => if j ≤ k ∧ k < j + n then S1 s (i + (k - j)) else S1 u k) (M' := tv_w (tv_wc M (3 + 2 * u) (va_cpy (M.1 (3 + 2 * s)) (M.1 (3 + 2 * u)) i j n)) 0 9 0) (N' := N') hg hc hz hm hmz hu g1' g2' ?_ ey ?_ (fun _ => ⟨?_, fun k hk => ?_⟩) tp_ws (fun a k q1 q2 q3 => ?_) ?_ (fun _ => ⟨?_, fun k hk => ?_⟩) (fun x hx => ⟨?_, ?_, fun k hk => ?_⟩) ?_ (fun a k q1 q2 => ?_)
  · unfold tv_cpy
    rw [nI_clamp (by omega), nI_clamp (by omega), nI_clamp (by omega), if_pos ⟨nI_pos' (by omega), nI_pos' (by omega), nI_pos' (by omega), by omega, by omega⟩]
    rfl
  · rw [tp_wk (by omega), tp_wc1, if_neg (by omega)]; exact c1'
  · rw [tp_wk (by omega), tp_wc1, if_neg (by omega)]; exact c3'
  · rw [tp_wk (by omega), tp_wc1, if_pos rfl]
    unfold va_cpy
    by_cases v : j ≤ k ∧ k < j + n
    · rw [if_pos v, if_pos v]; exact c4 _ (by omega)
    · rw [if_neg v, if_neg v]; exact c4' k hk
  · rw [tp_w, if_neg q3, tp_wc1, if_neg q2]
  · rw [e3 _ _ (by omega)]; exact hN1'
  · rw [e3 _ _ (by omega)]; exact hN2'
  · rw [e2]
    by_cases v : j ≤ k ∧ k < j + n
    · rw [if_pos v, if_pos (by omega), show 40 * s + i + (40 * u + k - (40 * u + j)) = 40 * s + (i + (k - j)) by omega, hN0 s _ hs (by omega)]; exact m4 _ (by omega)
    · rw [if_neg v, if_neg (by omega), hN0 u k hu hk]; exact m4' k hk
  · rw [e3 _ _ (by omega), tp_wk (by omega), tp_wk (by omega)]
  · rw [e3 _ _ (by omega), tp_wk (by omega), tp_wk (by omega)]
  · rw [e2, if_neg (by omega), tp_wk (by omega), tp_wk (by omega)]
  · rw [e3 _ _ (by omega), tp_ws]
  · rw [e3 _ _ (by omega), tp_w, if_neg (by omega), tp_w, if_neg (by omega)]
end COPY
