/-! THE CALLS ON SHEETS -/
def rS (p : Nat) (Z : Nat → Nat) (M N : tv_M) (x y : Option (Int32 × tv_M)) : Prop := ∃ (r : Int32) (S0' : Nat → Nat → Nat) (S1' : Nat → Nat → Int32) (Z' : Nat → Nat), gS S0' ∧ Z' 0 ≤ 5 ∧ Z' 1 = Z 1 ∧ tq x (fun q M' => q = r ∧ cS M' S0' S1' ∧ cZ M' p Z' ∧ fo 0 18 M M') ∧ tq y (fun q N' => q = r ∧ mS N' S0' S1' ∧ mZ N' Z' ∧ fS N N')
def f01 (N N' : tv_M) : Prop := ∀ a i, ¬ (a = 249 ∧ (i = 0 ∨ i = 1)) → N'.1 a i = N.1 a i
theorem f01.rf {N : tv_M} : f01 N N := fun _ _ _ => rfl
theorem f01.w {N N' : tv_M} {i : Nat} {x : Int32} (h : f01 N N') (hi : i = 0 ∨ i = 1) : f01 N (tv_w N' 249 i x) := fun a j q => by
  rw [tp_w, if_neg (fun w => q ⟨w.1, by omega⟩)]; exact h a j q
section SHEETOPS
variable {F p : Nat} {a b c d e : Int32} {M N N' : tv_M} {S0 : Nat → Nat → Nat} {S1 : Nat → Nat → Int32} {Z : Nat → Nat} {x y : Option (Int32 × tv_M)}
theorem rS_same {r : Int32} (hg : gS S0) (hZ : Z 0 ≤ 5) (hc : cS M S0 S1) (hz : cZ M p Z) (hm : mS N S0 S1) (hmz : mZ N Z) (hx : x = some (r, M)) (hy : y = some (r, tv_w N 249 0 0)) : rS p Z M N x y := by
  refine ⟨r, S0, S1, Z, hg, hZ, rfl, tq_eq hx ⟨rfl, hc, hz, fo.rf⟩, tq_eq hy ⟨rfl, hm.cg (fun a i q1 q2 => tp_wk (by omega)), ⟨?_, ?_⟩, fun a i q1 q2 => ?_⟩⟩
  · rw [tp_wj (by omega)]; exact hmz.1
  · rw [tp_wj (by omega)]; exact hmz.2
  · rw [tp_w, if_neg (fun w => q1 ⟨w.1, Or.inl w.2⟩)]
theorem rS_find {r : Int32} {k : Nat} (hk : k ≤ 5) (hg : gS S0) (hc : cS M S0 S1) (hz : cZ M p Z) (hm : mS N S0 S1) (hmz : mZ N Z) (hf : f01 N N') (h1 : N'.1 249 1 = nI k) (hx : x = some (r, tv_w M 0 9 (nI k))) (hy : y = some (r, N')) : rS p Z M N x y := by
  refine ⟨r, S0, S1, fun i => if i = 0 then k else Z i, hg, hk, rfl, tq_eq hx ⟨rfl, hc.cg (fun a i q1 q2 => tp_wk (by omega)), ⟨?_, tp_ws⟩, fo.rf.w (by omega) (by omega)⟩, tq_eq hy ⟨rfl, hm.cg (fun a i q1 q2 => hf a i (by omega)), ⟨h1, ?_⟩, fun a i q1 q2 => hf a i q1⟩⟩
  · rw [tp_wj (by omega)]; exact hz.1
  · rw [hf 249 25 (by omega)]; exact hmz.2
theorem op_drop (hF : 60 < F) (hg : gS S0) (hZ : Z 0 ≤ 5) (hc : cS M S0 S1) (hz : cZ M p Z) (hm : mS N S0 S1) (hmz : mZ N Z) : rS p Z M N (Xx_drop F a M) (Md_drop F a N) := by
  unfold Xx_drop Md_drop
  rcases tp_ix a (n := 8) (by decide) with h | ⟨s, hs, rfl⟩
  · exact rS_same (r := -1000001) hg hZ hc hz hm hmz (by rw [tp_cb (xs_at_out h), tp_nln]) (by rw [tp_pf, tp_cb (md_sh_out h), if_pos rfl])
  · obtain ⟨p1, p2, p3, p4⟩ := tp_shP s hs
    obtain ⟨c1, c2⟩ := hc s hs
    obtain ⟨m1, m2⟩ := hm s hs
    obtain ⟨g1, g2⟩ := hg s hs
    have ex : Xx_drop F (nI s) M = if i_ln (S0 0 s) = -1 then some ((-1000010) - 1, tv_w M 0 9 1) else some (M.1 (2 + 2 * s) 1, tv_w (xs_begun M s (-1) 0) 0 9 0) := by
      unfold Xx_drop
      rw [tp_cb (xs_at hs), tp_nls, tp_gl p3, tp_cb (xs_missing hs), c1]
      by_cases q : i_ln (S0 0 s) = -1
      · rw [if_pos q, if_pos q, if_neg (show ¬ (1 : Int32) = 0 by decide)]; rfl
      · rw [if_neg q, if_neg q, if_pos rfl, tp_cb (xs_begin hs (by omega))]; rfl
    have ey : Md_drop F (nI s) N = if 0 ≤ i_ln (S0 0 s) then some (N.1 251 s, tv_w (tv_w (tv_w N 249 0 0) 249 1 0) 250 s (-1)) else some ((-1000010) - 1, tv_w (tv_w (tv_w N 249 0 0) 249 1 0) 249 1 1) := by
      unfold Md_drop
      rw [tp_pf, tp_cb (md_sh hs), if_neg (show ¬ (1 : Int32) = 0 by decide), tp_pf, tp_rd hs (by decide), tp_wk (by omega), tp_wk (by omega), m1, tp_wr hs (by decide), tp_rd hs (by decide), tp_wk (by omega), tp_wk (by omega), tp_wk (by omega)]
      rfl
    show rS p Z M N (Xx_drop F (nI s) M) (Md_drop F (nI s) N)
    by_cases q : S0 0 s = 0
    · exact rS_find (k := 1) (by omega) hg hc hz hm hmz ((((f01.rf.w (Or.inl rfl)).w (Or.inr rfl)).w (Or.inr rfl))) tp_ws (by rw [ex, if_pos ((i_ln_m g1).mpr q)]; rfl) (by rw [ey, if_neg (fun w => (i_ln_p g1).mp w q)]; rfl)
    · obtain ⟨c3, c4⟩ := c2 q
      obtain ⟨m3, m4⟩ := m2 q
      refine ⟨nI (S0 1 s), fun t x => if t = 0 ∧ x = s then 0 else S0 t x, S1, fun i => if i = 0 then 0 else Z i, fun x hx => ?_, (by show (0 : Nat) ≤ 5; omega), rfl, tq_eq (M := tv_w (xs_begun M s (-1) 0) 0 9 0) (by rw [ex, if_neg (fun w => q ((i_ln_m g1).mp w)), c3]) ⟨rfl, fun x hx => ?_, ⟨?_, rfl⟩, fun a i ha => ?_⟩, tq_eq (M := tv_w (tv_w (tv_w N 249 0 0) 249 1 0) 250 s (-1)) (by rw [ey, if_pos ((i_ln_p g1).mpr q), m3]) ⟨rfl, fun x hx => ?_, ⟨?_, ?_⟩, fun a i q1 q2 => ?_⟩⟩
      · obtain ⟨k1, k2⟩ := hg x hx
        refine ⟨?_, ?_⟩
        · show (if 0 = 0 ∧ x = s then 0 else S0 0 x) ≤ 3
          by_cases w : 0 = 0 ∧ x = s
          · rw [if_pos w]; omega
          · rw [if_neg w]; exact k1
        · show (if 1 = 0 ∧ x = s then 0 else S0 1 x) ≤ 40
          rw [if_neg (fun w => absurd w.1 (by omega))]; exact k2
      · show (tv_w (xs_begun M s (-1) 0) 0 9 0).1 (2 + 2 * x) 0 = i_ln (if 0 = 0 ∧ x = s then 0 else S0 0 x) ∧ ((if 0 = 0 ∧ x = s then 0 else S0 0 x) ≠ 0 → (tv_w (xs_begun M s (-1) 0) 0 9 0).1 (2 + 2 * x) 1 = nI (if 1 = 0 ∧ x = s then 0 else S0 1 x) ∧ _)
        rw [if_neg (fun w : 1 = 0 ∧ x = s => absurd w.1 (by omega)), tp_wk (by omega), tp_wk (by omega)]
        unfold xs_begun
        by_cases w : x = s
        · subst w
          rw [if_pos ⟨rfl, rfl⟩, tp_wc1, if_neg (by omega), tp_wj (by omega), tp_ws]
          exact ⟨rfl, fun w => absurd rfl w⟩
        · rw [if_neg (fun w' => w w'.2), tp_wc1, if_neg (by omega), tp_wk (by omega), tp_wk (by omega), tp_wc1, if_neg (by omega), tp_wk (by omega), tp_wk (by omega)]
          refine ⟨(hc x hx).1, fun q' => ⟨((hc x hx).2 q').1, fun i hi => ?_⟩⟩
          rw [tp_wk (by omega), tp_wc1, if_neg (by omega), tp_wk (by omega), tp_wk (by omega)]
          exact ((hc x hx).2 q').2 i hi
      · rw [tp_wj (by omega)]
        unfold xs_begun
        rw [tp_wc1, if_neg (by omega), tp_wk (by omega), tp_wk (by omega)]; exact hz.1
      · unfold xs_begun
        rw [tp_wk (by omega), tp_wc1, if_neg (by omega), tp_wk (by omega), tp_wk (by omega)]
      · show (tv_w (tv_w (tv_w N 249 0 0) 249 1 0) 250 s (-1)).1 250 x = i_ln (if 0 = 0 ∧ x = s then 0 else S0 0 x) ∧ ((if 0 = 0 ∧ x = s then 0 else S0 0 x) ≠ 0 → (tv_w (tv_w (tv_w N 249 0 0) 249 1 0) 250 s (-1)).1 251 x = nI (if 1 = 0 ∧ x = s then 0 else S0 1 x) ∧ _)
        rw [if_neg (fun w : 1 = 0 ∧ x = s => absurd w.1 (by omega))]
        by_cases w : x = s
        · subst w
          rw [if_pos ⟨rfl, rfl⟩, tp_ws]
          exact ⟨rfl, fun w => absurd rfl w⟩
        · rw [if_neg (fun w' => w w'.2), tp_wj w, tp_wk (by omega), tp_wk (by omega), tp_wk (by omega), tp_wk (by omega), tp_wk (by omega)]
          refine ⟨(hm x hx).1, fun q' => ⟨((hm x hx).2 q').1, fun i hi => ?_⟩⟩
          rw [tp_wk (by omega), tp_wk (by omega), tp_wk (by omega)]
          exact ((hm x hx).2 q').2 i hi
      · rw [tp_wk (by omega), tp_ws]; rfl
      · rw [tp_wk (by omega), tp_wj (by omega), tp_wj (by omega)]; exact hmz.2
      · rw [tp_wk (by omega), tp_w, if_neg (by omega), tp_w, if_neg (by omega)]
end SHEETOPS
