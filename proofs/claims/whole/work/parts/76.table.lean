/-! A TABLE -/
def fTc (c : Nat) (M M' : tv_M) : Prop := ∀ a i, ¬ (a = 68 ∧ 3 ≤ i ∧ i ≤ 8) → a ≠ c → M'.1 a i = M.1 a i
def fTm (at' : Nat) (N N' : tv_M) : Prop := ∀ a i, ¬ (a = 249 ∧ 27 ≤ i ∧ i ≤ 32) → ¬ (a = 259 ∧ at' ≤ i ∧ i < at' + 9) → N'.1 a i = N.1 a i
theorem fTc.tr {c : Nat} {M M' M'' : tv_M} (h : fTc c M M') (g : fTc c M' M'') : fTc c M M'' := fun a i q1 q2 => (g a i q1 q2).trans (h a i q1 q2)
theorem fTm.tr {c : Nat} {M M' M'' : tv_M} (h : fTm c M M') (g : fTm c M' M'') : fTm c M M'' := fun a i q1 q2 => (g a i q1 q2).trans (h a i q1 q2)
theorem f68.tc {c : Nat} {M M' : tv_M} (h : f68 M M') : fTc c M M' := fun a i q _ => h a i q
theorem f32.tm {c : Nat} {M M' : tv_M} (h : f32 M M') : fTm c M M' := fun a i q _ => h a i q
section TABLE
variable {F p e c tc at' rows n : Nat} {M N : tv_M} {Tp : Nat → Nat → Nat} {q : Nat × Nat × Nat}
theorem md_tabf {f b nn r : Nat} (hF : 600 < F) (hat : at' + 9 ≤ 180) (hr : r < rows) (hrows : rows ≤ 3) (hn : n ≤ 3) : ∀ d k ng (N : tv_M), k + d = n → d < ng → FL M N f b → ∃ N', Md_readTable_L19 F (Md_readTable_L3 F (nn + 1)) ng (nI at') (nI rows) (nI n) (nI r) (nI k) N = some ((), N') ∧ FL M N' f b ∧ fTm at' N N' := by
  intro d
  induction d with
  | zero =>
    intro k ng N e1 e2 h
    obtain ⟨ng, rfl⟩ : ∃ n', ng = n' + 1 := ⟨ng - 1, by omega⟩
    have hne : ¬ nI f = 0 := fun w => absurd ((nI_z (by have := h.2.2.2.2.2.1; omega)).mp w) (by have := h.2.2.2.2.1; omega)
    have hk3 : Md_readTable_L3 F (nn + 1) (nI at') (nI rows) (nI n) (nI (r + 1)) N = some ((), N) := by
      rw [Md_readTable_L3, h.2.2.1, if_neg hne]
      by_cases w : nI rows ≤ nI (r + 1)
      · rw [if_pos w]
      · rw [if_neg w]
    rw [Md_readTable_L19, if_pos (nI_le (by omega) (by omega)), h.2.2.1, if_neg hne, nI_1, hk3]
    refine ⟨N, ?_, h, fun _ _ _ _ => rfl⟩
    by_cases w : nI rows - 1 ≤ nI r
    · rw [if_pos w]
    · rw [if_neg w]
  | succ d ih =>
    intro k ng N e1 e2 h
    obtain ⟨ng, rfl⟩ : ∃ n', ng = n' + 1 := ⟨ng - 1, by omega⟩
    rw [Md_readTable_L19, if_neg (nI_ge (by omega) (by omega)), tp_cb (md_numf h.2.2.1 h.2.2.2.2.1 h.2.2.2.2.2.1), show (nI at' + 3 * nI r + nI k : Int32) = nI (at' + 3 * r + k) from by rw [← nI_add, ← nI_add, ← nI_mul]; rfl, tp_wr (by omega) (by decide), nI_1]
    obtain ⟨N', x1, x2, x3⟩ := ih (k + 1) ng (tv_w N 259 (at' + 3 * r + k) 0) (by omega) (by omega) (h.cg rfl rfl (by rw [tp_wk (by omega)]) (by rw [tp_wk (by omega)]))
    exact ⟨N', x1, x2, fun a i w1 w2 => by rw [x3 a i w1 w2, tp_w, if_neg (by omega)]⟩
/-- the values stand in both tables -/
def tVs (M N : tv_M) (c at' p n r k : Nat) (V : Nat → Nat) : Prop := ∀ r' k', ((r' < r ∧ k' < n) ∨ (r' = r ∧ k' < k)) → M.1 c (3 * r' + k') = nI (V (3 * r' + k')) ∧ N.1 259 (at' + 3 * r' + k') = nI (V (3 * r' + k')) ∧ V (3 * r' + k') < p
theorem pr_row {nn r : Nat} {k29 : Nat → Nat → Nat → Int32 → tv_M → Option (Int32 × tv_M)} (hF : 600 < F) (hp : tp_pr p) (hg : gTp Tp) (htc : tv_lay[tc]? = some (4, 5)) (hec : tv_lay[22 + 2 * e]? = some (3, 7)) (hcl : tv_lay[c]? = some (20, 9)) (hc : 38 < c ∧ c < 68) (hat : at' + 9 ≤ 180) (hr : r < rows) (hrows : rows ≤ 3) (hn : n ≤ 3) (hec2 : 22 + 2 * e < 38) : ∀ d k ng (M N : tv_M) q V, k + d = n → d < ng → SY M N Tp q → M.1 (22 + 2 * e) 2 = nI n → M.1 18 0 = nI p → N.1 249 2 = nI p → tVs M N c at' p n r k V → (∃ M' N' q' V', Re_takeTable_L57 F k29 ng tc (22 + 2 * e) c (nI r) (nI k) M = k29 tc (22 + 2 * e) c (nI (r + 1)) M' ∧ (Md_readTable_L19 F (Md_readTable_L3 F (nn + 1)) ng (nI at') (nI rows) (nI n) (nI r) (nI k) N = if nI rows - 1 ≤ nI r then Md_readTable_L3 F (nn + 1) (nI at') (nI rows) (nI n) (nI (r + 1)) N' else tv_cb (Md_is F 44 N') (fun r1 M2 => tv_cb (Md_must F r1 M2) (fun r3 M4 => Md_readTable_L3 F (nn + 1) (nI at') (nI rows) (nI n) (nI (r + 1)) M4))) ∧ SY M' N' Tp q' ∧ q.1 ≤ q'.1 ∧ tVs M' N' c at' p n (r + 1) 0 V' ∧ fTc c M M' ∧ fTm at' N N') ∨ (∃ M' N' f b, Re_takeTable_L57 F k29 ng tc (22 + 2 * e) c (nI r) (nI k) M = some (0, M') ∧ Md_readTable_L19 F (Md_readTable_L3 F (nn + 1)) ng (nI at') (nI rows) (nI n) (nI r) (nI k) N = some ((), N') ∧ FL M' N' f b ∧ fTc c M M' ∧ fTm at' N N') := by
  have hp7 := hp.lt
  intro d
  induction d with
  | zero =>
    intro k ng M N q V e1 e2 h m2 mp np hV
    obtain ⟨ng, rfl⟩ : ∃ n', ng = n' + 1 := ⟨ng - 1, by omega⟩
    rw [Re_takeTable_L57, tp_gl htc, tp_gl hec, tp_gn hcl, m2, if_pos (nI_le (by omega) (by omega)), Md_readTable_L19, if_pos (nI_le (by omega) (by omega)), h.2.2.2.2.1, if_pos rfl, nI_1]
    refine Or.inl ⟨M, N, q, V, rfl, rfl, h, Nat.le_refl _, fun r' k' w => hV r' k' ?_, fun _ _ _ _ => rfl, fun _ _ _ _ => rfl⟩
    rcases w with w | w
    · by_cases z : r' = r
      · exact Or.inr ⟨z, by omega⟩
      · exact Or.inl ⟨by omega, w.2⟩
    · omega
  | succ d ih =>
    intro k ng M N q V e1 e2 h m2 mp np hV
    obtain ⟨ng, rfl⟩ : ∃ n', ng = n' + 1 := ⟨ng - 1, by omega⟩
    have ep : (nI p - 1 : Int32) = nI (p - 1) := by rw [show (1 : Int32) = nI 1 from rfl, nI_sub (by omega)]
    rw [Re_takeTable_L57, tp_gl htc, tp_gl hec, tp_gn hcl, m2, if_neg (nI_ge (by omega) (by omega)), mp, ep, Md_readTable_L19, if_neg (nI_ge (by omega) (by omega)), np, ep, show (nI at' + 3 * nI r + nI k : Int32) = nI (at' + 3 * r + k) from by rw [← nI_add, ← nI_add, ← nI_mul]; rfl, show nI r * 3 + nI k = nI (3 * r + k) from by rw [Nat.mul_comm, ← nI_add, ← nI_mul]; rfl]
    rcases pr_num (F := F) (lo := 0) (hi := p - 1) (loI := 0) (hiI := nI (p - 1)) hF hg h rfl rfl (by omega) (by omega) with ⟨k1, k2, k3, M1, N1, b1, b2, b3, b4, b5, b6⟩ | ⟨f, M1, N1, w, b1, b2, b3, b4, b5⟩
    · generalize qv Tp q = v at k2 k3 b2 b3
      rw [tp_cb b1, if_neg (show ¬ (1 : Int32) = 0 by decide), b2, tp_wr (by omega) (by decide), tp_cb b3, tp_wr (by omega) (by decide), nI_1]
      have hS : SY (tv_w M1 c (3 * r + k) (nI v)) (tv_w N1 259 (at' + 3 * r + k) (nI v)) Tp (lx Tp q.2.1) := b4.cg (fun i _ _ => by rw [tp_wk (by omega)]) (fun i => by rw [tp_wk (by omega)]) (fun i _ _ => by rw [tp_wk (by omega)]) (fun i => by rw [tp_wk (by omega)])
      have fc : fTc c M (tv_w M1 c (3 * r + k) (nI v)) := fun a i w1 w2 => by rw [tp_wk w2]; exact b5 a i w1
      have fm : fTm at' N (tv_w N1 259 (at' + 3 * r + k) (nI v)) := fun a i w1 w2 => by rw [tp_w, if_neg (by omega)]; exact b6 a i (by omega)
      have hV1 : tVs (tv_w M1 c (3 * r + k) (nI v)) (tv_w N1 259 (at' + 3 * r + k) (nI v)) c at' p n r (k + 1) (fun i => if i = 3 * r + k then v else V i) := fun r' k' w => by
        dsimp only
        by_cases z : 3 * r' + k' = 3 * r + k
        · rw [if_pos z, tp_w, if_pos ⟨rfl, z⟩, tp_w, if_pos ⟨rfl, by omega⟩]
          exact ⟨rfl, rfl, by omega⟩
        · obtain ⟨v1, v2, v3⟩ := hV r' k' (by omega)
          rw [if_neg z, tp_w, if_neg (fun y => z y.2), tp_w, if_neg (by omega), b5 _ _ (by omega), b6 _ _ (by omega)]
          exact ⟨v1, v2, v3⟩
      have hnx := h.2.2.2.2.2.nx
      rcases ih (k + 1) ng _ _ _ _ (by omega) (by omega) hS (by rw [fc _ _ (by omega) (by omega)]; exact m2) (by rw [fc _ _ (by omega) (by omega)]; exact mp) (by rw [fm _ _ (by omega) (by omega)]; exact np) hV1 with ⟨M2, N2, q2, V2, x1, x2, x3, x4, x5, x6, x7⟩ | ⟨M2, N2, f2, b2, x1, x2, x3, x4, x5⟩
      · exact Or.inl ⟨M2, N2, q2, V2, x1, x2, x3, by omega, x5, fc.tr x6, fm.tr x7⟩
      · exact Or.inr ⟨M2, N2, f2, b2, x1, x2, x3, fc.tr x4, fm.tr x5⟩
    · rw [tp_cb b1, if_pos rfl, tp_cb b2, tp_wr (by omega) (by decide), nI_1]
      obtain ⟨N2, x1, x2, x3⟩ := md_tabf (F := F) (nn := nn) hF hat hr hrows hn d (k + 1) ng (tv_w N1 259 (at' + 3 * r + k) w) (by omega) (by omega) (b3.cg rfl rfl (by rw [tp_wk (by omega)]) (by rw [tp_wk (by omega)]))
      exact Or.inr ⟨M1, N2, f, _, rfl, x1, x2, b4.tc, fun a i w1 w2 => by rw [x3 a i w1 w2, tp_w, if_neg (by omega)]; exact b5 a i w1⟩
theorem pr_tab (hF : 600 < F) (hp : tp_pr p) (hg : gTp Tp) (htc : tv_lay[tc]? = some (4, 5)) (hec : tv_lay[22 + 2 * e]? = some (3, 7)) (hcl : tv_lay[c]? = some (20, 9)) (hc : 38 < c ∧ c < 68) (hctc : tc ≠ c) (htc2 : 38 ≤ tc ∧ tc < 68) (hat : at' + 9 ≤ 180) (hr1 : 1 ≤ rows) (hrows : rows ≤ 3) (hn : n ≤ 3) (hec2 : 22 + 2 * e < 38) (h : SY M N Tp q) (mr : M.1 tc 2 = nI rows) (m2 : M.1 (22 + 2 * e) 2 = nI n) (mp : M.1 18 0 = nI p) (np : N.1 249 2 = nI p) : ∃ (res : Int32) (M' N' : tv_M), Re_takeTable_L29 F F tc (22 + 2 * e) c 0 M = some (res, M') ∧ Md_readTable F (nI at') (nI rows) (nI n) N = some ((), N') ∧ fTc c M M' ∧ fTm at' N N' ∧ ((res = 1 ∧ ∃ q' V, SY M' N' Tp q' ∧ q.1 ≤ q'.1 ∧ tVs M' N' c at' p n rows 0 V) ∨ (res = 0 ∧ ∃ f b, FL M' N' f b)) := by
  have hh : ∀ d r g g' (M1 N1 : tv_M) q1 V, r + d = rows → 1 ≤ d → d < g → d < g' → SY M1 N1 Tp q1 → q.1 ≤ q1.1 → fTc c M M1 → fTm at' N N1 → tVs M1 N1 c at' p n r 0 V → ∃ (res : Int32) (M' N' : tv_M), Re_takeTable_L57 F (Re_takeTable_L29 F g) F tc (22 + 2 * e) c (nI r) 0 M1 = some (res, M') ∧ Md_readTable_L19 F (Md_readTable_L3 F (g' + 1)) F (nI at') (nI rows) (nI n) (nI r) 0 N1 = some ((), N') ∧ fTc c M M' ∧ fTm at' N N' ∧ ((res = 1 ∧ ∃ q' V, SY M' N' Tp q' ∧ q.1 ≤ q'.1 ∧ tVs M' N' c at' p n rows 0 V) ∨ (res = 0 ∧ ∃ f b, FL M' N' f b)) := by
    intro d
    induction d with
    | zero => intro r g g' M1 N1 q1 V e1 e2; omega
    | succ d ih =>
      intro r g g' M1 N1 q1 V e1 e2 e3 e4 h1 hle fc fm hV
      rcases pr_row (F := F) (tc := tc) (e := e) (c := c) (at' := at') (rows := rows) (n := n) (nn := g') (r := r) (k29 := Re_takeTable_L29 F g) hF hp hg htc hec hcl hc hat (by omega) hrows hn hec2 n 0 F M1 N1 q1 V (by omega) (by omega) h1 (by rw [fc _ _ (by omega) (by omega)]; exact m2) (by rw [fc _ _ (by omega) (by omega)]; exact mp) (by rw [fm _ _ (by omega) (by omega)]; exact np) hV with ⟨M2, N2, q2, V2, x1, x2, x3, x4, x5, x6, x7⟩ | ⟨M2, N2, f2, b2, x1, x2, x3, x4, x5⟩
      · have x1 : Re_takeTable_L57 F (Re_takeTable_L29 F g) F tc (22 + 2 * e) c (nI r) 0 M1 = _ := x1
        have x2 : Md_readTable_L19 F (Md_readTable_L3 F (g' + 1)) F (nI at') (nI rows) (nI n) (nI r) 0 N1 = _ := x2
        obtain ⟨g, rfl⟩ : ∃ n', g = n' + 1 := ⟨g - 1, by omega⟩
        have er : (nI rows - 1 : Int32) = nI (rows - 1) := by rw [show (1 : Int32) = nI 1 from rfl, nI_sub (by omega)]
        have fc2 := fc.tr x6
        have fm2 := fm.tr x7
        rw [x1, x2, er, Re_takeTable_L29, tp_gl htc, tp_gl hec, tp_gn hcl, fc2 tc 2 (by omega) hctc, mr]
        by_cases w : d = 0
        · rw [if_pos (nI_le (by omega) (by omega)), if_pos (nI_le (by omega) (by omega)), Md_readTable_L3, if_pos (nI_le (by omega) (by omega))]
          refine ⟨1, M2, N2, rfl, rfl, fc2, fm2, Or.inl ⟨rfl, q2, V2, x3, by omega, ?_⟩⟩
          rw [show rows = r + 1 by omega]; exact x5
        · rw [if_neg (nI_ge (by omega) (by omega)), if_neg (nI_ge (by omega) (by omega)), if_neg (show ¬ nI (r + 1) ≤ 0 from nI_ge (a := 0) (b := r + 1) (by omega) (by omega))]
          obtain ⟨x, y1, y2⟩ := pr_sign (F := F) (c := 44) (cI := 44) hF hg x3 rfl (Or.inr rfl)
          rw [tp_cb y1]
          have hnx := x3.2.2.2.2.2.nx
          rcases y2 with ⟨k, M3, N3, z1, z2, z3, z4, z5⟩ | ⟨M3, N3, z1, z2, z3, z4, z5⟩
          · rw [tp_cb z1, if_neg (show ¬ (1 : Int32) = 0 by decide), tp_cb z2]
            obtain ⟨g', rfl⟩ : ∃ n', g' = n' + 1 := ⟨g' - 1, by omega⟩
            rw [Md_readTable_L3, if_neg (nI_ge (by omega) (by omega)), z3.2.2.2.2.1, if_pos rfl]
            exact ih (r + 1) g g' M3 N3 _ V2 (by omega) (by omega) (by omega) (by omega) z3 (by omega) (fc2.tr z4.tc) (fm2.tr z5.f.tm) (fun r' k' v => by
              obtain ⟨v1, v2, v3⟩ := x5 r' k' v
              exact ⟨by rw [z4 _ _ (by omega)]; exact v1, by rw [z5 _ _ (by omega)]; exact v2, v3⟩)
          · rw [tp_cb z1, if_pos rfl, tp_cb z2, Md_readTable_L3, if_neg (nI_ge (by omega) (by omega)), z3.2.2.1, if_neg (show ¬ nI 1 = 0 by decide)]
            exact ⟨0, M3, N3, rfl, rfl, fc2.tr z4.tc, fm2.tr z5.tm, Or.inr ⟨rfl, 1, _, z3⟩⟩
      · have x1 : Re_takeTable_L57 F (Re_takeTable_L29 F g) F tc (22 + 2 * e) c (nI r) 0 M1 = _ := x1
        have x2 : Md_readTable_L19 F (Md_readTable_L3 F (g' + 1)) F (nI at') (nI rows) (nI n) (nI r) 0 N1 = _ := x2
        rw [x1, x2]
        exact ⟨0, M2, N2, rfl, rfl, fc.tr x4, fm.tr x5, Or.inr ⟨rfl, f2, b2, x3⟩⟩
  obtain ⟨g, hgF⟩ : ∃ g, F = g + 2 := ⟨F - 2, by omega⟩
  have hstart := hh rows 0 (g + 1) g M N q (fun _ => 0) (by omega) hr1 (by omega) (by omega) h (Nat.le_refl _) (fun _ _ _ _ => rfl) (fun _ _ _ _ => rfl) (fun r' k' w => by omega)
  have e1 : Re_takeTable_L29 F F tc (22 + 2 * e) c 0 M = Re_takeTable_L57 F (Re_takeTable_L29 F (g + 1)) F tc (22 + 2 * e) c 0 0 M := by
    have : ∀ G, Re_takeTable_L29 G (g + 1 + 1) tc (22 + 2 * e) c 0 M = Re_takeTable_L57 G (Re_takeTable_L29 G (g + 1)) G tc (22 + 2 * e) c 0 0 M := fun G => by
      rw [Re_takeTable_L29, tp_gl htc, tp_gl hec, tp_gn hcl, mr, if_neg (show ¬ nI rows ≤ 0 from nI_ge (a := 0) (b := rows) (by omega) (by omega)), if_pos (show (0 : Int32) ≤ 0 from Int32.le_refl _)]
    have h2 := this F
    rw [show g + 1 + 1 = F by omega] at h2
    exact h2
  have e2 : Md_readTable F (nI at') (nI rows) (nI n) N = Md_readTable_L19 F (Md_readTable_L3 F (g + 1)) F (nI at') (nI rows) (nI n) 0 0 N := by
    unfold Md_readTable
    have : ∀ G, Md_readTable_L3 G (g + 1 + 1) (nI at') (nI rows) (nI n) 0 N = Md_readTable_L19 G (Md_readTable_L3 G (g + 1)) G (nI at') (nI rows) (nI n) 0 0 N := fun G => by
      rw [Md_readTable_L3, if_neg (show ¬ nI rows ≤ 0 from nI_ge (a := 0) (b := rows) (by omega) (by omega)), h.2.2.2.2.1, if_pos rfl]
    have h2 := this F
    rw [show g + 1 + 1 = F by omega] at h2
    exact h2
  rw [e1, e2]
  exact hstart
end TABLE
