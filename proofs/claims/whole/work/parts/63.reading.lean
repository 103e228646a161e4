/-! READINGS -/
def al_s (T R : Nat → Nat → Nat) : Nat := rs (hs R) (tE T)
def sub8 (x y : Nat) : Bool := an (fun k => !x.testBit k || y.testBit k) 8
def so (R : Nat → Nat → Nat) (off e : Nat) : Bool := hs R e && !off.testBit e
/-- the fewest readings to drop, looking at the sets below off -/
def fwl (p : Nat) (T R : Nat → Nat → Nat) : Nat → Nat
  | 0 => al_s T R
  | off + 1 => if sub8 off (al_s T R) = true ∧ pc off < pc (fwl p T R off) ∧ ft p T R (so R off) = true then off else fwl p T R off
def cD (M : tv_M) (p : Nat) (T R : Nat → Nat → Nat) : Prop := M.1 165 8 = 0 ∨ (M.1 165 8 = 1 ∧ M.1 165 6 = nI (fwl p T R 256))
def fRd (M M' : tv_M) : Prop := ∀ a i, ¬ (a = 0 ∧ i = 9) → ¬ (22 ≤ a ∧ a < 38 ∧ (a % 2 = 1 ∨ i = 5)) → ¬ (a = 70 ∧ i = 3) → ¬ (a = 165 ∧ i = 8) → M'.1 a i = M.1 a i
def fRm (N N' : tv_M) : Prop := ∀ a i, ¬ (a = 249 ∧ (i = 0 ∨ i = 1)) → (a < 270 ∨ 272 ≤ a) → N'.1 a i = N.1 a i
section READING
variable {F p : Nat} {a b c : Int32} {M N : tv_M} {T R S0 : Nat → Nat → Nat} {S1 : Nat → Nat → Int32} {Z : Nat → Nat}
theorem cF.cg {M M' : tv_M} (hT : gT p T) (hR : gR p T R) (h : cF M p T R) (h3 : M'.1 70 3 = M.1 70 3) (h4 : M'.1 70 4 = M.1 70 4) (hk : ∀ a i, 106 ≤ a → a < 165 → M'.1 a i = M.1 a i) : cF M' p T R := by
  rcases h with h | ⟨k1, k2, k3⟩
  · exact Or.inl (by rw [h3]; exact h)
  · refine Or.inr ⟨by rw [h3]; exact k1, by rw [h4]; exact k2, k3.cg (Or.inr rfl) ?_ (fun a i q1 q2 => hk a i q1 q2)⟩
    have := wr_n_24 hT (hs_lin hR)
    have := hT.L
    show _ ≤ 54
    omega
theorem cD.cg {M M' : tv_M} (h : cD M p T R) (hk : ∀ i, M'.1 165 i = M.1 165 i) : cD M' p T R := by
  rcases h with h | h
  · exact Or.inl (by rw [hk]; exact h)
  · exact Or.inr ⟨by rw [hk]; exact h.1, by rw [hk]; exact h.2⟩
theorem col_dj {e e' k : Nat} (hT : gT p T) (he : e < tE T) (he' : e' < tE T) (hs : tso T e ≠ 3) (hs' : tso T e' ≠ 3) (hne : e' ≠ e) (hk : k < tsz T e') : ¬ (tco T e ≤ tco T e' + k ∧ tco T e' + k < tco T e + tsz T e) := by
  have c1 := (hT.2.2.2.2.2.1 e he).2.2.2.2
  have c2 := (hT.2.2.2.2.2.1 e' he').2.2.2.2
  rcases Nat.lt_or_ge e' e with q | q
  · have h1 := tcs_mono T (a := e' + 1) e (by omega)
    rw [tcs, if_neg hs'] at h1
    omega
  · have h1 := tcs_mono T (a := e + 1) e' (by omega)
    rw [tcs, if_neg hs] at h1
    omega
/-- the reference looks at the rests -/
theorem md_rests {s n : Nat} (hF : 60 < F) (hp : tp_pr p) (hs : s < 8) (hg : gS S0) (hm : mS N S0 S1) (hmp : N.1 249 2 = nI p) (hn : n ≤ 40) : Md_lookRests F (nI s) b (nI n) N = if S0 0 s = 0 then some (-1000010 - 1, tv_w N 249 1 1) else if 0 ≤ b.toInt ∧ b.toInt + n ≤ S0 1 s then (if ∀ k, k < n → 0 ≤ (S1 s (b.toInt.toNat + k)).toInt ∧ (S1 s (b.toInt.toNat + k)).toInt < p then some (0, tv_w N 249 1 0) else some (-1000001, N)) else some (-1000010 - 2, tv_w N 249 1 2) := by
  have hp7 := hp.lt
  obtain ⟨g1, g2⟩ := hg s hs
  obtain ⟨m1, m2⟩ := hm s hs
  unfold Md_lookRests
  rw [tp_rd (by omega) (by decide), m1]
  by_cases q0 : S0 0 s = 0
  · rw [if_neg (fun w => ((i_ln_p g1).mp w) q0), if_pos q0]; rfl
  obtain ⟨m2, m3⟩ := m2 q0
  rw [if_pos ((i_ln_p g1).mpr q0), if_neg q0, tp_rd (by omega) (by decide), m2]
  by_cases q1 : b < 0
  · rw [if_pos q1, if_neg (fun w => by have := (tp_lt _ _).mp q1; rw [tp_0T] at this; omega)]; rfl
  have hb0 : 0 ≤ b.toInt := by have := Int32.not_lt.mp q1; rw [tp_le, tp_0T] at this; exact this
  have hcmp := tp_lcs b (nI n) (n := S0 1 s) (by omega)
  rw [nI_toInt (by omega)] at hcmp
  rw [if_neg q1]
  by_cases q2 : b.toInt + n ≤ S0 1 s
  · rw [if_pos (Int32.not_lt.mp (fun w => by have := hcmp.mp w; omega)), if_pos ⟨hb0, q2⟩]
    have hbk : b = nI b.toInt.toNat := tp_of b hb0
    have hbi : b.toInt.toNat + n ≤ S0 1 s := by omega
    generalize b.toInt.toNat = i at hbk hbi
    subst hbk
    have hh : ∀ d k nn, k + d = n → d < nn → (∀ k', k' < k → 0 ≤ (S1 s (i + k')).toInt ∧ (S1 s (i + k')).toInt < p) → Md_lookRests_L44 F nn (nI s) (nI i) (nI n) (nI k) N = if ∀ k, k < n → 0 ≤ (S1 s (i + k)).toInt ∧ (S1 s (i + k)).toInt < p then some (0, tv_w N 249 1 0) else some (-1000001, N) := by
      intro d
      induction d with
      | zero =>
        intro k nn e1 e2 hk
        obtain ⟨nn, rfl⟩ : ∃ n', nn = n' + 1 := ⟨nn - 1, by omega⟩
        rw [Md_lookRests_L44, if_pos (nI_le (by omega) (by omega)), if_pos (fun k' hk' => hk k' (by omega)), tp_pf]
      | succ d ih =>
        intro k nn e1 e2 hk
        obtain ⟨nn, rfl⟩ : ∃ n', nn = n' + 1 := ⟨nn - 1, by omega⟩
        rw [Md_lookRests_L44, if_neg (nI_ge (by omega) (by omega)), show (40 * nI s + nI i + nI k : Int32) = nI (40 * s + (i + k)) from by rw [← Nat.add_assoc, ← nI_add, ← nI_add, ← nI_mul]; rfl, tp_rd (by omega) (by decide), m3 (i + k) (by omega), nI_1]
        rcases tp_ix (S1 s (i + k)) (n := p) (by omega) with h | ⟨v, hv, e⟩
        · have er : Md_isRest F (S1 s (i + k)) N = some (0, N) := by
            unfold Md_isRest
            rw [hmp, tp_cb (md_in_out h (by omega) rfl)]; rfl
          rw [tp_cb er, if_pos rfl, if_neg]
          intro w
          have w := w k (by omega)
          rcases h with h | h
          · have := (tp_lt _ _).mp h; rw [tp_0T] at this; omega
          · have := (tp_le _ _).mp h; rw [nI_toInt (by omega)] at this; omega
        · have er : Md_isRest F (S1 s (i + k)) N = some (1, N) := by
            unfold Md_isRest
            rw [hmp, e, tp_cb (md_in_in hv (by omega) rfl)]; rfl
          rw [tp_cb er, if_neg (show ¬ (1 : Int32) = 0 by decide)]
          exact ih (k + 1) nn (by omega) (by omega) (fun k' hk' => by
            by_cases w : k' = k
            · rw [w, e, nI_toInt (by omega)]; omega
            · exact hk k' (by omega))
    exact hh n 0 F (by omega) (by omega) (fun k hk => absurd hk (Nat.not_lt_zero k))
  · rw [if_neg (fun w => (Int32.not_lt.mpr w) (hcmp.mpr (by omega))), if_neg (fun w => q2 w.2)]; rfl
def rS1 (Z : Nat → Nat) (v : Nat) : Nat → Nat := fun i => if i = 0 then v else Z i
theorem op_reading (hF : 60 < F) (hp : tp_pr p) (hT : gT p T) (hR : gR p T R) (hg : gS S0) (hZ : Z 0 ≤ 5) (cc : cT M p T) (cr : cR M T R) (cs : cS M S0 S1) (cz : cZ M p Z) (cf : cF M p T R) (cd : cD M p T R) (mc : mT N p T) (mr : mR N T R) (ms : mS N S0 S1) (mz : mZ N Z) : ∃ (r : Int32) (R' : Nat → Nat → Nat) (Z' : Nat → Nat), gR p T R' ∧ Z' 0 ≤ 5 ∧ Z' 1 = Z 1 ∧ tq (Xx_reading F a b c M) (fun q M' => q = r ∧ cR M' T R' ∧ cZ M' p Z' ∧ cF M' p T R' ∧ cD M' p T R' ∧ fRd M M') ∧ tq (Md_reading F a b c N) (fun q N' => q = r ∧ mR N' T R' ∧ mZ N' Z' ∧ fRm N N') := by
  have hp7 := hp.lt
  have h8 := hT.1
  have hC := hT.C
  have mc' := mc.w0
  have mr' := mr.w0
  have ms' : mS (tv_w N 249 0 0) S0 S1 := ms.cg (fun a i q1 q2 => by rw [tp_wk (by omega)])
  have mz' : mZ (tv_w N 249 0 0) Z := ⟨by rw [tp_wj (by omega)]; exact mz.1, by rw [tp_wj (by omega)]; exact mz.2⟩
  have fm0 : fRm N (tv_w N 249 0 0) := fun a i q1 _ => by rw [tp_w, if_neg (by omega)]
  have hsame : ∀ r : Int32, Xx_reading F a b c M = some (r, M) → Md_reading F a b c N = some (r, tv_w N 249 0 0) → ∃ (r : Int32) (R' : Nat → Nat → Nat) (Z' : Nat → Nat), gR p T R' ∧ Z' 0 ≤ 5 ∧ Z' 1 = Z 1 ∧ tq (Xx_reading F a b c M) (fun q M' => q = r ∧ cR M' T R' ∧ cZ M' p Z' ∧ cF M' p T R' ∧ cD M' p T R' ∧ fRd M M') ∧ tq (Md_reading F a b c N) (fun q N' => q = r ∧ mR N' T R' ∧ mZ N' Z' ∧ fRm N N') := fun r h1 h2 => ⟨r, R, Z, hR, hZ, rfl, tq_eq h1 ⟨rfl, cr, cz, cf, cd, fun _ _ _ _ _ _ => rfl⟩, tq_eq h2 ⟨rfl, mr', mz', fm0⟩⟩
  have hfind : ∀ k : Nat, k ≤ 5 → Xx_reading F a b c M = some (-1000010 - nI k, tv_w M 0 9 (nI k)) → Md_reading F a b c N = some (-1000010 - nI k, tv_w (tv_w N 249 0 0) 249 1 (nI k)) → ∃ (r : Int32) (R' : Nat → Nat → Nat) (Z' : Nat → Nat), gR p T R' ∧ Z' 0 ≤ 5 ∧ Z' 1 = Z 1 ∧ tq (Xx_reading F a b c M) (fun q M' => q = r ∧ cR M' T R' ∧ cZ M' p Z' ∧ cF M' p T R' ∧ cD M' p T R' ∧ fRd M M') ∧ tq (Md_reading F a b c N) (fun q N' => q = r ∧ mR N' T R' ∧ mZ N' Z' ∧ fRm N N') := fun k hk h1 h2 => ⟨_, R, rS1 Z k, hR, hk, rfl, tq_eq h1 ⟨rfl, cr.cg hT (fun a i q1 q2 _ => by rw [tp_wk (by omega)]), ⟨by rw [tp_wj (by omega)]; exact cz.1, rfl⟩, cf.cg hT hR (by rw [tp_wk (by omega)]) (by rw [tp_wk (by omega)]) (fun a i q1 q2 => by rw [tp_wk (by omega)]), cd.cg (fun i => by rw [tp_wk (by omega)]), fun a i q1 _ _ _ => by rw [tp_w, if_neg q1]⟩, tq_eq h2 ⟨rfl, mr'.cg (fun a i q1 q2 => by rw [tp_wk (by omega)]), ⟨tp_ws, by rw [tp_wj (by omega)]; exact mz'.2⟩, fun a i q1 q2 => by rw [tp_w, if_neg (by omega)]; exact fm0 a i q1 q2⟩⟩
  have hla : (To_linearAt F a M = some (none, M) ∧ Md_isLinear F a (tv_w N 249 0 0) = some (0, tv_w N 249 0 0)) ∨ ∃ e, e < tE T ∧ a = nI e ∧ tso T e ≠ 3 ∧ To_linearAt F a M = some (some (22 + 2 * e), M) ∧ Md_isLinear F a (tv_w N 249 0 0) = some (1, tv_w N 249 0 0) := by
    rcases tp_ix a (n := tE T) (by omega) with h | ⟨e, he, rfl⟩
    · exact Or.inl ⟨to_lin_out cc h, md_lin_out hT mc' h⟩
    · by_cases q : tso T e = 3
      · exact Or.inl ⟨by rw [to_lin hT cc he, if_pos q], by rw [md_lin hT mc' he, if_pos q]⟩
      · exact Or.inr ⟨e, he, rfl, q, by rw [to_lin hT cc he, if_neg q], by rw [md_lin hT mc' he, if_neg q]⟩
  rcases hla with ⟨a1, a2⟩ | ⟨e, he, rfl, hes, a1, a2⟩
  · refine hsame (-1000001) ?_ ?_
    · unfold Xx_reading
      rw [tp_cb a1]
      rcases tp_ix b (n := 8) (by decide) with h | ⟨s, hs, rfl⟩
      · rw [tp_cb (xs_at_out h), tp_nln]
      · rw [tp_cb (xs_at hs), tp_nln]
    · unfold Md_reading; rw [tp_pf, tp_cb a2, if_pos rfl]
  obtain ⟨-, e6, p3, e7⟩ := tp_eyP e (by omega)
  rcases tp_ix b (n := 8) (by decide) with h | ⟨s, hs, rfl⟩
  · refine hsame (-1000001) ?_ ?_
    · unfold Xx_reading; rw [tp_cb a1, tp_cb (xs_at_out h), tp_nls, tp_gl p3, tp_nln]
    · unfold Md_reading; rw [tp_pf, tp_cb a2, if_neg (show ¬ (1 : Int32) = 0 by decide), tp_cb (md_sh_out h), if_pos rfl]
  obtain ⟨-, s2, s3, s4⟩ := tp_shP s hs
  obtain ⟨g1, g2⟩ := hg s hs
  obtain ⟨k1, k2⟩ := cs s hs
  obtain ⟨x1, x2, x3⟩ := hT.col he hes
  obtain ⟨c1, c2, c3⟩ := cc.2.2.2.2.2.2.2.1 e he
  have hlook := md_rests (F := F) (b := c) (n := tsz T e) hF hp hs hg ms' mc'.1 (by omega)
  have eyp : Md_reading F (nI e) (nI s) c N = tv_cb (Md_lookRests F (nI s) c (nI (tsz T e)) (tv_w N 249 0 0)) (fun r7 M8 => if 0 ≤ r7 then tv_wr M8 270 8 (nI e) (vp_nar .boolean 1) (fun M9 => Md_reading_L55 F F (nI e) (nI s) c 0 M9) else some (r7, M8)) := by
    unfold Md_reading
    rw [tp_pf, tp_cb a2, if_neg (show ¬ (1 : Int32) = 0 by decide), tp_cb (md_sh hs), if_neg (show ¬ (1 : Int32) = 0 by decide), tp_rd (by omega) (by decide), (mc'.2.2.2.2.2.1 e he).2.1]
  have exm := xs_missing (F := F) (M := M) hs
  rw [k1] at exm
  by_cases q0 : S0 0 s = 0
  · rw [if_pos q0] at hlook
    rw [if_pos ((i_ln_m g1).mpr q0)] at exm
    refine hfind 1 (by omega) ?_ ?_
    · unfold Xx_reading
      rw [tp_cb a1, tp_cb (xs_at hs), tp_nls, tp_gl p3, tp_nls, tp_gl s3, tp_cb exm, if_neg (show ¬ (1 : Int32) = 0 by decide)]; rfl
    · rw [eyp, tp_cb hlook, if_neg (by decide)]; rfl
  rw [if_neg q0] at hlook
  rw [if_neg (fun w => q0 ((i_ln_m g1).mp w))] at exm
  obtain ⟨k2, k3⟩ := k2 q0
  have exr := xs_reaches (F := F) (a := c) (b := nI (tsz T e)) (M := M) hs k2 g2
  rw [nI_toInt (by omega)] at exr
  by_cases q1 : 0 ≤ c.toInt ∧ c.toInt + tsz T e ≤ S0 1 s
  · rw [if_pos q1] at hlook
    rw [if_pos ⟨q1.1, by omega, q1.2⟩] at exr
    have hck : c = nI c.toInt.toNat := tp_of c q1.1
    have hci : c.toInt.toNat + tsz T e ≤ S0 1 s := by omega
    generalize c.toInt.toNat = i at hck hci hlook
    subst hck
    have exh := xs_rests (F := F) (s := s) (i := i) (n := tsz T e) (p := p) (M := M) hs hF k2 g2 hci (by omega)
    have heq : (∀ k, k < tsz T e → 0 ≤ (M.1 (3 + 2 * s) (i + k)).toInt ∧ (M.1 (3 + 2 * s) (i + k)).toInt < p) ↔ (∀ k, k < tsz T e → 0 ≤ (S1 s (i + k)).toInt ∧ (S1 s (i + k)).toInt < p) := ⟨fun w k hk => by have := w k hk; rw [k3 _ (by omega)] at this; exact this, fun w k hk => by rw [k3 _ (by omega)]; exact w k hk⟩
    by_cases q2 : ∀ k, k < tsz T e → 0 ≤ (S1 s (i + k)).toInt ∧ (S1 s (i + k)).toInt < p
    · rw [if_pos q2] at hlook
      rw [if_pos (heq.mpr q2)] at exh
      have hval : ∀ k, k < tsz T e → S1 s (i + k) = nI (S1 s (i + k)).toInt.toNat ∧ (S1 s (i + k)).toInt.toNat < p := fun k hk => ⟨tp_of _ (q2 k hk).1, by have := q2 k hk; omega⟩
      -- the new readings
      have hR'0 : ∀ x, (fun t x => if t = 0 then (if x = e then 1 else R 0 x) else if t = 1 ∧ tco T e ≤ x ∧ x < tco T e + tsz T e then (S1 s (i + (x - tco T e))).toInt.toNat else R t x : Nat → Nat → Nat) 0 x = if x = e then 1 else R 0 x := fun x => rfl
      have hR'1 : ∀ x, (fun t x => if t = 0 then (if x = e then 1 else R 0 x) else if t = 1 ∧ tco T e ≤ x ∧ x < tco T e + tsz T e then (S1 s (i + (x - tco T e))).toInt.toNat else R t x : Nat → Nat → Nat) 1 x = if tco T e ≤ x ∧ x < tco T e + tsz T e then (S1 s (i + (x - tco T e))).toInt.toNat else R 1 x := fun x => by
        by_cases w : tco T e ≤ x ∧ x < tco T e + tsz T e
        · simp [w]
        · simp [w]
      generalize (fun t x => if t = 0 then (if x = e then 1 else R 0 x) else if t = 1 ∧ tco T e ≤ x ∧ x < tco T e + tsz T e then (S1 s (i + (x - tco T e))).toInt.toNat else R t x : Nat → Nat → Nat) = R' at hR'0 hR'1
      have hgR : gR p T R' := ⟨fun x hx => by
          rw [hR'0]
          by_cases w : x = e
          · rw [if_pos w]; exact ⟨Nat.le_refl _, fun z => absurd (by rw [← w]; exact z) hes⟩
          · rw [if_neg w]; exact hR.1 x hx, fun x => by
          rw [hR'1]
          by_cases w : tco T e ≤ x ∧ x < tco T e + tsz T e
          · rw [if_pos w]; exact (hval (x - tco T e) (by omega)).2
          · rw [if_neg w]; exact hR.2 x⟩
      have etr : ∃ M1, Ey_takeReading F (22 + 2 * e) (2 + 2 * s) (nI i) M = some ((), M1) ∧ (∀ k, k < tsz T e → M1.1 (23 + 2 * e) k = S1 s (i + k)) ∧ M1.1 (22 + 2 * e) 5 = 1 ∧ ∀ a j, a ≠ 23 + 2 * e → ¬ (a = 22 + 2 * e ∧ j = 5) → M1.1 a j = M.1 a j := by
        unfold Ey_takeReading
        rw [tp_gl p3, tp_gl s3, c2, if_neg (show ¬ (3 : Int32) < nI (tsz T e) from nI_nlt (a := 3) (by omega) (by omega)), tp_cb exr, if_neg (show ¬ (1 : Int32) = 0 by decide), tp_nn s2, tp_gn s4, tp_nn e6, tp_gn e7]
        unfold tv_cpy
        rw [c2, nI_clamp (by omega), nI_clamp (by omega), show (0 : Int32).toNatClampNeg = 0 from rfl, if_pos ⟨nI_pos' (by omega), Int32.le_refl _, nI_pos' (by omega), by omega, by omega⟩]
        refine ⟨_, rfl, fun k hk => ?_, tp_ws, fun a j w1 w2 => ?_⟩
        · rw [tp_wk (by omega), tp_wc1, if_pos rfl]
          unfold va_cpy
          rw [if_pos (by omega), Nat.sub_zero]; exact k3 _ (by omega)
        · rw [tp_w, if_neg w2, tp_wc1, if_neg w1]
      obtain ⟨M1, t1, t2, t3, t4⟩ := etr
      have ex : Xx_reading F (nI e) (nI s) (nI i) M = some (1, tv_w (tv_w (tv_w M1 70 3 0) 165 8 0) 0 9 0) := by
        unfold Xx_reading
        rw [tp_cb a1, tp_cb (xs_at hs), tp_nls, tp_gl p3, tp_nls, tp_gl s3, tp_cb exm, if_pos rfl, c2, tp_cb exr, if_neg (show ¬ (1 : Int32) = 0 by decide), c2, cz.1, tp_cb exh, if_neg (show ¬ (1 : Int32) = 0 by decide), tp_cb t1]
        rfl
      have eL : ∀ d k nn N', k + d = tsz T e → d < nn → (∀ x, N'.1 271 x = if tco T e ≤ x ∧ x < tco T e + k then S1 s (i + (x - tco T e)) else N.1 271 x) → (∀ a j, a ≠ 271 → N'.1 a j = (tv_w (tv_w (tv_w N 249 0 0) 249 1 0) 270 e 1).1 a j) → ∃ N'', Md_reading_L55 F nn (nI e) (nI s) (nI i) (nI k) N' = some (1, N'') ∧ (∀ x, N''.1 271 x = if tco T e ≤ x ∧ x < tco T e + tsz T e then S1 s (i + (x - tco T e)) else N.1 271 x) ∧ ∀ a j, a ≠ 271 → N''.1 a j = (tv_w (tv_w (tv_w N 249 0 0) 249 1 0) 270 e 1).1 a j := by
        intro d
        induction d with
        | zero =>
          intro k nn N' h1 h2 f1 f2
          obtain ⟨nn, rfl⟩ : ∃ n', nn = n' + 1 := ⟨nn - 1, by omega⟩
          rw [show k = tsz T e by omega] at f1 ⊢
          rw [Md_reading_L55, tp_rd (by omega) (by decide), f2 254 e (by omega), tp_wk (by omega), tp_wk (by omega), (mc'.2.2.2.2.2.1 e he).2.1, if_pos (nI_le (Nat.le_refl _) (by omega))]
          exact ⟨N', rfl, f1, f2⟩
        | succ d ih =>
          intro k nn N' h1 h2 f1 f2
          obtain ⟨nn, rfl⟩ : ∃ n', nn = n' + 1 := ⟨nn - 1, by omega⟩
          rw [Md_reading_L55, tp_rd (by omega) (by decide), f2 254 e (by omega), tp_wk (by omega), tp_wk (by omega), (mc'.2.2.2.2.2.1 e he).2.1, if_neg (nI_ge (by omega) (by omega)), tp_rd (by omega) (by decide), f2 255 e (by omega), tp_wk (by omega), tp_wk (by omega), (mc'.2.2.2.2.2.1 e he).2.2, if_neg hes, show (40 * nI s + nI i + nI k : Int32) = nI (40 * s + (i + k)) from by rw [← Nat.add_assoc, ← nI_add, ← nI_add, ← nI_mul]; rfl, tp_rd (by omega) (by decide), f2 252 _ (by omega), tp_wk (by omega), tp_wk (by omega), ((ms' s hs).2 q0).2 (i + k) (by omega), nI_add, tp_wr (by omega) (by decide), nI_1]
          refine ih (k + 1) nn _ (by omega) (by omega) (fun x => ?_) (fun a j w => by rw [tp_wk w]; exact f2 a j w)
          rw [tp_w]
          by_cases w : x = tco T e + k
          · rw [if_pos ⟨rfl, w⟩, if_pos (by omega), w, Nat.add_sub_cancel_left]
          · rw [if_neg (fun z => w z.2), f1 x]
            by_cases w2 : tco T e ≤ x ∧ x < tco T e + k
            · rw [if_pos w2, if_pos (by omega)]
            · rw [if_neg w2, if_neg (by omega)]
      obtain ⟨N1, y1, y2, y3⟩ := eL (tsz T e) 0 F (tv_w (tv_w (tv_w N 249 0 0) 249 1 0) 270 e 1) (by omega) (by omega) (fun x => by rw [if_neg (by omega), tp_wk (by omega), tp_wk (by omega), tp_wk (by omega)]) (fun _ _ _ => rfl)
      have y1 : Md_reading_L55 F F (nI e) (nI s) (nI i) 0 (tv_w (tv_w (tv_w N 249 0 0) 249 1 0) 270 e 1) = _ := y1
      have ey : Md_reading F (nI e) (nI s) (nI i) N = some (1, N1) := by
        rw [eyp, tp_cb hlook, if_pos (show (0 : Int32) ≤ 0 from Int32.le_refl _), tp_wr (by omega) (by decide), vn_b1]
        exact y1
      refine ⟨1, R', rS1 Z 0, hgR, Nat.zero_le _, rfl, tq_eq ex ⟨rfl, fun x hx => ⟨?_, fun z k hk => ?_⟩, ⟨?_, tp_ws⟩, Or.inl ?_, Or.inl ?_, fun a j w1 w2 w3 w4 => ?_⟩, tq_eq ey ⟨rfl, fun x hx => ⟨?_, fun z k hk => ?_⟩, ⟨?_, ?_⟩, fun a j w1 w2 => ?_⟩⟩
      · rw [tp_wk (by omega), tp_wk (by omega), tp_wk (by omega), hR'0]
        by_cases w : x = e
        · rw [if_pos w, w]; exact t3
        · rw [if_neg w, t4 _ _ (by omega) (by omega)]; exact (cr x hx).1
      · rw [tp_wk (by omega), tp_wk (by omega), tp_wk (by omega), hR'1]
        rw [hR'0] at z
        by_cases w : x = e
        · subst w
          rw [if_pos (by omega), t2 k hk, Nat.add_sub_cancel_left]
          exact (hval k hk).1
        · rw [if_neg w] at z
          have hxs : tso T x ≠ 3 := fun v => by have := (hR.1 x hx).2 v; omega
          rw [if_neg (col_dj hT he hx hes hxs w hk), t4 _ _ (by omega) (by omega)]
          exact (cr x hx).2 z k hk
      · rw [tp_wj (by omega), tp_wk (by omega), tp_wk (by omega), t4 _ _ (by omega) (by omega)]; exact cz.1
      · rw [tp_wk (by omega), tp_wk (by omega), tp_ws]
      · rw [tp_wk (by omega), tp_ws]
      · rw [tp_w, if_neg w1, tp_w, if_neg w4, tp_w, if_neg w3]; exact t4 a j (by omega) (by omega)
      · rw [y3 _ _ (by omega), tp_w, hR'0]
        by_cases w : x = e
        · rw [if_pos ⟨rfl, w⟩, if_pos w]; rfl
        · rw [if_neg (fun v => w v.2), if_neg w, tp_wk (by omega)]; exact (mr' x hx).1
      · rw [y2, hR'1]
        rw [hR'0] at z
        by_cases w : x = e
        · subst w
          rw [if_pos (by omega), if_pos (by omega), Nat.add_sub_cancel_left]
          exact (hval k hk).1
        · rw [if_neg w] at z
          have hxs : tso T x ≠ 3 := fun v => by have := (hR.1 x hx).2 v; omega
          rw [if_neg (col_dj hT he hx hes hxs w hk), if_neg (col_dj hT he hx hes hxs w hk)]
          exact (mr x hx).2 z k hk
      · rw [y3 _ _ (by omega), tp_wk (by omega), tp_ws]; rfl
      · rw [y3 _ _ (by omega), tp_wk (by omega), tp_wj (by omega)]; exact mz'.2
      · rw [y3 _ _ (by omega), tp_wk (by omega), tp_w, if_neg (by omega)]; exact fm0 a j w1 w2
    · rw [if_neg q2] at hlook
      rw [if_neg (fun w => q2 (heq.mp w))] at exh
      refine hsame (-1000001) ?_ ?_
      · unfold Xx_reading
        rw [tp_cb a1, tp_cb (xs_at hs), tp_nls, tp_gl p3, tp_nls, tp_gl s3, tp_cb exm, if_pos rfl, c2, tp_cb exr, if_neg (show ¬ (1 : Int32) = 0 by decide), c2, cz.1, tp_cb exh, if_pos rfl]
      · rw [eyp, tp_cb hlook, if_neg (by decide)]
  · rw [if_neg q1] at hlook
    rw [if_neg (fun w => q1 ⟨w.1, w.2.2⟩)] at exr
    refine hfind 2 (by omega) ?_ ?_
    · unfold Xx_reading
      rw [tp_cb a1, tp_cb (xs_at hs), tp_nls, tp_gl p3, tp_nls, tp_gl s3, tp_cb exm, if_pos rfl, c2, tp_cb exr, if_pos rfl]; rfl
    · rw [eyp, tp_cb hlook, if_neg (by decide)]; rfl
theorem op_unread (hF : 60 < F) (hT : gT p T) (hR : gR p T R) (cc : cT M p T) (cr : cR M T R) (cf : cF M p T R) (cd : cD M p T R) (mc : mT N p T) (mr : mR N T R) : ∃ (r : Int32) (R' : Nat → Nat → Nat), gR p T R' ∧ tq (Xx_unread F a M) (fun q M' => q = r ∧ cR M' T R' ∧ cF M' p T R' ∧ cD M' p T R' ∧ fRd M M' ∧ M'.1 0 9 = M.1 0 9) ∧ tq (Md_unread F a N) (fun q N' => q = r ∧ mR N' T R' ∧ fRm N N' ∧ N'.1 249 1 = N.1 249 1) := by
  have h8 := hT.1
  have mc' := mc.w0
  have mr' := mr.w0
  have fm0 : fRm N (tv_w N 249 0 0) := fun a i q1 _ => by rw [tp_w, if_neg (by omega)]
  have fm1 : (tv_w N 249 0 0).1 249 1 = N.1 249 1 := tp_wj (by omega)
  unfold Xx_unread Md_unread
  rw [tp_pf]
  rcases tp_ix a (n := tE T) (by omega) with h | ⟨e, he, rfl⟩
  · rw [tp_cb (to_lin_out cc h), tp_nln, tp_cb (md_lin_out hT mc' h), if_pos rfl]
    exact ⟨_, R, hR, tq_some ⟨rfl, cr, cf, cd, fun _ _ _ _ _ _ => rfl, rfl⟩, tq_some ⟨rfl, mr', fm0, fm1⟩⟩
  by_cases hes : tso T e = 3
  · rw [tp_cb (to_lin hT cc he), if_pos hes, tp_nln, tp_cb (md_lin hT mc' he), if_pos hes, if_pos rfl]
    exact ⟨_, R, hR, tq_some ⟨rfl, cr, cf, cd, fun _ _ _ _ _ _ => rfl, rfl⟩, tq_some ⟨rfl, mr', fm0, fm1⟩⟩
  obtain ⟨-, -, p3, -⟩ := tp_eyP e (by omega)
  rw [tp_cb (to_lin hT cc he), if_neg hes, tp_nls, tp_gl p3, (cr e he).1, tp_cb (md_lin hT mc' he), if_neg hes, if_neg (show ¬ (1 : Int32) = 0 by decide), tp_rd (by omega) (by decide), (mr' e he).1, tp_wr (by omega) (by decide), tp_wr (by omega) (by decide), vn_b0]
  have hr01 : R 0 e = 0 ∨ R 0 e = 1 := by have := (hR.1 e he).1; omega
  have hR'0 : ∀ x, (fun t x => if t = 0 ∧ x = e then 0 else R t x : Nat → Nat → Nat) 0 x = if x = e then 0 else R 0 x := fun x => by
    by_cases w : x = e
    · simp [w]
    · simp [w]
  have hR'1 : ∀ x, (fun t x => if t = 0 ∧ x = e then 0 else R t x : Nat → Nat → Nat) 1 x = R 1 x := fun x => by simp
  generalize (fun t x => if t = 0 ∧ x = e then 0 else R t x : Nat → Nat → Nat) = R' at hR'0 hR'1
  have hgR : gR p T R' := ⟨fun x hx => by
    rw [hR'0]
    by_cases w : x = e
    · rw [if_pos w]; exact ⟨Nat.zero_le _, fun _ => rfl⟩
    · rw [if_neg w]; exact hR.1 x hx, fun x => by rw [hR'1]; exact hR.2 x⟩
  have hm : mR (tv_w (tv_w N 249 0 0) 270 e 0) T R' := fun x hx => by
    refine ⟨?_, fun z k hk => ?_⟩
    · rw [tp_w, hR'0]
      by_cases w : x = e
      · rw [if_pos ⟨rfl, w⟩, if_pos w]; rfl
      · rw [if_neg (fun v => w v.2), if_neg w]; exact (mr' x hx).1
    · rw [hR'0] at z
      by_cases w : x = e
      · rw [if_pos w] at z; omega
      · rw [if_neg w] at z
        rw [tp_wk (by omega), hR'1]; exact (mr' x hx).2 z k hk
  have hfm : fRm N (tv_w (tv_w N 249 0 0) 270 e 0) := fun a i w1 w2 => by rw [tp_wk (by omega)]; exact fm0 a i w1 w2
  have hfm1 : (tv_w (tv_w N 249 0 0) 270 e 0).1 249 1 = N.1 249 1 := by rw [tp_wk (by omega)]; exact fm1
  rcases hr01 with w | w
  · rw [w, if_pos (show nI 0 = 0 from rfl), if_pos (show nI 0 = 0 from rfl)]
    have hRR : R' = R ∨ True := Or.inr trivial
    refine ⟨_, R, hR, tq_some ⟨rfl, cr, cf, cd, fun _ _ _ _ _ _ => rfl, rfl⟩, tq_some ⟨rfl, fun x hx => ⟨?_, fun z k hk => ?_⟩, hfm, hfm1⟩⟩
    · have := (hm x hx).1
      rw [this, hR'0]
      by_cases v : x = e
      · rw [if_pos v, v, w]
      · rw [if_neg v]
    · rw [tp_wk (by omega)]; exact (mr' x hx).2 z k hk
  · rw [w, if_neg (show ¬ nI 1 = 0 by decide), if_neg (show ¬ nI 1 = 0 by decide), tp_pf]
    refine ⟨1, R', hgR, ?_, tq_some ⟨rfl, hm, hfm, hfm1⟩⟩
    have ex : Xx_forgetReadings F (tv_w M (22 + 2 * e) 5 0) = some ((), tv_w (tv_w (tv_w M (22 + 2 * e) 5 0) 70 3 0) 165 8 0) := rfl
    rw [tp_cb ex]
    refine tq_some ⟨rfl, fun x hx => ⟨?_, fun z k hk => ?_⟩, Or.inl ?_, Or.inl tp_ws, fun a i w1 w2 w3 w4 => ?_, ?_⟩
    · rw [tp_wk (by omega), tp_wk (by omega), tp_w, hR'0]
      by_cases v : x = e
      · rw [if_pos (by omega), if_pos v]; rfl
      · rw [if_neg (by omega), if_neg v]; exact (cr x hx).1
    · rw [hR'0] at z
      by_cases v : x = e
      · rw [if_pos v] at z; omega
      · rw [if_neg v] at z
        rw [tp_wk (by omega), tp_wk (by omega), tp_wk (by omega), hR'1]; exact (cr x hx).2 z k hk
    · rw [tp_wk (by omega), tp_ws]
    · rw [tp_w, if_neg w4, tp_w, if_neg w3, tp_w, if_neg (by omega)]
    · rw [tp_wk (by omega), tp_wk (by omega), tp_wk (by omega)]
end READING
