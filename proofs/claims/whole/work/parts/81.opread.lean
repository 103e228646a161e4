/-! THE REFERENCE'S END OF A GOOD READING, AND THE CALL -/
section OPREAD
variable {F p : Nat} {M N : tv_M} {T0 T T' R H : Nat → Nat → Nat} {Q : Nat → Nat}
theorem Ext.tcsx (hx : Ext T0 T) : ∀ e, e ≤ tE T0 → tcs T e = tcs T0 e := by
  intro e
  induction e with
  | zero => intro _; rfl
  | succ e ih =>
    intro he
    obtain ⟨a, b, c⟩ := hx.2.2.2.1 e (by omega)
    rw [tcs, tcs, ih (by omega), a, b]
theorem Ext.C (hT0 : gT p T0) (hT : gT p T) (hx : Ext T0 T) : tC T0 ≤ tC T := by
  rw [hT0.2.2.2.1, hT.2.2.2.1, ← hx.tcsx _ (Nat.le_refl _)]
  exact tcs_mono T _ hx.1
theorem Ext.brdx (hx : Ext T0 T) (e v i y : Nat) : ∀ k, k ≤ tB T0 → brd T k e v i y = brd T0 k e v i y := by
  intro k
  induction k with
  | zero => intro _; rfl
  | succ k ih =>
    intro hk
    have h := hx.2.2.2.2.2
    rw [brd, brd, ih (by omega), h k 0 (by omega) (by omega), h k 1 (by omega) (by omega), h k 2 (by omega) (by omega), h k 3 (by omega) (by omega)]
def fL1 (T0 : Nat → Nat → Nat) (N N' : tv_M) : Prop := ∀ a i, ¬ ((a = 270 ∨ a = 265 ∨ a = 272) ∧ tE T0 ≤ i) → N'.1 a i = N.1 a i
def fL2 (T0 : Nat → Nat → Nat) (N N' : tv_M) : Prop := ∀ a i, ¬ (a = 274 ∧ tC T0 ≤ i) → N'.1 a i = N.1 a i
theorem md_277 (hF : 60 < F) (hT : gT p T) (hx : Ext T0 T) (mc : mT1 N p T) (m10 : N.1 249 10 = nI (tC T0)) : ∃ N', Md_read_L277 F F (nI (tE T0)) N = Md_read_L341 F F (nI (tC T0)) N' ∧ (∀ e, tE T0 ≤ e → e < tE T → N'.1 270 e = 0 ∧ N'.1 272 e = -1000000 ∧ (tso T e = 3 → N'.1 265 e = nI (2 ^ tsz T e - 1))) ∧ fL1 T0 N N' := by
  have h8 := hT.1
  have hh : ∀ d j nn (N1 : tv_M), j + d = tE T → d < nn → tE T0 ≤ j → (∀ e, tE T0 ≤ e → e < j → N1.1 270 e = 0 ∧ N1.1 272 e = -1000000 ∧ (tso T e = 3 → N1.1 265 e = nI (2 ^ tsz T e - 1))) → fL1 T0 N N1 → ∃ N', Md_read_L277 F nn (nI j) N1 = Md_read_L341 F F (nI (tC T0)) N' ∧ (∀ e, tE T0 ≤ e → e < tE T → N'.1 270 e = 0 ∧ N'.1 272 e = -1000000 ∧ (tso T e = 3 → N'.1 265 e = nI (2 ^ tsz T e - 1))) ∧ fL1 T0 N N' := by
    intro d
    induction d with
    | zero =>
      intro j nn N1 e1 e2 e0 e3 e4
      obtain ⟨nn, rfl⟩ : ∃ n', nn = n' + 1 := ⟨nn - 1, by omega⟩
      have : j = tE T := by omega
      subst this
      rw [Md_read_L277, e4 249 33 (by omega), mc.2.1, if_pos (Int32.le_refl _), e4 249 10 (by omega), m10]
      exact ⟨N1, rfl, e3, e4⟩
    | succ d ih =>
      intro j nn N1 e1 e2 e0 e3 e4
      obtain ⟨nn, rfl⟩ : ∃ n', nn = n' + 1 := ⟨nn - 1, by omega⟩
      have hj : j < tE T := by omega
      obtain ⟨a1, a2, a3⟩ := mc.2.2.2.2.2.1 j hj
      have g := hT.2.2.2.2.2.1 j hj
      rw [Md_read_L277, e4 249 33 (by omega), mc.2.1, if_neg (nI_ge (by omega) (by omega)), tp_wr (by omega) (by decide), tp_rd (by omega) (by decide), tp_wk (by omega), e4 253 j (by omega), a1]
      by_cases k : tso T j = 3
      · rw [if_pos ((nI_e3 (by have := g.1; omega)).mpr k), tp_rd (by omega) (by decide), tp_wk (by omega), e4 254 j (by omega), a2, bit_ful _ (by have := g.2.2.1; omega), tp_wr (by omega) (by decide), tp_wr (by omega) (by decide), nI_1]
        refine ih (j + 1) nn _ (by omega) (by omega) (by omega) (fun e q1 q2 => ?_) (fun a i q => ?_)
        · by_cases w : e = j
          · subst w
            refine ⟨by rw [tp_wk (by omega), tp_wk (by omega), tp_ws]; rfl, tp_ws, fun _ => by rw [tp_wk (by omega), tp_ws]⟩
          · obtain ⟨x1, x2, x3⟩ := e3 e q1 (by omega)
            exact ⟨by rw [tp_wk (by omega), tp_wk (by omega), tp_wj (by omega)]; exact x1, by rw [tp_wj (by omega), tp_wk (by omega), tp_wk (by omega)]; exact x2, fun z => by rw [tp_wk (by omega), tp_wj (by omega), tp_wk (by omega)]; exact x3 z⟩
        · rw [tp_w, if_neg (by omega), tp_w, if_neg (by omega), tp_w, if_neg (by omega)]; exact e4 a i q
      · rw [if_neg (fun v => k ((nI_e3 (by have := g.1; omega)).mp v)), tp_wr (by omega) (by decide), tp_wr (by omega) (by decide), nI_1]
        refine ih (j + 1) nn _ (by omega) (by omega) (by omega) (fun e q1 q2 => ?_) (fun a i q => ?_)
        · by_cases w : e = j
          · subst w
            refine ⟨by rw [tp_wk (by omega), tp_wk (by omega), tp_ws]; rfl, tp_ws, fun z => absurd z k⟩
          · obtain ⟨x1, x2, x3⟩ := e3 e q1 (by omega)
            exact ⟨by rw [tp_wk (by omega), tp_wk (by omega), tp_wj (by omega)]; exact x1, by rw [tp_wj (by omega), tp_wk (by omega), tp_wk (by omega)]; exact x2, fun z => by rw [tp_wk (by omega), tp_wj (by omega), tp_wk (by omega)]; exact x3 z⟩
        · rw [tp_w, if_neg (by omega), tp_w, if_neg (by omega), tp_w, if_neg (by omega)]; exact e4 a i q
  have := hx.1
  exact hh (tE T - tE T0) (tE T0) F N (by omega) (by omega) (Nat.le_refl _) (fun e q1 q2 => absurd q1 (by omega)) (fun _ _ _ => rfl)
theorem md_341 (hF : 60 < F) (hT0 : gT p T0) (hT : gT p T) (hx : Ext T0 T) (mc : mT1 N p T) (m16 : N.1 249 16 = nI (tB T0)) : ∃ N', Md_read_L341 F F (nI (tC T0)) N = Md_read_L391 F F (nI (tB T0)) (tv_w (tv_w (tv_w N' 249 6 (nI (tE T))) 249 10 (nI (tC T))) 249 11 (nI (tK T))) ∧ (∀ c, tC T0 ≤ c → c < tC T → N'.1 274 c = 0) ∧ fL2 T0 N N' := by
  have hC := hT.C
  have hh : ∀ d j nn (N1 : tv_M), j + d = tC T → d < nn → tC T0 ≤ j → (∀ c, tC T0 ≤ c → c < j → N1.1 274 c = 0) → fL2 T0 N N1 → ∃ N', Md_read_L341 F nn (nI j) N1 = Md_read_L391 F F (nI (tB T0)) (tv_w (tv_w (tv_w N' 249 6 (nI (tE T))) 249 10 (nI (tC T))) 249 11 (nI (tK T))) ∧ (∀ c, tC T0 ≤ c → c < tC T → N'.1 274 c = 0) ∧ fL2 T0 N N' := by
    intro d
    induction d with
    | zero =>
      intro j nn N1 e1 e2 e0 e3 e4
      obtain ⟨nn, rfl⟩ : ∃ n', nn = n' + 1 := ⟨nn - 1, by omega⟩
      have : j = tC T := by omega
      subst this
      rw [Md_read_L341, e4 249 34 (by omega), mc.2.2.1, if_pos (Int32.le_refl _), e4 249 33 (by omega), mc.2.1, tp_pf, tp_wj (by omega), e4 249 34 (by omega), mc.2.2.1, tp_pf, tp_wj (by omega), tp_wj (by omega), e4 249 35 (by omega), mc.2.2.2.1, tp_pf, tp_wj (by omega), tp_wj (by omega), tp_wj (by omega), e4 249 16 (by omega), m16]
      exact ⟨N1, rfl, e3, e4⟩
    | succ d ih =>
      intro j nn N1 e1 e2 e0 e3 e4
      obtain ⟨nn, rfl⟩ : ∃ n', nn = n' + 1 := ⟨nn - 1, by omega⟩
      rw [Md_read_L341, e4 249 34 (by omega), mc.2.2.1, if_neg (nI_ge (by omega) (by omega)), tp_wr (by omega) (by decide), nI_1]
      refine ih (j + 1) nn _ (by omega) (by omega) (by omega) (fun c q1 q2 => ?_) (fun a i q => ?_)
      · by_cases w : c = j
        · subst w; exact tp_ws
        · rw [tp_wj w]; exact e3 c q1 (by omega)
      · rw [tp_w, if_neg (by omega)]; exact e4 a i q
  have := Ext.C hT0 hT hx
  exact hh (tC T - tC T0) (tC T0) F N (by omega) (by omega) (Nat.le_refl _) (fun e q1 q2 => absurd q1 (by omega)) (fun _ _ _ => rfl)
def mGk (N : tv_M) (T : Nat → Nat → Nat) (k : Nat) : Prop := ∀ e v i, e < 8 → v < 4 → i < 8 → N.1 264 (32 * e + 8 * v + i) = nI (gnk T k e v i)
theorem md_391 (hF : 60 < F) (hT : gT p T) (hx : Ext T0 T) (n36 : N.1 249 36 = nI (tB T)) (n6 : N.1 249 6 = nI (tE T)) (mb : ∀ k, k < tB T → mTb N T k) (mg : mG N T0) : ∃ N', Md_read_L391 F F (nI (tB T0)) N = some (nI (tE T), N') ∧ N'.1 249 16 = nI (tB T) ∧ mG N' T ∧ ∀ a i, a ≠ 264 → ¬ (a = 249 ∧ i = 16) → N'.1 a i = N.1 a i := by
  have h8 := hT.1
  have h30 := hT.2.2.1
  have hh : ∀ d j nn (N1 : tv_M), j + d = tB T → d < nn → mGk N1 T j → (∀ a i, a ≠ 264 → N1.1 a i = N.1 a i) → ∃ N', Md_read_L391 F nn (nI j) N1 = some (nI (tE T), N') ∧ N'.1 249 16 = nI (tB T) ∧ mG N' T ∧ ∀ a i, a ≠ 264 → ¬ (a = 249 ∧ i = 16) → N'.1 a i = N.1 a i := by
    intro d
    induction d with
    | zero =>
      intro j nn N1 e1 e2 e3 e4
      obtain ⟨nn, rfl⟩ : ∃ n', nn = n' + 1 := ⟨nn - 1, by omega⟩
      have : j = tB T := by omega
      subst this
      rw [Md_read_L391, e4 249 36 (by omega), n36, if_pos (Int32.le_refl _), tp_pf, tp_wj (by omega), e4 249 6 (by omega), n6]
      exact ⟨_, rfl, tp_ws, fun e v i q1 q2 q3 => by rw [tp_wk (by omega)]; exact e3 e v i q1 q2 q3, fun a i q1 q2 => by rw [tp_w, if_neg q2]; exact e4 a i q1⟩
    | succ d ih =>
      intro j nn N1 e1 e2 e3 e4
      obtain ⟨nn, rfl⟩ : ∃ n', nn = n' + 1 := ⟨nn - 1, by omega⟩
      have hj : j < tB T := by omega
      obtain ⟨b1, b2, b3, b4⟩ := mb j hj
      obtain ⟨g1, g2, g3, g4, g5, g6, g7⟩ := hT.2.2.2.2.2.2.2 j hj
      have z1 := (hT.2.2.2.2.2.1 _ g1).2.2.1
      have z2 := (hT.2.2.2.2.2.1 _ g4).2.2.1
      generalize h0 : tbr T j 0 = a at g1 g2 g3 g7 z1 b1
      generalize h1 : tbr T j 1 = u at g3 b2
      generalize h2 : tbr T j 2 = b at g4 g5 g6 g7 z2 b3
      generalize h3 : tbr T j 3 = w at g6 b4
      have i1 : (32 * nI a + 8 * nI u + nI b : Int32) = nI (32 * a + 8 * u + b) := by rw [← nI_add, ← nI_add, ← nI_mul, ← nI_mul]; rfl
      have i2 : (32 * nI b + 8 * nI w + nI a : Int32) = nI (32 * b + 8 * w + a) := by rw [← nI_add, ← nI_add, ← nI_mul, ← nI_mul]; rfl
      rw [Md_read_L391, e4 249 36 (by omega), n36, if_neg (nI_ge (by omega) (by omega)), tp_rd (by omega) (by decide), tp_rd (by omega) (by decide), tp_rd (by omega) (by decide), e4 260 j (by omega), e4 262 j (by omega), e4 261 j (by omega), b1, b2, b3, i1, tp_rd (by omega) (by decide), e3 a u b (by omega) (by omega) (by omega), tp_rd (by omega) (by decide), e4 263 j (by omega), b4, tp_wr (by omega) (by decide), tp_rd (by omega) (by decide), tp_rd (by omega) (by decide), tp_rd (by omega) (by decide), tp_wk (by omega), tp_wk (by omega), tp_wk (by omega), e4 260 j (by omega), e4 261 j (by omega), e4 263 j (by omega), b1, b3, b4, i2, tp_rd (by omega) (by decide), tp_w, if_neg (show ¬ (264 = 264 ∧ 32 * b + 8 * w + a = 32 * a + 8 * u + b) by omega), e3 b w a (by omega) (by omega) (by omega), tp_rd (by omega) (by decide), tp_wk (by omega), e4 262 j (by omega), b2, tp_wr (by omega) (by decide), nI_1]
      refine ih (j + 1) nn _ (by omega) (by omega) (fun e v i q1 q2 q3 => ?_) (fun a' i q => by rw [tp_wk (by omega), tp_wk (by omega)]; exact e4 a' i q)
      rw [tp_w]
      by_cases k2 : e = b ∧ v = w ∧ i = a
      · obtain ⟨rfl, rfl, rfl⟩ := k2
        rw [if_pos ⟨rfl, rfl⟩]
        unfold gnk
        rw [rs_set _ (by omega)]
        congr 1
        exact rs_c4 (fun y _ => by rw [brd_2 h0 h1 h2 h3 g7])
      · rw [if_neg (fun z => k2 (by omega)), tp_w]
        by_cases k1 : e = a ∧ v = u ∧ i = b
        · obtain ⟨rfl, rfl, rfl⟩ := k1
          rw [if_pos ⟨rfl, rfl⟩]
          unfold gnk
          rw [rs_set _ (by omega)]
          congr 1
          exact rs_c4 (fun y _ => by rw [brd_1 h0 h1 h2 h3 g7])
        · rw [if_neg (fun z => k1 (by omega)), e3 e v i q1 q2 q3]
          unfold gnk
          congr 1
          exact rs_c4 (fun y _ => by rw [brd_3 h0 h1 h2 h3 k1 k2])
  have := hx.2.2.1
  refine hh (tB T - tB T0) (tB T0) F N (by omega) (by omega) (fun e v i q1 q2 q3 => ?_) (fun _ _ _ => rfl)
  rw [mg e v i q1 q2 q3]
  unfold gn gnk
  congr 1
  exact rs_c4 (fun y _ => (hx.brdx e v i y (tB T0) (Nat.le_refl _)).symm)
/-! hearsay does not change -/
theorem hr_sx (hx : Ext T0 T) {t f r : Nat} {row : Nat → Nat} (ht : t < tK T0) (hf : f < tE T0) (hr : r < 3) : ∀ n, n ≤ 3 → hr_s T t f r row n = hr_s T0 t f r row n := by
  intro n
  induction n with
  | zero => intro _; rfl
  | succ n ih =>
    intro hn
    obtain ⟨a, b, c, d⟩ := hx.2.2.2.2.1 t ht
    obtain ⟨d1, d2⟩ := d (3 * r + n) (by omega)
    rw [hr_s, hr_s, ih (by omega), (hx.2.2.2.1 f hf).2.2]
    unfold hr_t
    rw [a, d1, d2]
theorem tke_x (hT0 : gT p T0) (hH : gH p T0 H) (hx : Ext T0 T) (row : Nat → Nat) (c : Nat) : ∀ e, e ≤ tE T0 → tke p T H row e c = tke p T0 H row e c := by
  intro e
  induction e with
  | zero => intro _; rfl
  | succ e ih =>
    intro he
    obtain ⟨a, b, d⟩ := hx.2.2.2.1 e (by omega)
    rw [tke, tke, ih (by omega), a, b, d]
    by_cases k : H 0 e ≠ 0 ∧ tso T0 e ≠ 2 ∧ tco T0 e ≤ c ∧ c < tco T0 e + tsz T0 e
    · rw [if_pos k, if_pos k]
      obtain ⟨g1, g2, g3, g4, -⟩ := hH.2.2.1 e (by omega) k.1
      have l1 := (hT0.col (show e < tE T0 by omega) g1).2.1
      have l2 := (hT0.col g3 g4).2.1
      rw [(hx.2.2.2.1 _ g3).2.1, hr_sx hx g2 g3 (by omega) _ l2]
    · rw [if_neg k, if_neg k]
theorem tk_x (hT0 : gT p T0) (hH : gH p T0 H) (hx : Ext T0 T) (row : Nat → Nat) : tk p T H row = tk p T0 H row := by
  funext c
  have hh : ∀ d, tke p T H row (tE T0 + d) c = tke p T0 H row (tE T0) c := by
    intro d
    induction d with
    | zero => exact tke_x hT0 hH hx row c _ (Nat.le_refl _)
    | succ d ih =>
      show tke p T H row ((tE T0 + d) + 1) c = _
      rw [tke, if_neg (fun z => z.1 (hH.2.1 _ (by omega))), ih]
  have := hx.1
  have := hh (tE T - tE T0)
  rw [show tE T0 + (tE T - tE T0) = tE T by omega] at this
  exact this
theorem tkn_x (hT0 : gT p T0) (hH : gH p T0 H) (hx : Ext T0 T) (row : Nat → Nat) : ∀ n, tkn p T H row n = tkn p T0 H row n := by
  intro n
  induction n with
  | zero => rfl
  | succ n ih => rw [tkn, tkn, ih, tk_x hT0 hH hx]
theorem cHk.x (hT0 : gT p T0) (hH : gH p T0 H) (hx : Ext T0 T) (h : cHk M p T0 H) : cHk M p T H := by
  have e1 : ∀ t, sk p T H (H 2) t = sk p T0 H (H 2) t := fun t => by
    unfold sk rq
    simp only [tkn_x hT0 hH hx]
  have e2 : st1 p T H (H 2) = st1 p T0 H (H 2) := by
    unfold st1
    simp only [e1]
  unfold cHk
  rw [e2, e1]
  exact h
theorem gH.x (hT0 : gT p T0) (hT : gT p T) (hH : gH p T0 H) (hx : Ext T0 T) : gH p T H := by
  obtain ⟨h1, h2, h3, h4⟩ := hH
  have hC := Ext.C hT0 hT hx
  obtain ⟨x1, x2, x3, x4, x5, x6⟩ := hx
  refine ⟨h1, fun e he => h2 e (by omega), fun e he hne => ?_, fun c => ⟨(h4 c).1, fun z => (h4 c).2 (by omega)⟩⟩
  have he0 : e < tE T0 := Nat.lt_of_not_le (fun z => hne (h2 e z))
  obtain ⟨a1, a2, a3, a4, a5, a6⟩ := h3 e he0 hne
  obtain ⟨b1, b2, b3⟩ := x4 e he0
  obtain ⟨c1, c2, c3⟩ := x4 _ a3
  obtain ⟨d1, d2, d3, -⟩ := x5 _ a2
  exact ⟨by rw [b1]; exact a1, by omega, by omega, by rw [c1]; exact a4, by rw [d1, d2]; exact a5, by rw [d3, b2]; exact a6⟩
end OPREAD
