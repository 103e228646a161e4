/-! A TICK -/
section TICK
variable {F p : Nat} {a b c : Int32} {M N : tv_M} {T R H : Nat → Nat → Nat} {row : Nat → Nat}
theorem hr_tl {t f r k : Nat} (hT : gT p T) (ht : t < tK T) (hf : to1 T t = f ∨ to2 T t = f) (hr : r < trw T t) (hk : k < tsz T f) : hr_t T t f (3 * r + k) < p := by
  obtain ⟨g1, g2, g3, g4, g5, g6, g7, g8, g9⟩ := hT.2.2.2.2.2.2.1 t ht
  unfold hr_t
  by_cases q : to1 T t = f
  · rw [if_pos q]; exact g8 r k hr (by rw [q]; exact hk)
  · rw [if_neg q]; exact g9 r k hr (by rw [hf.resolve_left q]; exact hk)
theorem hr_sl {t f r : Nat} (hp : p ≤ 7) : ∀ n, (∀ k, k < n → hr_t T t f (3 * r + k) < p) → (∀ c, row c < p) → hr_s T t f r row n ≤ 49 * n := by
  intro n
  induction n with
  | zero => intro _ _; exact Nat.le_refl _
  | succ n ih =>
    intro h1 h2
    have i1 := ih (fun k hk => h1 k (by omega)) h2
    have i2 : hr_t T t f (3 * r + n) * row (tco T f + n) ≤ 7 * 7 := Nat.mul_le_mul (by have := h1 n (by omega); omega) (by have := h2 (tco T f + n); omega)
    rw [hr_s]; omega
theorem tke_lt (hp : 0 < p) (hr : ∀ c, row c < p) : ∀ e c, tke p T H row e c < p := by
  intro e
  induction e with
  | zero => exact hr
  | succ e ih =>
    intro c
    rw [tke]
    by_cases q : H 0 e ≠ 0 ∧ tso T e ≠ 2 ∧ tco T e ≤ c ∧ c < tco T e + tsz T e
    · rw [if_pos q]; exact Nat.mod_lt _ hp
    · rw [if_neg q]; exact ih c
theorem tke_hi (hT : gT p T) (hH : gH p T H) {c : Nat} (hc : tC T ≤ c) : ∀ e, e ≤ tE T → tke p T H row e c = row c := by
  intro e
  induction e with
  | zero => intro _; rfl
  | succ e ih =>
    intro he
    rw [tke, if_neg, ih (by omega)]
    intro q
    have h1 := (hH.2.2.1 e (by omega) q.1).1
    have h2 := (hT.col (show e < tE T by omega) h1).1
    omega
theorem tkn_ok (hp : 0 < p) (hT : gT p T) (hH : gH p T H) (hr : ∀ c, row c < p ∧ (tC T ≤ c → row c = 0)) : ∀ n c, tkn p T H row n c < p ∧ (tC T ≤ c → tkn p T H row n c = 0) := by
  intro n
  induction n with
  | zero => exact hr
  | succ n ih =>
    intro c
    refine ⟨tke_lt hp (fun c => (ih c).1) _ c, fun hc => ?_⟩
    rw [tkn]
    unfold tk
    rw [tke_hi hT hH hc _ (Nat.le_refl _)]
    exact (ih c).2 hc
theorem he_w {w : Nat} (hw : w = 196 ∨ w = 197) : tv_lay[w]? = some (20, 24) := by rcases hw with rfl | rfl <;> rfl
theorem he_one {w e : Nat} (hw : w = 196 ∨ w = 197) (hF : 60 < F) (hp : tp_pr p) (hT : gT p T) (hH : gH p T H) (cc : cT M p T) (h195 : ∀ e, e < 8 → M.1 195 e = if H 0 e = 0 then -1 else nI (H 0 e - 1)) (h194 : ∀ e, e < 8 → H 0 e ≠ 0 → M.1 194 e = nI (H 1 e)) (hrow : ∀ c, c < 24 → M.1 w c = nI (row c)) (hrp : ∀ c, row c < p) (he : e < tE T) (h0 : H 0 e ≠ 0) : ∃ M', He_hearOne F (22 + 2 * e) w M = some ((), M') ∧ (∀ c, M'.1 198 c = if tco T e ≤ c ∧ c < tco T e + tsz T e then nI (hr_s T (H 0 e - 1) (H 1 e) (c - tco T e) row (tsz T (H 1 e)) % p) else M.1 198 c) ∧ (∀ a i, a ≠ 198 → M'.1 a i = M.1 a i) ∧ M'.2 = M.2 := by
  have h8 := hT.1
  have h10 := hT.2.1
  have hp7 := hp.lt
  have hC := hT.C
  obtain ⟨e1, e2, e3, e4, e5, e6⟩ := hH.2.2.1 e he h0
  obtain ⟨-, -, p3, -⟩ := tp_eyP e (by omega)
  obtain ⟨-, -, q3, -⟩ := tp_eyP (H 1 e) (by omega)
  obtain ⟨-, tb, tc, r4, r5, r6⟩ := tp_tiP (H 0 e - 1) (by omega)
  obtain ⟨x1, x2, x3⟩ := hT.col he e1
  obtain ⟨y1, y2, y3⟩ := hT.col e3 e4
  obtain ⟨g1, g2, g3, g4, g5, g6, g7, g8, g9⟩ := hT.2.2.2.2.2.2.1 _ e2
  obtain ⟨t1, t2, t3, t4, t5⟩ := cc.2.2.2.2.2.2.2.2.1 _ e2
  obtain ⟨c1, c2, c3⟩ := cc.2.2.2.2.2.2.2.1 e he
  obtain ⟨d1, d2, d3⟩ := cc.2.2.2.2.2.2.2.1 _ e3
  have hwl := he_w hw
  have hq : ∃ q, q ≠ 198 ∧ tv_lay[q]? = some (20, 9) ∧ Ti_tableOf F (38 + 3 * (H 0 e - 1)) (nI (H 1 e)) M = some (some q, M) ∧ ∀ r k, r < trw T (H 0 e - 1) → k < tsz T (H 1 e) → M.1 q (3 * r + k) = nI (hr_t T (H 0 e - 1) (H 1 e) (3 * r + k)) := by
    unfold Ti_tableOf hr_t
    rw [tp_gl r4, t1]
    by_cases k : to1 T (H 0 e - 1) = H 1 e
    · refine ⟨39 + 3 * (H 0 e - 1), by omega, r5, ?_, fun r k' h1 h2 => ?_⟩
      · rw [if_pos (by rw [k]), tp_nn tb, tp_gn r5]
      · rw [if_pos k]; exact t4 r k' h1 (by rw [k]; exact h2)
    · refine ⟨40 + 3 * (H 0 e - 1), by omega, r6, ?_, fun r k' h1 h2 => ?_⟩
      · rw [if_neg (fun w => k (nI_inj (by omega) (by omega) w).symm), tp_nn tc, tp_gn r6]
      · rw [if_neg k]; exact t5 r k' h1 (by rw [e5.resolve_left k]; exact h2)
  obtain ⟨q, q1, q2, q4, q5⟩ := hq
  have hw98 : w ≠ 198 := by omega
  have h74 : ∀ (k59 : Nat → Nat → Nat → Nat → Int32 → tv_M → Option (Unit × tv_M)) r (M' : tv_M), r < tsz T e → (∀ a i, a ≠ 198 → M'.1 a i = M.1 a i) → He_hearOne_L74 F k59 F (22 + 2 * e) w (22 + 2 * H 1 e) q (nI r) 0 0 M' = k59 (22 + 2 * e) w (22 + 2 * H 1 e) q (nI (r + 1)) (tv_w M' 198 (tco T e + r) (nI (hr_s T (H 0 e - 1) (H 1 e) r row (tsz T (H 1 e)) % p))) := by
    intro k59 r M' hr hf
    have hsl := hr_sl (T := T) (t := H 0 e - 1) (f := H 1 e) (r := r) (row := row) (show p ≤ 7 by omega) (tsz T (H 1 e)) (fun k hk => hr_tl hT e2 e5 (by omega) hk) hrp
    have hh : ∀ d k nn, k + d = tsz T (H 1 e) → d < nn → He_hearOne_L74 F k59 nn (22 + 2 * e) w (22 + 2 * H 1 e) q (nI r) (nI (hr_s T (H 0 e - 1) (H 1 e) r row k)) (nI k) M' = k59 (22 + 2 * e) w (22 + 2 * H 1 e) q (nI (r + 1)) (tv_w M' 198 (tco T e + r) (nI (hr_s T (H 0 e - 1) (H 1 e) r row (tsz T (H 1 e)) % p))) := by
      intro d
      induction d with
      | zero =>
        intro k nn k1 k2
        obtain ⟨nn, rfl⟩ : ∃ n', nn = n' + 1 := ⟨nn - 1, by omega⟩
        rw [show k = tsz T (H 1 e) by omega, He_hearOne_L74, tp_gl p3, tp_gn hwl, tp_gl q3, tp_gn q2, hf _ 2 (by omega), d2, if_pos (nI_le (Nat.le_refl _) (by omega)), hf 18 0 (by omega), cc.1, tp_cb (xx_rest hp (by omega)), hf _ 3 (by omega), c3, nI_add, tp_wr (by omega) (by decide), nI_1]
      | succ d ih =>
        intro k nn k1 k2
        obtain ⟨nn, rfl⟩ : ∃ n', nn = n' + 1 := ⟨nn - 1, by omega⟩
        rw [He_hearOne_L74, tp_gl p3, tp_gn hwl, tp_gl q3, tp_gn q2, hf _ 2 (by omega), d2, if_neg (nI_ge (by omega) (by omega)), show nI r * 3 + nI k = nI (3 * r + k) from by rw [Nat.mul_comm, ← nI_add, ← nI_mul]; rfl, tp_rd (by omega) (by decide), hf q _ q1, q5 r k (by omega) (by omega), hf _ 3 (by omega), d3, nI_add, tp_rd (by omega) (by decide), hf w _ hw98, hrow _ (by omega), nI_mul, nI_add, nI_1]
        exact ih (k + 1) nn (by omega) (by omega)
    exact hh (tsz T (H 1 e)) 0 F (by omega) (by omega)
  have h59 : ∀ d r nn M', r + d = tsz T e → d < nn → (∀ a i, a ≠ 198 → M'.1 a i = M.1 a i) → M'.2 = M.2 → (∀ c, M'.1 198 c = if tco T e ≤ c ∧ c < tco T e + r then nI (hr_s T (H 0 e - 1) (H 1 e) (c - tco T e) row (tsz T (H 1 e)) % p) else M.1 198 c) → ∃ M'', He_hearOne_L59 F nn (22 + 2 * e) w (22 + 2 * H 1 e) q (nI r) M' = some ((), M'') ∧ (∀ c, M''.1 198 c = if tco T e ≤ c ∧ c < tco T e + tsz T e then nI (hr_s T (H 0 e - 1) (H 1 e) (c - tco T e) row (tsz T (H 1 e)) % p) else M.1 198 c) ∧ (∀ a i, a ≠ 198 → M''.1 a i = M.1 a i) ∧ M''.2 = M.2 := by
    intro d
    induction d with
    | zero =>
      intro r nn M' k1 k2 f1 f3 f2
      obtain ⟨nn, rfl⟩ : ∃ n', nn = n' + 1 := ⟨nn - 1, by omega⟩
      have er : r = tsz T e := by omega
      subst er
      rw [He_hearOne_L59, tp_gl p3, tp_gn hwl, tp_gl q3, tp_gn q2, f1 _ 2 (by omega), c2, if_pos (nI_le (Nat.le_refl _) (by omega))]
      exact ⟨M', rfl, f2, f1, f3⟩
    | succ d ih =>
      intro r nn M' k1 k2 f1 f3 f2
      obtain ⟨nn, rfl⟩ : ∃ n', nn = n' + 1 := ⟨nn - 1, by omega⟩
      rw [He_hearOne_L59, tp_gl p3, tp_gn hwl, tp_gl q3, tp_gn q2, f1 _ 2 (by omega), c2, if_neg (nI_ge (by omega) (by omega)), h74 _ r M' (by omega) f1]
      refine ih (r + 1) nn _ (by omega) (by omega) (fun a i z => by rw [tp_wk z]; exact f1 a i z) f3 (fun c => ?_)
      rw [tp_w]
      by_cases z : c = tco T e + r
      · rw [if_pos ⟨rfl, z⟩, if_pos (by omega), show c - tco T e = r by omega]
      · rw [if_neg (fun v => z v.2), f2 c]
        by_cases z2 : tco T e ≤ c ∧ c < tco T e + r
        · rw [if_pos z2, if_pos (by omega)]
        · rw [if_neg z2, if_neg (by omega)]
  obtain ⟨M', z1, z2, z3⟩ := h59 (tsz T e) 0 F M (by omega) (by omega) (fun _ _ _ => rfl) rfl (fun c => by rw [if_neg (by omega)])
  refine ⟨M', ?_, z2, z3⟩
  unfold He_hearOne
  rw [tp_gl p3, tp_gn hwl, cc.2.2.2.2.2.2.1 e (by omega), tp_rd (by omega) (by decide), h194 e (by omega) h0, tp_cb (to_lin hT cc e3), if_neg e4, cc.2.2.2.2.2.2.1 e (by omega), tp_rd (by omega) (by decide), h195 e (by omega), if_neg h0, tp_cb (to_tie hT cc e2), tp_nls, tp_gl q3, tp_nls, tp_gl r4, cc.2.2.2.2.2.2.1 (H 1 e) (by omega), tp_cb q4]
  show tv_gn q 20 (fun n18 => He_hearOne_L59 F F (22 + 2 * e) w (22 + 2 * H 1 e) q 0 M) = _
  rw [tp_gn q2]
  exact z1
theorem he_all {w : Nat} (hw : w = 196 ∨ w = 197) (hF : 60 < F) (hp : tp_pr p) (hT : gT p T) (hH : gH p T H) (cc : cT M p T) (h195 : ∀ e, e < 8 → M.1 195 e = if H 0 e = 0 then -1 else nI (H 0 e - 1)) (h194 : ∀ e, e < 8 → H 0 e ≠ 0 → M.1 194 e = nI (H 1 e)) (hrow : ∀ c, c < 24 → M.1 w c = nI (row c)) (hrp : ∀ c, row c < p) : ∃ M', He_hearAll F w M = some ((), M') ∧ (∀ c, c < 24 → M'.1 w c = nI (tk p T H row c)) ∧ (∀ a i, a ≠ w → a ≠ 198 → M'.1 a i = M.1 a i) ∧ M'.2 = M.2 := by
  have h8 := hT.1
  have hp7 := hp.lt
  have hwl := he_w hw
  have hw98 : w ≠ 198 := by omega
  have hh : ∀ d e nn M', e + d = tE T → d < nn → (∀ a i, a ≠ 198 → M'.1 a i = M.1 a i) → M'.2 = M.2 → (∀ c, c < 24 → M'.1 198 c = nI (tke p T H row e c)) → ∃ M'', He_hearAll_L14 F nn w (nI e) M' = some ((), M'') ∧ (∀ c, c < 24 → M''.1 w c = nI (tk p T H row c)) ∧ (∀ a i, a ≠ w → a ≠ 198 → M''.1 a i = M.1 a i) ∧ M''.2 = M.2 := by
    intro d
    induction d with
    | zero =>
      intro e nn M' k1 k2 f1 f3 f2
      obtain ⟨nn, rfl⟩ : ∃ n', nn = n' + 1 := ⟨nn - 1, by omega⟩
      have ee : e = tE T := by omega
      subst ee
      rw [He_hearAll_L14, tp_gn hwl, f1 18 4 (by omega), cc.2.1, if_pos (nI_le (Nat.le_refl _) (by omega)), tp_cpy0 (x := 24) (n := 24) rfl (by decide) (by omega) (by omega)]
      refine ⟨_, rfl, fun c hc => ?_, fun a i z1 z2 => ?_, f3⟩
      · rw [tp_wc1, if_pos rfl, if_pos hc]; exact f2 c hc
      · rw [tp_wc1, if_neg z1]; exact f1 a i z2
    | succ d ih =>
      intro e nn M' k1 k2 f1 f3 f2
      obtain ⟨nn, rfl⟩ : ∃ n', nn = n' + 1 := ⟨nn - 1, by omega⟩
      obtain ⟨p1, -, p3, -⟩ := tp_eyP e (by omega)
      have cc' : cT M' p T := cc.cg hT (fun a i q => f1 a i (by have := q.2.1; omega))
      have hso := (hT.2.2.2.2.2.1 e (by omega)).1
      have hi := ih (e + 1) nn
      rw [He_hearAll_L14, tp_gn hwl, f1 18 4 (by omega), cc.2.1, if_neg (nI_ge (by omega) (by omega)), tp_ap (by omega) (by decide) p1, tp_gl p3, tp_rd (by omega) (by decide), f1 195 e (by omega), h195 e (by omega), nI_1, f1 (22 + 2 * e) 1 (by omega), (cc.2.2.2.2.2.2.2.1 e (by omega)).1]
      by_cases h0 : H 0 e = 0
      · rw [if_pos h0, if_pos rfl]
        exact hi M' (by omega) (by omega) f1 f3 (fun c hc => by rw [tke, if_neg (fun z => z.1 h0)]; exact f2 c hc)
      · have e2 := (hH.2.2.1 e (by omega) h0).2.1
        have h10 := hT.2.1
        rw [if_neg h0, if_neg (show ¬ nI (H 0 e - 1) = -1 from fun z => absurd ((tp_ei _ _).mp z) (by rw [nI_toInt (by omega), tp_m1T]; omega))]
        by_cases h2 : tso T e = 2
        · rw [if_pos ((nI_e2 (by omega)).mpr h2)]
          exact hi M' (by omega) (by omega) f1 f3 (fun c hc => by rw [tke, if_neg (fun z => z.2.1 h2)]; exact f2 c hc)
        · rw [if_neg (fun z => h2 ((nI_e2 (by omega)).mp z))]
          obtain ⟨M2, z1, z2, z3, z4⟩ := he_one (F := F) (M := M') (row := row) hw hF hp hT hH cc' (fun e he => by rw [f1 _ _ (by omega)]; exact h195 e he) (fun e he q => by rw [f1 _ _ (by omega)]; exact h194 e he q) (fun c hc => by rw [f1 _ _ hw98]; exact hrow c hc) hrp (show e < tE T by omega) h0
          rw [tp_cb z1]
          refine hi M2 (by omega) (by omega) (fun a i z => (z3 a i z).trans (f1 a i z)) (z4.trans f3) (fun c hc => ?_)
          rw [z2 c, tke]
          by_cases z : tco T e ≤ c ∧ c < tco T e + tsz T e
          · rw [if_pos z, if_pos ⟨h0, h2, z⟩]
          · rw [if_neg z, if_neg (fun v => z v.2.2)]; exact f2 c hc
  unfold He_hearAll
  rw [tp_gn hwl, tp_cpy0 (x := 24) (n := 24) rfl (by decide) (by omega) (by omega)]
  exact hh (tE T) 0 F _ (by omega) (by omega) (fun a i z => by rw [tp_wc1, if_neg z]) rfl (fun c hc => by rw [tp_wc1, if_pos rfl, if_pos hc]; exact hrow c hc)
/-! the reference -/
theorem md_tick127 {k30 : Int32 → tv_M → Option (Unit × tv_M)} {k110 : Int32 → Int32 → Int32 → Int32 → tv_M → Option (Unit × tv_M)} {e r at' : Nat} (hF : 60 < F) (hp : tp_pr p) (hT : gT p T) (hH : gH p T H) (mc : mT N p T) (hrow : ∀ c, c < tC T → N.1 274 c = nI (row c)) (hrp : ∀ c, row c < p) (he : e < tE T) (h0 : H 0 e ≠ 0) (hr : r < tsz T e) (hat : at' = 18 * (H 0 e - 1) + if to1 T (H 0 e - 1) = H 1 e then 0 else 9) : Md_tickOnce_L127 F k30 k110 F (nI e) (nI (H 1 e)) (nI at') (nI r) 0 0 N = k110 (nI e) (nI (H 1 e)) (nI at') (nI (r + 1)) (tv_w N 275 (tco T e + r) (nI (hr_s T (H 0 e - 1) (H 1 e) r row (tsz T (H 1 e)) % p))) := by
  have h8 := hT.1
  have h10 := hT.2.1
  have hp7 := hp.lt
  have hC := hT.C
  obtain ⟨e1, e2, e3, e4, e5, e6⟩ := hH.2.2.1 e he h0
  obtain ⟨x1, x2, x3⟩ := hT.col he e1
  obtain ⟨y1, y2, y3⟩ := hT.col e3 e4
  obtain ⟨s1, s2, s3, s4, s5⟩ := mc.2.2.2.2.2.2.1 _ e2
  obtain ⟨c1, c2, c3⟩ := mc.2.2.2.2.2.1 e he
  obtain ⟨d1, d2, d3⟩ := mc.2.2.2.2.2.1 _ e3
  rw [if_neg e1] at c3
  rw [if_neg e4] at d3
  have hsl := hr_sl (T := T) (t := H 0 e - 1) (f := H 1 e) (r := r) (row := row) (show p ≤ 7 by omega) (tsz T (H 1 e)) (fun k hk => hr_tl hT e2 e5 (by omega) hk) hrp
  have htab : ∀ k, k < tsz T (H 1 e) → N.1 259 (at' + 3 * r + k) = nI (hr_t T (H 0 e - 1) (H 1 e) (3 * r + k)) := fun k hk => by
    unfold hr_t
    by_cases q : to1 T (H 0 e - 1) = H 1 e
    · rw [if_pos q]
      rw [if_pos q] at hat
      rw [show at' + 3 * r + k = 18 * (H 0 e - 1) + (3 * r + k) by omega]
      exact s4 r k (by omega) (by rw [q]; exact hk)
    · rw [if_neg q]
      rw [if_neg q] at hat
      rw [show at' + 3 * r + k = 18 * (H 0 e - 1) + 9 + (3 * r + k) by omega]
      exact s5 r k (by omega) (by rw [e5.resolve_left q]; exact hk)
  have hatl : at' ≤ 18 * (H 0 e - 1) + 9 := by
    rw [hat]
    by_cases q : to1 T (H 0 e - 1) = H 1 e
    · rw [if_pos q]; omega
    · rw [if_neg q]; omega
  have hh : ∀ d k nn, k + d = tsz T (H 1 e) → d < nn → Md_tickOnce_L127 F k30 k110 nn (nI e) (nI (H 1 e)) (nI at') (nI r) (nI (hr_s T (H 0 e - 1) (H 1 e) r row k)) (nI k) N = k110 (nI e) (nI (H 1 e)) (nI at') (nI (r + 1)) (tv_w N 275 (tco T e + r) (nI (hr_s T (H 0 e - 1) (H 1 e) r row (tsz T (H 1 e)) % p))) := by
    intro d
    induction d with
    | zero =>
      intro k nn k1 k2
      obtain ⟨nn, rfl⟩ : ∃ n', nn = n' + 1 := ⟨nn - 1, by omega⟩
      rw [show k = tsz T (H 1 e) by omega, Md_tickOnce_L127, tp_rd (by omega) (by decide), d2, if_pos (nI_le (Nat.le_refl _) (by omega)), tp_rd (by omega) (by decide), c3, mc.1, tp_nz (nI_ne0 (by omega) (by omega)), nI_add, nI_rem (by omega) (by omega) (by omega), tp_wr (by omega) (by decide), nI_1]
    | succ d ih =>
      intro k nn k1 k2
      obtain ⟨nn, rfl⟩ : ∃ n', nn = n' + 1 := ⟨nn - 1, by omega⟩
      rw [Md_tickOnce_L127, tp_rd (by omega) (by decide), d2, if_neg (nI_ge (by omega) (by omega)), show (nI at' + 3 * nI r + nI k : Int32) = nI (at' + 3 * r + k) from by rw [← nI_add, ← nI_add, ← nI_mul]; rfl, tp_rd (by omega) (by decide), htab k (by omega), tp_rd (by omega) (by decide), d3, nI_add, tp_rd (by omega) (by decide), hrow _ (by omega), nI_mul, nI_add, nI_1]
      exact ih (k + 1) nn (by omega) (by omega)
  exact hh (tsz T (H 1 e)) 0 F (by omega) (by omega)
theorem md_tick110 {k30 : Int32 → tv_M → Option (Unit × tv_M)} {e at' : Nat} (hF : 60 < F) (hp : tp_pr p) (hT : gT p T) (hH : gH p T H) (mc : mT N p T) (hrow : ∀ c, c < tC T → N.1 274 c = nI (row c)) (hrp : ∀ c, row c < p) (he : e < tE T) (h0 : H 0 e ≠ 0) (hat : at' = 18 * (H 0 e - 1) + if to1 T (H 0 e - 1) = H 1 e then 0 else 9) : ∃ N', Md_tickOnce_L110 F k30 F (nI e) (nI (H 1 e)) (nI at') 0 N = k30 (nI (e + 1)) N' ∧ (∀ c, N'.1 275 c = if tco T e ≤ c ∧ c < tco T e + tsz T e then nI (hr_s T (H 0 e - 1) (H 1 e) (c - tco T e) row (tsz T (H 1 e)) % p) else N.1 275 c) ∧ ∀ a i, a ≠ 275 → N'.1 a i = N.1 a i := by
  have h8 := hT.1
  obtain ⟨e1, e2, e3, e4, e5, e6⟩ := hH.2.2.1 e he h0
  have hsz := (hT.2.2.2.2.2.1 e he).2.2.1
  have hh : ∀ d r nn N', r + d = tsz T e → d < nn → (∀ a i, a ≠ 275 → N'.1 a i = N.1 a i) → (∀ c, N'.1 275 c = if tco T e ≤ c ∧ c < tco T e + r then nI (hr_s T (H 0 e - 1) (H 1 e) (c - tco T e) row (tsz T (H 1 e)) % p) else N.1 275 c) → ∃ N'', Md_tickOnce_L110 F k30 nn (nI e) (nI (H 1 e)) (nI at') (nI r) N' = k30 (nI (e + 1)) N'' ∧ (∀ c, N''.1 275 c = if tco T e ≤ c ∧ c < tco T e + tsz T e then nI (hr_s T (H 0 e - 1) (H 1 e) (c - tco T e) row (tsz T (H 1 e)) % p) else N.1 275 c) ∧ ∀ a i, a ≠ 275 → N''.1 a i = N.1 a i := by
    intro d
    induction d with
    | zero =>
      intro r nn N' k1 k2 f1 f2
      obtain ⟨nn, rfl⟩ : ∃ n', nn = n' + 1 := ⟨nn - 1, by omega⟩
      have er : r = tsz T e := by omega
      subst er
      rw [Md_tickOnce_L110, tp_rd (by omega) (by decide), f1 254 e (by omega), (mc.2.2.2.2.2.1 e he).2.1, if_pos (nI_le (Nat.le_refl _) (by omega)), nI_1]
      exact ⟨N', rfl, f2, f1⟩
    | succ d ih =>
      intro r nn N' k1 k2 f1 f2
      obtain ⟨nn, rfl⟩ : ∃ n', nn = n' + 1 := ⟨nn - 1, by omega⟩
      have mc' : mT N' p T := mc.cg (fun a i q => f1 a i (by rcases q with q | q <;> omega))
      rw [Md_tickOnce_L110, tp_rd (by omega) (by decide), f1 254 e (by omega), (mc.2.2.2.2.2.1 e he).2.1, if_neg (nI_ge (by omega) (by omega)), md_tick127 (row := row) hF hp hT hH mc' (fun c hc => by rw [f1 _ _ (by omega)]; exact hrow c hc) hrp he h0 (by omega) hat]
      refine ih (r + 1) nn _ (by omega) (by omega) (fun a i z => by rw [tp_wk z]; exact f1 a i z) (fun c => ?_)
      rw [tp_w]
      by_cases z : c = tco T e + r
      · rw [if_pos ⟨rfl, z⟩, if_pos (by omega), show c - tco T e = r by omega]
      · rw [if_neg (fun v => z v.2), f2 c]
        by_cases z2 : tco T e ≤ c ∧ c < tco T e + r
        · rw [if_pos z2, if_pos (by omega)]
        · rw [if_neg z2, if_neg (by omega)]
  exact hh (tsz T e) 0 F N (by omega) (by omega) (fun _ _ _ => rfl) (fun c => by rw [if_neg (by omega)])
theorem md_tick1 (hF : 60 < F) (hp : tp_pr p) (hT : gT p T) (hH : gH p T H) (mc : mT N p T) (h272 : ∀ e, e < tE T → N.1 272 e = if H 0 e = 0 then -1000000 else nI (H 0 e - 1)) (h273 : ∀ e, e < tE T → H 0 e ≠ 0 → N.1 273 e = nI (H 1 e)) (hrow : ∀ c, c < tC T → N.1 274 c = nI (row c)) (hrp : ∀ c, row c < p) : ∃ N', Md_tickOnce F N = some ((), N') ∧ (∀ c, c < tC T → N'.1 274 c = nI (tk p T H row c)) ∧ ∀ a i, a ≠ 274 → a ≠ 275 → N'.1 a i = N.1 a i := by
  have h8 := hT.1
  have hC := hT.C
  have h213 : ∀ d c nn N', c + d = tC T → d < nn → (∀ a i, a ≠ 274 → a ≠ 275 → N'.1 a i = N.1 a i) → (∀ x, x < tC T → N'.1 275 x = nI (tk p T H row x)) → (∀ x, x < c → N'.1 274 x = nI (tk p T H row x)) → ∃ N'', Md_tickOnce_L213 F nn (nI c) N' = some ((), N'') ∧ (∀ c, c < tC T → N''.1 274 c = nI (tk p T H row c)) ∧ ∀ a i, a ≠ 274 → a ≠ 275 → N''.1 a i = N.1 a i := by
    intro d
    induction d with
    | zero =>
      intro c nn N' k1 k2 f1 f2 f3
      obtain ⟨nn, rfl⟩ : ∃ n', nn = n' + 1 := ⟨nn - 1, by omega⟩
      rw [Md_tickOnce_L213, f1 249 10 (by omega) (by omega), mc.2.2.1, if_pos (nI_le (by omega) (by omega))]
      exact ⟨N', rfl, fun x hx => f3 x (by omega), f1⟩
    | succ d ih =>
      intro c nn N' k1 k2 f1 f2 f3
      obtain ⟨nn, rfl⟩ : ∃ n', nn = n' + 1 := ⟨nn - 1, by omega⟩
      rw [Md_tickOnce_L213, f1 249 10 (by omega) (by omega), mc.2.2.1, if_neg (nI_ge (by omega) (by omega)), tp_rd (by omega) (by decide), f2 c (by omega), tp_wr (by omega) (by decide), nI_1]
      refine ih (c + 1) nn _ (by omega) (by omega) (fun a i z1 z2 => by rw [tp_wk z1]; exact f1 a i z1 z2) (fun x hx => by rw [tp_wk (by omega)]; exact f2 x hx) (fun x hx => ?_)
      rw [tp_w]
      by_cases z : x = c
      · rw [if_pos ⟨rfl, z⟩, z]
      · rw [if_neg (fun v => z v.2)]; exact f3 x (by omega)
  have h30 : ∀ d e nn N', e + d = tE T → d < nn → (∀ a i, a ≠ 275 → N'.1 a i = N.1 a i) → (∀ x, x < tC T → N'.1 275 x = nI (tke p T H row e x)) → ∃ N'', Md_tickOnce_L30 F nn (nI e) N' = some ((), N'') ∧ (∀ c, c < tC T → N''.1 274 c = nI (tk p T H row c)) ∧ ∀ a i, a ≠ 274 → a ≠ 275 → N''.1 a i = N.1 a i := by
    intro d
    induction d with
    | zero =>
      intro e nn N' k1 k2 f1 f2
      obtain ⟨nn, rfl⟩ : ∃ n', nn = n' + 1 := ⟨nn - 1, by omega⟩
      have ee : e = tE T := by omega
      subst ee
      rw [Md_tickOnce_L30, f1 249 6 (by omega), mc.2.1, if_pos (nI_le (Nat.le_refl _) (by omega))]
      exact h213 (tC T) 0 F N' (by omega) (by omega) (fun a i _ z => f1 a i z) f2 (fun x hx => absurd hx (Nat.not_lt_zero x))
    | succ d ih =>
      intro e nn N' k1 k2 f1 f2
      obtain ⟨nn, rfl⟩ : ∃ n', nn = n' + 1 := ⟨nn - 1, by omega⟩
      have he : e < tE T := by omega
      have mc' : mT N' p T := mc.cg (fun a i q => f1 a i (by rcases q with q | q <;> omega))
      have hso := (hT.2.2.2.2.2.1 e he).1
      have hskip : (H 0 e = 0 ∨ tso T e = 2) → ∃ N'', Md_tickOnce_L30 F nn (nI (e + 1)) N' = some ((), N'') ∧ (∀ c, c < tC T → N''.1 274 c = nI (tk p T H row c)) ∧ ∀ a i, a ≠ 274 → a ≠ 275 → N''.1 a i = N.1 a i := fun z => ih (e + 1) nn N' (by omega) (by omega) f1 (fun x hx => by rw [tke, if_neg (fun v => z.elim v.1 v.2.1)]; exact f2 x hx)
      have h57 : (tso T e = 0 ∨ tso T e = 1) → ∃ N'', Md_tickOnce_L57 F (Md_tickOnce_L30 F nn) (nI e) N' = some ((), N'') ∧ (∀ c, c < tC T → N''.1 274 c = nI (tk p T H row c)) ∧ ∀ a i, a ≠ 274 → a ≠ 275 → N''.1 a i = N.1 a i := fun z => by
        unfold Md_tickOnce_L57
        rw [tp_rd (by omega) (by decide), f1 272 e (by omega), h272 e he]
        by_cases h0 : H 0 e = 0
        · rw [if_pos h0, if_pos rfl, nI_1]; exact hskip (Or.inl h0)
        · obtain ⟨e1, e2, e3, e4, e5, e6⟩ := hH.2.2.1 e he h0
          have h10 := hT.2.1
          obtain ⟨g1, -⟩ := hT.2.2.2.2.2.2.1 _ e2
          rw [if_neg h0, if_neg (nI_none (by omega)), tp_rd (by omega) (by decide), f1 273 e (by omega), h273 e he h0, tp_rd (by omega) (by decide), f1 272 e (by omega), h272 e he, if_neg h0, tp_rd (by omega) (by decide), f1 272 e (by omega), h272 e he, if_neg h0, tp_rd (by omega) (by decide), (mc'.2.2.2.2.2.2.1 _ e2).1]
          have hgo : ∀ at', at' = 18 * (H 0 e - 1) + (if to1 T (H 0 e - 1) = H 1 e then 0 else 9) → ∃ N'', Md_tickOnce_L110 F (Md_tickOnce_L30 F nn) F (nI e) (nI (H 1 e)) (nI at') 0 N' = some ((), N'') ∧ (∀ c, c < tC T → N''.1 274 c = nI (tk p T H row c)) ∧ ∀ a i, a ≠ 274 → a ≠ 275 → N''.1 a i = N.1 a i := fun at' hat => by
            obtain ⟨N2, z1, z2, z3⟩ := md_tick110 (F := F) (N := N') (row := row) (k30 := Md_tickOnce_L30 F nn) hF hp hT hH mc' (fun c hc => by rw [f1 _ _ (by omega)]; exact hrow c hc) hrp he h0 hat
            rw [z1]
            refine ih (e + 1) nn N2 (by omega) (by omega) (fun a i v => (z3 a i v).trans (f1 a i v)) (fun x hx => ?_)
            rw [z2 x, tke]
            by_cases v : tco T e ≤ x ∧ x < tco T e + tsz T e
            · rw [if_pos v, if_pos ⟨h0, by omega, v⟩]
            · rw [if_neg v, if_neg (fun u => v u.2.2)]; exact f2 x hx
          by_cases q : to1 T (H 0 e - 1) = H 1 e
          · rw [if_pos (by rw [q]), show (18 * nI (H 0 e - 1) + 0 : Int32) = nI (18 * (H 0 e - 1) + 0) from by rw [← nI_add, ← nI_mul]; rfl]
            exact hgo _ (by rw [if_pos q])
          · rw [if_neg (fun v => q (nI_inj (by omega) (by omega) v)), show (18 * nI (H 0 e - 1) + 9 : Int32) = nI (18 * (H 0 e - 1) + 9) from by rw [← nI_add, ← nI_mul]; rfl]
            exact hgo _ (by rw [if_neg q])
      rw [Md_tickOnce_L30, f1 249 6 (by omega), mc.2.1, if_neg (nI_ge (by omega) (by omega)), tp_rd (by omega) (by decide), (mc'.2.2.2.2.2.1 e he).1, tp_rd (by omega) (by decide), (mc'.2.2.2.2.2.1 e he).1, nI_1]
      by_cases q0 : tso T e = 0
      · rw [if_pos ((nI_e0 (by omega)).mpr q0)]; exact h57 (Or.inl q0)
      · rw [if_neg (fun v => q0 ((nI_e0 (by omega)).mp v))]
        by_cases q1 : tso T e = 1
        · rw [if_pos ((nI_e1 (by omega)).mpr q1)]; exact h57 (Or.inr q1)
        · rw [if_neg (fun v => q1 ((nI_e1 (by omega)).mp v))]
          refine hskip ?_
          by_cases q2 : tso T e = 2
          · exact Or.inr q2
          · refine Or.inl (Classical.byContradiction fun v => (hH.2.2.1 e he v).1 (by omega))
  have h2 : ∀ d c nn N', c + d = tC T → d < nn → (∀ a i, a ≠ 275 → N'.1 a i = N.1 a i) → (∀ x, x < c → N'.1 275 x = nI (row x)) → ∃ N'', Md_tickOnce_L2 F nn (nI c) N' = some ((), N'') ∧ (∀ c, c < tC T → N''.1 274 c = nI (tk p T H row c)) ∧ ∀ a i, a ≠ 274 → a ≠ 275 → N''.1 a i = N.1 a i := by
    intro d
    induction d with
    | zero =>
      intro c nn N' k1 k2 f1 f2
      obtain ⟨nn, rfl⟩ : ∃ n', nn = n' + 1 := ⟨nn - 1, by omega⟩
      rw [Md_tickOnce_L2, f1 249 10 (by omega), mc.2.2.1, if_pos (nI_le (by omega) (by omega))]
      exact h30 (tE T) 0 F N' (by omega) (by omega) f1 (fun x hx => f2 x (by omega))
    | succ d ih =>
      intro c nn N' k1 k2 f1 f2
      obtain ⟨nn, rfl⟩ : ∃ n', nn = n' + 1 := ⟨nn - 1, by omega⟩
      rw [Md_tickOnce_L2, f1 249 10 (by omega), mc.2.2.1, if_neg (nI_ge (by omega) (by omega)), tp_rd (by omega) (by decide), f1 274 c (by omega), hrow c (by omega), tp_wr (by omega) (by decide), nI_1]
      refine ih (c + 1) nn _ (by omega) (by omega) (fun a i z => by rw [tp_wk z]; exact f1 a i z) (fun x hx => ?_)
      rw [tp_w]
      by_cases z : x = c
      · rw [if_pos ⟨rfl, z⟩, z]
      · rw [if_neg (fun v => z v.2)]; exact f2 x (by omega)
  exact h2 (tC T) 0 F N (by omega) (by omega) (fun _ _ _ => rfl) (fun x hx => absurd hx (Nat.not_lt_zero x))
end TICK
