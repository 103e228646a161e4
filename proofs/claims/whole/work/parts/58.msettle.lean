/-! the reference settles -/
theorem an_f {f : Nat → Bool} {c : Nat} (h : an f c = false) : ∀ n, c ≤ n → an f n = false := by
  intro n
  induction n with
  | zero => intro hc; rw [show c = 0 by omega] at h; exact h
  | succ n ih =>
    intro hc
    by_cases e : c = n + 1
    · rw [← e]; exact h
    · rw [an, ih (by omega), Bool.false_and]
section MSETTLE
variable {F p : Nat} {a b c : Int32} {M N : tv_M} {T R H : Nat → Nat → Nat} {row : Nat → Nat}
theorem rq_C {t k : Nat} (hC : tC T ≤ 24) (h0 : ∀ n c, tC T ≤ c → tkn p T H row n c = 0) : rq p T H row t k = an (fun c => decide (tkn p T H row k c = tkn p T H row t c)) (tC T) := by
  rw [Bool.eq_iff_iff, rq_iff, an_iff]
  refine ⟨fun h c hc => decide_eq_true (h c (by omega)), fun h c hc => ?_⟩
  by_cases w : c < tC T
  · exact of_decide_eq_true (h c w)
  · rw [h0 _ c (by omega), h0 _ c (by omega)]
theorem md_isrow {t k : Nat} (hF : 60 < F) (hT : gT p T) (mc : mT N p T) (h8 : ∀ n c, tkn p T H row n c < 8) (h0 : ∀ n c, tC T ≤ c → tkn p T H row n c = 0) (hk : k ≤ 300) (hrow : ∀ c, c < tC T → N.1 276 (24 * k + c) = nI (tkn p T H row k c)) (hnow : ∀ c, c < tC T → N.1 274 c = nI (tkn p T H row t c)) : Md_isRow F (nI k) N = some (if rq p T H row t k then 1 else 0, N) := by
  have hC := hT.C
  rw [rq_C hC h0]
  have hh : ∀ d c nn, c + d = tC T → d < nn → Md_isRow_L4 F nn (nI k) (if an (fun c => decide (tkn p T H row k c = tkn p T H row t c)) c then 1 else 0) (nI c) N = some (if an (fun c => decide (tkn p T H row k c = tkn p T H row t c)) (tC T) then 1 else 0, N) := by
    intro d
    induction d with
    | zero =>
      intro c nn e1 e2
      obtain ⟨nn, rfl⟩ : ∃ n', nn = n' + 1 := ⟨nn - 1, by omega⟩
      rw [show c = tC T by omega, Md_isRow_L4, mc.2.2.1, if_pos (nI_le (Nat.le_refl _) (by omega)), tp_zo]
      by_cases w : an (fun c => decide (tkn p T H row k c = tkn p T H row t c)) (tC T) = true
      · rw [if_pos w]; exact Or.inr rfl
      · rw [if_neg w]; exact Or.inl rfl
    | succ d ih =>
      intro c nn e1 e2
      obtain ⟨nn, rfl⟩ : ∃ n', nn = n' + 1 := ⟨nn - 1, by omega⟩
      have hi := ih (c + 1) nn (by omega) (by omega)
      rw [an] at hi
      rw [Md_isRow_L4, mc.2.2.1, if_neg (nI_ge (by omega) (by omega))]
      by_cases w : an (fun c => decide (tkn p T H row k c = tkn p T H row t c)) c = true
      · rw [if_pos w, if_neg (show ¬ (1 : Int32) = 0 by decide), show (24 * nI k + nI c : Int32) = nI (24 * k + c) from by rw [← nI_add, ← nI_mul]; rfl, tp_rd (by omega) (by decide), hrow c (by omega), tp_rd (by omega) (by decide), hnow c (by omega), nI_1]
        rw [w, Bool.true_and] at hi
        have a1 := h8 k c
        have a2 := h8 t c
        by_cases q : tkn p T H row k c = tkn p T H row t c
        · rw [if_pos (by rw [q])]
          rw [decide_eq_true q, if_pos rfl] at hi
          exact hi
        · rw [if_neg (fun z => q (nI_inj (by omega) (by omega) z))]
          rw [decide_eq_false q, if_neg Bool.false_ne_true] at hi
          exact hi
      · have w := Bool.eq_false_iff.mpr w
        rw [w, if_neg Bool.false_ne_true, if_pos rfl, tp_zo (Or.inl rfl), an_f w (tC T) (by omega), if_neg Bool.false_ne_true]
  exact hh (tC T) 0 F (by omega) (by omega)
theorem md_settles (hF : 1000 < F) (hp : tp_pr p) (hT : gT p T) (hH : gH p T H) (mc : mT N p T) (mh : mH N T H) {w : Int32} : ∃ N', Md_settles_L27 F F w (-1000000) (-1000000) 0 N = some (if st1 p T H (H 2) < 301 then (if w = 0 then nI (sk p T H (H 2) (st1 p T H (H 2))) else nI (st1 p T H (H 2) - sk p T H (H 2) (st1 p T H (H 2)))) else -1000000, N') ∧ (∀ c, c < tC T → N'.1 274 c = nI (H 2 c)) ∧ ∀ a i, a ≠ 274 → a ≠ 275 → a ≠ 276 → N'.1 a i = N.1 a i := by
  have hp7 := hp.lt
  have hC := hT.C
  have hok := tkn_ok (show 0 < p by omega) hT hH hH.2.2.2
  have h8 : ∀ n c, tkn p T H (H 2) n c < 8 := fun n c => by have := (hok n c).1; omega
  have h0 : ∀ n c, tC T ≤ c → tkn p T H (H 2) n c = 0 := fun n c => (hok n c).2
  have hskle : ∀ t, sk p T H (H 2) t ≤ t := fun t => (el_find_P t _).1
  have h147 : ∀ (l2 l3 : Int32) d c nn N', c + d = tC T → d < nn → (∀ x, x < tC T → N'.1 276 x = nI (H 2 x)) → (∀ x, x < c → N'.1 274 x = nI (H 2 x)) → (∀ a i, a ≠ 274 → a ≠ 275 → a ≠ 276 → N'.1 a i = N.1 a i) → ∃ N'', Md_settles_L147 F nn w l2 l3 (nI c) N' = some (if w = 0 then l2 else l3, N'') ∧ (∀ c, c < tC T → N''.1 274 c = nI (H 2 c)) ∧ ∀ a i, a ≠ 274 → a ≠ 275 → a ≠ 276 → N''.1 a i = N.1 a i := by
    intro l2 l3 d
    induction d with
    | zero =>
      intro c nn N' k1 k2 f1 f2 f3
      obtain ⟨nn, rfl⟩ : ∃ n', nn = n' + 1 := ⟨nn - 1, by omega⟩
      rw [Md_settles_L147, f3 249 10 (by omega) (by omega) (by omega), mc.2.2.1, if_pos (nI_le (by omega) (by omega))]
      refine ⟨N', ?_, fun x hx => f2 x (by omega), f3⟩
      by_cases q : w = 0
      · rw [if_pos q, if_pos q]
      · rw [if_neg q, if_neg q]
    | succ d ih =>
      intro c nn N' k1 k2 f1 f2 f3
      obtain ⟨nn, rfl⟩ : ∃ n', nn = n' + 1 := ⟨nn - 1, by omega⟩
      rw [Md_settles_L147, f3 249 10 (by omega) (by omega) (by omega), mc.2.2.1, if_neg (nI_ge (by omega) (by omega)), tp_rd (by omega) (by decide), f1 c (by omega), tp_wr (by omega) (by decide), nI_1]
      refine ih (c + 1) nn _ (by omega) (by omega) (fun x hx => by rw [tp_wk (by omega)]; exact f1 x hx) (fun x hx => ?_) (fun a i v1 v2 v3 => by rw [tp_wk v1]; exact f3 a i v1 v2 v3)
      rw [tp_w]
      by_cases z : x = c
      · rw [if_pos ⟨rfl, z⟩, z]
      · rw [if_neg (fun v => z v.2)]; exact f2 x (by omega)
  have h99 : ∀ (k27 : Int32 → Int32 → Int32 → Int32 → tv_M → Option (Int32 × tv_M)) (l2 l3 : Int32) t, t ≤ 300 → ∀ d c nn N', c + d = tC T → d < nn → (∀ x, x < tC T → N'.1 274 x = nI (tkn p T H (H 2) t x)) → (∀ i x, i < t → x < tC T → N'.1 276 (24 * i + x) = nI (tkn p T H (H 2) i x)) → (∀ x, x < c → N'.1 276 (24 * t + x) = nI (tkn p T H (H 2) t x)) → (∀ a i, a ≠ 274 → a ≠ 275 → a ≠ 276 → N'.1 a i = N.1 a i) → ∃ N'', Md_settles_L99 F k27 nn w l2 l3 (nI t) (nI c) N' = k27 w l2 l3 (nI (t + 1)) N'' ∧ (∀ x, x < tC T → N''.1 274 x = nI (tkn p T H (H 2) (t + 1) x)) ∧ (∀ i x, i < t + 1 → x < tC T → N''.1 276 (24 * i + x) = nI (tkn p T H (H 2) i x)) ∧ ∀ a i, a ≠ 274 → a ≠ 275 → a ≠ 276 → N''.1 a i = N.1 a i := by
    intro k27 l2 l3 t ht d
    induction d with
    | zero =>
      intro c nn N' k1 k2 f1 f2 f3 f4
      obtain ⟨nn, rfl⟩ : ∃ n', nn = n' + 1 := ⟨nn - 1, by omega⟩
      have mc' : mT N' p T := mc.cg (fun a i q => f4 a i (by rcases q with q | q <;> omega) (by rcases q with q | q <;> omega) (by rcases q with q | q <;> omega))
      obtain ⟨N2, z1, z2, z3⟩ := md_tick1 (F := F) (N := N') (row := tkn p T H (H 2) t) (by omega) hp hT hH mc' (fun e he => by rw [f4 _ _ (by omega) (by omega) (by omega)]; exact mh.2.1 e he) (fun e he v => by rw [f4 _ _ (by omega) (by omega) (by omega)]; exact mh.2.2.1 e he v) f1 (fun c => (hok t c).1)
      rw [Md_settles_L99, f4 249 10 (by omega) (by omega) (by omega), mc.2.2.1, if_pos (nI_le (by omega) (by omega)), tp_cb z1, nI_1]
      refine ⟨N2, rfl, z2, fun i x hi hx => ?_, fun a i v1 v2 v3 => (z3 a i v1 v2).trans (f4 a i v1 v2 v3)⟩
      rw [z3 _ _ (by omega) (by omega)]
      by_cases v : i = t
      · rw [v]; exact f3 x (by omega)
      · exact f2 i x (by omega) hx
    | succ d ih =>
      intro c nn N' k1 k2 f1 f2 f3 f4
      obtain ⟨nn, rfl⟩ : ∃ n', nn = n' + 1 := ⟨nn - 1, by omega⟩
      rw [Md_settles_L99, f4 249 10 (by omega) (by omega) (by omega), mc.2.2.1, if_neg (nI_ge (by omega) (by omega)), tp_rd (by omega) (by decide), f1 c (by omega), show (24 * nI t + nI c : Int32) = nI (24 * t + c) from by rw [← nI_add, ← nI_mul]; rfl, tp_wr (by omega) (by decide), nI_1]
      refine ih (c + 1) nn _ (by omega) (by omega) (fun x hx => by rw [tp_wk (by omega)]; exact f1 x hx) (fun i x hi hx => by rw [tp_w, if_neg (by omega)]; exact f2 i x hi hx) (fun x hx => ?_) (fun a i v1 v2 v3 => by rw [tp_wk v3]; exact f4 a i v1 v2 v3)
      rw [tp_w]
      by_cases z : x = c
      · rw [if_pos ⟨rfl, by rw [z]⟩, z]
      · rw [if_neg (by omega)]; exact f3 x (by omega)
  have h44 : ∀ (k27 : Int32 → Int32 → Int32 → Int32 → tv_M → Option (Int32 × tv_M)) t (N' : tv_M), t ≤ 300 → mT N' p T → (∀ x, x < tC T → N'.1 274 x = nI (tkn p T H (H 2) t x)) → (∀ i x, i < t → x < tC T → N'.1 276 (24 * i + x) = nI (tkn p T H (H 2) i x)) → ∀ d k nn, k + d = t → d + 1 < nn → (∀ k', k' < k → rq p T H (H 2) t k' = false) → Md_settles_L44 F k27 nn w (-1000000) (nI t) (nI k) N' = Md_settles_L80 F k27 w (if sk p T H (H 2) t < t then nI (sk p T H (H 2) t) else -1000000) (nI t) N' := by
    intro k27 t N' ht mc' f1 f2 d
    induction d with
    | zero =>
      intro k nn k1 k2 hno
      obtain ⟨nn, rfl⟩ : ∃ n', nn = n' + 1 := ⟨nn - 1, by omega⟩
      have ek : k = t := by omega
      subst ek
      rw [Md_settles_L44, if_pos (nI_le (Nat.le_refl _) (by omega)), if_neg]
      unfold sk
      rw [el_find_no hno]
      omega
    | succ d ih =>
      intro k nn k1 k2 hno
      obtain ⟨nn, rfl⟩ : ∃ n', nn = n' + 1 := ⟨nn - 1, by omega⟩
      obtain ⟨nm, rfl⟩ : ∃ n', nn = n' + 1 := ⟨nn - 1, by omega⟩
      rw [Md_settles_L44, if_neg (nI_ge (by omega) (by omega)), if_pos rfl, tp_cb (md_isrow (F := F) (t := t) (by omega) hT mc' h8 h0 (by omega) (fun c hc => f2 k c (by omega) hc) f1), nI_1]
      by_cases q : rq p T H (H 2) t k = true
      · have e : sk p T H (H 2) t = k := el_find_at hno (by omega) q
        rw [if_pos q, if_neg (show ¬ (1 : Int32) = 0 by decide), e, if_pos (by omega), Md_settles_L44, if_neg (nI_none (by omega))]
        by_cases v : nI t ≤ nI (k + 1)
        · rw [if_pos v]
        · rw [if_neg v]
      · rw [if_neg q, if_pos rfl]
        exact ih (k + 1) (nm + 1) (by omega) (by omega) (fun k' hk' => by
          by_cases v : k' = k
          · rw [v]; exact Bool.eq_false_iff.mpr q
          · exact hno k' (by omega))
  have h27 : ∀ d t nn N', t + d = 301 → d + 1 < nn → (∀ x, x < tC T → N'.1 274 x = nI (tkn p T H (H 2) t x)) → (∀ i x, i < t → x < tC T → N'.1 276 (24 * i + x) = nI (tkn p T H (H 2) i x)) → (∀ t', t' < t → decide (sk p T H (H 2) t' < t') = false) → (∀ a i, a ≠ 274 → a ≠ 275 → a ≠ 276 → N'.1 a i = N.1 a i) → ∃ N'', Md_settles_L27 F nn w (-1000000) (-1000000) (nI t) N' = some (if st1 p T H (H 2) < 301 then (if w = 0 then nI (sk p T H (H 2) (st1 p T H (H 2))) else nI (st1 p T H (H 2) - sk p T H (H 2) (st1 p T H (H 2)))) else -1000000, N'') ∧ (∀ c, c < tC T → N''.1 274 c = nI (H 2 c)) ∧ ∀ a i, a ≠ 274 → a ≠ 275 → a ≠ 276 → N''.1 a i = N.1 a i := by
    intro d
    induction d with
    | zero =>
      intro t nn N' k1 k2 f1 f2 f3 f4
      obtain ⟨nn, rfl⟩ : ∃ n', nn = n' + 1 := ⟨nn - 1, by omega⟩
      have hst : st1 p T H (H 2) = 301 := el_find_no (fun k hk => f3 k (by omega))
      rw [Md_settles_L27, if_pos (show (300 : Int32) < nI t from nI_lt (a := 300) (by omega) (by omega)), hst, if_neg (by omega)]
      obtain ⟨N2, z1, z2, z3⟩ := h147 (-1000000) (-1000000) (tC T) 0 F N' (by omega) (by omega) (fun x hx => by have := f2 0 x (by omega) hx; rw [Nat.mul_zero, Nat.zero_add] at this; exact this) (fun x hx => absurd hx (Nat.not_lt_zero x)) f4
      have z1 : Md_settles_L147 F F w (-1000000) (-1000000) 0 N' = _ := z1
      rw [z1]
      refine ⟨N2, ?_, z2, z3⟩
      by_cases q : w = 0
      · rw [if_pos q]
      · rw [if_neg q]
    | succ d ih =>
      intro t nn N' k1 k2 f1 f2 f3 f4
      obtain ⟨nn, rfl⟩ : ∃ n', nn = n' + 1 := ⟨nn - 1, by omega⟩
      have mc' : mT N' p T := mc.cg (fun a i q => f4 a i (by rcases q with q | q <;> omega) (by rcases q with q | q <;> omega) (by rcases q with q | q <;> omega))
      have e44 := h44 (Md_settles_L27 F nn) t N' (by omega) mc' f1 f2 t 0 F (by omega) (by omega) (fun k hk => absurd hk (Nat.not_lt_zero k))
      have e44 : Md_settles_L44 F (Md_settles_L27 F nn) F w (-1000000) (nI t) 0 N' = _ := e44
      rw [Md_settles_L27, if_neg (show ¬ (300 : Int32) < nI t from nI_nlt (a := 300) (by omega) (by omega)), if_pos rfl, e44]
      have hsk := hskle t
      by_cases q : sk p T H (H 2) t < t
      · have hst : st1 p T H (H 2) = t := el_find_at f3 (by omega) (decide_eq_true q)
        obtain ⟨N2, z1, z2, z3, z4⟩ := h99 (Md_settles_L27 F nn) (nI (sk p T H (H 2) t)) (nI t - nI (sk p T H (H 2) t)) t (by omega) (tC T) 0 F N' (by omega) (by omega) f1 f2 (fun x hx => absurd hx (Nat.not_lt_zero x)) f4
        have z1 : Md_settles_L99 F (Md_settles_L27 F nn) F w (nI (sk p T H (H 2) t)) (nI t - nI (sk p T H (H 2) t)) (nI t) 0 N' = _ := z1
        rw [if_pos q]
        unfold Md_settles_L80
        obtain ⟨nm, rfl⟩ : ∃ n', nn = n' + 1 := ⟨nn - 1, by omega⟩
        rw [if_neg (nI_none (by omega)), z1, Md_settles_L27, if_neg (nI_none (by omega)), hst, if_pos (show t < 301 by omega)]
        obtain ⟨N3, y1, y2, y3⟩ := h147 (nI (sk p T H (H 2) t)) (nI t - nI (sk p T H (H 2) t)) (tC T) 0 F N2 (by omega) (by omega) (fun x hx => by have := z3 0 x (by omega) hx; rw [Nat.mul_zero, Nat.zero_add] at this; exact this) (fun x hx => absurd hx (Nat.not_lt_zero x)) z4
        have y1 : Md_settles_L147 F F w (nI (sk p T H (H 2) t)) (nI t - nI (sk p T H (H 2) t)) 0 N2 = _ := y1
        rw [y1, nI_sub (by omega)]
        refine ⟨N3, ?_, y2, y3⟩
        by_cases v : (300 : Int32) < nI (t + 1)
        · rw [if_pos v]
        · rw [if_neg v]
      · obtain ⟨N2, z1, z2, z3, z4⟩ := h99 (Md_settles_L27 F nn) (-1000000) (-1000000) t (by omega) (tC T) 0 F N' (by omega) (by omega) f1 f2 (fun x hx => absurd hx (Nat.not_lt_zero x)) f4
        have z1 : Md_settles_L99 F (Md_settles_L27 F nn) F w (-1000000) (-1000000) (nI t) 0 N' = _ := z1
        rw [if_neg q]
        unfold Md_settles_L80
        rw [if_pos rfl, z1]
        exact ih (t + 1) nn N2 (by omega) (by omega) z2 z3 (fun t' ht => by
          by_cases v : t' = t
          · rw [v]; exact decide_eq_false q
          · exact f3 t' (by omega)) z4
  exact h27 301 0 F N (by omega) (by omega) mh.2.2.2 (fun i x hi => absurd hi (Nat.not_lt_zero i)) (fun t' ht => absurd ht (Nat.not_lt_zero t')) (fun _ _ _ _ _ => rfl)
theorem op_settles (hF : 1000 < F) (hp : tp_pr p) (hT : gT p T) (hH : gH p T H) (cc : cT M p T) (ch : cH M H) (ck : cHk M p T H) (mc : mT N p T) (mh : mH N T H) : ∃ r : Int32, tq (Xx_settles F a M) (fun q M' => q = r ∧ cH M' H ∧ cHk M' p T H ∧ fH M M') ∧ tq (Md_settles F a N) (fun q N' => q = r ∧ mH N' T H ∧ fHm N N') := by
  have mc' := mc.w0
  have mh' := mh.w0
  have fm0 : fHm N (tv_w N 249 0 0) := fun a i q1 _ => by rw [tp_w, if_neg (by omega)]
  rcases tp_ix a (n := 2) (by decide) with h | ⟨w, hw, rfl⟩
  · refine ⟨-1000001, ?_, ?_⟩
    · have hne : ∀ k, k < 2 → ¬ a = nI k := fun k hk v => by
        subst v
        rcases h with h | h
        · exact nI_pos (by omega) h
        · exact nI_ge hk (by decide) h
      unfold Xx_settles
      rw [if_neg (show ¬ a = 0 from hne 0 (by omega)), if_neg (show ¬ a = 1 from hne 1 (by omega))]
      exact tq_some ⟨rfl, ch, ck, fH.rf⟩
    · unfold Md_settles
      rw [tp_pf, tp_cb (md_in_out h (by decide) (by decide)), if_pos rfl]
      exact tq_some ⟨rfl, mh', fm0⟩
  · obtain ⟨M', x1, x2, x3, x4⟩ := he_spent (F := F) hF hp hT hH cc ch ck
    obtain ⟨N', y1, y2, y3⟩ := md_settles (F := F) (N := tv_w N 249 0 0) (w := nI w) hF hp hT hH mc' mh'
    have hy : Md_settles F (nI w) N = some ((if st1 p T H (H 2) < 301 then (if nI w = 0 then nI (sk p T H (H 2) (st1 p T H (H 2))) else nI (st1 p T H (H 2) - sk p T H (H 2) (st1 p T H (H 2)))) else -1000000), N') := by
      unfold Md_settles
      rw [tp_pf, tp_cb (md_in_in hw (by decide) (by decide)), if_neg (show ¬ (1 : Int32) = 0 by decide), y1]
    have hx : Xx_settles F (nI w) M = some ((if st1 p T H (H 2) < 301 then (if nI w = 0 then nI (sk p T H (H 2) (st1 p T H (H 2))) else nI (st1 p T H (H 2) - sk p T H (H 2) (st1 p T H (H 2)))) else -1000000), M') := by
      have hL : Xx_settles_L12 F (nI w) M = some ((if st1 p T H (H 2) < 301 then (if nI w = 0 then nI (sk p T H (H 2) (st1 p T H (H 2))) else nI (st1 p T H (H 2) - sk p T H (H 2) (st1 p T H (H 2)))) else -1000000), M') := by
        unfold Xx_settles_L12
        rw [tp_cb x1]
        rcases x3 with h | h
        · rw [if_pos h.1, if_pos h.1, if_pos rfl, h.2.2.1, h.2.2.2]
          by_cases v : nI w = 0
          · rw [if_pos v, if_pos v]
          · rw [if_neg v, if_neg v]
        · rw [if_neg (show ¬ st1 p T H (H 2) < 301 by rw [h.1]; omega), if_neg (show ¬ st1 p T H (H 2) < 301 by rw [h.1]; omega), if_neg (show ¬ (1 : Int32) = 0 by decide)]
      unfold Xx_settles
      have h2 : w = 0 ∨ w = 1 := by omega
      rcases h2 with rfl | rfl
      · rw [if_pos (show nI 0 = 0 from rfl)]; exact hL
      · rw [if_neg (show ¬ nI 1 = 0 by decide), if_pos (show nI 1 = 1 from rfl)]; exact hL
    refine ⟨_, tq_eq hx ⟨rfl, ch.cg (fun a i v => x4 a i (by omega) (by omega) (by omega)), Or.inr ⟨x2, x3⟩, fun a i v => x4 a i (by omega) (by omega) (by omega)⟩, tq_eq hy ⟨rfl, ⟨?_, fun e he => ?_, fun e he v => ?_, y2⟩, fun a i v1 v2 => ?_⟩⟩
    · rw [y3 _ _ (by omega) (by omega) (by omega)]; exact mh'.1
    · rw [y3 _ _ (by omega) (by omega) (by omega)]; exact mh'.2.1 e he
    · rw [y3 _ _ (by omega) (by omega) (by omega)]; exact mh'.2.2.1 e he v
    · rw [y3 _ _ (by omega) (by omega) (by omega)]; exact fm0 a i v1 v2
end MSETTLE
