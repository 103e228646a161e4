/-! READINGS, CHOICES, AND THE SMALL QUESTIONS -/
def gR (p : Nat) (T R : Nat → Nat → Nat) : Prop := (∀ e, e < tE T → R 0 e ≤ 1 ∧ (tso T e = 3 → R 0 e = 0)) ∧ ∀ c, R 1 c < p
def cR (M : tv_M) (T R : Nat → Nat → Nat) : Prop := ∀ e, e < tE T → M.1 (22 + 2 * e) 5 = nI (R 0 e) ∧ (R 0 e = 1 → ∀ k, k < tsz T e → M.1 (23 + 2 * e) k = nI (R 1 (tco T e + k)))
def mR (N : tv_M) (T R : Nat → Nat → Nat) : Prop := ∀ e, e < tE T → N.1 270 e = nI (R 0 e) ∧ (R 0 e = 1 → ∀ k, k < tsz T e → N.1 271 (tco T e + k) = nI (R 1 (tco T e + k)))
def gQ (T : Nat → Nat → Nat) (Q : Nat → Nat) : Prop := ∀ e, e < tE T → tso T e = 3 → Q e < 2 ^ tsz T e
def cQ (M : tv_M) (T : Nat → Nat → Nat) (Q : Nat → Nat) : Prop := ∀ e, e < tE T → tso T e = 3 → M.1 (22 + 2 * e) 4 = nI (Q e)
def mQ (N : tv_M) (T : Nat → Nat → Nat) (Q : Nat → Nat) : Prop := ∀ e, e < tE T → tso T e = 3 → N.1 265 e = nI (Q e)
theorem cR.cg {M M' : tv_M} {p : Nat} {T R : Nat → Nat → Nat} (hT : gT p T) (h : cR M T R) (hk : ∀ a i, 22 ≤ a → a < 38 → (a % 2 = 1 ∨ i = 5) → M'.1 a i = M.1 a i) : cR M' T R := fun e he => by
  have h8 := hT.1
  obtain ⟨h1, h2⟩ := h e he
  exact ⟨by rw [hk _ _ (by omega) (by omega) (by omega)]; exact h1, fun q k hk' => by rw [hk _ _ (by omega) (by omega) (by omega)]; exact h2 q k hk'⟩
theorem mR.cg {N N' : tv_M} {T R : Nat → Nat → Nat} (h : mR N T R) (hk : ∀ a i, 270 ≤ a → a < 272 → N'.1 a i = N.1 a i) : mR N' T R := fun e he => by
  obtain ⟨h1, h2⟩ := h e he
  exact ⟨by rw [hk _ _ (by omega) (by omega)]; exact h1, fun q k hk' => by rw [hk _ _ (by omega) (by omega)]; exact h2 q k hk'⟩
theorem cQ.cg {M M' : tv_M} {p : Nat} {T : Nat → Nat → Nat} {Q : Nat → Nat} (hT : gT p T) (h : cQ M T Q) (hk : ∀ a, 22 ≤ a → a < 38 → M'.1 a 4 = M.1 a 4) : cQ M' T Q := fun e he hs => by
  have h8 := hT.1
  rw [hk _ (by omega) (by omega)]; exact h e he hs
theorem mQ.cg {N N' : tv_M} {T : Nat → Nat → Nat} {Q : Nat → Nat} (h : mQ N T Q) (hk : ∀ i, N'.1 265 i = N.1 265 i) : mQ N' T Q := fun e he hs => by
  rw [hk]; exact h e he hs
theorem mT.w0 {N : tv_M} {p : Nat} {T : Nat → Nat → Nat} (h : mT N p T) : mT (tv_w N 249 0 0) p T := h.cg (fun a i q => by rw [tp_w, if_neg (by rcases q with q | q <;> omega)])
theorem mR.w0 {N : tv_M} {T R : Nat → Nat → Nat} (h : mR N T R) : mR (tv_w N 249 0 0) T R := h.cg (fun a i _ _ => by rw [tp_wk (by omega)])
theorem mQ.w0 {N : tv_M} {T : Nat → Nat → Nat} {Q : Nat → Nat} (h : mQ N T Q) : mQ (tv_w N 249 0 0) T Q := h.cg (fun i => by rw [tp_wk (by omega)])
section ASK
variable {F p : Nat} {a b c : Int32} {M N : tv_M} {T R : Nat → Nat → Nat} {Q : Nat → Nat}
theorem md_eye_out (hT : gT p T) (h : mT N p T) (ha : tp_out a (tE T)) : Md_isEye F a N = some (0, N) := by
  have := hT.1
  unfold Md_isEye
  rw [h.2.1, tp_cb (md_in_out ha (by omega) rfl), tp_zo (Or.inl rfl)]
theorem md_eye {e : Nat} (hT : gT p T) (h : mT N p T) (he : e < tE T) : Md_isEye F (nI e) N = some (1, N) := by
  have := hT.1
  unfold Md_isEye
  rw [h.2.1, tp_cb (md_in_in he (by omega) rfl), tp_zo (Or.inr rfl)]
theorem md_col_out (hT : gT p T) (h : mT N p T) (ha : tp_out a (tC T)) : Md_isColumn F a N = some (0, N) := by
  have := hT.C
  unfold Md_isColumn
  rw [h.2.2.1, tp_cb (md_in_out ha (by omega) rfl), tp_zo (Or.inl rfl)]
theorem md_coli {e : Nat} (hT : gT p T) (h : mT N p T) (he : e < tC T) : Md_isColumn F (nI e) N = some (1, N) := by
  have := hT.C
  unfold Md_isColumn
  rw [h.2.2.1, tp_cb (md_in_in he (by omega) rfl), tp_zo (Or.inr rfl)]
theorem md_lin_out (hT : gT p T) (h : mT N p T) (ha : tp_out a (tE T)) : Md_isLinear F a N = some (0, N) := by
  unfold Md_isLinear
  rw [tp_cb (md_eye_out hT h ha), if_pos rfl]
theorem md_lin {e : Nat} (hT : gT p T) (h : mT N p T) (he : e < tE T) : Md_isLinear F (nI e) N = some (if tso T e = 3 then 0 else 1, N) := by
  have := hT.1
  have g1 := (hT.2.2.2.2.2.1 e he).1
  unfold Md_isLinear
  rw [tp_cb (md_eye hT h he), if_neg (show ¬ (1 : Int32) = 0 by decide), tp_rd (by omega) (by decide), (h.2.2.2.2.2.1 e he).1]
  by_cases q : tso T e = 3
  · rw [if_pos ((nI_e3 (by omega)).mpr q), if_pos q]
  · rw [if_neg (fun w => q ((nI_e3 (by omega)).mp w)), if_neg q]
theorem md_cho_out (hT : gT p T) (h : mT N p T) (ha : tp_out a (tE T)) : Md_isChoice F a N = some (0, N) := by
  unfold Md_isChoice
  rw [tp_cb (md_eye_out hT h ha), if_pos rfl]
theorem md_cho {e : Nat} (hT : gT p T) (h : mT N p T) (he : e < tE T) : Md_isChoice F (nI e) N = some (if tso T e = 3 then 1 else 0, N) := by
  have := hT.1
  have g1 := (hT.2.2.2.2.2.1 e he).1
  unfold Md_isChoice
  rw [tp_cb (md_eye hT h he), if_neg (show ¬ (1 : Int32) = 0 by decide), tp_rd (by omega) (by decide), (h.2.2.2.2.2.1 e he).1]
  by_cases q : tso T e = 3
  · rw [if_pos ((nI_e3 (by omega)).mpr q), if_pos q]
  · rw [if_neg (fun w => q ((nI_e3 (by omega)).mp w)), if_neg q]
/-- how many ties an eye is in -/
def tie_of (T : Nat → Nat → Nat) (e : Nat) : Nat := cn (fun t => decide (e = to1 T t ∨ e = to2 T t)) (tK T)
theorem ti_joins {e t : Nat} (hT : gT p T) (h : cT M p T) (he : e < 8) (ht : t < tK T) : Ti_joins F (38 + 3 * t) (nI e) M = some (if e = to1 T t ∨ e = to2 T t then 1 else 0, M) := by
  have h8 := hT.1
  have h10 := hT.2.1
  obtain ⟨p1, p2, p3, p4, p5, p6⟩ := tp_tiP t (by omega)
  obtain ⟨g1, g2, -⟩ := hT.2.2.2.2.2.2.1 t ht
  obtain ⟨c1, c2, -⟩ := h.2.2.2.2.2.2.2.2.1 t ht
  unfold Ti_joins
  rw [tp_gl p4, c1, c2]
  by_cases q : e = to1 T t
  · rw [if_pos ((nI_eq (by omega) (by omega)).mpr q), if_pos (Or.inl q)]
  · rw [if_neg (fun w => q ((nI_eq (by omega) (by omega)).mp w))]
    by_cases q2 : e = to2 T t
    · rw [if_pos ((nI_eq (by omega) (by omega)).mpr q2), if_pos (Or.inr q2)]
    · rw [if_neg (fun w => q2 ((nI_eq (by omega) (by omega)).mp w)), if_neg (fun w => w.elim q q2)]
theorem to_ties {e : Nat} (hF : 60 < F) (hT : gT p T) (h : cT M p T) (he : e < 8) : To_tiesOf F (nI e) M = some (nI (tie_of T e), M) := by
  have h10 := hT.2.1
  have hh : ∀ m j nn, j + m = tK T → m < nn → To_tiesOf_L4 F nn (nI e) (nI (cn (fun t => decide (e = to1 T t ∨ e = to2 T t)) j)) (nI j) M = some (nI (tie_of T e), M) := by
    intro m
    induction m with
    | zero =>
      intro j nn e1 e2
      obtain ⟨nn, rfl⟩ : ∃ n', nn = n' + 1 := ⟨nn - 1, by omega⟩
      rw [To_tiesOf_L4, h.2.2.1, if_pos (nI_le (by omega) (by omega)), show j = tK T by omega]; rfl
    | succ m ih =>
      intro j nn e1 e2
      obtain ⟨nn, rfl⟩ : ∃ n', nn = n' + 1 := ⟨nn - 1, by omega⟩
      obtain ⟨p1, p2, p3, p4, p5, p6⟩ := tp_tiP j (by omega)
      rw [To_tiesOf_L4, h.2.2.1, if_neg (nI_ge (by omega) (by omega)), tp_ap (by omega) (by decide) p1, tp_gl p4, tp_cb (ti_joins hT h he (by omega)), nI_1, nI_1]
      have hi := ih (j + 1) nn (by omega) (by omega)
      rw [cn] at hi
      by_cases q : e = to1 T j ∨ e = to2 T j
      · rw [if_pos q, if_neg (show ¬ (1 : Int32) = 0 by decide)]
        rw [decide_eq_true q, if_pos rfl] at hi
        exact hi
      · rw [if_neg q, if_pos rfl]
        rw [decide_eq_false q, if_neg Bool.false_ne_true, Nat.add_zero] at hi
        exact hi
  exact hh (tK T) 0 F (by omega) (by omega)
theorem md_ties {e : Nat} (hF : 60 < F) (hT : gT p T) (h : mT N p T) (he : e < 8) : Md_tiesOf F (nI e) N = some (nI (tie_of T e), N) := by
  have h8 := hT.1
  have h10 := hT.2.1
  have hh : ∀ m j nn, j + m = tK T → m < nn → Md_tiesOf_L4 F nn (nI e) (nI (cn (fun t => decide (e = to1 T t ∨ e = to2 T t)) j)) (nI j) N = some (nI (tie_of T e), N) := by
    intro m
    induction m with
    | zero =>
      intro j nn e1 e2
      obtain ⟨nn, rfl⟩ : ∃ n', nn = n' + 1 := ⟨nn - 1, by omega⟩
      rw [Md_tiesOf_L4, h.2.2.2.1, if_pos (nI_le (by omega) (by omega)), show j = tK T by omega]; rfl
    | succ m ih =>
      intro j nn e1 e2
      obtain ⟨nn, rfl⟩ : ∃ n', nn = n' + 1 := ⟨nn - 1, by omega⟩
      obtain ⟨m1, m2, -⟩ := h.2.2.2.2.2.2.1 j (by omega)
      obtain ⟨g1, g2, -⟩ := hT.2.2.2.2.2.2.1 j (by omega)
      rw [Md_tiesOf_L4, h.2.2.2.1, if_neg (nI_ge (by omega) (by omega)), tp_rd (by omega) (by decide), m1, tp_rd (by omega) (by decide), m2, nI_1, nI_1]
      have hi := ih (j + 1) nn (by omega) (by omega)
      rw [cn] at hi
      by_cases q1 : e = to1 T j
      · rw [decide_eq_true (Or.inl q1 : e = to1 T j ∨ e = to2 T j), if_pos rfl] at hi
        rw [if_pos ((nI_eq (by omega) (by omega)).mpr q1.symm)]
        exact hi
      · rw [if_neg (fun w => q1 ((nI_eq (by omega) (by omega)).mp w).symm)]
        by_cases q2 : e = to2 T j
        · rw [decide_eq_true (Or.inr q2 : e = to1 T j ∨ e = to2 T j), if_pos rfl] at hi
          rw [if_pos ((nI_eq (by omega) (by omega)).mpr q2.symm)]
          exact hi
        · rw [decide_eq_false (fun w => w.elim q1 q2 : ¬ (e = to1 T j ∨ e = to2 T j)), if_neg Bool.false_ne_true, Nat.add_zero] at hi
          rw [if_neg (fun w => q2 ((nI_eq (by omega) (by omega)).mp w).symm), show ∀ x : Int32, x + 0 = x from Int32.add_zero]
          exact hi
  exact hh (tK T) 0 F (by omega) (by omega)
theorem op_eye (hF : 60 < F) (hT : gT p T) (hR : gR p T R) (hQ : gQ T Q) (cc : cT M p T) (cr : cR M T R) (cq : cQ M T Q) (mc : mT N p T) (mr : mR N T R) (mq : mQ N T Q) : ∃ r, Xx_eye F a b M = some (r, M) ∧ Md_eye F a b N = some (r, tv_w N 249 0 0) := by
  have h8 := hT.1
  have mc' := mc.w0
  have mr' := mr.w0
  have mq' := mq.w0
  unfold Xx_eye Md_eye
  rw [tp_pf]
  generalize tv_w N 249 0 0 = N' at mc' mr' mq' ⊢
  rcases tp_ix a (n := tE T) (by omega) with h | ⟨e, he, rfl⟩
  · exact ⟨-1000001, by rw [tp_cb (to_eye_out cc h), tp_nln], by rw [tp_cb (md_eye_out hT mc' h), if_pos rfl]⟩
  obtain ⟨p1, p2, p3, p4⟩ := tp_eyP e (by omega)
  obtain ⟨c1, c2, c3⟩ := cc.2.2.2.2.2.2.2.1 e he
  obtain ⟨m1, m2, m3⟩ := mc'.2.2.2.2.2.1 e he
  obtain ⟨g1, g2, g3, g4, g5⟩ := hT.2.2.2.2.2.1 e he
  have gr := (hR.1 e he).1
  rw [tp_cb (to_eye hT cc he), tp_nls, tp_gl p3, tp_cb (md_eye hT mc' he), if_neg (show ¬ (1 : Int32) = 0 by decide)]
  rcases tp_ix b (n := 6) (by decide) with h | ⟨k, hk, rfl⟩
  · refine ⟨-1000001, ?_, by rw [tp_cb (md_in_out h (by decide) (by decide)), if_pos rfl]⟩
    have hne : ∀ k, k < 6 → ¬ b = nI k := fun k hk w => by
      subst w
      rcases h with h | h
      · exact nI_pos (by omega) h
      · exact nI_ge hk (by decide) h
    rw [if_neg (show ¬ b = 0 from hne 0 (by omega)), if_neg (show ¬ b = 1 from hne 1 (by omega)), if_neg (show ¬ b = 2 from hne 2 (by omega)), if_neg (show ¬ b = 3 from hne 3 (by omega)), if_neg (show ¬ b = 4 from hne 4 (by omega)), if_neg (show ¬ b = 5 from hne 5 (by omega))]
  · rw [tp_cb (md_in_in hk (by decide) (by decide)), if_neg (show ¬ (1 : Int32) = 0 by decide), tp_rd (by omega) (by decide), m1, tp_rd (by omega) (by decide), m2, tp_rd (by omega) (by decide), m3, tp_rd (by omega) (by decide), (mr' e he).1, tp_cb (md_ties hF hT mc' (by omega)), tp_cb (to_ties hF hT cc (by omega)), tp_cb (ey_choice hT cc he), tp_cb (ey_choice hT cc he), c1, c2, c3, (cr e he).1, tp_rd (by omega) (by decide), m1]
    have hk6 : k = 0 ∨ k = 1 ∨ k = 2 ∨ k = 3 ∨ k = 4 ∨ k = 5 := by omega
    rcases hk6 with rfl | rfl | rfl | rfl | rfl | rfl
    · exact ⟨_, rfl, rfl⟩
    · exact ⟨_, rfl, rfl⟩
    · by_cases q : tso T e = 3
      · rw [if_pos q, if_pos q]; exact ⟨_, rfl, rfl⟩
      · rw [if_neg q, if_neg q]; exact ⟨_, rfl, rfl⟩
    · have : R 0 e = 0 ∨ R 0 e = 1 := by omega
      rcases this with w | w
      · rw [w]; exact ⟨_, rfl, rfl⟩
      · rw [w]; exact ⟨_, rfl, rfl⟩
    · exact ⟨_, rfl, rfl⟩
    · by_cases q : tso T e = 3
      · rw [if_pos q, q, tp_rd (by omega) (by decide), mq' e he q, cq e he q]; exact ⟨_, rfl, rfl⟩
      · rw [if_neg q, if_neg (fun w => q ((nI_e3 (by omega)).mp w))]; exact ⟨_, rfl, rfl⟩
end ASK
