/-! NARROWED -/
def an (f : Nat → Bool) : Nat → Bool
  | 0 => true
  | n + 1 => an f n && f n
theorem an_iff (f : Nat → Bool) : ∀ n, an f n = true ↔ ∀ k, k < n → f k = true := by
  intro n
  induction n with
  | zero => exact ⟨fun _ k hk => absurd hk (Nat.not_lt_zero k), fun _ => rfl⟩
  | succ n ih =>
    rw [an, Bool.and_eq_true, ih]
    refine ⟨fun h k hk => ?_, fun h => ⟨fun k hk => h k (by omega), h n (by omega)⟩⟩
    by_cases e : k = n
    · rw [e]; exact h.2
    · exact h.1 k (by omega)
def on (f : Nat → Bool) : Nat → Nat → Bool
  | 0, _ => false
  | m + 1, y => f y || on f m (y + 1)
theorem bit_an : ∀ q, q < 16 → ∀ g, g < 16 → nI q &&& nI g = nI (q &&& g) := by decide +kernel
theorem bit_on : ∀ q, q < 16 → ∀ g, g < 16 → on (fun y => q.testBit y && g.testBit y) 4 0 = decide (q &&& g ≠ 0) := by decide +kernel
theorem bit_anl : ∀ q, q < 16 → ∀ g, g < 16 → q &&& g < 16 := by decide +kernel
theorem on_cg {f g : Nat → Bool} : ∀ m y, (∀ k, y ≤ k → k < y + m → f k = g k) → on f m y = on g m y := by
  intro m
  induction m with
  | zero => intro y _; rfl
  | succ m ih => intro y h; rw [on, on, h y (by omega) (by omega), ih (y + 1) (fun k h1 h2 => h k (by omega) (by omega))]
abbrev nS : Type := (Nat → Nat) × Nat
/-- does a value go with some value of an eye, with some of each -/
def hb (T : Nat → Nat → Nat) (Q : Nat → Nat) (a x b : Nat) : Bool := decide (b = a) || (decide (tso T b ≠ 3) || decide (Q b &&& gw T a x b ≠ 0))
def ha (T : Nat → Nat → Nat) (Q : Nat → Nat) (a x : Nat) : Bool := an (hb T Q a x) (tE T)
def nst (T : Nat → Nat → Nat) (a x : Nat) (s : nS) : nS := if tso T a = 3 ∧ (s.1 a).testBit x = true ∧ ha T s.1 a x = false then (fun b => if b = a then s.1 a - 2 ^ x else s.1 b, s.2 + 1) else s
def nrw (T : Nat → Nat → Nat) (a : Nat) : Nat → nS → nS
  | 0, s => s
  | x + 1, s => nst T a x (nrw T a x s)
def nrd (T : Nat → Nat → Nat) : Nat → nS → nS
  | 0, s => s
  | a + 1, s => nrw T a 4 (nrd T a s)
def nit (T : Nat → Nat → Nat) : Nat → nS → nS
  | 0, s => s
  | k + 1, s => if (nrd T (tE T) s).2 ≤ s.2 then nrd T (tE T) s else nit T k (nrd T (tE T) s)
def tbt (T : Nat → Nat → Nat) (Q : Nat → Nat) : Nat → Nat
  | 0 => 0
  | a + 1 => tbt T Q a + if tso T a = 3 then pc (Q a) else 0
theorem pc_cl : ∀ q, q < 16 → ∀ x, x < 8 → q.testBit x = true → pc (q - 2 ^ x) + 1 = pc q := by decide +kernel
theorem pc_4 : ∀ q, q < 16 → pc q ≤ 4 := by decide +kernel
section NARROW
variable {F p : Nat} {a b c : Int32} {M N : tv_M} {T R : Nat → Nat → Nat} {Q : Nat → Nat}
theorem gQ_st {s : nS} {a x : Nat} (h : gQ T s.1) : gQ T (nst T a x s).1 := by
  unfold nst
  by_cases q : tso T a = 3 ∧ (s.1 a).testBit x = true ∧ ha T s.1 a x = false
  · rw [if_pos q]
    intro e he hs
    show (if e = a then s.1 a - 2 ^ x else s.1 e) < _
    by_cases w : e = a
    · rw [if_pos w]; have := h e he hs; rw [w] at this ⊢; exact Nat.lt_of_le_of_lt (Nat.sub_le _ _) this
    · rw [if_neg w]; exact h e he hs
  · rw [if_neg q]; exact h
theorem gQ_rw {a : Nat} : ∀ x {s : nS}, gQ T s.1 → gQ T (nrw T a x s).1 := by
  intro x
  induction x with
  | zero => intro s h; exact h
  | succ x ih => intro s h; exact gQ_st (ih h)
theorem gQ_rd : ∀ a {s : nS}, gQ T s.1 → gQ T (nrd T a s).1 := by
  intro a
  induction a with
  | zero => intro s h; exact h
  | succ a ih => intro s h; exact gQ_rw 4 (ih h)
theorem gQ_it : ∀ k {s : nS}, gQ T s.1 → gQ T (nit T k s).1 := by
  intro k
  induction k with
  | zero => intro s h; exact h
  | succ k ih =>
    intro s h
    rw [nit]
    by_cases q : (nrd T (tE T) s).2 ≤ s.2
    · rw [if_pos q]; exact gQ_rd _ h
    · rw [if_neg q]; exact ih (gQ_rd _ h)
theorem tbt_le (hT : gT p T) (hQ : gQ T Q) : ∀ n, n ≤ tE T → tbt T Q n ≤ 4 * n := by
  intro n
  induction n with
  | zero => intro _; exact Nat.le_refl _
  | succ n ih =>
    intro hn
    have := ih (by omega)
    rw [tbt]
    by_cases q : tso T n = 3
    · rw [if_pos q]; have := pc_4 _ (hQ.lt hT (show n < tE T by omega) q); omega
    · rw [if_neg q]; omega
theorem tbt_up {Q Q' : Nat → Nat} {a : Nat} (h : ∀ b, b ≠ a → Q' b = Q b) (hs : tso T a = 3) (hp : pc (Q' a) + 1 = pc (Q a)) : ∀ n, tbt T Q' n + (if a < n then 1 else 0) = tbt T Q n := by
  intro n
  induction n with
  | zero => rfl
  | succ n ih =>
    rw [tbt, tbt]
    by_cases e : n = a
    · subst e
      rw [if_neg (by omega)] at ih
      rw [if_pos hs, if_pos hs, if_pos (by omega)]; omega
    · rw [h n e]
      by_cases q : a < n
      · rw [if_pos q] at ih; rw [if_pos (show a < n + 1 by omega)]; omega
      · rw [if_neg q] at ih; rw [if_neg (show ¬ a < n + 1 by omega)]; omega
theorem tbt_st (hT : gT p T) {s : nS} {a x : Nat} (hx : x < 4) (ha' : a < tE T) (h : gQ T s.1) : (nst T a x s).2 + tbt T (nst T a x s).1 (tE T) = s.2 + tbt T s.1 (tE T) := by
  unfold nst
  by_cases q : tso T a = 3 ∧ (s.1 a).testBit x = true ∧ ha T s.1 a x = false
  · rw [if_pos q]
    have := tbt_up (T := T) (Q := s.1) (Q' := fun b => if b = a then s.1 a - 2 ^ x else s.1 b) (a := a) (fun b hb => if_neg hb) q.1 (by show pc (if a = a then _ else _) + 1 = _; rw [if_pos rfl]; exact pc_cl _ (h.lt hT ha' q.1) x (by omega) q.2.1) (tE T)
    rw [if_pos ha'] at this
    show s.2 + 1 + tbt T (fun b => if b = a then s.1 a - 2 ^ x else s.1 b) (tE T) = _
    omega
  · rw [if_neg q]
theorem tbt_rw (hT : gT p T) {a : Nat} (ha' : a < tE T) : ∀ x {s : nS}, x ≤ 4 → gQ T s.1 → (nrw T a x s).2 + tbt T (nrw T a x s).1 (tE T) = s.2 + tbt T s.1 (tE T) := by
  intro x
  induction x with
  | zero => intro s _ h; rfl
  | succ x ih => intro s hx h; rw [nrw, tbt_st hT (by omega) ha' (gQ_rw x h), ih (by omega) h]
theorem tbt_rd (hT : gT p T) : ∀ a {s : nS}, a ≤ tE T → gQ T s.1 → (nrd T a s).2 + tbt T (nrd T a s).1 (tE T) = s.2 + tbt T s.1 (tE T) := by
  intro a
  induction a with
  | zero => intro s _ h; rfl
  | succ a ih => intro s ha' h; rw [nrd, tbt_rw hT (by omega) 4 (by omega) (gQ_rd a h), ih (by omega) h]
theorem nst_le {s : nS} {a x : Nat} : s.2 ≤ (nst T a x s).2 := by
  unfold nst
  by_cases q : tso T a = 3 ∧ (s.1 a).testBit x = true ∧ ha T s.1 a x = false
  · rw [if_pos q]; exact Nat.le_succ _
  · rw [if_neg q]; exact Nat.le_refl _
theorem nrw_le {a : Nat} : ∀ x {s : nS}, s.2 ≤ (nrw T a x s).2 := by
  intro x
  induction x with
  | zero => intro s; exact Nat.le_refl _
  | succ x ih => intro s; exact Nat.le_trans (ih (s := s)) nst_le
theorem nrd_le : ∀ a {s : nS}, s.2 ≤ (nrd T a s).2 := by
  intro a
  induction a with
  | zero => intro s; exact Nat.le_refl _
  | succ a ih => intro s; exact Nat.le_trans (ih (s := s)) (nrw_le 4)
theorem nrw_no {a : Nat} {s : nS} (h : ¬ tso T a = 3) : ∀ x, nrw T a x s = s := by
  intro x
  induction x with
  | zero => rfl
  | succ x ih => rw [nrw, ih]; exact if_neg (fun q => h q.1)
theorem nrw_top {a : Nat} {s : nS} (ha' : a < tE T) (hs : tso T a = 3) (hQ : gQ T s.1) : ∀ m, nrw T a (tsz T a + m) s = nrw T a (tsz T a) s := by
  intro m
  induction m with
  | zero => rfl
  | succ m ih =>
    rw [show tsz T a + (m + 1) = (tsz T a + m) + 1 from rfl, nrw, ih]
    have h1 := gQ_rw (a := a) (tsz T a) hQ a ha' hs
    refine if_neg (fun q => ?_)
    rw [Nat.testBit_lt_two_pow (Nat.lt_of_lt_of_le h1 (Nat.pow_le_pow_right (by omega) (by omega)))] at q
    exact Bool.noConfusion q.2.1
/-! the class -/
theorem ch_rowP : ∀ j, j < 32 → tv_P0 202 j = some (203 + j) ∧ tv_lay[203 + j]? = some (20, 8) := by decide +kernel
theorem ch_all {a x : Nat} (hF : 60 < F) (hT : gT p T) (hQ : gQ T Q) (cc : cT M p T) (cq : cQ M T Q) (cg : cG M T) (ha' : a < tE T) (hx : x < 4) : Ch_goesWithAll F (nI a) (nI x) M = some (if ha T Q a x then 1 else 0, M) := by
  have h8 := hT.1
  obtain ⟨r1, r2⟩ := ch_rowP (4 * a + x) (by omega)
  have hh : ∀ m j nn, j + m = tE T → m < nn → (∀ k, k < j → hb T Q a x k = true) → Ch_goesWithAll_L14 F nn (nI a) (203 + (4 * a + x)) (nI j) M = some (if ha T Q a x then 1 else 0, M) := by
    intro m
    induction m with
    | zero =>
      intro j nn e1 e2 hj
      obtain ⟨nn, rfl⟩ : ∃ n', nn = n' + 1 := ⟨nn - 1, by omega⟩
      rw [Ch_goesWithAll_L14, tp_gn r2, cc.2.1, if_pos (nI_le (by omega) (by omega)), show ha T Q a x = true from (an_iff _ _).mpr (fun k hk => hj k (by omega)), if_pos rfl]
    | succ m ih =>
      intro j nn e1 e2 hj
      obtain ⟨nn, rfl⟩ : ∃ n', nn = n' + 1 := ⟨nn - 1, by omega⟩
      obtain ⟨p1, p2, p3, p4⟩ := tp_eyP j (by omega)
      have hn : hb T Q a x j = true → Ch_goesWithAll_L14 F nn (nI a) (203 + (4 * a + x)) (nI (j + 1)) M = some (if ha T Q a x then 1 else 0, M) := fun w => ih (j + 1) nn (by omega) (by omega) (fun k hk => by
        by_cases e : k = j
        · rw [e]; exact w
        · exact hj k (by omega))
      rw [Ch_goesWithAll_L14, tp_gn r2, cc.2.1, if_neg (nI_ge (by omega) (by omega)), tp_ap (by omega) (by decide) p1, tp_gl p3, nI_1]
      by_cases e : j = a
      · rw [if_pos (by rw [e])]
        exact hn (by unfold hb; rw [decide_eq_true e, Bool.true_or])
      · rw [if_neg (fun w => e (nI_inj (by omega) (by omega) w)), tp_cb (ey_choice hT cc (by omega))]
        by_cases hs : tso T j = 3
        · rw [if_pos hs, if_neg (show ¬ (1 : Int32) = 0 by decide), tp_rd (by omega) (by decide), cg.1 a x j ha' hx (by omega), cq j (by omega) hs, bit_an _ (hQ.lt hT (by omega) hs) _ (gw_lt ..)]
          have hl := bit_anl _ (hQ.lt hT (show j < tE T by omega) hs) _ (gw_lt T a x j)
          by_cases q : Q j &&& gw T a x j = 0
          · rw [if_pos (by rw [q]; rfl)]
            have : ha T Q a x = false := by
              rw [Bool.eq_false_iff]
              intro w
              have w := (an_iff _ _).mp w j (by omega)
              unfold hb at w
              rw [decide_eq_false e, decide_eq_false (fun z => z hs), decide_eq_false (fun z => z q)] at w
              exact Bool.noConfusion w
            rw [this]; rfl
          · rw [if_neg (fun w => q ((nI_z (by omega)).mp w))]
            exact hn (by unfold hb; rw [decide_eq_true q, Bool.or_true, Bool.or_true])
        · rw [if_neg hs, if_pos rfl]
          exact hn (by unfold hb; rw [decide_eq_true hs, Bool.true_or, Bool.or_true])
  unfold Ch_goesWithAll
  rw [show nI a * 4 + nI x = nI (4 * a + x) from by rw [Nat.mul_comm, ← nI_add, ← nI_mul]; rfl, tp_ap (by omega) (by decide) r1, tp_gn r2]
  exact hh (tE T) 0 F (by omega) (by omega) (fun k hk => absurd hk (Nat.not_lt_zero k))
theorem ch_one {a : Nat} {s : nS} (hF : 60 < F) (hT : gT p T) (hQ : gQ T s.1) (cc : cT M p T) (cq : cQ M T s.1) (cg : cG M T) (ha' : a < tE T) : ∃ M', Ch_narrowOne F (nI a) M = some (nI ((nrw T a 4 s).2 - s.2), M') ∧ cQ M' T (nrw T a 4 s).1 ∧ fQ M M' := by
  have h8 := hT.1
  obtain ⟨p1, p2, p3, p4⟩ := tp_eyP a (by omega)
  obtain ⟨g1, g2, g3, g4, g5⟩ := hT.2.2.2.2.2.1 a ha'
  unfold Ch_narrowOne
  rw [tp_cb (to_cho hT cc ha')]
  by_cases hs : tso T a = 3
  · rw [if_pos hs, tp_nls, tp_gl p3]
    have hh : ∀ m x nn M', x + m = tsz T a → m < nn → cQ M' T (nrw T a x s).1 → fQ M M' → ∃ M'', Ch_narrowOne_L20 F nn (nI a) (22 + 2 * a) (nI ((nrw T a x s).2 - s.2)) (nI x) M' = some (nI ((nrw T a (tsz T a) s).2 - s.2), M'') ∧ cQ M'' T (nrw T a (tsz T a) s).1 ∧ fQ M M'' := by
      intro m
      induction m with
      | zero =>
        intro x nn M' e1 e2 c1 f1
        obtain ⟨nn, rfl⟩ : ∃ n', nn = n' + 1 := ⟨nn - 1, by omega⟩
        have e : x = tsz T a := by omega
        subst e
        rw [Ch_narrowOne_L20, tp_gl p3, ((cc.fQ hT f1).2.2.2.2.2.2.2.1 a ha').2.1, if_pos (nI_le (Nat.le_refl _) (by omega))]
        exact ⟨M', rfl, c1, f1⟩
      | succ m ih =>
        intro x nn M' e1 e2 c1 f1
        obtain ⟨nn, rfl⟩ : ∃ n', nn = n' + 1 := ⟨nn - 1, by omega⟩
        have q1 := gQ_rw (a := a) x hQ
        have hl := q1.lt hT ha' hs
        have hle := nrw_le (T := T) (a := a) x (s := s)
        have hi := ih (x + 1) nn
        rw [nrw] at hi
        rw [Ch_narrowOne_L20, tp_gl p3, ((cc.fQ hT f1).2.2.2.2.2.2.2.1 a ha').2.1, if_neg (nI_ge (by omega) (by omega)), c1 a ha' hs, nI_1, nI_1]
        generalize nrw T a x s = u at hl c1 hi q1 hle
        by_cases b1 : (u.1 a).testBit x = true
        · rw [if_pos ((bit_1 (by omega) (by omega)).mpr b1), tp_cb (ch_all hF hT q1 (cc.fQ hT f1) c1 (cg.fQ hT f1) ha' (by omega))]
          by_cases b2 : ha T u.1 a x = true
          · have e : nst T a x u = u := if_neg (fun w => by rw [b2] at w; exact Bool.noConfusion w.2.2)
            rw [e] at hi
            rw [b2, if_pos rfl, if_neg (show ¬ (1 : Int32) = 0 by decide)]
            exact hi M' (by omega) (by omega) c1 f1
          · have b2 : ha T u.1 a x = false := Bool.eq_false_iff.mpr b2
            have e : nst T a x u = (fun b => if b = a then u.1 a - 2 ^ x else u.1 b, u.2 + 1) := if_pos ⟨hs, b1, b2⟩
            rw [e] at hi
            have hi := hi (tv_w M' (22 + 2 * a) 4 (nI (u.1 a - 2 ^ x))) (by omega) (by omega) (fun y hy hys => by
              show _ = nI (if y = a then _ else _)
              rw [tp_w]
              by_cases w : y = a
              · rw [if_pos w, if_pos (by omega)]
              · rw [if_neg w, if_neg (by omega)]; exact c1 y hy hys) (fun y i z1 z2 z3 => by rw [tp_w, if_neg (by omega)]; exact f1 y i z1 z2 z3)
            rw [b2, if_neg Bool.false_ne_true, if_pos rfl, tp_pf, c1 a ha' hs, bit_cl _ (by omega) x (by omega), if_pos b1]
            have e2 : u.2 + 1 - s.2 = u.2 - s.2 + 1 := by omega
            rw [show ((fun b => if b = a then u.1 a - 2 ^ x else u.1 b, u.2 + 1) : nS).2 = u.2 + 1 from rfl, e2] at hi
            exact hi
        · have e : nst T a x u = u := if_neg (fun w => b1 w.2.1)
          rw [e] at hi
          rw [if_neg (fun w => b1 ((bit_1 (by omega) (by omega)).mp w))]
          exact hi M' (by omega) (by omega) c1 f1
    have e4 := nrw_top ha' hs hQ (4 - tsz T a)
    rw [show tsz T a + (4 - tsz T a) = 4 by omega] at e4
    rw [e4]
    have := hh (tsz T a) 0 F M (by omega) (by omega) cq fQ.rf
    rw [show (nrw T a 0 s).2 - s.2 = 0 from Nat.sub_self _] at this
    exact this
  · rw [if_neg hs, tp_nln, nrw_no hs, Nat.sub_self]
    exact ⟨M, rfl, cq, fQ.rf⟩
theorem ch_round {k6 : Int32 → Int32 → Int32 → tv_M → Option (Int32 × tv_M)} {s : nS} {r : Int32} (hF : 60 < F) (hT : gT p T) (hQ : gQ T s.1) (cc : cT M p T) (cq : cQ M T s.1) (cg : cG M T) (h32 : s.2 + tbt T s.1 (tE T) ≤ 32) : ∃ M', Ch_narrowSets_L22 F k6 F (nI s.2) r (nI s.2) 0 M = k6 (nI (nrd T (tE T) s).2) (if (nrd T (tE T) s).2 ≤ s.2 then 0 else 1) (r + 1) M' ∧ cQ M' T (nrd T (tE T) s).1 ∧ fQ M M' := by
  have h8 := hT.1
  have hh : ∀ m j nn M', j + m = tE T → m < nn → cQ M' T (nrd T j s).1 → fQ M M' → ∃ M'', Ch_narrowSets_L22 F k6 nn (nI (nrd T j s).2) r (nI s.2) (nI j) M' = k6 (nI (nrd T (tE T) s).2) (if (nrd T (tE T) s).2 ≤ s.2 then 0 else 1) (r + 1) M'' ∧ cQ M'' T (nrd T (tE T) s).1 ∧ fQ M M'' := by
    intro m
    induction m with
    | zero =>
      intro j nn M' e1 e2 c1 f1
      obtain ⟨nn, rfl⟩ : ∃ n', nn = n' + 1 := ⟨nn - 1, by omega⟩
      have e : j = tE T := by omega
      have := tbt_rd hT (tE T) (Nat.le_refl _) hQ
      rw [e] at c1 ⊢
      rw [Ch_narrowSets_L22, (cc.fQ hT f1).2.1, if_pos (nI_le (Nat.le_refl _) (by omega))]
      refine ⟨M', ?_, c1, f1⟩
      by_cases q : (nrd T (tE T) s).2 ≤ s.2
      · rw [if_pos (nI_le q (by omega)), if_pos q]
      · rw [if_neg (nI_ge (by omega) (by omega)), if_neg q]
    | succ m ih =>
      intro j nn M' e1 e2 c1 f1
      obtain ⟨nn, rfl⟩ : ∃ n', nn = n' + 1 := ⟨nn - 1, by omega⟩
      rw [Ch_narrowSets_L22, (cc.fQ hT f1).2.1, if_neg (nI_ge (by omega) (by omega))]
      obtain ⟨M2, x1, x2, x3⟩ := ch_one (F := F) (a := j) hF hT (gQ_rd j hQ) (cc.fQ hT f1) c1 (cg.fQ hT f1) (by omega)
      have hle := nrw_le (T := T) (a := j) 4 (s := nrd T j s)
      rw [tp_cb x1, nI_add, nI_1, Nat.add_sub_of_le hle]
      exact ih (j + 1) nn M2 (by omega) (by omega) x2 (f1.tr x3)
  exact hh (tE T) 0 F M (by omega) (by omega) cq fQ.rf
theorem ch_narrow (hF : 60 < F) (hT : gT p T) (hQ : gQ T Q) (cc : cT M p T) (cq : cQ M T Q) (cg : cG M T) : ∃ M', Ch_narrowSets F M = some (nI (nit T 33 (Q, 0)).2, M') ∧ cQ M' T (nit T 33 (Q, 0)).1 ∧ fQ M M' ∧ M'.1 201 6 = 0 := by
  have h8 := hT.1
  have hh : ∀ k r nn (s : nS) M', r + k = 33 → k < nn → r ≤ s.2 → s.2 + tbt T s.1 (tE T) ≤ 32 → gQ T s.1 → cQ M' T s.1 → fQ M M' → ∃ M'', Ch_narrowSets_L6 F nn (nI s.2) 1 (nI r) M' = some (nI (nit T k s).2, M'') ∧ cQ M'' T (nit T k s).1 ∧ fQ M M'' ∧ M''.1 201 6 = 0 := by
    intro k
    induction k with
    | zero => intro r nn s M' e1 e2 e3 e4 _ _ _; omega
    | succ k ih =>
      intro r nn s M' e1 e2 e3 e4 hq c1 f1
      obtain ⟨nn, rfl⟩ : ∃ n', nn = n' + 1 := ⟨nn - 1, by omega⟩
      rw [Ch_narrowSets_L6, if_neg (show ¬ (32 : Int32) < nI r from nI_nlt (a := 32) (by omega) (by omega)), if_neg (show ¬ (1 : Int32) = 0 by decide)]
      obtain ⟨M2, x1, x2, x3⟩ := ch_round (F := F) (k6 := Ch_narrowSets_L6 F nn) (r := nI r) hF hT hq (cc.fQ hT f1) c1 (cg.fQ hT f1) e4
      have hb := tbt_rd hT (tE T) (Nat.le_refl _) hq
      rw [x1, nit, nI_1]
      by_cases q : (nrd T (tE T) s).2 ≤ s.2
      · rw [if_pos q, if_pos q]
        obtain ⟨nn, rfl⟩ : ∃ n', nn = n' + 1 := ⟨nn - 1, by omega⟩
        have e : Ch_narrowSets_L6 F (nn + 1) (nI (nrd T (tE T) s).2) 0 (nI (r + 1)) M2 = some (nI (nrd T (tE T) s).2, tv_w M2 201 6 0) := by
          rw [Ch_narrowSets_L6, if_pos (show (0 : Int32) = 0 from rfl)]
          by_cases w : (32 : Int32) < nI (r + 1)
          · rw [if_pos w]; rfl
          · rw [if_neg w]; rfl
        refine ⟨_, e, fun y hy hys => ?_, fun y i z1 z2 z3 => ?_, tp_ws⟩
        · rw [tp_wk (by omega)]; exact x2 y hy hys
        · rw [tp_w, if_neg (by omega)]; exact (f1.tr x3) y i z1 z2 z3
      · rw [if_neg q, if_neg q]
        exact ih (r + 1) nn (nrd T (tE T) s) M2 (by omega) (by omega) (by omega) (by omega) (gQ_rd _ hq) x2 (f1.tr x3)
  have hb := tbt_le hT hQ (tE T) (Nat.le_refl _)
  exact hh 33 0 F (Q, 0) M (by omega) (by omega) (Nat.le_refl _) (by show 0 + tbt T Q (tE T) ≤ 32; omega) hQ cq fQ.rf
end NARROW
