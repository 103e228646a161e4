/-! CHOICES -/
/-- is a value barred with another -/
def brd (T : Nat → Nat → Nat) : Nat → Nat → Nat → Nat → Nat → Bool
  | 0, _, _, _, _ => false
  | k + 1, e, v, e', v' => brd T k e v e' v' || (decide (tbr T k 0 = e ∧ tbr T k 1 = v ∧ tbr T k 2 = e' ∧ tbr T k 3 = v') || decide (tbr T k 2 = e ∧ tbr T k 3 = v ∧ tbr T k 0 = e' ∧ tbr T k 1 = v'))
abbrev br (T : Nat → Nat → Nat) (e v e' v' : Nat) : Bool := brd T (tB T) e v e' v'
theorem brd_sy (T : Nat → Nat → Nat) (e v e' v' : Nat) : ∀ k, brd T k e v e' v' = brd T k e' v' e v := by
  intro k
  induction k with
  | zero => rfl
  | succ k ih =>
    rw [Bool.eq_iff_iff]
    simp only [brd, Bool.or_eq_true, decide_eq_true_eq, ih]
    constructor
    · rintro (h | h | h)
      · exact Or.inl h
      · exact Or.inr (Or.inr ⟨h.2.2.1, h.2.2.2, h.1, h.2.1⟩)
      · exact Or.inr (Or.inl ⟨h.2.2.1, h.2.2.2, h.1, h.2.1⟩)
    · rintro (h | h | h)
      · exact Or.inl h
      · exact Or.inr (Or.inr ⟨h.2.2.1, h.2.2.2, h.1, h.2.1⟩)
      · exact Or.inr (Or.inl ⟨h.2.2.1, h.2.2.2, h.1, h.2.1⟩)
/-- what goes with a value -/
def gw (T : Nat → Nat → Nat) (e v i : Nat) : Nat := rs (fun y => !br T e v i y) 4
def gn (T : Nat → Nat → Nat) (e v i : Nat) : Nat := rs (fun y => br T e v i y) 4
theorem gw_lt (T : Nat → Nat → Nat) (e v i : Nat) : gw T e v i < 16 := rs_lt _ 4
theorem gn_lt (T : Nat → Nat → Nat) (e v i : Nat) : gn T e v i < 16 := rs_lt _ 4
theorem gw_bit (T : Nat → Nat → Nat) (e v i : Nat) {y : Nat} (h : y < 4) : (gw T e v i).testBit y = !br T e v i y := by
  unfold gw; rw [rs_bit, decide_eq_true h, Bool.true_and]
theorem gn_bit (T : Nat → Nat → Nat) (e v i : Nat) {y : Nat} (h : y < 4) : (gn T e v i).testBit y = br T e v i y := by
  unfold gn; rw [rs_bit, decide_eq_true h, Bool.true_and]
/-- is an eye barred with a later one -/
def bld (T : Nat → Nat → Nat) : Nat → Nat → Bool
  | 0, _ => false
  | k + 1, e => bld T k e || decide ((if tbr T k 2 < tbr T k 0 then tbr T k 2 else tbr T k 0) = e)
abbrev bl (T : Nat → Nat → Nat) (e : Nat) : Bool := bld T (tB T) e
def cG (M : tv_M) (T : Nat → Nat → Nat) : Prop := (∀ e v i, e < tE T → v < 4 → i < 8 → M.1 (203 + (4 * e + v)) i = nI (gw T e v i)) ∧ ∀ e, e < tE T → M.1 235 e = if bl T e then 1 else 0
def mG (N : tv_M) (T : Nat → Nat → Nat) : Prop := ∀ e v i, e < 8 → v < 4 → i < 8 → N.1 264 (32 * e + 8 * v + i) = nI (gn T e v i)
theorem cG.cg {M M' : tv_M} {p : Nat} {T : Nat → Nat → Nat} (hT : gT p T) (h : cG M T) (hk : ∀ a i, 203 ≤ a → a < 236 → M'.1 a i = M.1 a i) : cG M' T := ⟨fun e v i h1 h2 h3 => by have := hT.1; rw [hk _ _ (by omega) (by omega)]; exact h.1 e v i h1 h2 h3, fun e he => by rw [hk _ _ (by omega) (by omega)]; exact h.2 e he⟩
theorem mG.cg {N N' : tv_M} {T : Nat → Nat → Nat} (h : mG N T) (hk : ∀ i, N'.1 264 i = N.1 264 i) : mG N' T := fun e v i h1 h2 h3 => by rw [hk]; exact h e v i h1 h2 h3
/-- in how many ways; the first of them: m eyes from e on, O what each may still take -/
def wo (T : Nat → Nat → Nat) : Nat → Nat → (Nat → Nat) → Nat
  | 0, _, _ => 1
  | m + 1, e, O => if tso T e = 3 then (if (O e).testBit 0 then wo T m (e + 1) (fun i => O i &&& gw T e 0 i) else 0) + (if (O e).testBit 1 then wo T m (e + 1) (fun i => O i &&& gw T e 1 i) else 0) + (if (O e).testBit 2 then wo T m (e + 1) (fun i => O i &&& gw T e 2 i) else 0) + (if (O e).testBit 3 then wo T m (e + 1) (fun i => O i &&& gw T e 3 i) else 0) else wo T m (e + 1) O
def wv (T : Nat → Nat → Nat) (m e : Nat) (O : Nat → Nat) (v : Nat) : Nat := if (O e).testBit v then wo T m (e + 1) (fun i => O i &&& gw T e v i) else 0
theorem wo_s {T : Nat → Nat → Nat} {m e : Nat} {O : Nat → Nat} (h : tso T e = 3) : wo T (m + 1) e O = wv T m e O 0 + wv T m e O 1 + wv T m e O 2 + wv T m e O 3 := by rw [wo, if_pos h]; rfl
theorem wo_n {T : Nat → Nat → Nat} {m e : Nat} {O : Nat → Nat} (h : ¬ tso T e = 3) : wo T (m + 1) e O = wo T m (e + 1) O := by rw [wo, if_neg h]
def fo1 (T : Nat → Nat → Nat) : Nat → Nat → (Nat → Nat) → Nat → Nat
  | 0, _, _, _ => 0
  | m + 1, e, O, i => if tso T e = 3 then (if wv T m e O 0 ≠ 0 then (if i = e then 0 else fo1 T m (e + 1) (fun i => O i &&& gw T e 0 i) i) else if wv T m e O 1 ≠ 0 then (if i = e then 1 else fo1 T m (e + 1) (fun i => O i &&& gw T e 1 i) i) else if wv T m e O 2 ≠ 0 then (if i = e then 2 else fo1 T m (e + 1) (fun i => O i &&& gw T e 2 i) i) else (if i = e then 3 else fo1 T m (e + 1) (fun i => O i &&& gw T e 3 i) i)) else fo1 T m (e + 1) O i
def cK (M : tv_M) (T : Nat → Nat → Nat) (Q : Nat → Nat) : Prop := M.1 201 6 = 0 ∨ (M.1 201 6 = 1 ∧ M.1 201 5 = nI (wo T (tE T) 0 Q) ∧ (wo T (tE T) 0 Q ≠ 0 → ∀ e, e < tE T → tso T e = 3 → M.1 246 e = nI (fo1 T (tE T) 0 Q e)))
/-- what a call on choices may change -/
def fQ (M M' : tv_M) : Prop := ∀ a i, ¬ (22 ≤ a ∧ a < 38 ∧ a % 2 = 0 ∧ i = 4) → ¬ (a = 201 ∧ (i = 5 ∨ i = 6)) → (a < 236 ∨ 247 ≤ a) → M'.1 a i = M.1 a i
theorem fQ.rf {M : tv_M} : fQ M M := fun _ _ _ _ _ => rfl
theorem fQ.tr {M M' M'' : tv_M} (h : fQ M M') (g : fQ M' M'') : fQ M M'' := fun a i q1 q2 q3 => (g a i q1 q2 q3).trans (h a i q1 q2 q3)
def fQm (N N' : tv_M) : Prop := ∀ a i, ¬ (a = 249 ∧ (i = 0 ∨ i = 49)) → a ≠ 265 → (a < 277 ∨ 280 ≤ a) → N'.1 a i = N.1 a i
theorem cT.fQ {M M' : tv_M} {p : Nat} {T : Nat → Nat → Nat} (hT : gT p T) (h : cT M p T) (hf : fQ M M') : cT M' p T := h.cg hT (fun a i q => hf a i (by have := q.2.2; omega) (by have := q.1; have := q.2.1; omega) (by have := q.1; have := q.2.1; omega))
theorem cG.fQ {M M' : tv_M} {p : Nat} {T : Nat → Nat → Nat} (hT : gT p T) (h : cG M T) (hf : fQ M M') : cG M' T := h.cg hT (fun a i q1 q2 => hf a i (by omega) (by omega) (by omega))
section CHO
variable {F p : Nat} {a b c : Int32} {M N : tv_M} {T R : Nat → Nat → Nat} {Q : Nat → Nat}
theorem gQ.lt (hT : gT p T) (hQ : gQ T Q) {e : Nat} (he : e < tE T) (hs : tso T e = 3) : Q e < 16 := Nat.lt_of_lt_of_le (hQ e he hs) (Nat.le_trans (Nat.pow_le_pow_right (n := 2) (by omega) (hT.2.2.2.2.2.1 e he).2.2.1) (by decide))
theorem op_choose (hF : 60 < F) (hT : gT p T) (hQ : gQ T Q) (cc : cT M p T) (cq : cQ M T Q) (ck : cK M T Q) (mc : mT N p T) (mq : mQ N T Q) : ∃ (r : Int32) (Q' : Nat → Nat), gQ T Q' ∧ tq (Xx_choose F a b M) (fun q M' => q = r ∧ cQ M' T Q' ∧ cK M' T Q' ∧ fQ M M') ∧ tq (Md_choose F a b N) (fun q N' => q = r ∧ mQ N' T Q' ∧ fQm N N') := by
  have h8 := hT.1
  have mc' := mc.w0
  have mq' := mq.w0
  have hsame : ∀ r : Int32, Xx_choose F a b M = some (r, M) → Md_choose F a b N = some (r, tv_w N 249 0 0) → ∃ (r : Int32) (Q' : Nat → Nat), gQ T Q' ∧ tq (Xx_choose F a b M) (fun q M' => q = r ∧ cQ M' T Q' ∧ cK M' T Q' ∧ fQ M M') ∧ tq (Md_choose F a b N) (fun q N' => q = r ∧ mQ N' T Q' ∧ fQm N N') := fun r h1 h2 => ⟨r, Q, hQ, tq_eq h1 ⟨rfl, cq, ck, fQ.rf⟩, tq_eq h2 ⟨rfl, mq', fun a i q1 _ _ => by rw [tp_w, if_neg (by omega)]⟩⟩
  rcases tp_ix a (n := tE T) (by omega) with h | ⟨e, he, rfl⟩
  · refine hsame (-1000001) ?_ ?_
    · unfold Xx_choose; rw [tp_cb (to_cho_out cc h), tp_nln]
    · unfold Md_choose; rw [tp_pf, tp_cb (md_cho_out hT mc' h), if_pos rfl]
  obtain ⟨p1, p2, p3, p4⟩ := tp_eyP e (by omega)
  obtain ⟨g1, g2, g3, g4, g5⟩ := hT.2.2.2.2.2.1 e he
  by_cases hs : tso T e = 3
  · have ex : Xx_choose F (nI e) b M = if b < 1 then some (-1000001, M) else if b ≤ nI (2 ^ tsz T e - 1) then some (nI (Q e), tv_w (tv_w M (22 + 2 * e) 4 b) 201 6 0) else some (-1000001, M) := by
      unfold Xx_choose
      rw [tp_cb (to_cho hT cc he), if_pos hs, tp_nls, tp_gl p3]
      have ef : Ey_fullSet F (22 + 2 * e) M = some (nI (2 ^ tsz T e - 1), M) := by
        unfold Ey_fullSet
        rw [tp_gl p3, (cc.2.2.2.2.2.2.2.1 e he).2.1, bit_ful _ (by omega)]
      rw [tp_cb ef, cq e he hs]
      rfl
    have ey : Md_choose F (nI e) b N = if 1 ≤ b ∧ b ≤ nI (2 ^ tsz T e - 1) then some (nI (Q e), tv_w (tv_w N 249 0 0) 265 e b) else some (-1000001, tv_w N 249 0 0) := by
      unfold Md_choose
      rw [tp_pf, tp_cb (md_cho hT mc' he), if_pos hs, if_neg (show ¬ (1 : Int32) = 0 by decide), tp_rd (by omega) (by decide), (mc'.2.2.2.2.2.1 e he).2.1, bit_ful _ (by omega), tp_cb (tp_in (lo := 1) (b := 1) (c := nI (2 ^ tsz T e - 1)) (by decide) rfl)]
      by_cases q : 1 ≤ b ∧ b ≤ nI (2 ^ tsz T e - 1)
      · rw [if_pos q, if_pos q, if_neg (show ¬ (1 : Int32) = 0 by decide), tp_rd (by omega) (by decide), mq' e he hs, tp_wr (by omega) (by decide)]
      · rw [if_neg q, if_neg q, if_pos rfl]
    by_cases q : 1 ≤ b ∧ b ≤ nI (2 ^ tsz T e - 1)
    · rw [if_neg (Int32.not_lt.mpr q.1), if_pos q.2] at ex
      rw [if_pos q] at ey
      have hb1 : (1 : Int) ≤ b.toInt := (tp_le _ _).mp q.1
      have h16 : 2 ^ tsz T e ≤ 16 := Nat.le_trans (Nat.pow_le_pow_right (n := 2) (by omega) g3) (by decide)
      have hb2 : b.toInt ≤ (2 ^ tsz T e - 1 : Nat) := by
        have := (tp_le _ _).mp q.2
        rwa [nI_toInt (by omega)] at this
      have hb3 : b = nI b.toInt.toNat := tp_of b (by omega)
      have hbv : b.toInt.toNat < 2 ^ tsz T e := by
        have : 0 < 2 ^ tsz T e := Nat.pow_pos (by omega)
        omega
      generalize b.toInt.toNat = v at hb3 hbv
      subst hb3
      refine ⟨_, fun x => if x = e then v else Q x, fun x hx hxs => ?_, tq_eq ex ⟨rfl, fun x hx hxs => ?_, Or.inl tp_ws, fun a i q1 q2 q3 => ?_⟩, tq_eq ey ⟨rfl, fun x hx hxs => ?_, fun a i q1 q2 q3 => ?_⟩⟩
      · dsimp only
        by_cases w : x = e
        · rw [if_pos w, w]; exact hbv
        · rw [if_neg w]; exact hQ x hx hxs
      · dsimp only
        rw [tp_wk (by omega), tp_w]
        by_cases w : x = e
        · rw [if_pos w, if_pos (by omega)]
        · rw [if_neg w, if_neg (by omega)]; exact cq x hx hxs
      · rw [tp_w, if_neg (by omega), tp_w, if_neg (by omega)]
      · dsimp only
        rw [tp_w]
        by_cases w : x = e
        · rw [if_pos w, if_pos ⟨rfl, w⟩]
        · rw [if_neg w, if_neg (fun z => w z.2)]; exact mq' x hx hxs
      · rw [tp_wk q2, tp_w, if_neg (by omega)]
    · rw [if_neg q] at ey
      refine hsame _ ?_ ey
      rw [ex]
      by_cases w : b < 1
      · rw [if_pos w]
      · rw [if_neg w, if_neg (fun z => q ⟨Int32.not_lt.mp w, z⟩)]
  · refine hsame (-1000001) ?_ ?_
    · unfold Xx_choose; rw [tp_cb (to_cho hT cc he), if_neg hs, tp_nln]
    · unfold Md_choose; rw [tp_pf, tp_cb (md_cho hT mc' he), if_neg hs, if_pos rfl]
end CHO
