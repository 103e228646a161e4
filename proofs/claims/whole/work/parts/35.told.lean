/-! WHAT IS TOLD -/
theorem nI_e0 {n : Nat} (h : n < 2 ^ 31) : nI n = (0 : Int32) ↔ n = 0 := nI_eq (b := 0) h (by decide)
theorem nI_e1 {n : Nat} (h : n < 2 ^ 31) : nI n = (1 : Int32) ↔ n = 1 := nI_eq (b := 1) h (by decide)
theorem nI_e2 {n : Nat} (h : n < 2 ^ 31) : nI n = (2 : Int32) ↔ n = 2 := nI_eq (b := 2) h (by decide)
theorem nI_e3 {n : Nat} (h : n < 2 ^ 31) : nI n = (3 : Int32) ↔ n = 3 := nI_eq (b := 3) h (by decide)
theorem nI_e4 {n : Nat} (h : n < 2 ^ 31) : nI n = (4 : Int32) ↔ n = 4 := nI_eq (b := 4) h (by decide)
theorem nI_e5 {n : Nat} (h : n < 2 ^ 31) : nI n = (5 : Int32) ↔ n = 5 := nI_eq (b := 5) h (by decide)
theorem nI_e8 {n : Nat} (h : n < 2 ^ 31) : nI n = (8 : Int32) ↔ n = 8 := nI_eq (b := 8) h (by decide)
theorem nI_e10 {n : Nat} (h : n < 2 ^ 31) : nI n = (10 : Int32) ↔ n = 10 := nI_eq (b := 10) h (by decide)
theorem nI_e16 {n : Nat} (h : n < 2 ^ 31) : nI n = (16 : Int32) ↔ n = 16 := nI_eq (b := 16) h (by decide)
theorem nI_e30 {n : Nat} (h : n < 2 ^ 31) : nI n = (30 : Int32) ↔ n = 30 := nI_eq (b := 30) h (by decide)
abbrev tE (T : Nat → Nat → Nat) : Nat := T 0 0
abbrev tK (T : Nat → Nat → Nat) : Nat := T 0 1
abbrev tB (T : Nat → Nat → Nat) : Nat := T 0 2
abbrev tC (T : Nat → Nat → Nat) : Nat := T 0 3
abbrev tL (T : Nat → Nat → Nat) : Nat := T 0 4
abbrev tso (T : Nat → Nat → Nat) (e : Nat) : Nat := T 1 e
abbrev tsz (T : Nat → Nat → Nat) (e : Nat) : Nat := T 2 e
abbrev tco (T : Nat → Nat → Nat) (e : Nat) : Nat := T 3 e
abbrev to1 (T : Nat → Nat → Nat) (t : Nat) : Nat := T 4 t
abbrev to2 (T : Nat → Nat → Nat) (t : Nat) : Nat := T 5 t
abbrev trw (T : Nat → Nat → Nat) (t : Nat) : Nat := T 6 t
abbrev tta (T : Nat → Nat → Nat) (t i : Nat) : Nat := T 7 (9 * t + i)
abbrev ttb (T : Nat → Nat → Nat) (t i : Nat) : Nat := T 8 (9 * t + i)
abbrev tbr (T : Nat → Nat → Nat) (k i : Nat) : Nat := T 9 (4 * k + i)
/-- the width of the eyes below e, the lines of the ties below t -/
def tcs (T : Nat → Nat → Nat) : Nat → Nat
  | 0 => 0
  | e + 1 => tcs T e + if tso T e = 3 then 0 else tsz T e
def tls (T : Nat → Nat → Nat) : Nat → Nat
  | 0 => 0
  | t + 1 => tls T t + trw T t
def gTe (T : Nat → Nat → Nat) (e : Nat) : Prop := tso T e ≤ 3 ∧ 1 ≤ tsz T e ∧ tsz T e ≤ 4 ∧ (tso T e ≠ 3 → tsz T e ≤ 3) ∧ tco T e = tcs T e
def gTt (p : Nat) (T : Nat → Nat → Nat) (t : Nat) : Prop := to1 T t < tE T ∧ to2 T t < tE T ∧ tso T (to1 T t) ≠ 3 ∧ tso T (to2 T t) ≠ 3 ∧ to1 T t ≠ to2 T t ∧ 1 ≤ trw T t ∧ trw T t ≤ 3 ∧ (∀ r k, r < trw T t → k < tsz T (to1 T t) → tta T t (3 * r + k) < p) ∧ ∀ r k, r < trw T t → k < tsz T (to2 T t) → ttb T t (3 * r + k) < p
def gTb (T : Nat → Nat → Nat) (k : Nat) : Prop := tbr T k 0 < tE T ∧ tso T (tbr T k 0) = 3 ∧ tbr T k 1 < tsz T (tbr T k 0) ∧ tbr T k 2 < tE T ∧ tso T (tbr T k 2) = 3 ∧ tbr T k 3 < tsz T (tbr T k 2) ∧ tbr T k 0 ≠ tbr T k 2
def gT (p : Nat) (T : Nat → Nat → Nat) : Prop := tE T ≤ 8 ∧ tK T ≤ 10 ∧ tB T ≤ 30 ∧ tC T = tcs T (tE T) ∧ tL T = tls T (tK T) ∧ (∀ e, e < tE T → gTe T e) ∧ (∀ t, t < tK T → gTt p T t) ∧ ∀ k, k < tB T → gTb T k
theorem tcs_mono (T : Nat → Nat → Nat) {a : Nat} : ∀ b, a ≤ b → tcs T a ≤ tcs T b := by
  intro b
  induction b with
  | zero => intro h; have : a = 0 := by omega
            subst this; exact Nat.le_refl _
  | succ b ih =>
    intro h
    by_cases e : a = b + 1
    · subst e; exact Nat.le_refl _
    · have := ih (by omega)
      rw [tcs]; omega
theorem tcs_le {p : Nat} {T : Nat → Nat → Nat} (h : gT p T) : ∀ e, e ≤ tE T → tcs T e ≤ 3 * e := by
  intro e
  induction e with
  | zero => intro _; exact Nat.le_refl _
  | succ e ih =>
    intro he
    have h1 := ih (by omega)
    obtain ⟨g1, g2, g3, g4, g5⟩ := h.2.2.2.2.2.1 e (by omega)
    rw [tcs]
    by_cases q : tso T e = 3
    · rw [if_pos q]; omega
    · rw [if_neg q]; have := g4 q; omega
theorem tls_mono (T : Nat → Nat → Nat) {a : Nat} : ∀ b, a ≤ b → tls T a ≤ tls T b := by
  intro b
  induction b with
  | zero => intro h; have : a = 0 := by omega
            subst this; exact Nat.le_refl _
  | succ b ih =>
    intro h
    by_cases e : a = b + 1
    · subst e; exact Nat.le_refl _
    · have := ih (by omega)
      rw [tls]; omega
theorem tls_le {p : Nat} {T : Nat → Nat → Nat} (h : gT p T) : ∀ t, t ≤ tK T → tls T t ≤ 3 * t := by
  intro t
  induction t with
  | zero => intro _; exact Nat.le_refl _
  | succ t ih =>
    intro ht
    have h1 := ih (by omega)
    have := (h.2.2.2.2.2.2.1 t (by omega)).2.2.2.2.2.2.1
    rw [tls]; omega
theorem gT.C {p : Nat} {T : Nat → Nat → Nat} (h : gT p T) : tC T ≤ 24 := by
  have := tcs_le h (tE T) (Nat.le_refl _)
  have h1 := h.1
  have h2 := h.2.2.2.1
  omega
theorem gT.L {p : Nat} {T : Nat → Nat → Nat} (h : gT p T) : tL T ≤ 30 := by
  have := tls_le h (tK T) (Nat.le_refl _)
  have h1 := h.2.1
  have h2 := h.2.2.2.2.1
  omega
/-- the columns of a linear eye -/
theorem gT.col {p e : Nat} {T : Nat → Nat → Nat} (h : gT p T) (he : e < tE T) (hs : tso T e ≠ 3) : tco T e + tsz T e ≤ tC T ∧ tsz T e ≤ 3 ∧ 1 ≤ tsz T e := by
  obtain ⟨g1, g2, g3, g4, g5⟩ := h.2.2.2.2.2.1 e he
  have h1 := tcs_mono T (a := e + 1) (tE T) (by omega)
  have h2 := h.2.2.2.1
  rw [tcs, if_neg hs] at h1
  exact ⟨by omega, g4 hs, g2⟩
/-! the class's cells -/
def cTe (M : tv_M) (T : Nat → Nat → Nat) (e : Nat) : Prop := M.1 (22 + 2 * e) 1 = nI (tso T e) ∧ M.1 (22 + 2 * e) 2 = nI (tsz T e) ∧ M.1 (22 + 2 * e) 3 = nI (tco T e)
def cTt (M : tv_M) (T : Nat → Nat → Nat) (t : Nat) : Prop := M.1 (38 + 3 * t) 0 = nI (to1 T t) ∧ M.1 (38 + 3 * t) 1 = nI (to2 T t) ∧ M.1 (38 + 3 * t) 2 = nI (trw T t) ∧ (∀ r k, r < trw T t → k < tsz T (to1 T t) → M.1 (39 + 3 * t) (3 * r + k) = nI (tta T t (3 * r + k))) ∧ ∀ r k, r < trw T t → k < tsz T (to2 T t) → M.1 (40 + 3 * t) (3 * r + k) = nI (ttb T t (3 * r + k))
def cT (M : tv_M) (p : Nat) (T : Nat → Nat → Nat) : Prop := M.1 18 0 = nI p ∧ M.1 18 4 = nI (tE T) ∧ M.1 18 5 = nI (tK T) ∧ M.1 18 6 = nI (tB T) ∧ M.1 18 7 = nI (tC T) ∧ M.1 18 8 = nI (tL T) ∧ (∀ e, e < 8 → M.1 (22 + 2 * e) 0 = nI e) ∧ (∀ e, e < tE T → cTe M T e) ∧ (∀ t, t < tK T → cTt M T t) ∧ ∀ k i, k < tB T → i < 4 → M.1 21 (4 * k + i) = nI (tbr T k i)
/-- the places of which cT speaks -/
def kT (a i : Nat) : Prop := 18 ≤ a ∧ a < 68 ∧ ¬ (a < 38 ∧ 22 ≤ a ∧ (a % 2 = 1 ∨ i = 4 ∨ i = 5))
theorem cT.cg {M M' : tv_M} {p : Nat} {T : Nat → Nat → Nat} (hT : gT p T) (h : cT M p T) (hk : ∀ a i, kT a i → M'.1 a i = M.1 a i) : cT M' p T := by
  obtain ⟨h0, h4, h5, h6, h7, h8, hn, he, ht, hb⟩ := h
  obtain ⟨g1, g2, g3, -⟩ := hT
  refine ⟨?_, ?_, ?_, ?_, ?_, ?_, fun e q => ?_, fun e q => ?_, fun t q => ?_, fun k i q1 q2 => ?_⟩
  · rw [hk _ _ ⟨by omega, by omega, by omega⟩]; exact h0
  · rw [hk _ _ ⟨by omega, by omega, by omega⟩]; exact h4
  · rw [hk _ _ ⟨by omega, by omega, by omega⟩]; exact h5
  · rw [hk _ _ ⟨by omega, by omega, by omega⟩]; exact h6
  · rw [hk _ _ ⟨by omega, by omega, by omega⟩]; exact h7
  · rw [hk _ _ ⟨by omega, by omega, by omega⟩]; exact h8
  · rw [hk _ _ ⟨by omega, by omega, by omega⟩]; exact hn e q
  · obtain ⟨e1, e2, e3⟩ := he e q
    refine ⟨?_, ?_, ?_⟩
    · rw [hk _ _ ⟨by omega, by omega, by omega⟩]; exact e1
    · rw [hk _ _ ⟨by omega, by omega, by omega⟩]; exact e2
    · rw [hk _ _ ⟨by omega, by omega, by omega⟩]; exact e3
  · obtain ⟨e1, e2, e3, e4, e5⟩ := ht t q
    refine ⟨?_, ?_, ?_, fun r k f1 f2 => ?_, fun r k f1 f2 => ?_⟩
    · rw [hk _ _ ⟨by omega, by omega, by omega⟩]; exact e1
    · rw [hk _ _ ⟨by omega, by omega, by omega⟩]; exact e2
    · rw [hk _ _ ⟨by omega, by omega, by omega⟩]; exact e3
    · rw [hk _ _ ⟨by omega, by omega, by omega⟩]; exact e4 r k f1 f2
    · rw [hk _ _ ⟨by omega, by omega, by omega⟩]; exact e5 r k f1 f2
  · rw [hk _ _ ⟨by omega, by omega, by omega⟩]; exact hb k i q1 q2
theorem cT.fo {M M' : tv_M} {p lo hi : Nat} {T : Nat → Nat → Nat} (hT : gT p T) (h : cT M p T) (hf : fo lo hi M M') (hd : hi ≤ 18 ∨ 68 ≤ lo) : cT M' p T := h.cg hT (fun a i q => hf a i (by have := q.1; have := q.2.1; omega))
section TOLD
variable {M : tv_M} {p F : Nat} {T : Nat → Nat → Nat}
theorem to_eye_out {a : Int32} (h : cT M p T) (ha : tp_out a (tE T)) : To_eyeAt F a M = some (none, M) := by
  unfold To_eyeAt
  by_cases h1 : a < 0
  · rw [if_pos h1]
  · rw [if_neg h1, h.2.1, if_neg (Int32.not_lt.mpr (ha.resolve_left h1))]
theorem to_eye {e : Nat} (hT : gT p T) (h : cT M p T) (he : e < tE T) : To_eyeAt F (nI e) M = some (some (22 + 2 * e), M) := by
  have h8 := hT.1
  obtain ⟨p1, p2, p3, p4⟩ := tp_eyP e (by omega)
  unfold To_eyeAt
  rw [if_neg (nI_pos (by omega)), h.2.1, if_pos (nI_lt he (by omega)), tp_ap (by omega) (by omega) p1, tp_gl p3]
theorem ey_choice {e : Nat} (hT : gT p T) (h : cT M p T) (he : e < tE T) : Ey_isChoice F (22 + 2 * e) M = some (if tso T e = 3 then 1 else 0, M) := by
  have h8 := hT.1
  obtain ⟨p1, p2, p3, p4⟩ := tp_eyP e (by omega)
  have := (hT.2.2.2.2.2.1 e he).1
  unfold Ey_isChoice
  rw [tp_gl p3, (h.2.2.2.2.2.2.2.1 e he).1]
  by_cases q : tso T e = 3
  · rw [if_pos ((nI_e3 (by omega)).mpr q), if_pos q]
  · rw [if_neg (fun w => q ((nI_e3 (by omega)).mp w)), if_neg q]
theorem to_lin_out {a : Int32} (h : cT M p T) (ha : tp_out a (tE T)) : To_linearAt F a M = some (none, M) := by
  unfold To_linearAt
  rw [tp_cb (to_eye_out h ha)]; rfl
theorem to_lin {e : Nat} (hT : gT p T) (h : cT M p T) (he : e < tE T) : To_linearAt F (nI e) M = some (if tso T e = 3 then none else some (22 + 2 * e), M) := by
  have h8 := hT.1
  obtain ⟨p1, p2, p3, p4⟩ := tp_eyP e (by omega)
  unfold To_linearAt
  rw [tp_cb (to_eye hT h he)]
  show tv_gl (22 + 2 * e) 3 _ = _
  rw [tp_gl p3, tp_cb (ey_choice hT h he)]
  by_cases q : tso T e = 3
  · rw [if_pos q, if_pos q]; rfl
  · rw [if_neg q, if_neg q]; rfl
theorem to_cho_out {a : Int32} (h : cT M p T) (ha : tp_out a (tE T)) : To_choiceAt F a M = some (none, M) := by
  unfold To_choiceAt
  rw [tp_cb (to_eye_out h ha)]; rfl
theorem to_cho {e : Nat} (hT : gT p T) (h : cT M p T) (he : e < tE T) : To_choiceAt F (nI e) M = some (if tso T e = 3 then some (22 + 2 * e) else none, M) := by
  have h8 := hT.1
  obtain ⟨p1, p2, p3, p4⟩ := tp_eyP e (by omega)
  unfold To_choiceAt
  rw [tp_cb (to_eye hT h he)]
  show tv_gl (22 + 2 * e) 3 _ = _
  rw [tp_gl p3, tp_cb (ey_choice hT h he)]
  by_cases q : tso T e = 3
  · rw [if_pos q, if_pos q]; rfl
  · rw [if_neg q, if_neg q]; rfl
theorem to_tie_out {a : Int32} (h : cT M p T) (ha : tp_out a (tK T)) : To_tieAt F a M = some (none, M) := by
  unfold To_tieAt
  by_cases h1 : a < 0
  · rw [if_pos h1]
  · rw [if_neg h1, h.2.2.1, if_neg (Int32.not_lt.mpr (ha.resolve_left h1))]
theorem to_tie {t : Nat} (hT : gT p T) (h : cT M p T) (ht : t < tK T) : To_tieAt F (nI t) M = some (some (38 + 3 * t), M) := by
  have h8 := hT.2.1
  obtain ⟨p1, p2, p3, p4, p5, p6⟩ := tp_tiP t (by omega)
  unfold To_tieAt
  rw [if_neg (nI_pos (by omega)), h.2.2.1, if_pos (nI_lt ht (by omega)), tp_ap (by omega) (by omega) p1, tp_gl p4]
theorem to_col_out {a : Int32} (h : cT M p T) (ha : tp_out a (tC T)) : To_isColumn F a M = some (0, M) := by
  unfold To_isColumn
  by_cases h1 : a < 0
  · rw [if_pos h1]
  · rw [if_neg h1, h.2.2.2.2.1, if_pos (ha.resolve_left h1)]
theorem to_col {c : Nat} (hT : gT p T) (h : cT M p T) (hc : c < tC T) : To_isColumn F (nI c) M = some (1, M) := by
  have := hT.C
  unfold To_isColumn
  rw [if_neg (nI_pos (by omega)), h.2.2.2.2.1, if_neg (nI_ge hc (by omega))]
end TOLD
/-! counting -/
def cn (f : Nat → Bool) : Nat → Nat
  | 0 => 0
  | n + 1 => cn f n + if f n then 1 else 0
theorem cn_le (f : Nat → Bool) : ∀ n, cn f n ≤ n := by
  intro n
  induction n with
  | zero => exact Nat.le_refl _
  | succ n ih =>
    rw [cn]
    by_cases h : f n = true
    · rw [if_pos h]; omega
    · rw [if_neg h]; omega
theorem cn_cg {f g : Nat → Bool} : ∀ n, (∀ k, k < n → f k = g k) → cn f n = cn g n := by
  intro n
  induction n with
  | zero => intro _; rfl
  | succ n ih =>
    intro h
    rw [cn, cn, ih (fun k hk => h k (by omega)), h n (by omega)]
