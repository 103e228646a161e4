/-! HEARSAY -/
/-- a number of a tie's table for an eye -/
def hr_t (T : Nat → Nat → Nat) (t f i : Nat) : Nat := if to1 T t = f then tta T t i else ttb T t i
def hr_s (T : Nat → Nat → Nat) (t f r : Nat) (row : Nat → Nat) : Nat → Nat
  | 0 => 0
  | n + 1 => hr_s T t f r row n + hr_t T t f (3 * r + n) * row (tco T f + n)
/-- one tick: the eyes below e have heard -/
def tke (p : Nat) (T H : Nat → Nat → Nat) (row : Nat → Nat) : Nat → Nat → Nat
  | 0, c => row c
  | e + 1, c => if H 0 e ≠ 0 ∧ tso T e ≠ 2 ∧ tco T e ≤ c ∧ c < tco T e + tsz T e then hr_s T (H 0 e - 1) (H 1 e) (c - tco T e) row (tsz T (H 1 e)) % p else tke p T H row e c
def tk (p : Nat) (T H : Nat → Nat → Nat) (row : Nat → Nat) : Nat → Nat := tke p T H row (tE T)
def tkn (p : Nat) (T H : Nat → Nat → Nat) (row : Nat → Nat) : Nat → Nat → Nat
  | 0 => row
  | n + 1 => tk p T H (tkn p T H row n)
def hu (H : Nat → Nat → Nat) (row : Nat → Nat) : Nat → Nat → Nat := fun t i => if t = 2 then row i else H t i
/-- does the row come again -/
def rq (p : Nat) (T H : Nat → Nat → Nat) (row : Nat → Nat) (t k : Nat) : Bool := an (fun c => decide (tkn p T H row k c = tkn p T H row t c)) 24
def sk (p : Nat) (T H : Nat → Nat → Nat) (row : Nat → Nat) (t : Nat) : Nat := el_find t (rq p T H row t)
def st1 (p : Nat) (T H : Nat → Nat → Nat) (row : Nat → Nat) : Nat := el_find 301 (fun t => decide (sk p T H row t < t))
def cHk (M : tv_M) (p : Nat) (T H : Nat → Nat → Nat) : Prop := M.1 193 12 = 0 ∨ (M.1 193 12 = 1 ∧ ((st1 p T H (H 2) < 301 ∧ M.1 193 11 = 0 ∧ M.1 193 9 = nI (sk p T H (H 2) (st1 p T H (H 2))) ∧ M.1 193 10 = nI (st1 p T H (H 2) - sk p T H (H 2) (st1 p T H (H 2)))) ∨ (st1 p T H (H 2) = 301 ∧ M.1 193 11 = 1)))
/-- what a call of hearsay may change -/
def fH (M M' : tv_M) : Prop := ∀ a i, (a < 193 ∨ 201 ≤ a) → M'.1 a i = M.1 a i
def fHm (N N' : tv_M) : Prop := ∀ a i, ¬ (a = 249 ∧ (i = 0 ∨ i = 43)) → (a < 272 ∨ 277 ≤ a) → N'.1 a i = N.1 a i
theorem fH.rf {M : tv_M} : fH M M := fun _ _ _ => rfl
theorem cT.fH {M M' : tv_M} {p : Nat} {T : Nat → Nat → Nat} (hT : gT p T) (h : cT M p T) (hf : fH M M') : cT M' p T := h.cg hT (fun a i q => hf a i (by have := q.2.1; omega))
theorem mT.fHm {N N' : tv_M} {p : Nat} {T : Nat → Nat → Nat} (h : mT N p T) (hf : fHm N N') : mT N' p T := h.cg (fun a i q => hf a i (by rcases q with q | q <;> omega) (by rcases q with q | q <;> omega))
theorem mH.w0 {N : tv_M} {T H : Nat → Nat → Nat} (h : mH N T H) : mH (tv_w N 249 0 0) T H := h.cg (fun a i q => by rw [tp_w, if_neg (by omega)])
section HEAR
variable {F p : Nat} {a b c : Int32} {M N : tv_M} {T R H : Nat → Nat → Nat} {Q : Nat → Nat} {Z : Nat → Nat}
theorem op_hear (hF : 60 < F) (hp : tp_pr p) (hT : gT p T) (hH : gH p T H) (cc : cT M p T) (ch : cH M H) (ck : cHk M p T H) (mc : mT N p T) (mh : mH N T H) : ∃ (r : Int32) (H' : Nat → Nat → Nat), gH p T H' ∧ tq (Xx_hear F a b c M) (fun q M' => q = r ∧ cH M' H' ∧ cHk M' p T H' ∧ fH M M') ∧ tq (Md_hear F a b c N) (fun q N' => q = r ∧ mH N' T H' ∧ fHm N N') := by
  have h8 := hT.1
  have h10 := hT.2.1
  have mc' := mc.w0
  have mh' := mh.w0
  have fm0 : fHm N (tv_w N 249 0 0) := fun a i q1 _ => by rw [tp_w, if_neg (by omega)]
  have hsame : ∀ r : Int32, Xx_hear F a b c M = some (r, M) → Md_hear F a b c N = some (r, tv_w N 249 0 0) → ∃ (r : Int32) (H' : Nat → Nat → Nat), gH p T H' ∧ tq (Xx_hear F a b c M) (fun q M' => q = r ∧ cH M' H' ∧ cHk M' p T H' ∧ fH M M') ∧ tq (Md_hear F a b c N) (fun q N' => q = r ∧ mH N' T H' ∧ fHm N N') := fun r h1 h2 => ⟨r, H, hH, tq_eq h1 ⟨rfl, ch, ck, fH.rf⟩, tq_eq h2 ⟨rfl, mh', fm0⟩⟩
  have hla : ∃ o : Option Nat, To_linearAt F a M = some (o, M) ∧ ((o = none ∧ Md_isLinear F a (tv_w N 249 0 0) = some (0, tv_w N 249 0 0)) ∨ ∃ e, e < tE T ∧ a = nI e ∧ tso T e ≠ 3 ∧ o = some (22 + 2 * e) ∧ Md_isLinear F a (tv_w N 249 0 0) = some (1, tv_w N 249 0 0)) := by
    rcases tp_ix a (n := tE T) (by omega) with h | ⟨e, he, rfl⟩
    · exact ⟨none, to_lin_out cc h, Or.inl ⟨rfl, md_lin_out hT mc' h⟩⟩
    · by_cases q : tso T e = 3
      · exact ⟨none, by rw [to_lin hT cc he, if_pos q], Or.inl ⟨rfl, by rw [md_lin hT mc' he, if_pos q]⟩⟩
      · exact ⟨_, by rw [to_lin hT cc he, if_neg q], Or.inr ⟨e, he, rfl, q, rfl, by rw [md_lin hT mc' he, if_neg q]⟩⟩
  have hlb : ∃ o : Option Nat, To_linearAt F b M = some (o, M) ∧ ((o = none ∧ Md_isLinear F b (tv_w N 249 0 0) = some (0, tv_w N 249 0 0)) ∨ ∃ e, e < tE T ∧ b = nI e ∧ tso T e ≠ 3 ∧ o = some (22 + 2 * e) ∧ Md_isLinear F b (tv_w N 249 0 0) = some (1, tv_w N 249 0 0)) := by
    rcases tp_ix b (n := tE T) (by omega) with h | ⟨e, he, rfl⟩
    · exact ⟨none, to_lin_out cc h, Or.inl ⟨rfl, md_lin_out hT mc' h⟩⟩
    · by_cases q : tso T e = 3
      · exact ⟨none, by rw [to_lin hT cc he, if_pos q], Or.inl ⟨rfl, by rw [md_lin hT mc' he, if_pos q]⟩⟩
      · exact ⟨_, by rw [to_lin hT cc he, if_neg q], Or.inr ⟨e, he, rfl, q, rfl, by rw [md_lin hT mc' he, if_neg q]⟩⟩
  have hlc : ∃ o : Option Nat, To_tieAt F c M = some (o, M) ∧ ((o = none ∧ Md_in F c.toInt64 0 ((nI (tK T) - 1 : Int32).toInt64) (tv_w N 249 0 0) = some (0, tv_w N 249 0 0)) ∨ ∃ t, t < tK T ∧ c = nI t ∧ o = some (38 + 3 * t) ∧ Md_in F c.toInt64 0 ((nI (tK T) - 1 : Int32).toInt64) (tv_w N 249 0 0) = some (1, tv_w N 249 0 0)) := by
    rcases tp_ix c (n := tK T) (by omega) with h | ⟨t, ht, rfl⟩
    · exact ⟨none, to_tie_out cc h, Or.inl ⟨rfl, md_in_out h (by omega) rfl⟩⟩
    · exact ⟨_, to_tie hT cc ht, Or.inr ⟨t, ht, rfl, rfl, md_in_in ht (by omega) rfl⟩⟩
  obtain ⟨oa, a1, a2⟩ := hla
  obtain ⟨ob, b1, b2⟩ := hlb
  obtain ⟨oc, c1, c2⟩ := hlc
  rcases a2 with ⟨rfl, a2⟩ | ⟨e, he, rfl, hes, rfl, a2⟩
  · refine hsame (-1000001) ?_ ?_
    · unfold Xx_hear; rw [tp_cb a1, tp_cb b1, tp_cb c1, tp_nln]
    · unfold Md_hear; rw [tp_pf, tp_cb a2, if_pos rfl]
  obtain ⟨-, -, p3, -⟩ := tp_eyP e (by omega)
  rcases b2 with ⟨rfl, b2⟩ | ⟨f, hf, rfl, hfs, rfl, b2⟩
  · refine hsame (-1000001) ?_ ?_
    · unfold Xx_hear; rw [tp_cb a1, tp_cb b1, tp_cb c1, tp_nls, tp_gl p3, tp_nln]
    · unfold Md_hear; rw [tp_pf, tp_cb a2, if_neg (show ¬ (1 : Int32) = 0 by decide), tp_cb b2, if_pos rfl]
  obtain ⟨-, -, q3, -⟩ := tp_eyP f (by omega)
  rcases c2 with ⟨rfl, c2⟩ | ⟨t, ht, rfl, rfl, c2⟩
  · refine hsame (-1000001) ?_ ?_
    · unfold Xx_hear; rw [tp_cb a1, tp_cb b1, tp_cb c1, tp_nls, tp_gl p3, tp_nls, tp_gl q3, tp_nln]
    · unfold Md_hear; rw [tp_pf, tp_cb a2, if_neg (show ¬ (1 : Int32) = 0 by decide), tp_cb b2, if_neg (show ¬ (1 : Int32) = 0 by decide), mc'.2.2.2.1, tp_cb c2, if_pos rfl]
  obtain ⟨-, -, -, r4, -, -⟩ := tp_tiP t (by omega)
  obtain ⟨g1, g2, g3, g4, g5, g6, g7, g8, g9⟩ := hT.2.2.2.2.2.2.1 t ht
  obtain ⟨t1, t2, t3, -, -⟩ := cc.2.2.2.2.2.2.2.2.1 t ht
  obtain ⟨s1, s2, s3, -, -⟩ := mc'.2.2.2.2.2.2.1 t ht
  have hsz := (hT.2.2.2.2.2.1 e he).2.2.1
  have ex : Xx_hear F (nI e) (nI f) (nI t) M = if f = to1 T t ∨ f = to2 T t then (if trw T t = tsz T e then (if H 3 0 < 16 then some (nI (H 3 0 + 1), tv_w (tv_w (tv_w (tv_w M 194 e (nI f)) 195 e (nI t)) 193 3 (nI (H 3 0 + 1))) 193 12 0) else some (-1000003, M)) else some (-1000001, M)) else some (-1000001, M) := by
    unfold Xx_hear
    rw [tp_cb a1, tp_cb b1, tp_cb c1, tp_nls, tp_gl p3, tp_nls, tp_gl q3, tp_nls, tp_gl r4, tp_cb (ti_joins hT cc (by omega) ht), t3, (cc.2.2.2.2.2.2.2.1 e he).2.1]
    by_cases k1 : f = to1 T t ∨ f = to2 T t
    · rw [if_pos k1, if_pos k1, if_neg (show ¬ (1 : Int32) = 0 by decide)]
      by_cases k2 : trw T t = tsz T e
      · rw [if_pos (by rw [k2]), if_pos k2]
        have hfu : He_isFull F M = some (if H 3 0 < 16 then 0 else 1, M) := by
          unfold He_isFull
          rw [ch.1]
          by_cases k3 : H 3 0 < 16
          · rw [if_pos (show nI (H 3 0) < 16 from nI_lt (b := 16) k3 (by omega)), if_pos k3]
          · rw [if_neg (show ¬ nI (H 3 0) < 16 from Int32.not_lt.mpr (nI_le (a := 16) (by omega) (by have := hH.1; omega))), if_neg k3]
        rw [tp_cb hfu]
        by_cases k3 : H 3 0 < 16
        · rw [if_pos k3, if_pos k3, if_pos rfl]
          have hadd : He_addRule F (nI e) (nI f) (nI t) M = some (nI (H 3 0 + 1), tv_w (tv_w (tv_w (tv_w M 194 e (nI f)) 195 e (nI t)) 193 3 (nI (H 3 0 + 1))) 193 12 0) := by
            unfold He_addRule
            rw [tp_cb hfu, if_pos k3, if_pos rfl, if_neg (nI_pos (by omega)), if_pos (show nI e < 8 from nI_lt (b := 8) (by omega) (by omega)), tp_wr (by omega) (by decide), tp_wr (by omega) (by decide), tp_wk (by omega), tp_wk (by omega), ch.1, nI_1, tp_pf, tp_pf]
            rfl
          rw [tp_cb hadd]
        · rw [if_neg k3, if_neg k3, if_neg (show ¬ (1 : Int32) = 0 by decide)]
      · rw [if_neg (fun w => k2 (nI_inj (by omega) (by omega) w)), if_neg k2]
    · rw [if_neg k1, if_neg k1, if_pos rfl]
  have ey : Md_hear F (nI e) (nI f) (nI t) N = if f = to1 T t ∨ f = to2 T t then (if trw T t = tsz T e then (if H 3 0 < 16 then some (nI (H 3 0 + 1), tv_w (tv_w (tv_w (tv_w N 249 0 0) 272 e (nI t)) 273 e (nI f)) 249 43 (nI (H 3 0 + 1))) else some (-1000003, tv_w N 249 0 0)) else some (-1000001, tv_w N 249 0 0)) else some (-1000001, tv_w N 249 0 0) := by
    unfold Md_hear
    rw [tp_pf, tp_cb a2, if_neg (show ¬ (1 : Int32) = 0 by decide), tp_cb b2, if_neg (show ¬ (1 : Int32) = 0 by decide), mc'.2.2.2.1, tp_cb c2, if_neg (show ¬ (1 : Int32) = 0 by decide), tp_rd (by omega) (by decide), s1, tp_rd (by omega) (by decide), s2]
    have hL : Md_hear_L57 F (nI e) (nI f) (nI t) (tv_w N 249 0 0) = if trw T t = tsz T e then (if H 3 0 < 16 then some (nI (H 3 0 + 1), tv_w (tv_w (tv_w (tv_w N 249 0 0) 272 e (nI t)) 273 e (nI f)) 249 43 (nI (H 3 0 + 1))) else some (-1000003, tv_w N 249 0 0)) else some (-1000001, tv_w N 249 0 0) := by
      unfold Md_hear_L57
      rw [tp_rd (by omega) (by decide), s3, tp_rd (by omega) (by decide), (mc'.2.2.2.2.2.1 e he).2.1, mh'.1]
      by_cases k2 : trw T t = tsz T e
      · rw [if_pos (by rw [k2]), if_pos k2]
        by_cases k3 : H 3 0 < 16
        · rw [if_neg (fun w => absurd ((nI_e16 (by omega)).mp w) (by omega)), if_pos k3, tp_wr (by omega) (by decide), tp_wr (by omega) (by decide), tp_wk (by omega), tp_wk (by omega), mh'.1, nI_1, tp_pf, tp_ws]
        · rw [if_pos ((nI_e16 (by have := hH.1; omega)).mpr (by have := hH.1; omega)), if_neg k3]
      · rw [if_neg (fun w => k2 (nI_inj (by omega) (by omega) w)), if_neg k2]
    rw [hL]
    by_cases k1 : f = to1 T t
    · rw [if_pos (by rw [k1]), if_pos (Or.inl k1)]
    · rw [if_neg (fun w => k1 (nI_inj (by omega) (by omega) w).symm)]
      by_cases k2 : f = to2 T t
      · rw [if_pos (by rw [k2]), if_pos (Or.inr k2)]
      · rw [if_neg (fun w => k2 (nI_inj (by omega) (by omega) w).symm), if_neg (fun w => w.elim k1 k2)]
  by_cases k1 : f = to1 T t ∨ f = to2 T t
  · rw [if_pos k1] at ex ey
    by_cases k2 : trw T t = tsz T e
    · rw [if_pos k2] at ex ey
      by_cases k3 : H 3 0 < 16
      · rw [if_pos k3] at ex ey
        have hH0 : ∀ x, (fun t' i => if t' = 0 ∧ i = e then t + 1 else if t' = 1 ∧ i = e then f else if t' = 3 ∧ i = 0 then H 3 0 + 1 else H t' i : Nat → Nat → Nat) 0 x = if x = e then t + 1 else H 0 x := fun x => by
          by_cases w : x = e
          · simp [w]
          · simp [w]
        have hH1 : ∀ x, (fun t' i => if t' = 0 ∧ i = e then t + 1 else if t' = 1 ∧ i = e then f else if t' = 3 ∧ i = 0 then H 3 0 + 1 else H t' i : Nat → Nat → Nat) 1 x = if x = e then f else H 1 x := fun x => by
          by_cases w : x = e
          · simp [w]
          · simp [w]
        have hH2 : ∀ x, (fun t' i => if t' = 0 ∧ i = e then t + 1 else if t' = 1 ∧ i = e then f else if t' = 3 ∧ i = 0 then H 3 0 + 1 else H t' i : Nat → Nat → Nat) 2 x = H 2 x := fun x => by simp
        have hH3 : (fun t' i => if t' = 0 ∧ i = e then t + 1 else if t' = 1 ∧ i = e then f else if t' = 3 ∧ i = 0 then H 3 0 + 1 else H t' i : Nat → Nat → Nat) 3 0 = H 3 0 + 1 := by simp
        generalize (fun t' i => if t' = 0 ∧ i = e then t + 1 else if t' = 1 ∧ i = e then f else if t' = 3 ∧ i = 0 then H 3 0 + 1 else H t' i : Nat → Nat → Nat) = H' at hH0 hH1 hH2 hH3
        refine ⟨_, H', ⟨by rw [hH3]; omega, fun x hx => ?_, fun x hx hne => ?_, fun x => ?_⟩, tq_eq ex ⟨rfl, ⟨?_, fun x hx => ?_, fun x hx hne => ?_, fun x hx => ?_⟩, Or.inl tp_ws, fun a i q => ?_⟩, tq_eq ey ⟨rfl, ⟨?_, fun x hx => ?_, fun x hx hne => ?_, fun x hx => ?_⟩, fun a i q1 q2 => ?_⟩⟩
        · rw [hH0, if_neg (by omega)]; exact hH.2.1 x hx
        · rw [hH0] at hne ⊢
          rw [hH1]
          by_cases w : x = e
          · rw [if_pos w, if_pos w, Nat.add_sub_cancel, w]
            exact ⟨hes, ht, hf, hfs, k1.elim (fun z => Or.inl z.symm) (fun z => Or.inr z.symm), k2⟩
          · rw [if_neg w] at hne ⊢
            rw [if_neg w]
            exact hH.2.2.1 x hx hne
        · rw [hH2]; exact hH.2.2.2 x
        · rw [tp_wj (by omega), tp_ws, hH3]
        · rw [tp_wk (by omega), tp_wk (by omega), tp_w, hH0]
          by_cases w : x = e
          · rw [if_pos ⟨rfl, w⟩, if_pos w, if_neg (by omega), Nat.add_sub_cancel]
          · rw [if_neg (fun z => w z.2), if_neg w, tp_wk (by omega)]; exact ch.2.1 x hx
        · rw [tp_wk (by omega), tp_wk (by omega), tp_wk (by omega), tp_w, hH1]
          rw [hH0] at hne
          by_cases w : x = e
          · rw [if_pos ⟨rfl, w⟩, if_pos w]
          · rw [if_neg (fun z => w z.2), if_neg w]
            rw [if_neg w] at hne
            exact ch.2.2.1 x hx hne
        · rw [tp_wk (by omega), tp_wk (by omega), tp_wk (by omega), tp_wk (by omega), hH2]; exact ch.2.2.2 x hx
        · rw [tp_wk (by omega), tp_wk (by omega), tp_wk (by omega), tp_wk (by omega)]
        · rw [tp_ws, hH3]
        · rw [tp_wk (by omega), tp_wk (by omega), tp_w, hH0]
          by_cases w : x = e
          · rw [if_pos ⟨rfl, w⟩, if_pos w, if_neg (by omega), Nat.add_sub_cancel]
          · rw [if_neg (fun z => w z.2), if_neg w]; exact mh'.2.1 x hx
        · rw [tp_wk (by omega), tp_w, hH1]
          rw [hH0] at hne
          by_cases w : x = e
          · rw [if_pos ⟨rfl, w⟩, if_pos w]
          · rw [if_neg (fun z => w z.2), if_neg w]
            rw [if_neg w] at hne
            rw [tp_wk (by omega)]
            exact mh'.2.2.1 x hx hne
        · rw [tp_wk (by omega), tp_wk (by omega), tp_wk (by omega), hH2]; exact mh'.2.2.2 x hx
        · rw [tp_w, if_neg (by omega), tp_wk (by omega), tp_wk (by omega)]; exact fm0 a i q1 q2
      · rw [if_neg k3] at ex ey
        exact hsame _ ex ey
    · rw [if_neg k2] at ex ey
      exact hsame _ ex ey
  · rw [if_neg k1] at ex ey
    exact hsame _ ex ey
theorem md_numof {e : Nat} (hT : gT p T) (mc : mT N p T) (he : e < tE T) (hs : tso T e ≠ 3) : Md_isNumberOf F (nI e) b N = some (if 0 ≤ b.toInt ∧ b.toInt < tsz T e then 1 else 0, N) := by
  have h8 := hT.1
  have hz := (hT.2.2.2.2.2.1 e he).2.2.1
  unfold Md_isNumberOf
  rw [tp_cb (md_lin hT mc he), if_neg hs, if_neg (show ¬ (1 : Int32) = 0 by decide), tp_rd (by omega) (by decide), (mc.2.2.2.2.2.1 e he).2.1]
  rcases tp_ix b (n := tsz T e) (by omega) with h | ⟨k, hk, rfl⟩
  · rw [tp_cb (md_in_out h (by omega) rfl), if_pos rfl, if_neg]
    intro w
    rcases h with h | h
    · have := (tp_lt _ _).mp h; rw [tp_0T] at this; omega
    · have := (tp_le _ _).mp h; rw [nI_toInt (by omega)] at this; omega
  · rw [tp_cb (md_in_in hk (by omega) rfl), if_neg (show ¬ (1 : Int32) = 0 by decide), if_pos]
    rw [nI_toInt (by omega)]; omega
theorem op_says (hT : gT p T) (cc : cT M p T) (ch : cH M H) (mc : mT N p T) (mh : mH N T H) : ∃ r, Xx_says F a b M = some (r, M) ∧ Md_says F a b N = some (r, tv_w N 249 0 0) := by
  have h8 := hT.1
  have mc' := mc.w0
  have mh' := mh.w0
  unfold Xx_says Md_says
  rw [tp_pf]
  rcases tp_ix a (n := tE T) (by omega) with h | ⟨e, he, rfl⟩
  · refine ⟨-1000001, by rw [tp_cb (to_lin_out cc h), tp_nln], ?_⟩
    have : Md_isNumberOf F a b (tv_w N 249 0 0) = some (0, tv_w N 249 0 0) := by
      unfold Md_isNumberOf
      rw [tp_cb (md_lin_out hT mc' h), if_pos rfl]
    rw [tp_cb this, if_pos rfl]
  by_cases hs : tso T e = 3
  · refine ⟨-1000001, by rw [tp_cb (to_lin hT cc he), if_pos hs, tp_nln], ?_⟩
    have : Md_isNumberOf F (nI e) b (tv_w N 249 0 0) = some (0, tv_w N 249 0 0) := by
      unfold Md_isNumberOf
      rw [tp_cb (md_lin hT mc' he), if_pos hs, if_pos rfl]
    rw [tp_cb this, if_pos rfl]
  obtain ⟨-, -, p3, -⟩ := tp_eyP e (by omega)
  obtain ⟨x1, x2, x3⟩ := hT.col he hs
  have hC := hT.C
  obtain ⟨c1, c2, c3⟩ := cc.2.2.2.2.2.2.2.1 e he
  rw [tp_cb (to_lin hT cc he), if_neg hs, tp_nls, tp_gl p3, c2, c3, tp_cb (md_numof hT mc' he hs)]
  rcases tp_ix b (n := tsz T e) (by omega) with h | ⟨k, hk, rfl⟩
  · refine ⟨-1000001, ?_, ?_⟩
    · by_cases q : b < 0
      · rw [if_pos q]
      · rw [if_neg q, if_neg (Int32.not_lt.mpr (h.resolve_left q))]
    · have hno : ¬ (0 ≤ b.toInt ∧ b.toInt < tsz T e) := by
        intro w
        rcases h with h | h
        · have := (tp_lt _ _).mp h; rw [tp_0T] at this; omega
        · have := (tp_le _ _).mp h; rw [nI_toInt (by omega)] at this; omega
      rw [if_neg hno, if_pos rfl]
  · refine ⟨nI (H 2 (tco T e + k)), ?_, ?_⟩
    · rw [if_neg (nI_pos (by omega)), if_pos (nI_lt hk (by omega)), nI_add]
      have : He_numberAt F (nI (tco T e + k)) M = some (nI (H 2 (tco T e + k)), M) := by
        unfold He_numberAt
        rw [tp_cb (to_col hT cc (by omega)), if_neg (show ¬ (1 : Int32) = 0 by decide), tp_rd (by omega) (by decide), ch.2.2.2 _ (by omega)]
      rw [tp_cb this]
    · rw [if_pos (show 0 ≤ (nI k).toInt ∧ (nI k).toInt < tsz T e from by rw [nI_toInt (by omega)]; omega), if_neg (show ¬ (1 : Int32) = 0 by decide), tp_rd (by omega) (by decide), (mc'.2.2.2.2.2.1 e he).2.2, if_neg hs, nI_add, tp_rd (by omega) (by decide), mh'.2.2.2 _ (by omega)]
theorem gH.hu {row : Nat → Nat} (h : gH p T H) (hr : ∀ c, row c < p ∧ (tC T ≤ c → row c = 0)) : gH p T (hu H row) := ⟨h.1, h.2.1, h.2.2.1, hr⟩
theorem op_now (hF : 60 < F) (hp : tp_pr p) (hT : gT p T) (hH : gH p T H) (cc : cT M p T) (ch : cH M H) (cz : cZ M p Z) (ck : cHk M p T H) (mc : mT N p T) (mh : mH N T H) : ∃ (r : Int32) (H' : Nat → Nat → Nat), gH p T H' ∧ tq (Xx_now F a b c M) (fun q M' => q = r ∧ cH M' H' ∧ cHk M' p T H' ∧ fH M M') ∧ tq (Md_now F a b c N) (fun q N' => q = r ∧ mH N' T H' ∧ fHm N N') := by
  have h8 := hT.1
  have hp7 := hp.lt
  have mc' := mc.w0
  have mh' := mh.w0
  have fm0 : fHm N (tv_w N 249 0 0) := fun a i q1 _ => by rw [tp_w, if_neg (by omega)]
  have hsame : ∀ r : Int32, Xx_now F a b c M = some (r, M) → Md_now F a b c N = some (r, tv_w N 249 0 0) → ∃ (r : Int32) (H' : Nat → Nat → Nat), gH p T H' ∧ tq (Xx_now F a b c M) (fun q M' => q = r ∧ cH M' H' ∧ cHk M' p T H' ∧ fH M M') ∧ tq (Md_now F a b c N) (fun q N' => q = r ∧ mH N' T H' ∧ fHm N N') := fun r h1 h2 => ⟨r, H, hH, tq_eq h1 ⟨rfl, ch, ck, fH.rf⟩, tq_eq h2 ⟨rfl, mh', fm0⟩⟩
  rcases tp_ix a (n := tE T) (by omega) with h | ⟨e, he, rfl⟩
  · refine hsame (-1000001) ?_ ?_
    · unfold Xx_now; rw [tp_cb (to_lin_out cc h), tp_nln]
    · have : Md_isNumberOf F a b (tv_w N 249 0 0) = some (0, tv_w N 249 0 0) := by
        unfold Md_isNumberOf
        rw [tp_cb (md_lin_out hT mc' h), if_pos rfl]
      unfold Md_now; rw [tp_pf, tp_cb this, if_pos rfl]
  by_cases hs : tso T e = 3
  · refine hsame (-1000001) ?_ ?_
    · unfold Xx_now; rw [tp_cb (to_lin hT cc he), if_pos hs, tp_nln]
    · have : Md_isNumberOf F (nI e) b (tv_w N 249 0 0) = some (0, tv_w N 249 0 0) := by
        unfold Md_isNumberOf
        rw [tp_cb (md_lin hT mc' he), if_pos hs, if_pos rfl]
      unfold Md_now; rw [tp_pf, tp_cb this, if_pos rfl]
  obtain ⟨-, -, p3, -⟩ := tp_eyP e (by omega)
  obtain ⟨x1, x2, x3⟩ := hT.col he hs
  have hC := hT.C
  obtain ⟨c1, c2, c3⟩ := cc.2.2.2.2.2.2.2.1 e he
  rcases tp_ix b (n := tsz T e) (by omega) with h | ⟨k, hk, rfl⟩
  · refine hsame (-1000001) ?_ ?_
    · unfold Xx_now
      rw [tp_cb (to_lin hT cc he), if_neg hs, tp_nls, tp_gl p3, c2]
      by_cases q : b < 0
      · rw [if_pos q]
      · rw [if_neg q, if_pos (h.resolve_left q)]
    · unfold Md_now
      have hno : ¬ (0 ≤ b.toInt ∧ b.toInt < tsz T e) := by
        intro w
        rcases h with h | h
        · have := (tp_lt _ _).mp h; rw [tp_0T] at this; omega
        · have := (tp_le _ _).mp h; rw [nI_toInt (by omega)] at this; omega
      rw [tp_pf, tp_cb (md_numof hT mc' he hs), if_neg hno, if_pos rfl]
  have hnum : Md_isNumberOf F (nI e) (nI k) (tv_w N 249 0 0) = some (1, tv_w N 249 0 0) := by rw [md_numof hT mc' he hs, if_pos (by rw [nI_toInt (by omega)]; omega)]
  rcases tp_ix c (n := p) (by omega) with h | ⟨v, hv, rfl⟩
  · refine hsame (-1000001) ?_ ?_
    · unfold Xx_now
      rw [tp_cb (to_lin hT cc he), if_neg hs, tp_nls, tp_gl p3, c2, if_neg (nI_pos (by omega)), if_neg (nI_ge hk (by omega)), cz.1]
      by_cases q : c < 0
      · rw [if_pos q]
      · rw [if_neg q, if_neg (Int32.not_lt.mpr (h.resolve_left q))]
    · have : Md_isRest F c (tv_w N 249 0 0) = some (0, tv_w N 249 0 0) := by
        unfold Md_isRest
        rw [mc'.1, tp_cb (md_in_out h (by omega) rfl)]
        rfl
      unfold Md_now
      rw [tp_pf, tp_cb hnum, if_neg (show ¬ (1 : Int32) = 0 by decide), tp_cb this, if_pos rfl]
  have ex : Xx_now F (nI e) (nI k) (nI v) M = some (nI (H 2 (tco T e + k)), tv_w (tv_w M 196 (tco T e + k) (nI v)) 193 12 0) := by
    unfold Xx_now
    rw [tp_cb (to_lin hT cc he), if_neg hs, tp_nls, tp_gl p3, c2, if_neg (nI_pos (by omega)), if_neg (nI_ge hk (by omega)), cz.1, if_neg (nI_pos (by omega)), if_pos (nI_lt hv (by omega)), c3, nI_add]
    have : He_change F (nI (tco T e + k)) (nI v) M = some (nI (H 2 (tco T e + k)), tv_w (tv_w M 196 (tco T e + k) (nI v)) 193 12 0) := by
      unfold He_change
      rw [tp_cb (to_col hT cc (by omega)), if_neg (show ¬ (1 : Int32) = 0 by decide), tp_rd (by omega) (by decide), ch.2.2.2 _ (by omega), tp_wr (by omega) (by decide), tp_pf]
    rw [tp_cb this]
  have ey : Md_now F (nI e) (nI k) (nI v) N = some (nI (H 2 (tco T e + k)), tv_w (tv_w N 249 0 0) 274 (tco T e + k) (nI v)) := by
    have : Md_isRest F (nI v) (tv_w N 249 0 0) = some (1, tv_w N 249 0 0) := by
      unfold Md_isRest
      rw [mc'.1, tp_cb (md_in_in hv (by omega) rfl)]
      rfl
    unfold Md_now
    rw [tp_pf, tp_cb hnum, if_neg (show ¬ (1 : Int32) = 0 by decide), tp_cb this, if_neg (show ¬ (1 : Int32) = 0 by decide), tp_rd (by omega) (by decide), (mc'.2.2.2.2.2.1 e he).2.2, if_neg hs, nI_add, tp_rd (by omega) (by decide), mh'.2.2.2 _ (by omega), tp_rd (by omega) (by decide), (mc'.2.2.2.2.2.1 e he).2.2, if_neg hs, nI_add, tp_wr (by omega) (by decide)]
  refine ⟨_, hu H (fun x => if x = tco T e + k then v else H 2 x), hH.hu (fun x => ?_), tq_eq ex ⟨rfl, ⟨?_, fun x hx => ?_, fun x hx hne => ?_, fun x hx => ?_⟩, Or.inl tp_ws, fun a i q => ?_⟩, tq_eq ey ⟨rfl, ⟨?_, fun x hx => ?_, fun x hx hne => ?_, fun x hx => ?_⟩, fun a i q1 q2 => ?_⟩⟩
  · by_cases w : x = tco T e + k
    · rw [if_pos w]; exact ⟨hv, fun z => by omega⟩
    · rw [if_neg w]; exact hH.2.2.2 x
  · rw [tp_wj (by omega), tp_wk (by omega)]; exact ch.1
  · rw [tp_wk (by omega), tp_wk (by omega)]; exact ch.2.1 x hx
  · rw [tp_wk (by omega), tp_wk (by omega)]; exact ch.2.2.1 x hx hne
  · rw [tp_wk (by omega), tp_w]
    show _ = nI (if x = tco T e + k then v else H 2 x)
    by_cases w : x = tco T e + k
    · rw [if_pos ⟨rfl, w⟩, if_pos w]
    · rw [if_neg (fun z => w z.2), if_neg w]; exact ch.2.2.2 x hx
  · rw [tp_wk (by omega), tp_wk (by omega)]
  · rw [tp_wk (by omega)]; exact mh'.1
  · rw [tp_wk (by omega)]; exact mh'.2.1 x hx
  · rw [tp_wk (by omega)]; exact mh'.2.2.1 x hx hne
  · rw [tp_w]
    show _ = nI (if x = tco T e + k then v else H 2 x)
    by_cases w : x = tco T e + k
    · rw [if_pos ⟨rfl, w⟩, if_pos w]
    · rw [if_neg (fun z => w z.2), if_neg w]; exact mh'.2.2.2 x hx
  · rw [tp_wk (by omega)]; exact fm0 a i q1 q2
end HEAR
