/-! THE LINES WITH WANTS -/
def fC (M M' : tv_M) : Prop := ∀ a i, a ≠ 70 → (a < 106 ∨ 165 ≤ a) → M'.1 a i = M.1 a i
theorem fC.rf {M : tv_M} : fC M M := fun _ _ _ _ => rfl
theorem fC.tr {M M' M'' : tv_M} (h : fC M M') (g : fC M' M'') : fC M M'' := fun a i q1 q2 => (g a i q1 q2).trans (h a i q1 q2)
theorem cT.fC {M M' : tv_M} {p : Nat} {T : Nat → Nat → Nat} (hT : gT p T) (h : cT M p T) (hf : fC M M') : cT M' p T := h.cg hT (fun a i q => hf a i (by have := q.2.1; omega) (by have := q.2.1; omega))
def wr_n (T : Nat → Nat → Nat) (S : Nat → Bool) : Nat → Nat
  | 0 => 0
  | e + 1 => wr_n T S e + if S e then tsz T e else 0
def wr (p : Nat) (T R : Nat → Nat → Nat) (S : Nat → Bool) : Nat → Nat → Nat → Nat
  | 0, l, x => if l < tL T then ly p T 99 (tK T) l x else 0
  | e + 1, l, x => if tL T + wr_n T S e ≤ l ∧ l < tL T + wr_n T S (e + 1) then (if x = 24 then R 1 (tco T e + (l - (tL T + wr_n T S e))) else if x = tco T e + (l - (tL T + wr_n T S e)) then 1 else 0) else wr p T R S e l x
section WANT
variable {F p t n C W c : Nat} {a b : Int32} {M N : tv_M} {T R : Nat → Nat → Nat} {s : el_S} {S : Nat → Bool}
theorem wr_lo {e l x : Nat} (h : l < tL T + wr_n T S e) : wr p T R S (e + 1) l x = wr p T R S e l x := by rw [wr, if_neg (by omega)]
theorem wr_at {e k x : Nat} (hS : S e = true) (hk : k < tsz T e) : wr p T R S (e + 1) (tL T + wr_n T S e + k) x = if x = 24 then R 1 (tco T e + k) else if x = tco T e + k then 1 else 0 := by
  rw [wr, wr_n, hS, if_pos rfl, if_pos (by omega), Nat.add_sub_cancel_left]
theorem wr_no {e l x : Nat} (hS : S e = false) : wr p T R S (e + 1) l x = wr p T R S e l x := by rw [wr, wr_n, hS, if_neg Bool.false_ne_true, if_neg (by omega)]
theorem wr_n_le (hT : gT p T) (hS : ∀ e, e < tE T → S e = true → tso T e ≠ 3) : ∀ e, e ≤ tE T → wr_n T S e ≤ tcs T e := by
  intro e
  induction e with
  | zero => intro _; exact Nat.le_refl _
  | succ e ih =>
    intro he
    have := ih (by omega)
    rw [wr_n, tcs]
    by_cases q : S e = true
    · rw [if_pos q, if_neg (hS e (by omega) q)]; omega
    · rw [if_neg q]; omega
theorem wr_n_24 (hT : gT p T) (hS : ∀ e, e < tE T → S e = true → tso T e ≠ 3) : wr_n T S (tE T) ≤ 24 := by
  have h1 := wr_n_le hT hS (tE T) (Nat.le_refl _)
  have h2 := hT.2.2.2.1
  have h3 := hT.C
  omega
theorem wr_n_mono {e : Nat} : ∀ g, e ≤ g → wr_n T S e ≤ wr_n T S g := by
  intro g
  induction g with
  | zero => intro h; rw [show e = 0 by omega]; exact Nat.le_refl _
  | succ g ih =>
    intro h
    by_cases q : e = g + 1
    · rw [q]; exact Nat.le_refl _
    · have := ih (by omega)
      rw [wr_n]; omega
theorem wr_lt (hp : 2 ≤ p) (hT : gT p T) (hR : gR p T R) : ∀ e l x, wr p T R S e l x < p := by
  intro e
  induction e with
  | zero =>
    intro l x
    rw [wr]
    by_cases q : l < tL T
    · rw [if_pos q]; exact ly_lt (by omega) hT _ (Nat.le_refl _) l x
    · rw [if_neg q]; omega
  | succ e ih =>
    intro l x
    rw [wr]
    by_cases q : tL T + wr_n T S e ≤ l ∧ l < tL T + wr_n T S (e + 1)
    · rw [if_pos q]
      by_cases q2 : x = 24
      · rw [if_pos q2]; exact hR.2 _
      · rw [if_neg q2]
        by_cases q3 : x = tco T e + (l - (tL T + wr_n T S e))
        · rw [if_pos q3]; omega
        · rw [if_neg q3]; omega
    · rw [if_neg q]; exact ih l x
theorem ti_hi {t r x : Nat} (hT : gT p T) (ht : t < tK T) (hx : tC T ≤ x) : ti_v p T t r x = 0 := by
  obtain ⟨h1, h2, h3, h4, h5, h6, h7, h8, h9⟩ := hT.2.2.2.2.2.2.1 t ht
  have a1 := (hT.col h1 h3).1
  have a2 := (hT.col h2 h4).1
  unfold ti_v
  rw [if_neg (by omega), if_neg (by omega)]
theorem ly_hi {but x : Nat} (hT : gT p T) (hx : tC T ≤ x) : ∀ t, t ≤ tK T → ∀ l, ly p T but t l x = 0 := by
  intro t
  induction t with
  | zero => intro _ l; rfl
  | succ t ih =>
    intro ht l
    rw [ly]
    by_cases q : ly_n T but t ≤ l ∧ l < ly_n T but (t + 1)
    · rw [if_pos q]; exact ti_hi hT (by omega) hx
    · rw [if_neg q]; exact ih (by omega) l
/-! the class -/
theorem sb_st0 {A : Nat → Nat → Nat} (h0 : M.1 t 0 = nI p) (h6 : M.1 t 6 = nI n) (h7 : M.1 t 7 = nI C) (h8 : M.1 t 8 = nI 0) (h9 : M.1 t 9 = nI 0) (h10 : M.1 t 10 = nI W) (hR : sbR M t n W A) (hL : ∀ l, l < n → M.1 (sb_l t) l = -1) : sb_st M t n C W p (el_run p n A 0) 0 := ⟨h0, h6, h7, h8, h9, h10, hR, fun l hl => ⟨fun w => Bool.noConfusion w, fun _ => hL l hl⟩, fun k hk => absurd hk (Nat.not_lt_zero k), fun k hk => absurd hk (Nat.not_lt_zero k)⟩
/-- the reading lines of the eyes below e stand in the block -/
def cwl (M M' : tv_M) (p : Nat) (T R : Nat → Nat → Nat) (S : Nat → Bool) (e n : Nat) : Prop := M'.1 106 6 = nI n ∧ (∀ l x, l < n → x < 25 → M'.1 (110 + l) x = nI (if x < tC T then wr p T R S e l x else if x = tC T then wr p T R S e l 24 else 0)) ∧ (∀ l, l < n → M'.1 164 l = -1) ∧ (∀ i, i ≠ 6 → M'.1 106 i = M.1 106 i) ∧ fo 106 165 M M'
theorem ag_reads (hF : 60 < F) (hp : tp_pr p) (hT : gT p T) (hR : gR p T R) (cc : cT M p T) (cr : cR M T R) (h0 : cwl M M p T R (hs R) 0 (tL T)) : tq (Ag_addReadings F M) (fun _ M' => cwl M M' p T R (hs R) (tE T) (tL T + wr_n T (hs R) (tE T))) := by
  have h8 := hT.1
  have hC := hT.C
  have hL := hT.L
  have hS : ∀ e, e < tE T → hs R e = true → tso T e ≠ 3 := fun e he h w => by
    have := (hR.1 e he).2 w
    unfold hs at h
    rw [this] at h
    exact absurd h (by decide)
  have h24 := wr_n_24 hT hS
  have hin : ∀ (k2 : Int32 → tv_M → Option (Unit × tv_M)) e M', e < tE T → cwl M M' p T R (hs R) e (tL T + wr_n T (hs R) e) → ∃ M'', Ag_addReadings_L25 F k2 F (nI e) (22 + 2 * e) 0 M' = k2 (nI (e + 1)) M'' ∧ cwl M M'' p T R (hs R) (e + 1) (tL T + wr_n T (hs R) (e + 1)) := by
    intro k2 e M' he h
    obtain ⟨p1, p2, p3, p4⟩ := tp_eyP e (by omega)
    have hr01 : R 0 e = 0 ∨ R 0 e = 1 := by have := (hR.1 e he).1; omega
    have hM5 : ∀ M' : tv_M, fo 106 165 M M' → M'.1 (22 + 2 * e) 5 = nI (R 0 e) ∧ M'.1 (22 + 2 * e) 2 = nI (tsz T e) ∧ M'.1 (22 + 2 * e) 3 = nI (tco T e) ∧ M'.1 18 7 = nI (tC T) := fun M' hf => ⟨by rw [hf _ _ (by omega)]; exact (cr e he).1, by rw [hf _ _ (by omega)]; exact (cc.2.2.2.2.2.2.2.1 e he).2.1, by rw [hf _ _ (by omega)]; exact (cc.2.2.2.2.2.2.2.1 e he).2.2, by rw [hf _ _ (by omega)]; exact cc.2.2.2.2.1⟩
    rcases hr01 with w | w
    · have hse : hs R e = false := by unfold hs; rw [w]; rfl
      obtain ⟨F', hF'⟩ : ∃ n', F = n' + 1 := ⟨F - 1, by omega⟩
      have : ∀ G, Ag_addReadings_L25 G k2 (F' + 1) (nI e) (22 + 2 * e) 0 M' = k2 (nI (e + 1)) M' := fun G => by
        rw [Ag_addReadings_L25, tp_gl p3, (hM5 M' h.2.2.2.2).1, w, if_pos (show nI 0 = 0 from rfl), nI_1]
      have hh := this F
      rw [← hF'] at hh
      refine ⟨M', hh, ?_⟩
      rw [wr_n, hse, if_neg Bool.false_ne_true, Nat.add_zero]
      refine ⟨h.1, fun l x q1 q2 => ?_, h.2.2.1, h.2.2.2.1, h.2.2.2.2⟩
      rw [wr_no hse, wr_no hse]; exact h.2.1 l x q1 q2
    · have hse : hs R e = true := by unfold hs; rw [w]; rfl
      have hso := hS e he hse
      obtain ⟨x1, x2, x3⟩ := hT.col he hso
      have hmono := wr_n_mono (T := T) (S := hs R) (e := e + 1) (tE T) (by omega)
      rw [wr_n, hse, if_pos rfl] at hmono
      have hh : ∀ d k nn M', k + d = tsz T e → d < nn → cwl M M' p T R (hs R) (e + 1) (tL T + wr_n T (hs R) e + k) → ∃ M'', Ag_addReadings_L25 F k2 nn (nI e) (22 + 2 * e) (nI k) M' = k2 (nI (e + 1)) M'' ∧ cwl M M'' p T R (hs R) (e + 1) (tL T + wr_n T (hs R) (e + 1)) := by
        intro d
        induction d with
        | zero =>
          intro k nn M' k1 k2' h
          obtain ⟨nn, rfl⟩ : ∃ n', nn = n' + 1 := ⟨nn - 1, by omega⟩
          obtain ⟨v1, v2, v3, v4⟩ := hM5 M' h.2.2.2.2
          rw [Ag_addReadings_L25, tp_gl p3, v1, w, if_neg (show ¬ nI 1 = 0 by decide), v2, if_pos (nI_le (by omega) (by omega)), nI_1, wr_n, hse, if_pos rfl]
          refine ⟨M', rfl, ?_⟩
          rw [show k = tsz T e by omega] at h
          rw [← Nat.add_assoc]; exact h
        | succ d ih =>
          intro k nn M' k1 k2' h
          obtain ⟨nn, rfl⟩ : ∃ n', nn = n' + 1 := ⟨nn - 1, by omega⟩
          obtain ⟨v1, v2, v3, v4⟩ := hM5 M' h.2.2.2.2
          obtain ⟨M2, y1, y2, y3, y4, y5⟩ := sb_add (F := F) (t := 106) (n := tL T + wr_n T (hs R) e + k) (M := M') (Or.inr rfl) hF (show _ < 54 by omega) h.1
          have hrow := (sb_row (t := 106) (l := tL T + wr_n T (hs R) e + k) (Or.inr rfl) (show _ < 54 by omega)).2
          have hrow : tv_lay[106 + 4 + (tL T + wr_n T (hs R) e + k)]? = some (20, 25) := hrow
          have y2 : ∀ x, x < 25 → M2.1 (106 + 4 + (tL T + wr_n T (hs R) e + k)) x = nI 0 := y2
          have y3 : M2.1 164 (tL T + wr_n T (hs R) e + k) = -1 := y3
          have y5 : ∀ a i, a ≠ 106 + 4 + (tL T + wr_n T (hs R) e + k) → ¬ (a = 164 ∧ i = tL T + wr_n T (hs R) e + k) → ¬ (a = 106 ∧ i = 6) → M2.1 a i = M'.1 a i := y5
          have f2 : fo 106 165 M M2 := fun a i q => by rw [y5 a i (by omega) (by omega) (by omega)]; exact h.2.2.2.2 a i q
          obtain ⟨u1, u2, u3, u4⟩ := hM5 M2 f2
          have hnum : M2.1 (23 + 2 * e) k = nI (R 1 (tco T e + k)) := by rw [f2 _ _ (by omega)]; exact (cr e he).2 w k (by omega)
          rw [Ag_addReadings_L25, tp_gl p3, v1, w, if_neg (show ¬ nI 1 = 0 by decide), v2, if_neg (nI_ge (by omega) (by omega)), tp_cb y1, tp_nls, tp_gn hrow, u3, nI_add, tp_wr (by omega) (by decide), tp_nn p2, tp_gn p4, tp_rd (by omega) (by decide), tp_wk (by omega), u4, tp_wk (by omega), hnum, tp_wr (by omega) (by decide), nI_1]
          refine ih (k + 1) nn _ (by omega) (by omega) ⟨?_, fun l x q1 q2 => ?_, fun l q => ?_, fun i q => ?_, fun a i q => ?_⟩
          · rw [tp_wk (by omega), tp_wk (by omega), y4]; rfl
          · by_cases q3 : l = tL T + wr_n T (hs R) e + k
            · subst q3
              rw [show 110 + (tL T + wr_n T (hs R) e + k) = 106 + 4 + (tL T + wr_n T (hs R) e + k) by omega, wr_at hse (by omega), wr_at hse (by omega), if_pos rfl, tp_w]
              by_cases z1 : x = tC T
              · rw [if_pos ⟨rfl, z1⟩, if_neg (by omega), if_pos z1]
              · rw [if_neg (fun z => z1 z.2), tp_w]
                by_cases z2 : x = tco T e + k
                · rw [if_pos ⟨rfl, z2⟩, if_pos (by omega), if_neg (by omega), if_pos z2]; rfl
                · rw [if_neg (fun z => z2 z.2), y2 x q2]
                  by_cases z3 : x < tC T
                  · rw [if_pos z3, if_neg (by omega), if_neg z2]
                  · rw [if_neg z3, if_neg z1]
            · rw [tp_wk (by omega), tp_wk (by omega), y5 _ _ (by omega) (by omega) (by omega)]
              exact h.2.1 l x (by omega) q2
          · rw [tp_wk (by omega), tp_wk (by omega)]
            by_cases q3 : l = tL T + wr_n T (hs R) e + k
            · rw [q3]; exact y3
            · rw [y5 _ _ (by omega) (by omega) (by omega)]; exact h.2.2.1 l (by omega)
          · rw [tp_wk (by omega), tp_wk (by omega), y5 _ _ (by omega) (by omega) (by omega)]; exact h.2.2.2.1 i q
          · rw [tp_wk (by omega), tp_wk (by omega)]; exact f2 a i q
      have hst : cwl M M' p T R (hs R) (e + 1) (tL T + wr_n T (hs R) e + 0) := ⟨h.1, fun l x q1 q2 => by rw [wr_lo (by omega), wr_lo (by omega)]; exact h.2.1 l x (by omega) q2, h.2.2.1, h.2.2.2.1, h.2.2.2.2⟩
      exact hh (tsz T e) 0 F M' (by omega) (by omega) hst
  have hout : ∀ d e nn M', e + d = tE T → d < nn → cwl M M' p T R (hs R) e (tL T + wr_n T (hs R) e) → tq (Ag_addReadings_L2 F nn (nI e) M') (fun _ M'' => cwl M M'' p T R (hs R) (tE T) (tL T + wr_n T (hs R) (tE T))) := by
    intro d
    induction d with
    | zero =>
      intro e nn M' k1 k2 h
      obtain ⟨nn, rfl⟩ : ∃ n', nn = n' + 1 := ⟨nn - 1, by omega⟩
      rw [show e = tE T by omega] at h ⊢
      rw [Ag_addReadings_L2, h.2.2.2.2 _ _ (by omega), cc.2.1, if_pos (nI_le (Nat.le_refl _) (by omega))]
      exact tq_some h
    | succ d ih =>
      intro e nn M' k1 k2 h
      obtain ⟨nn, rfl⟩ : ∃ n', nn = n' + 1 := ⟨nn - 1, by omega⟩
      obtain ⟨p1, p2, p3, p4⟩ := tp_eyP e (by omega)
      obtain ⟨M2, x1, x2⟩ := hin (Ag_addReadings_L2 F nn) e M' (by omega) h
      rw [Ag_addReadings_L2, h.2.2.2.2 _ _ (by omega), cc.2.1, if_neg (nI_ge (by omega) (by omega)), tp_ap (by omega) (by decide) p1, tp_gl p3, x1]
      exact ih (e + 1) nn M2 (by omega) (by omega) x2
  exact hout (tE T) 0 F M (by omega) (by omega) h0
end WANT
