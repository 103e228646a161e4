/-! WHAT FITS -/
def AG (p : Nat) (T : Nat → Nat → Nat) (v : Nat → Nat) : Prop := ∀ l, l < tL T → lam v (ly p T 99 (tK T) l) (tC T) % p = 0
section BASIS
variable {p : Nat} {T R : Nat → Nat → Nat} {S : Nat → Bool}
theorem wr_ly {l x : Nat} (hl : l < tL T) : ∀ e, wr p T R S e l x = ly p T 99 (tK T) l x := by
  intro e
  induction e with
  | zero => rw [wr, if_pos hl]
  | succ e ih => rw [wr_lo (by omega), ih]
theorem wr_at2 {e k x : Nat} (hS : S e = true) (hk : k < tsz T e) : ∀ g, e < g → wr p T R S g (tL T + wr_n T S e + k) x = if x = 24 then R 1 (tco T e + k) else if x = tco T e + k then 1 else 0 := by
  intro g
  induction g with
  | zero => intro h; omega
  | succ g ih =>
    intro h
    by_cases q : e = g
    · rw [← q]; exact wr_at hS hk
    · have h1 := wr_n_mono (T := T) (S := S) (e := e + 1) g (by omega)
      rw [wr_n, hS, if_pos rfl] at h1
      rw [wr_lo (by omega)]; exact ih (by omega)
theorem wr_ex {l : Nat} : ∀ g, l < tL T + wr_n T S g → l < tL T ∨ ∃ e k, e < g ∧ k < tsz T e ∧ S e = true ∧ l = tL T + wr_n T S e + k := by
  intro g
  induction g with
  | zero => intro h; exact Or.inl h
  | succ g ih =>
    intro h
    by_cases q : l < tL T + wr_n T S g
    · rcases ih q with h1 | ⟨e, k, h1, h2⟩
      · exact Or.inl h1
      · exact Or.inr ⟨e, k, by omega, h2⟩
    · rw [wr_n] at h
      by_cases w : S g = true
      · rw [if_pos w] at h
        exact Or.inr ⟨g, l - (tL T + wr_n T S g), by omega, by omega, w, by omega⟩
      · rw [if_neg w] at h; omega
theorem ft_iff (hp : tp_pr p) (hT : gT p T) (hR : gR p T R) (hS : ∀ e, e < tE T → S e = true → tso T e ≠ 3) : ft p T R S = true ↔ ∃ v, AG p T v ∧ ∀ e, e < tE T → S e = true → ∀ k, k < tsz T e → v (tco T e + k) % p = R 1 (tco T e + k) := by
  have hp7 := hp.lt
  have hC := hT.C
  have h := el_sol (p := p) (n := tL T + wr_n T S (tE T)) (C := tC T) (A := wr p T R S (tE T)) hp hC (fun l x _ => wr_lt (by omega) hT hR _ _ _)
  have h : ft p T R S = true ↔ _ := h
  rw [h]
  constructor
  · rintro ⟨v, hv⟩
    refine ⟨v, fun l hl => ?_, fun e he hse k hk => ?_⟩
    · have := hv l (by omega)
      rw [show wr p T R S (tE T) l = ly p T 99 (tK T) l from funext fun x => wr_ly hl _, ly_hi hT hC _ (Nat.le_refl _)] at this
      exact this
    · have h1 := wr_n_mono (T := T) (S := S) (e := e + 1) (tE T) (by omega)
      rw [wr_n, hse, if_pos rfl] at h1
      have := hv (tL T + wr_n T S e + k) (by omega)
      have hc := (hT.col he (hS e he hse)).1
      have e1 : wr p T R S (tE T) (tL T + wr_n T S e + k) 24 = R 1 (tco T e + k) := (wr_at2 hse hk _ he).trans (if_pos rfl)
      have e2 : lam v (wr p T R S (tE T) (tL T + wr_n T S e + k)) (tC T) = v (tco T e + k) := by rw [lam_1 (k := tco T e + k) (tC T) (by omega) (fun x hx hne => by rw [wr_at2 hse hk _ he, if_neg (by omega), if_neg hne, Nat.zero_mul]), wr_at2 hse hk _ he, if_neg (by omega), if_pos rfl, Nat.one_mul]
      rw [e1, e2] at this
      exact this
  · rintro ⟨v, h1, h2⟩
    refine ⟨v, fun l hl => ?_⟩
    rcases wr_ex (tE T) hl with q | ⟨e, k, he, hk, hse, rfl⟩
    · rw [show wr p T R S (tE T) l = ly p T 99 (tK T) l from funext fun x => wr_ly q _, ly_hi hT hC _ (Nat.le_refl _)]
      exact h1 l q
    · have hc := (hT.col he (hS e he hse)).1
      have e1 : wr p T R S (tE T) (tL T + wr_n T S e + k) 24 = R 1 (tco T e + k) := (wr_at2 hse hk _ he).trans (if_pos rfl)
      have e2 : lam v (wr p T R S (tE T) (tL T + wr_n T S e + k)) (tC T) = v (tco T e + k) := by rw [lam_1 (k := tco T e + k) (tC T) (by omega) (fun x hx hne => by rw [wr_at2 hse hk _ he, if_neg (by omega), if_neg hne, Nat.zero_mul]), wr_at2 hse hk _ he, if_neg (by omega), if_pos rfl, Nat.one_mul]
      rw [e1, e2]
      exact h2 e he hse k hk
/-! the basis -/
theorem lam_neg {w r : Nat → Nat} (hp : tp_pr p) : ∀ X, (∀ x, x < X → r x < p) → (lam w r X + lam w (fun x => (p - r x) % p) X) % p = 0 := by
  have hp7 := hp.lt
  intro X
  induction X with
  | zero => intro _; exact Nat.zero_mod p
  | succ X ih =>
    intro h
    have h1 := ih (fun x hx => h x (by omega))
    have h2 := h X (by omega)
    have h3 : (r X * w X + (p - r X) % p * w X) % p = 0 := by
      rw [← Nat.add_mul]
      by_cases e : r X = 0
      · rw [e, Nat.sub_zero, Nat.mod_self, Nat.zero_mul]; exact Nat.zero_mod p
      · rw [Nat.mod_eq_of_lt (show p - r X < p by omega), show r X + (p - r X) = p by omega, Nat.mul_mod_right]
    rw [lam, lam]
    show (lam w r X + r X * w X + (lam w (fun x => (p - r x) % p) X + (p - r X) % p * w X)) % p = 0
    rw [show lam w r X + r X * w X + (lam w (fun x => (p - r x) % p) X + (p - r X) % p * w X) = (lam w r X + lam w (fun x => (p - r x) % p) X) + (r X * w X + (p - r X) % p * w X) by omega, Nat.add_mod, h1, h3]
    exact Nat.zero_mod p
theorem lam_sp {v r : Nat → Nat} {d : Nat → Prop} [DecidablePred d] : ∀ X, lam v r X = lam (fun f => if d f then v f else 0) r X + lam (fun f => if d f then 0 else v f) r X := by
  intro X
  induction X with
  | zero => rfl
  | succ X ih =>
    rw [lam, lam, lam, ih]
    by_cases e : d X
    · rw [if_pos e, if_pos e, Nat.mul_zero]; omega
    · rw [if_neg e, if_neg e, Nat.mul_zero]; omega
/-- the k-th free column -/
def fk (n C : Nat) (ld : Nat → Nat) (k : Nat) : Nat := el_find C (fun f => decide (¬ ld f < n ∧ f - el_rk n ld f = k))
theorem fk_at {n C f : Nat} {ld : Nat → Nat} (hf : f < C) (hfr : ¬ ld f < n) : fk n C ld (f - el_rk n ld f) = f := by
  refine el_find_at (fun g hg => decide_eq_false (fun w => ?_)) hf (decide_eq_true ⟨hfr, rfl⟩)
  have := fr_mono (n := n) w.1 hg
  omega
theorem lam_re {n C : Nat} {ld a b : Nat → Nat} : ∀ C', C' ≤ C → lam (fun k => b (fk n C ld k)) (fun k => a (fk n C ld k)) (C' - el_rk n ld C') = lam (fun f => if ld f < n then 0 else b f) a C' := by
  intro C'
  induction C' with
  | zero => intro _; rfl
  | succ C' ih =>
    intro h
    have hle := el_rk_le n ld C'
    rw [el_rk, lam]
    by_cases q : ld C' < n
    · rw [if_pos q, if_pos q, Nat.mul_zero, Nat.add_zero, show C' + 1 - (el_rk n ld C' + 1) = C' - el_rk n ld C' by omega]; exact ih (by omega)
    · rw [if_neg q, if_neg q, show C' + 1 - (el_rk n ld C' + 0) = C' - el_rk n ld C' + 1 by omega, lam, ih (by omega), fk_at (by omega) q]
/-- the lines' steps -/
abbrev lds (p : Nat) (T : Nat → Nat → Nat) : Nat → Nat := (ru p T 99).2.2
abbrev kk (p : Nat) (T : Nat → Nat → Nat) : Nat := tC T - el_rk (tL T) (lds p T) (tC T)
abbrev fkk (p : Nat) (T : Nat → Nat → Nat) (k : Nat) : Nat := fk (tL T) (tC T) (lds p T) k
def vu (p : Nat) (T : Nat → Nat → Nat) (u : Nat → Nat) (c : Nat) : Nat := lam u (fun k => bs p (tL T) (ru p T 99) (fkk p T k) c) (kk p T)
theorem fkk_P {k : Nat} (hk : k < kk p T) : fkk p T k < tC T ∧ ¬ lds p T (fkk p T k) < tL T ∧ fkk p T k - el_rk (tL T) (lds p T) (fkk p T k) = k := by
  obtain ⟨f, h1, h2, h3⟩ := fr_ex (n := tL T) (ld := lds p T) (tC T) k hk
  have := fk_at (C := tC T) h1 h2
  rw [h3] at this
  have this : fkk p T k = f := this
  rw [this]; exact ⟨h1, h2, h3⟩
theorem ru_rr (hp : tp_pr p) (hT : gT p T) : RR (tL T) (ru p T 99) (tC T) := by
  have hp7 := hp.lt
  have := RR_run (p := p) (n := ly_n T 99 (tK T)) (A := ly p T 99 (tK T)) hp (fun l x _ => ly_lt (by omega) hT _ (Nat.le_refl _) l x) (tC T)
  rw [hT.n99] at this
  unfold ru
  rw [hT.n99]; exact this
theorem ru_fun (hp : tp_pr p) (hT : gT p T) {v : Nat → Nat} : AG p T v ↔ ∀ l, l < tL T → lam v ((ru p T 99).1 l) (tC T) % p = 0 := by
  have hp7 := hp.lt
  unfold ru
  rw [hT.n99]
  exact ⟨fun h => el_fun h (tC T), fun h => el_back hp (fun l x _ => ly_lt (by omega) hT _ (Nat.le_refl _) l x) (tC T) h⟩
theorem ru_split (hp : tp_pr p) (hT : gT p T) {v : Nat → Nat} {c : Nat} (hc : c < tC T) (hl : lds p T c < tL T) : lam v ((ru p T 99).1 (lds p T c)) (tC T) = v c + lam (fun f => if lds p T f < tL T then 0 else v f) ((ru p T 99).1 (lds p T c)) (tC T) := by
  have hrr := ru_rr hp hT
  obtain ⟨a1, a2, a3⟩ := hrr.1 c hc hl
  rw [lam_sp (d := fun f => lds p T f < tL T)]
  congr 1
  rw [lam_1 (k := c) (tC T) hc (fun x hx hne => ?_), if_pos hl, a1, Nat.one_mul]
  by_cases w : lds p T x < tL T
  · have : lds p T c ≠ lds p T x := fun e => hne (hrr.2.2.2 x c hx hc w e.symm)
    rw [(hrr.1 x hx w).2.1 _ hl this, Nat.zero_mul]
  · rw [if_neg w, Nat.mul_zero]
theorem vu_col {U : Nat → Nat} {c : Nat} : vu p T (fun k => U (fkk p T k)) c = lam (fun f => if lds p T f < tL T then 0 else U f) (fun f => bs p (tL T) (ru p T 99) f c) (tC T) := lam_re (b := U) (a := fun f => bs p (tL T) (ru p T 99) f c) (tC T) (Nat.le_refl _)
theorem vu_free {U : Nat → Nat} {c : Nat} (hc : c < tC T) (hf : ¬ lds p T c < tL T) : vu p T (fun k => U (fkk p T k)) c = U c := by
  rw [vu_col, lam_1 (k := c) (tC T) hc (fun x hx hne => ?_)]
  · unfold bs; rw [if_neg hf, if_neg hf, if_pos rfl, Nat.one_mul]
  · unfold bs; rw [if_neg hf, if_neg (fun e => hne e.symm), Nat.zero_mul]
theorem vu_led {U : Nat → Nat} {c : Nat} (hl : lds p T c < tL T) : vu p T (fun k => U (fkk p T k)) c = lam (fun f => if lds p T f < tL T then 0 else U f) (fun f => (p - (ru p T 99).1 (lds p T c) f) % p) (tC T) := by
  rw [vu_col]
  refine lam_cg (tC T) (fun x hx => ?_)
  unfold bs
  rw [if_pos hl]
theorem vu_2 (hp : tp_pr p) (hT : gT p T) {v : Nat → Nat} (hv : AG p T v) {c : Nat} (hc : c < tC T) : vu p T (fun k => v (fkk p T k)) c % p = v c % p := by
  by_cases hl : lds p T c < tL T
  · have h1 := (ru_fun hp hT).mp hv _ hl
    rw [ru_split hp hT hc hl] at h1
    rw [vu_led hl]
    have hlt := ru_lt hp hT (but := 99)
    rw [hT.n99] at hlt
    have h2 := lam_neg (p := p) (w := fun f => if lds p T f < tL T then 0 else v f) (r := (ru p T 99).1 (lds p T c)) hp (tC T) (fun x _ => hlt _ x hl)
    generalize lam (fun f => if lds p T f < tL T then 0 else v f) ((ru p T 99).1 (lds p T c)) (tC T) = x at h1 h2
    generalize lam (fun f => if lds p T f < tL T then 0 else v f) (fun f => (p - (ru p T 99).1 (lds p T c) f) % p) (tC T) = y at h2
    generalize v c = z at h1
    rcases hp with rfl | rfl | rfl | rfl <;> omega
  · rw [vu_free hc hl]
theorem vu_1 (hp : tp_pr p) (hT : gT p T) (u : Nat → Nat) : AG p T (vu p T u) := by
  have hrr := ru_rr hp hT
  have hlt := ru_lt hp hT (but := 99)
  rw [hT.n99] at hlt
  have hU : ∃ U : Nat → Nat, vu p T u = vu p T (fun k => U (fkk p T k)) := ⟨fun f => u (f - el_rk (tL T) (lds p T) f), by
    funext c
    exact lam_cg _ (fun k hk => by dsimp only; rw [(fkk_P hk).2.2])⟩
  obtain ⟨U, hU⟩ := hU
  rw [hU]
  refine (ru_fun hp hT).mpr (fun l hl => ?_)
  by_cases w : (ru p T 99).2.1 l = true
  · obtain ⟨c, c1, c2⟩ := hrr.2.2.1 l hl w
    have hcl : lds p T c < tL T := by rw [show lds p T c = l from c2]; exact hl
    rw [← show lds p T c = l from c2, ru_split hp hT c1 hcl, vu_led (U := U) hcl]
    have h2 := lam_neg (p := p) (w := fun f => if lds p T f < tL T then 0 else U f) (r := (ru p T 99).1 (lds p T c)) hp (tC T) (fun x _ => hlt _ x hcl)
    have e : lam (fun f => if lds p T f < tL T then 0 else vu p T (fun k => U (fkk p T k)) f) ((ru p T 99).1 (lds p T c)) (tC T) = lam (fun f => if lds p T f < tL T then 0 else U f) ((ru p T 99).1 (lds p T c)) (tC T) := lam_cg (tC T) (fun x hx => by
      by_cases z : lds p T x < tL T
      · rw [if_pos z, if_pos z]
      · rw [if_neg z, if_neg z, vu_free (U := U) hx z])
    rw [e, Nat.add_comm]
    exact h2
  · have w := Bool.eq_false_iff.mpr w
    rw [lam_0 (tC T) (fun x hx => by rw [hrr.non hl w hx, Nat.zero_mul]), Nat.zero_mod]
theorem ft_u (hp : tp_pr p) (hT : gT p T) (hR : gR p T R) (hS : ∀ e, e < tE T → S e = true → tso T e ≠ 3) : ft p T R S = true ↔ ∃ u, ∀ e, e < tE T → S e = true → ∀ k, k < tsz T e → vu p T u (tco T e + k) % p = R 1 (tco T e + k) := by
  rw [ft_iff hp hT hR hS]
  constructor
  · rintro ⟨v, h1, h2⟩
    refine ⟨fun k => v (fkk p T k), fun e he hse k hk => ?_⟩
    have hc := (hT.col he (hS e he hse)).1
    rw [vu_2 hp hT h1 (by omega)]; exact h2 e he hse k hk
  · rintro ⟨u, h⟩
    exact ⟨vu p T u, vu_1 hp hT u, h⟩
end BASIS
