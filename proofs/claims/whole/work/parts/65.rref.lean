/-! THE STEPS WHEN ALL IS DONE -/
def RR (n : Nat) (s : el_S) (c : Nat) : Prop := (∀ k, k < c → s.2.2 k < n → s.1 (s.2.2 k) k = 1 ∧ (∀ l, l < n → l ≠ s.2.2 k → s.1 l k = 0) ∧ s.2.1 (s.2.2 k) = true) ∧ (∀ k, k < c → ¬ s.2.2 k < n → ∀ l, l < n → s.2.1 l = false → s.1 l k = 0) ∧ (∀ l, l < n → s.2.1 l = true → ∃ k, k < c ∧ s.2.2 k = l) ∧ ∀ k k', k < c → k' < c → s.2.2 k < n → s.2.2 k = s.2.2 k' → k = k'
theorem RR_step {p n c : Nat} {s : el_S} (hp : tp_pr p) (hlt : el_lt p n s.1) (h : RR n s c) : RR n (el_step p n c s) (c + 1) := by
  have hp7 := hp.lt
  obtain ⟨ha, hb, hc, hd⟩ := h
  obtain ⟨f1, f2, f3⟩ := el_find_P n (el_ok s c)
  unfold el_step
  by_cases q : el_ld n s c < n
  · rw [if_pos q]
    have f3 : el_ok s c (el_ld n s c) = true := f3 q
    have g : s.2.1 (el_ld n s c) = false ∧ s.1 (el_ld n s c) c ≠ 0 := by
      generalize el_ld n s c = l at f3
      unfold el_ok at f3
      rw [Bool.and_eq_true, Bool.not_eq_true', decide_eq_true_eq] at f3
      exact f3
    obtain ⟨g1, g2⟩ := g
    generalize el_ld n s c = l0 at q g1 g2 ⊢
    have hz : ∀ k, k < c → s.1 l0 k = 0 := fun k hk => by
      by_cases w : s.2.2 k < n
      · obtain ⟨a1, a2, a3⟩ := ha k hk w
        exact a2 l0 q (fun e => by rw [← e, g1] at a3; exact Bool.noConfusion a3)
      · exact hb k hk w l0 q g1
    have hcol : ∀ k, k < c → ∀ l, l < n → el_R p s.1 l0 c l k = s.1 l k := fun k hk l hl => by
      unfold el_R el_q
      rw [hz k hk, Nat.zero_mul, Nat.zero_mod, Nat.mul_zero, Nat.add_zero]
      by_cases e : l = l0
      · rw [if_pos e, e, hz k hk]
      · rw [if_neg e, Nat.mod_eq_of_lt (hlt l k hl)]
    have hone : el_q p s.1 l0 c c = 1 := by
      obtain ⟨i1, -⟩ := tp_invP p (by omega) hp (s.1 l0 c) (hlt l0 c q) g2
      unfold el_q
      rw [Nat.mul_comm]; exact i1
    refine ⟨fun k hk hkn => ?_, fun k hk hkn l hl hlf => ?_, fun l hl hlt' => ?_, fun k k' hk hk' hkn hkk => ?_⟩
    · show el_R p s.1 l0 c (if k = c then l0 else s.2.2 k) k = 1 ∧ (∀ l, l < n → l ≠ (if k = c then l0 else s.2.2 k) → el_R p s.1 l0 c l k = 0) ∧ (if (if k = c then l0 else s.2.2 k) = l0 then true else s.2.1 (if k = c then l0 else s.2.2 k)) = true
      have hkn : (if k = c then l0 else s.2.2 k) < n := hkn
      by_cases e : k = c
      · subst e
        rw [if_pos rfl]
        refine ⟨?_, fun l hl hne => ?_, by rw [if_pos rfl]⟩
        · unfold el_R; rw [if_pos rfl]; exact hone
        · unfold el_R
          have := hlt l k hl
          rw [if_neg hne, hone, Nat.mul_one, Nat.add_sub_cancel' (by omega), Nat.mod_self]
      · rw [if_neg e] at hkn ⊢
        obtain ⟨a1, a2, a3⟩ := ha k (by omega) hkn
        refine ⟨?_, fun l hl hne => ?_, ?_⟩
        · rw [hcol k (by omega) _ hkn]; exact a1
        · rw [hcol k (by omega) l hl]; exact a2 l hl hne
        · by_cases w : s.2.2 k = l0
          · rw [if_pos w]
          · rw [if_neg w]; exact a3
    · have hkn : ¬ (if k = c then l0 else s.2.2 k) < n := hkn
      have hlf : (if l = l0 then true else s.2.1 l) = false := hlf
      show el_R p s.1 l0 c l k = 0
      by_cases e : k = c
      · rw [if_pos e] at hkn; exact absurd q hkn
      · rw [if_neg e] at hkn
        by_cases w : l = l0
        · rw [if_pos w] at hlf; exact Bool.noConfusion hlf
        · rw [if_neg w] at hlf
          rw [hcol k (by omega) l hl]; exact hb k (by omega) hkn l hl hlf
    · have hlt' : (if l = l0 then true else s.2.1 l) = true := hlt'
      by_cases w : l = l0
      · exact ⟨c, by omega, by show (if c = c then l0 else s.2.2 c) = l; rw [if_pos rfl]; exact w.symm⟩
      · rw [if_neg w] at hlt'
        obtain ⟨k, k1, k2⟩ := hc l hl hlt'
        exact ⟨k, by omega, by show (if k = c then l0 else s.2.2 k) = l; rw [if_neg (by omega)]; exact k2⟩
    · have hkn : (if k = c then l0 else s.2.2 k) < n := hkn
      have hkk : (if k = c then l0 else s.2.2 k) = (if k' = c then l0 else s.2.2 k') := hkk
      by_cases e : k = c
      · by_cases e' : k' = c
        · rw [e, e']
        · rw [if_pos e, if_neg e'] at hkk
          have := (ha k' (by omega) (by rw [← hkk]; exact q)).2.2
          rw [← hkk, g1] at this
          exact Bool.noConfusion this
      · rw [if_neg e] at hkk hkn
        by_cases e' : k' = c
        · rw [if_pos e'] at hkk
          have := (ha k (by omega) hkn).2.2
          rw [hkk, g1] at this
          exact Bool.noConfusion this
        · rw [if_neg e'] at hkk
          exact hd k k' (by omega) (by omega) hkn hkk
  · rw [if_neg q]
    have hno : ∀ l, l < n → s.2.1 l = false → s.1 l c = 0 := fun l hl hf => by
      have := f2 l (by unfold el_ld at q; omega)
      unfold el_ok at this
      rw [hf] at this
      exact Classical.byContradiction fun w => by rw [decide_eq_true w] at this; exact Bool.noConfusion this
    refine ⟨fun k hk hkn => ?_, fun k hk hkn l hl hlf => ?_, fun l hl hlt' => ?_, fun k k' hk hk' hkn hkk => ?_⟩
    · have hkn : (if k = c then n else s.2.2 k) < n := hkn
      show s.1 (if k = c then n else s.2.2 k) k = 1 ∧ (∀ l, l < n → l ≠ (if k = c then n else s.2.2 k) → s.1 l k = 0) ∧ s.2.1 (if k = c then n else s.2.2 k) = true
      by_cases e : k = c
      · rw [if_pos e] at hkn; omega
      · rw [if_neg e] at hkn ⊢; exact ha k (by omega) hkn
    · have hkn : ¬ (if k = c then n else s.2.2 k) < n := hkn
      show s.1 l k = 0
      have hlf : s.2.1 l = false := hlf
      by_cases e : k = c
      · rw [e]; exact hno l hl hlf
      · rw [if_neg e] at hkn; exact hb k (by omega) hkn l hl hlf
    · obtain ⟨k, k1, k2⟩ := hc l hl hlt'
      exact ⟨k, by omega, by show (if k = c then n else s.2.2 k) = l; rw [if_neg (by omega)]; exact k2⟩
    · have hkn : (if k = c then n else s.2.2 k) < n := hkn
      have hkk : (if k = c then n else s.2.2 k) = (if k' = c then n else s.2.2 k') := hkk
      by_cases e : k = c
      · rw [if_pos e] at hkn; omega
      · rw [if_neg e] at hkn hkk
        by_cases e' : k' = c
        · rw [if_pos e'] at hkk; omega
        · rw [if_neg e'] at hkk; exact hd k k' (by omega) (by omega) hkn hkk
theorem RR_run {p n : Nat} {A : Nat → Nat → Nat} (hp : tp_pr p) (hlt : el_lt p n A) : ∀ c, RR n (el_run p n A c) c := by
  have hp7 := hp.lt
  intro c
  induction c with
  | zero => exact ⟨fun k hk => absurd hk (Nat.not_lt_zero k), fun k hk => absurd hk (Nat.not_lt_zero k), fun l hl w => Bool.noConfusion w, fun k k' hk => absurd hk (Nat.not_lt_zero k)⟩
  | succ c ih => exact RR_step hp (el_lt_run (by omega) hlt c) ih
/-- a row without numbers but for the led column's own -/
theorem RR.non {n c : Nat} {s : el_S} (h : RR n s c) {l k : Nat} (hl : l < n) (hf : s.2.1 l = false) (hk : k < c) : s.1 l k = 0 := by
  by_cases w : s.2.2 k < n
  · obtain ⟨a1, a2, a3⟩ := h.1 k hk w
    exact a2 l hl (fun e => by rw [← e, hf] at a3; exact Bool.noConfusion a3)
  · exact h.2.1 k hk w l hl hf
/-! back from the steps to the lines -/
theorem el_back_step {p n c X : Nat} {s : el_S} {w : Nat → Nat} (hp : tp_pr p) (hlt : el_lt p n s.1) (h : ∀ l, l < n → lam w ((el_step p n c s).1 l) X % p = 0) : ∀ l, l < n → lam w (s.1 l) X % p = 0 := by
  have hp7 := hp.lt
  obtain ⟨f1, f2, f3⟩ := el_find_P n (el_ok s c)
  unfold el_step at h
  by_cases q : el_ld n s c < n
  · rw [if_pos q] at h
    have h : ∀ l, l < n → lam w (el_R p s.1 (el_ld n s c) c l) X % p = 0 := h
    have f3 : el_ok s c (el_ld n s c) = true := f3 q
    have g2 : s.1 (el_ld n s c) c ≠ 0 := by
      generalize el_ld n s c = l at f3
      unfold el_ok at f3
      rw [Bool.and_eq_true, Bool.not_eq_true', decide_eq_true_eq] at f3
      exact f3.2
    have hq : lam w (el_q p s.1 (el_ld n s c) c) X % p = 0 := by
      have := h _ q
      rwa [show el_R p s.1 (el_ld n s c) c (el_ld n s c) = el_q p s.1 (el_ld n s c) c from by funext x; unfold el_R; rw [if_pos rfl]] at this
    intro l hl
    by_cases e : l = el_ld n s c
    · rw [e]
      obtain ⟨i1, -⟩ := tp_invP p (by omega) hp _ (hlt _ c q) g2
      have h1 : (tp_inv p (s.1 (el_ld n s c) c) * lam w (s.1 (el_ld n s c)) X) % p = 0 := by
        rw [← lam_sc]; exact hq
      have h2 : (s.1 (el_ld n s c) c * (tp_inv p (s.1 (el_ld n s c) c) * lam w (s.1 (el_ld n s c)) X)) % p = 0 := by rw [Nat.mul_mod, h1, Nat.mul_zero, Nat.zero_mod]
      rw [← Nat.mul_assoc, Nat.mul_mod, Nat.mul_comm (s.1 (el_ld n s c) c), i1, Nat.one_mul, Nat.mod_mod] at h2
      exact h2
    · have h1 := h l hl
      rw [show el_R p s.1 (el_ld n s c) c l = fun x => (s.1 l x + (p - s.1 l c) * el_q p s.1 (el_ld n s c) c x) % p from by funext x; unfold el_R; rw [if_neg e], lam_lin, Nat.add_mod, Nat.mul_mod, hq, Nat.mul_zero, Nat.zero_mod, Nat.add_zero, Nat.mod_mod] at h1
      exact h1
  · rw [if_neg q] at h; exact h
theorem el_back {p n X : Nat} {A : Nat → Nat → Nat} {w : Nat → Nat} (hp : tp_pr p) (hlt : el_lt p n A) : ∀ c, (∀ l, l < n → lam w ((el_run p n A c).1 l) X % p = 0) → ∀ l, l < n → lam w (A l) X % p = 0 := by
  have hp7 := hp.lt
  intro c
  induction c with
  | zero => intro h; exact h
  | succ c ih => intro h; exact ih (el_back_step hp (el_lt_run (by omega) hlt c) h)
/-! a sum with one number in it -/
theorem lam_0 {w r : Nat → Nat} : ∀ X, (∀ x, x < X → r x * w x = 0) → lam w r X = 0 := by
  intro X
  induction X with
  | zero => intro _; rfl
  | succ X ih => intro h; rw [lam, ih (fun x hx => h x (by omega)), h X (by omega)]
theorem lam_1 {w r : Nat → Nat} {k : Nat} : ∀ X, k < X → (∀ x, x < X → x ≠ k → r x * w x = 0) → lam w r X = r k * w k := by
  intro X
  induction X with
  | zero => intro h; omega
  | succ X ih =>
    intro hk h
    rw [lam]
    by_cases e : k = X
    · rw [e, lam_0 X (fun x hx => h x (by omega) (by omega)), Nat.zero_add]
    · rw [ih (by omega) (fun x hx => h x (by omega)), h X (by omega) (by omega), Nat.add_zero]
/-- a row's numbers by a vector, less what it wants -/
def vw (p C : Nat) (v : Nat → Nat) (x : Nat) : Nat := if x < C then v x else if x = 24 then p - 1 else 0
theorem lam_vw {p C : Nat} {v r : Nat → Nat} (hC : C ≤ 24) : lam (vw p C v) r 25 = lam v r C + r 24 * (p - 1) := by
  have h1 : ∀ X, X ≤ C → lam (vw p C v) r X = lam v r X := by
    intro X
    induction X with
    | zero => intro _; rfl
    | succ X ih => intro hX; rw [lam, lam, ih (by omega)]; unfold vw; rw [if_pos (by omega)]
  have h2 : ∀ m, C + m ≤ 24 → lam (vw p C v) r (C + m) = lam v r C := by
    intro m
    induction m with
    | zero => intro _; exact h1 C (Nat.le_refl _)
    | succ m ih => intro hm; rw [← Nat.add_assoc, lam, ih (by omega)]; unfold vw; rw [if_neg (by omega), if_neg (by omega), Nat.mul_zero, Nat.add_zero]
  have h3 := h2 (24 - C) (by omega)
  rw [show C + (24 - C) = 24 by omega] at h3
  show lam (vw p C v) r 24 + r 24 * vw p C v 24 = _
  rw [h3]
  unfold vw
  rw [if_neg (by omega), if_pos rfl]
theorem vw_iff {p x y : Nat} (hp : tp_pr p) (hy : y < p) : (x + y * (p - 1)) % p = 0 ↔ x % p = y := by
  rcases hp with rfl | rfl | rfl | rfl <;> omega
/-- a system whose steps leave no want in vain is solved by its fill, and only such a one is -/
theorem el_sol {p n C : Nat} {A : Nat → Nat → Nat} (hp : tp_pr p) (hC : C ≤ 24) (hlt : el_lt p n A) : fi n (el_run p n A C) = true ↔ ∃ v : Nat → Nat, ∀ l, l < n → lam v (A l) C % p = A l 24 := by
  have hp7 := hp.lt
  have hrr := RR_run hp hlt C
  have hltr := el_lt_run (n := n) (show 0 < p by omega) hlt C
  constructor
  · intro hf
    refine ⟨fun x => if x < C ∧ (el_run p n A C).2.2 x < n then (el_run p n A C).1 ((el_run p n A C).2.2 x) 24 else 0, fun l hl => ?_⟩
    have key : ∀ l, l < n → lam (vw p C (fun x => if x < C ∧ (el_run p n A C).2.2 x < n then (el_run p n A C).1 ((el_run p n A C).2.2 x) 24 else 0)) ((el_run p n A C).1 l) 25 % p = 0 := fun l hl => by
      rw [lam_vw hC, vw_iff hp (hltr l 24 hl)]
      have hfl := (an_iff _ _).mp hf l hl
      by_cases w : (el_run p n A C).2.1 l = true
      · obtain ⟨k, k1, k2⟩ := hrr.2.2.1 l hl w
        have hkn : (el_run p n A C).2.2 k < n := by rw [k2]; exact hl
        obtain ⟨a1, a2, a3⟩ := hrr.1 k k1 hkn
        rw [lam_1 (k := k) C k1 (fun x hx hne => ?_)]
        · rw [if_pos ⟨k1, hkn⟩, ← k2, a1, Nat.one_mul, Nat.mod_eq_of_lt (hltr _ _ (by rw [k2]; exact hl))]
        · by_cases z : (el_run p n A C).2.2 x < n
          · have : l ≠ (el_run p n A C).2.2 x := fun e => hne (hrr.2.2.2 x k hx k1 z (by rw [← e, k2]))
            rw [(hrr.1 x hx z).2.1 l hl this, Nat.zero_mul]
          · rw [if_neg (fun y => z y.2), Nat.mul_zero]
      · have w := Bool.eq_false_iff.mpr w
        rw [w, Bool.false_or, decide_eq_true_eq] at hfl
        rw [lam_0 C (fun x hx => by rw [hrr.non hl w hx, Nat.zero_mul]), hfl, Nat.zero_mod]
    have := el_back hp hlt C key l hl
    rw [lam_vw hC, vw_iff hp (hlt l 24 hl)] at this
    exact this
  · rintro ⟨v, hv⟩
    refine (an_iff _ _).mpr (fun l hl => ?_)
    have key := el_fun (p := p) (n := n) (X := 25) (A := A) (w := vw p C v) (fun l hl => by rw [lam_vw hC, vw_iff hp (hlt l 24 hl)]; exact hv l hl) C l hl
    rw [lam_vw hC, vw_iff hp (hltr l 24 hl)] at key
    by_cases w : (el_run p n A C).2.1 l = true
    · rw [w, Bool.true_or]
    · have w := Bool.eq_false_iff.mpr w
      rw [w, Bool.false_or, decide_eq_true_eq, ← key, lam_0 C (fun x hx => by rw [hrr.non hl w hx, Nat.zero_mul]), Nat.zero_mod]
