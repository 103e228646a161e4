/-! small rows -/
theorem tp_kT {n : Nat} (h : n < 2 ^ 31) : (OfNat.ofNat n : Int32).toInt = n := nI_toInt h
theorem tp_0T : (0 : Int32).toInt = 0 := rfl
theorem tp_m1T : (-1 : Int32).toInt = -1 := rfl
theorem tp_if {α : Type} {c : Prop} [Decidable c] {a b x : α} (h1 : c → a = x) (h2 : ¬ c → b = x) : (if c then a else b) = x := by
  by_cases h : c
  · rw [if_pos h]; exact h1 h
  · rw [if_neg h]; exact h2 h
theorem tp_w2 {M : tv_M} {k j : Nat} {x : Int32} : (tv_w M k j x).2 = M.2 := rfl
theorem tp_wc1 {M : tv_M} {k a i : Nat} {f : Nat → Int32} : (tv_wc M k f).1 a i = if a = k then f i else M.1 a i := rfl
theorem tp_wc2 {M : tv_M} {k : Nat} {f : Nat → Int32} : (tv_wc M k f).2 = M.2 := rfl
theorem tp_ext {M M' : tv_M} (h1 : ∀ a i, M.1 a i = M'.1 a i) (h2 : ∀ a i, M.2 a i = M'.2 a i) : M = M' := by
  obtain ⟨I, J⟩ := M
  obtain ⟨I', J'⟩ := M'
  have e1 : I = I' := funext fun a => funext fun i => h1 a i
  have e2 : J = J' := funext fun a => funext fun i => h2 a i
  rw [e1, e2]
/-- a place out of 0 .. n-1 -/
def tp_out (a : Int32) (n : Nat) : Prop := a < 0 ∨ nI n ≤ a
theorem tp_ix (a : Int32) {n : Nat} (hn : n < 2 ^ 31) : tp_out a n ∨ ∃ j, j < n ∧ a = nI j := by
  rcases pk_ix a hn with h | h | h
  · exact Or.inl (Or.inl h)
  · exact Or.inl (Or.inr h)
  · exact Or.inr h
/-- a row filled from i on -/
theorem jv_fill_L {F k N : Nat} {x : Int32} (hl : tv_lay[k]? = some (20, N)) (hN : N < 2 ^ 31) : ∀ (m i nn : Nat) (M : tv_M), i + m = N → m < nn → Jv_fill_L5 F nn k x (nI i) (nI N) M = some ((), tv_wc M k (fun j => if i ≤ j ∧ j < N then x else M.1 k j)) := by
  intro m
  induction m with
  | zero =>
    intro i nn M h1 h2
    obtain ⟨nn, rfl⟩ : ∃ n', nn = n' + 1 := ⟨nn - 1, by omega⟩
    rw [Jv_fill_L5, tp_gn hl, if_pos (nI_le (by omega) (by omega))]
    refine congrArg some (congrArg _ (tp_ext (fun a j => ?_) (fun a j => rfl)))
    rw [tp_wc1, if_neg (show ¬ (i ≤ j ∧ j < N) by omega)]
    by_cases e : a = k
    · rw [if_pos e, e]
    · rw [if_neg e]
  | succ m ih =>
    intro i nn M h1 h2
    obtain ⟨nn, rfl⟩ : ∃ n', nn = n' + 1 := ⟨nn - 1, by omega⟩
    rw [Jv_fill_L5, tp_gn hl, if_neg (nI_ge (by omega) (by omega)), tp_wr (by omega) hN, nI_1, ih (i + 1) nn _ (by omega) (by omega)]
    refine congrArg some (congrArg _ (tp_ext (fun a j => ?_) (fun a j => rfl)))
    rw [tp_wc1, tp_wc1, tp_w]
    by_cases e : a = k
    · rw [if_pos e, if_pos e]
      by_cases hj : j = i
      · rw [if_neg (by omega), if_pos ⟨rfl, hj⟩, if_pos (by omega)]
      · by_cases hj2 : i + 1 ≤ j ∧ j < N
        · rw [if_pos hj2, if_pos (by omega)]
        · rw [if_neg hj2, if_neg (by omega), if_neg (by omega)]
    · rw [if_neg e, if_neg e]; exact tp_wk e
theorem jv_fill {F k N : Nat} {x : Int32} {M : tv_M} (hl : tv_lay[k]? = some (20, N)) (hN : N < 2 ^ 31) (hF : N < F) : Jv_fill F k x M = some ((), tv_wc M k (fun j => if j < N then x else M.1 k j)) := by
  unfold Jv_fill
  rw [tp_gn hl]
  refine (jv_fill_L hl hN N 0 F M (by omega) hF).trans ?_
  simp
/-! AFTER A RUN: what holds when a function has answered -/
def tq {β : Type} (o : Option (β × tv_M)) (P : β → tv_M → Prop) : Prop := ∃ r M', o = some (r, M') ∧ P r M'
theorem tq_some {β : Type} {r : β} {M : tv_M} {P : β → tv_M → Prop} (h : P r M) : tq (some (r, M)) P := ⟨r, M, rfl, h⟩
theorem tq_eq {β : Type} {o : Option (β × tv_M)} {r : β} {M : tv_M} {P : β → tv_M → Prop} (e : o = some (r, M)) (h : P r M) : tq o P := ⟨r, M, e, h⟩
theorem tq_mono {β : Type} {o : Option (β × tv_M)} {P Q : β → tv_M → Prop} (h : tq o P) (k : ∀ r M, P r M → Q r M) : tq o Q := by
  obtain ⟨r, M, e, hp⟩ := h
  exact ⟨r, M, e, k r M hp⟩
theorem tq_cb {β γ : Type} {c : Option (β × tv_M)} {f : β → tv_M → Option (γ × tv_M)} {Q : β → tv_M → Prop} {P : γ → tv_M → Prop} (h : tq c Q) (k : ∀ r M, Q r M → tq (f r M) P) : tq (tv_cb c f) P := by
  obtain ⟨r, M, e, hq⟩ := h
  rw [e]
  exact k r M hq
theorem tq_cbe {β γ : Type} {c : Option (β × tv_M)} {f : β → tv_M → Option (γ × tv_M)} {r : β} {M : tv_M} {P : γ → tv_M → Prop} (h : c = some (r, M)) (k : tq (f r M) P) : tq (tv_cb c f) P := by
  rw [h]
  exact k
theorem tq_if {β : Type} {c : Prop} [Decidable c] {a b : Option (β × tv_M)} {P : β → tv_M → Prop} (h1 : c → tq a P) (h2 : ¬ c → tq b P) : tq (if c then a else b) P := by
  by_cases h : c
  · rw [if_pos h]; exact h1 h
  · rw [if_neg h]; exact h2 h
theorem tq_ifp {β : Type} {c : Prop} [Decidable c] {a b : Option (β × tv_M)} {P : β → tv_M → Prop} (h : c) (h1 : tq a P) : tq (if c then a else b) P := by
  rw [if_pos h]; exact h1
theorem tq_ifn {β : Type} {c : Prop} [Decidable c] {a b : Option (β × tv_M)} {P : β → tv_M → Prop} (h : ¬ c) (h1 : tq b P) : tq (if c then a else b) P := by
  rw [if_neg h]; exact h1
theorem tq_rd {β : Type} {M : tv_M} {k n j : Nat} {i : Int32} {f : Int32 → Option (β × tv_M)} {P : β → tv_M → Prop} (hi : i = nI j) (h : j < n) (hn : n < 2 ^ 31) (g : tq (f (M.1 k j)) P) : tq (tv_rd M k n i f) P := by
  rw [hi, tp_rd h hn]; exact g
theorem tq_rdl {β : Type} {M : tv_M} {k n j : Nat} {i : Int32} {f : Int64 → Option (β × tv_M)} {P : β → tv_M → Prop} (hi : i = nI j) (h : j < n) (hn : n < 2 ^ 31) (g : tq (f (M.2 k j)) P) : tq (tv_rdl M k n i f) P := by
  rw [hi, tp_rdl h hn]; exact g
theorem tq_wr {β : Type} {M : tv_M} {k n j : Nat} {i x : Int32} {f : tv_M → Option (β × tv_M)} {P : β → tv_M → Prop} (hi : i = nI j) (h : j < n) (hn : n < 2 ^ 31) (g : tq (f (tv_w M k j x)) P) : tq (tv_wr M k n i x f) P := by
  rw [hi, tp_wr h hn]; exact g
theorem tq_wrl {β : Type} {M : tv_M} {k n j : Nat} {i : Int32} {x : Int64} {f : tv_M → Option (β × tv_M)} {P : β → tv_M → Prop} (hi : i = nI j) (h : j < n) (hn : n < 2 ^ 31) (g : tq (f (tv_wl M k j x)) P) : tq (tv_wrl M k n i x f) P := by
  rw [hi, tp_wrl h hn]; exact g
theorem tq_ap {β : Type} {k n j p : Nat} {i : Int32} {f : Nat → Option (β × tv_M)} {P : β → tv_M → Prop} (hi : i = nI j) (h : j < n) (hn : n < 2 ^ 31) (hp : tv_P0 k j = some p) (g : tq (f p) P) : tq (tv_ap k n i f) P := by
  rw [hi, tp_ap h hn hp]; exact g
theorem tq_nn {β : Type} {r : Option Nat} {p : Nat} {f : Nat → Option (β × tv_M)} {P : β → tv_M → Prop} (hp : r = some p) (g : tq (f p) P) : tq (tv_nn r f) P := by
  rw [hp]; exact g
theorem tq_gl {β : Type} {k ci n : Nat} {o : Option (β × tv_M)} {P : β → tv_M → Prop} (h : tv_lay[k]? = some (ci, n)) (g : tq o P) : tq (tv_gl k ci o) P := by
  rw [tp_gl h]; exact g
theorem tq_gn {β : Type} {k t n : Nat} {f : Nat → Option (β × tv_M)} {P : β → tv_M → Prop} (h : tv_lay[k]? = some (t, n)) (g : tq (f n) P) : tq (tv_gn k t f) P := by
  rw [tp_gn h]; exact g
theorem tq_nz {β : Type} {y : Int32} {o : Option (β × tv_M)} {P : β → tv_M → Prop} (h : ¬ y = 0) (g : tq o P) : tq (tv_nz y o) P := by
  unfold tv_nz
  rw [if_neg h]; exact g
theorem tp_nz {α : Type} {y : Int32} {o : Option α} (h : ¬ y = 0) : tv_nz y o = o := if_neg h
theorem tq_zo {β : Type} {x : Int32} {o : Option (β × tv_M)} {P : β → tv_M → Prop} (h : x = 0 ∨ x = 1) (g : tq o P) : tq (tv_zo x o) P := by
  rw [tp_zo h]; exact g
/-- rounds that count up: s is what a round hands to the next; a round may end it all -/
theorem tl_loop {σ β : Type} {g : Nat → Nat → σ → Option (β × tv_M)} {Inv : Nat → σ → Prop} {P : β → tv_M → Prop} {N : Nat} (hs : ∀ nn j s, j < N → Inv j s → (∃ s', Inv (j + 1) s' ∧ g (nn + 1) j s = g nn (j + 1) s') ∨ tq (g (nn + 1) j s) P) (he : ∀ nn s, Inv N s → tq (g (nn + 1) N s) P) : ∀ m j nn s, j + m = N → m < nn → Inv j s → tq (g nn j s) P := by
  intro m
  induction m with
  | zero =>
    intro j nn s h1 h2 h3
    obtain ⟨nn, rfl⟩ : ∃ n', nn = n' + 1 := ⟨nn - 1, by omega⟩
    have : j = N := by omega
    subst this
    exact he nn s h3
  | succ m ih =>
    intro j nn s h1 h2 h3
    obtain ⟨nn, rfl⟩ : ∃ n', nn = n' + 1 := ⟨nn - 1, by omega⟩
    rcases hs nn j s (by omega) h3 with ⟨s', h4, h5⟩ | h4
    · rw [h5]
      exact ih (j + 1) nn s' (by omega) (by omega) h4
    · exact h4
/-- the same from 0 with fuel F -/
theorem tl_loop0 {σ β : Type} {g : Nat → Nat → σ → Option (β × tv_M)} {Inv : Nat → σ → Prop} {P : β → tv_M → Prop} {N F : Nat} {s : σ} (hF : N < F) (h0 : Inv 0 s) (hs : ∀ nn j s, j < N → Inv j s → (∃ s', Inv (j + 1) s' ∧ g (nn + 1) j s = g nn (j + 1) s') ∨ tq (g (nn + 1) j s) P) (he : ∀ nn s, Inv N s → tq (g (nn + 1) N s) P) : tq (g F 0 s) P := tl_loop hs he N 0 F s (by omega) hF h0
/-- rounds that hand on to what comes behind them -/
theorem tl_to {σ α : Type} {g : Nat → Nat → σ → Option α} {Inv : Nat → σ → Prop} {N : Nat} {o : σ → Option α} (hs : ∀ nn j s, j < N → Inv j s → ∃ s', Inv (j + 1) s' ∧ g (nn + 1) j s = g nn (j + 1) s') (he : ∀ nn s, Inv N s → g (nn + 1) N s = o s) : ∀ m j nn s, j + m = N → m < nn → Inv j s → ∃ s', Inv N s' ∧ g nn j s = o s' := by
  intro m
  induction m with
  | zero =>
    intro j nn s h1 h2 h3
    obtain ⟨nn, rfl⟩ : ∃ n', nn = n' + 1 := ⟨nn - 1, by omega⟩
    have : j = N := by omega
    subst this
    exact ⟨s, h3, he nn s h3⟩
  | succ m ih =>
    intro j nn s h1 h2 h3
    obtain ⟨nn, rfl⟩ : ∃ n', nn = n' + 1 := ⟨nn - 1, by omega⟩
    obtain ⟨s', h4, h5⟩ := hs nn j s (by omega) h3
    rw [h5]
    exact ih (j + 1) nn s' (by omega) (by omega) h4
theorem tl_to0 {σ α : Type} {g : Nat → Nat → σ → Option α} {Inv : Nat → σ → Prop} {N F : Nat} {o : σ → Option α} {s : σ} (hF : N < F) (h0 : Inv 0 s) (hs : ∀ nn j s, j < N → Inv j s → ∃ s', Inv (j + 1) s' ∧ g (nn + 1) j s = g nn (j + 1) s') (he : ∀ nn s, Inv N s → g (nn + 1) N s = o s) : ∃ s', Inv N s' ∧ g F 0 s = o s' := tl_to hs he N 0 F s (by omega) hF h0
/-! numbers -/
theorem nI_mul (a b : Nat) : nI a * nI b = nI (a * b) := (Int32.ofNat_mul a b).symm
theorem nI_sub {a b : Nat} (h : b ≤ a) : nI a - nI b = nI (a - b) := by
  have : nI a = nI (a - b) + nI b := by rw [nI_add]; congr 1; omega
  rw [this]
  exact Int32.add_sub_cancel _ _
theorem nI_inj {a b : Nat} (ha : a < 2 ^ 31) (hb : b < 2 ^ 31) (h : nI a = nI b) : a = b := (nI_eq ha hb).mp h
theorem nI_z {n : Nat} (h : n < 2 ^ 31) : nI n = 0 ↔ n = 0 := nI_eq (b := 0) h (by decide)
theorem nI_rem {a p : Nat} (ha : a < 2 ^ 31) (hp : 0 < p) (hp2 : p < 2 ^ 31) : tv_rem (nI a) (nI p) = nI (a % p) := by
  unfold tv_rem
  rw [tp_ei]
  have h0 : (nI a / nI p).toInt = (a / p : Nat) := by
    rw [Int32.toInt_div, nI_toInt ha, nI_toInt hp2, Int.bmod_def]
    have h1 : (a : Int).tdiv (p : Int) = ((a / p : Nat) : Int) := rfl
    have h2 : a / p ≤ a := Nat.div_le_self a p
    rw [h1]
    generalize a / p = d at h2
    omega
  have h1 : nI a / nI p = nI (a / p) := by
    rw [tp_ei, h0, nI_toInt]
    exact Nat.lt_of_le_of_lt (Nat.div_le_self a p) ha
  rw [h1, nI_mul, nI_sub (Nat.div_mul_le_self a p)]
  congr 2
  rw [Nat.mul_comm]
  exact (Nat.mod_eq_sub_mul_div).symm
theorem nI_neg {n : Nat} (h : n < 2 ^ 31) : ¬ nI n < 0 := nI_pos h
/-! the primes -/
def tp_pr (p : Nat) : Prop := p = 2 ∨ p = 3 ∨ p = 5 ∨ p = 7
theorem tp_pr.lt {p : Nat} (h : tp_pr p) : 2 ≤ p ∧ p ≤ 7 := by unfold tp_pr at h; omega
theorem xx_rest {F a p : Nat} {M : tv_M} (hp : tp_pr p) (ha : a < 2 ^ 31) : Xx_restOf F (nI a) (nI p) M = some (nI (a % p), M) := by
  have := hp.lt
  unfold Xx_restOf
  rw [if_pos (show (2 : Int32) ≤ nI p from nI_le (a := 2) (by omega) (by omega)), tp_nz (nI_ne0 (by omega) (by omega)), nI_rem ha (by omega) (by omega)]
/-- the number that turns v into 1 -/
def tp_inv (p v : Nat) : Nat := if p = 5 then (if v = 2 then 3 else if v = 3 then 2 else v) else if p = 7 then (if v = 2 then 4 else if v = 3 then 5 else if v = 4 then 2 else if v = 5 then 3 else v) else v
theorem tp_invQ {p : Nat} (h : p = 2 ∨ p = 3 ∨ p = 5 ∨ p = 7) : ∀ v, v < p → (v = 0 ∨ (tp_inv p v * v % p = 1 ∧ tp_inv p v < p ∧ 1 ≤ tp_inv p v ∧ ∀ k, k < tp_inv p v → ¬ k * v % p = 1)) := by
  rcases h with rfl | rfl | rfl | rfl <;> decide +kernel
theorem tp_invP (p : Nat) (_h8 : p < 8) (h : p = 2 ∨ p = 3 ∨ p = 5 ∨ p = 7) (v : Nat) (hv : v < p) (h0 : v ≠ 0) : tp_inv p v * v % p = 1 ∧ tp_inv p v < p ∧ 1 ≤ tp_inv p v ∧ ∀ k, k < tp_inv p v → k * v % p ≠ 1 := (tp_invQ h v hv).resolve_left h0
theorem tp_inv_one (p : Nat) : tp_inv p 1 = 1 := by simp [tp_inv]
theorem xx_inv_L {F p v : Nat} {M : tv_M} (hp : tp_pr p) (hv : v < p) (h0 : v ≠ 0) : ∀ m k nn, k + m = tp_inv p v → m < nn → 1 ≤ k → Xx_inverseOf_L2 F nn (nI v) (nI p) (nI k) M = some (nI (tp_inv p v), M) := by
  have hl := hp.lt
  obtain ⟨h1, h2, h3, h4⟩ := tp_invP p (by omega) hp v hv h0
  have hb : ∀ k, k < p → k * v < 2 ^ 31 := fun k hk => by
    have : k * v ≤ 7 * 7 := Nat.mul_le_mul (by omega) (by omega)
    omega
  intro m
  induction m with
  | zero =>
    intro k nn e1 e2 e3
    obtain ⟨nn, rfl⟩ : ∃ n', nn = n' + 1 := ⟨nn - 1, by omega⟩
    have : k = tp_inv p v := by omega
    subst this
    rw [Xx_inverseOf_L2, if_neg (nI_ge h2 (by omega)), nI_mul, tp_cb (xx_rest hp (hb _ h2)), h1, if_pos (show nI 1 = 1 from rfl)]
  | succ m ih =>
    intro k nn e1 e2 e3
    obtain ⟨nn, rfl⟩ : ∃ n', nn = n' + 1 := ⟨nn - 1, by omega⟩
    have hk : k < tp_inv p v := by omega
    rw [Xx_inverseOf_L2, if_neg (nI_ge (by omega) (by omega)), nI_mul, tp_cb (xx_rest hp (hb _ (by omega))), if_neg (show ¬ nI (k * v % p) = 1 from fun q => h4 k hk (nI_inj (b := 1) (Nat.lt_of_lt_of_le (Nat.mod_lt _ (by omega)) (by omega)) (by omega) q)), nI_1]
    exact ih (k + 1) nn (by omega) (by omega) (by omega)
theorem xx_inv {F p v : Nat} {M : tv_M} (hp : tp_pr p) (hv : v < p) (h0 : v ≠ 0) (hF : 10 < F) : Xx_inverseOf F (nI v) (nI p) M = some (nI (tp_inv p v), M) := by
  have hl := hp.lt
  obtain ⟨h1, h2, h3, h4⟩ := tp_invP p (by omega) hp v hv h0
  exact xx_inv_L hp hv h0 (tp_inv p v - 1) 1 F (by omega) (by omega) (by omega)
theorem md_inv_L {F p v : Nat} {M : tv_M} (hp : tp_pr p) (hM : M.1 249 2 = nI p) (hv : v < p) (h0 : v ≠ 0) : ∀ m k nn, k + m = tp_inv p v → m < nn → 1 ≤ k → Md_turned_L2 F nn (nI v) (nI k) M = some (nI (tp_inv p v), M) := by
  have hl := hp.lt
  obtain ⟨h1, h2, h3, h4⟩ := tp_invP p (by omega) hp v hv h0
  have hb : ∀ k, k < p → k * v < 2 ^ 31 := fun k hk => by
    have : k * v ≤ 7 * 7 := Nat.mul_le_mul (by omega) (by omega)
    omega
  intro m
  induction m with
  | zero =>
    intro k nn e1 e2 e3
    obtain ⟨nn, rfl⟩ : ∃ n', nn = n' + 1 := ⟨nn - 1, by omega⟩
    have : k = tp_inv p v := by omega
    subst this
    rw [Md_turned_L2, hM, tp_nz (nI_ne0 (by omega) (by omega)), nI_mul, nI_rem (hb _ h2) (by omega) (by omega), h1, if_pos (show nI 1 = 1 from rfl)]
  | succ m ih =>
    intro k nn e1 e2 e3
    obtain ⟨nn, rfl⟩ : ∃ n', nn = n' + 1 := ⟨nn - 1, by omega⟩
    have hk : k < tp_inv p v := by omega
    rw [Md_turned_L2, hM, tp_nz (nI_ne0 (by omega) (by omega)), nI_mul, nI_rem (hb _ (by omega)) (by omega) (by omega), if_neg (show ¬ nI (k * v % p) = 1 from fun q => h4 k hk (nI_inj (b := 1) (Nat.lt_of_lt_of_le (Nat.mod_lt _ (by omega)) (by omega)) (by omega) q)), nI_1]
    exact ih (k + 1) nn (by omega) (by omega) (by omega)
theorem md_inv {F p v : Nat} {M : tv_M} (hp : tp_pr p) (hM : M.1 249 2 = nI p) (hv : v < p) (h0 : v ≠ 0) (hF : 10 < F) : Md_turned F (nI v) M = some (nI (tp_inv p v), M) := by
  have hl := hp.lt
  obtain ⟨h1, h2, h3, h4⟩ := tp_invP p (by omega) hp v hv h0
  exact md_inv_L hp hM hv h0 (tp_inv p v - 1) 1 F (by omega) (by omega) (by omega)
/-! only the cells lo .. hi - 1 may change -/
def fo (lo hi : Nat) (M M' : tv_M) : Prop := ∀ a i, (a < lo ∨ hi ≤ a) → M'.1 a i = M.1 a i
theorem fo.rf {lo hi : Nat} {M : tv_M} : fo lo hi M M := fun _ _ _ => rfl
theorem fo.tr {lo hi : Nat} {M M' M'' : tv_M} (h : fo lo hi M M') (g : fo lo hi M' M'') : fo lo hi M M'' := fun a i q => (g a i q).trans (h a i q)
theorem fo.su {lo hi lo' hi' : Nat} {M M' : tv_M} (h : fo lo hi M M') (h1 : lo' ≤ lo) (h2 : hi ≤ hi') : fo lo' hi' M M' := fun a i q => h a i (by omega)
theorem fo.w {lo hi k j : Nat} {x : Int32} {M M' : tv_M} (h : fo lo hi M M') (h1 : lo ≤ k) (h2 : k < hi) : fo lo hi M (tv_w M' k j x) := fun a i q => (tp_wk (by omega)).trans (h a i q)
theorem fo.wl {lo hi k j : Nat} {x : Int64} {M M' : tv_M} (h : fo lo hi M M') : fo lo hi M (tv_wl M' k j x) := fun a i q => h a i q
theorem fo.wc {lo hi k : Nat} {f : Nat → Int32} {M M' : tv_M} (h : fo lo hi M M') (h1 : lo ≤ k) (h2 : k < hi) : fo lo hi M (tv_wc M' k f) := fun a i q => (if_neg (by omega)).trans (h a i q)
