/-! PURE ROWS: what the functions answer -/
theorem tp_lit (n : Nat) : (OfNat.ofNat n : Int32) = nI n := rfl
theorem tp_inb {j n : Nat} (h : j < n) (hn : n < 2 ^ 31) : tv_inb (nI j) n = true := decide_eq_true (vp_in_nI h hn)
theorem tp_rd {α : Type} {M : tv_M} {k n j : Nat} {f : Int32 → Option α} (h : j < n) (hn : n < 2 ^ 31) : tv_rd M k n (nI j) f = f (M.1 k j) := by
  unfold tv_rd
  rw [if_pos (tp_inb h hn), nI_clamp (by omega)]
theorem tp_rdl {α : Type} {M : tv_M} {k n j : Nat} {f : Int64 → Option α} (h : j < n) (hn : n < 2 ^ 31) : tv_rdl M k n (nI j) f = f (M.2 k j) := by
  unfold tv_rdl
  rw [if_pos (tp_inb h hn), nI_clamp (by omega)]
theorem tp_wr {α : Type} {M : tv_M} {k n j : Nat} {x : Int32} {f : tv_M → Option α} (h : j < n) (hn : n < 2 ^ 31) : tv_wr M k n (nI j) x f = f (tv_w M k j x) := by
  unfold tv_wr
  rw [if_pos (tp_inb h hn), nI_clamp (by omega)]
theorem tp_wrl {α : Type} {M : tv_M} {k n j : Nat} {x : Int64} {f : tv_M → Option α} (h : j < n) (hn : n < 2 ^ 31) : tv_wrl M k n (nI j) x f = f (tv_wl M k j x) := by
  unfold tv_wrl
  rw [if_pos (tp_inb h hn), nI_clamp (by omega)]
theorem tp_ap {α : Type} {k n j p : Nat} {f : Nat → Option α} (h : j < n) (hn : n < 2 ^ 31) (hp : tv_P0 k j = some p) : tv_ap k n (nI j) f = f p := by
  unfold tv_ap
  rw [if_pos (tp_inb h hn), nI_clamp (by omega), hp]
  rfl
theorem tp_nn {α : Type} {k j p : Nat} {f : Nat → Option α} (hp : tv_P0 k j = some p) : tv_nn (tv_P0 k j) f = f p := by rw [hp]; rfl
theorem tp_gl {α : Type} {k ci n : Nat} {o : Option α} (h : tv_lay[k]? = some (ci, n)) : tv_gl k ci o = o := by
  unfold tv_gl
  rw [h]
  exact if_pos rfl
theorem tp_gn {α : Type} {k t n : Nat} {f : Nat → Option α} (h : tv_lay[k]? = some (t, n)) : tv_gn k t f = f n := by
  unfold tv_gn
  rw [h]
  exact if_pos rfl
theorem tp_zo {α : Type} {x : Int32} {o : Option α} (h : x = 0 ∨ x = 1) : tv_zo x o = o := if_pos h
theorem tp_cb {α β : Type} {r : β} {M : tv_M} {c : Option (β × tv_M)} {f : β → tv_M → Option α} (h : c = some (r, M)) : tv_cb c f = f r M := by rw [h]; rfl
theorem tp_pf {α : Type} {M : tv_M} {k j : Nat} {x : Int32} {f : tv_M → Option α} : tv_pf M k j x f = f (tv_w M k j x) := rfl
/-! reading what was written -/
theorem tp_w {M : tv_M} {k j a i : Nat} {x : Int32} : (tv_w M k j x).1 a i = if a = k ∧ i = j then x else M.1 a i := rfl
theorem tp_ws {M : tv_M} {k j : Nat} {x : Int32} : (tv_w M k j x).1 k j = x := if_pos ⟨rfl, rfl⟩
theorem tp_wk {M : tv_M} {k j a i : Nat} {x : Int32} (h : a ≠ k) : (tv_w M k j x).1 a i = M.1 a i := if_neg fun q => h q.1
theorem tp_wj {M : tv_M} {k j a i : Nat} {x : Int32} (h : i ≠ j) : (tv_w M k j x).1 a i = M.1 a i := if_neg fun q => h q.2
/-- M' is M but for the places of which W says so -/
def tp_eq (W : Nat → Nat → Prop) (M M' : tv_M) : Prop := ∀ a i, ¬ W a i → M'.1 a i = M.1 a i ∧ M'.2 a i = M.2 a i
theorem tp_eq.rf {W : Nat → Nat → Prop} {M : tv_M} : tp_eq W M M := fun _ _ _ => ⟨rfl, rfl⟩
theorem tp_eq.w {W : Nat → Nat → Prop} {M M' : tv_M} {k j : Nat} {x : Int32} (h : tp_eq W M M') (hk : W k j) : tp_eq W M (tv_w M' k j x) := fun a i ha => by
  have hne : ¬ (a = k ∧ i = j) := fun e => ha (by rw [e.1, e.2]; exact hk)
  obtain ⟨h1, h2⟩ := h a i ha
  exact ⟨(if_neg hne).trans h1, h2⟩
theorem tp_eq.wl {W : Nat → Nat → Prop} {M M' : tv_M} {k j : Nat} {x : Int64} (h : tp_eq W M M') (hk : W k j) : tp_eq W M (tv_wl M' k j x) := fun a i ha => by
  have hne : ¬ (a = k ∧ i = j) := fun e => ha (by rw [e.1, e.2]; exact hk)
  obtain ⟨h1, h2⟩ := h a i ha
  exact ⟨h1, (if_neg hne).trans h2⟩
theorem tp_eq.wc {W : Nat → Nat → Prop} {M M' : tv_M} {k : Nat} {f : Nat → Int32} (h : tp_eq W M M') (hk : ∀ i, f i ≠ M'.1 k i → W k i) : tp_eq W M (tv_wc M' k f) := fun a i ha => by
  obtain ⟨h1, h2⟩ := h a i ha
  refine ⟨?_, h2⟩
  show (if a = k then f i else M'.1 a i) = _
  by_cases e : a = k
  · subst e
    rw [if_pos rfl, ← h1]
    exact Classical.byContradiction fun q => ha (hk i q)
  · rw [if_neg e, h1]
theorem tp_eq.tr {W V : Nat → Nat → Prop} {M M' M'' : tv_M} (h : tp_eq W M M') (g : tp_eq V M' M'') : tp_eq (fun a i => W a i ∨ V a i) M M'' := fun a i ha => by
  obtain ⟨h1, h2⟩ := h a i (fun q => ha (Or.inl q))
  obtain ⟨g1, g2⟩ := g a i (fun q => ha (Or.inr q))
  exact ⟨g1.trans h1, g2.trans h2⟩
theorem tp_eq.trs {W : Nat → Nat → Prop} {M M' M'' : tv_M} (h : tp_eq W M M') (g : tp_eq W M' M'') : tp_eq W M M'' := fun a i ha => ⟨(g a i ha).1.trans (h a i ha).1, (g a i ha).2.trans (h a i ha).2⟩
theorem tp_eq.sub {W V : Nat → Nat → Prop} {M M' : tv_M} (h : tp_eq W M M') (hs : ∀ a i, W a i → V a i) : tp_eq V M M' := fun a i ha => h a i (fun q => ha (hs a i q))
theorem tp_eq.at {W : Nat → Nat → Prop} {M M' : tv_M} (h : tp_eq W M M') (a i : Nat) (hn : ¬ W a i) : M'.1 a i = M.1 a i := (h a i hn).1
/-! comparisons -/
theorem tp_wide7 (a b : Int32) : (a.toInt64 ≤ b.toInt64 ↔ a ≤ b) ∧ (a.toInt64 < b.toInt64 ↔ a < b) := by
  constructor
  · rw [Int64.le_iff_toInt_le, Int32.le_iff_toInt_le, Int32.toInt_toInt64, Int32.toInt_toInt64]
  · rw [Int64.lt_iff_toInt_lt, Int32.lt_iff_toInt_lt, Int32.toInt_toInt64, Int32.toInt_toInt64]
theorem tp_lcmp_lt (x y : Int64) : lg_cmp x y < 0 ↔ x < y := by
  unfold lg_cmp
  by_cases h : x > y
  · rw [if_pos h]
    have h' : ¬ x < y := by rw [Int64.lt_iff_toInt_lt]; have := Int64.lt_iff_toInt_lt.mp h; omega
    simp only [h', iff_false]
    decide
  · rw [if_neg h]
    by_cases e : x = y
    · rw [if_pos e]
      subst e
      have h' : ¬ x < x := by rw [Int64.lt_iff_toInt_lt]; omega
      simp only [h', iff_false]
      decide
    · rw [if_neg e]
      have h' : x < y := by
        rw [Int64.lt_iff_toInt_lt]
        have h1 : ¬ y.toInt < x.toInt := fun q => h (Int64.lt_iff_toInt_lt.mpr q)
        have h2 : ¬ x.toInt = y.toInt := fun q => e (Int64.toInt_inj.mp q)
        omega
      simp only [h', iff_true]
      decide
theorem tp_lcmp_gt (x y : Int64) : 0 < lg_cmp x y ↔ y < x := by
  unfold lg_cmp
  by_cases h : x > y
  · rw [if_pos h]
    simp only [show y < x from h, iff_true]
    decide
  · rw [if_neg h]
    have h' : ¬ y < x := h
    by_cases e : x = y
    · rw [if_pos e]
      simp only [h', iff_false]
      decide
    · rw [if_neg e]
      simp only [h', iff_false]
      decide
/-- in(v, low, high) of the model -/
theorem tp_in {F : Nat} {a b c : Int32} {M : tv_M} {lo hi : Int64} (hl : lo = b.toInt64) (hh : hi = c.toInt64) : Md_in F a.toInt64 lo hi M = some (if b ≤ a ∧ a ≤ c then 1 else 0, M) := by
  subst hl; subst hh
  unfold Md_in
  have e1 := tp_lcmp_lt a.toInt64 b.toInt64
  have e2 := tp_lcmp_gt a.toInt64 c.toInt64
  rw [(tp_wide7 a b).2] at e1
  rw [(tp_wide7 c a).2] at e2
  by_cases h1 : a < b
  · rw [if_pos (e1.mpr h1), if_neg (fun q => Int32.not_le.mpr h1 q.1)]
  · rw [if_neg (fun q => h1 (e1.mp q))]
    have h1' := Int32.not_lt.mp h1
    by_cases h2 : c < a
    · rw [if_pos (e2.mpr h2), if_neg (fun q => Int32.not_le.mpr h2 q.2)]
    · rw [if_neg (fun q => h2 (e2.mp q)), if_pos ⟨h1', Int32.not_lt.mp h2⟩]
/-! sheets: cells 2 + 2 s, items 3 + 2 s -/
theorem tp_shP : ∀ s, s < 8 → tv_P0 1 s = some (2 + 2 * s) ∧ tv_P0 (2 + 2 * s) 2 = some (3 + 2 * s) ∧ tv_lay[2 + 2 * s]? = some (1, 3) ∧ tv_lay[3 + 2 * s]? = some (20, 40) := by decide +kernel
/-! eyes: cells 22 + 2 e, numbers 23 + 2 e; ties: cells 38 + 3 t, tables 39 + 3 t, 40 + 3 t -/
theorem tp_eyP : ∀ e, e < 8 → tv_P0 19 e = some (22 + 2 * e) ∧ tv_P0 (22 + 2 * e) 6 = some (23 + 2 * e) ∧ tv_lay[22 + 2 * e]? = some (3, 7) ∧ tv_lay[23 + 2 * e]? = some (20, 3) := by decide +kernel
theorem tp_tiP : ∀ t, t < 10 → tv_P0 20 t = some (38 + 3 * t) ∧ tv_P0 (38 + 3 * t) 3 = some (39 + 3 * t) ∧ tv_P0 (38 + 3 * t) 4 = some (40 + 3 * t) ∧ tv_lay[38 + 3 * t]? = some (4, 5) ∧ tv_lay[39 + 3 * t]? = some (20, 9) ∧ tv_lay[40 + 3 * t]? = some (20, 9) := by decide +kernel
/-! numbers -/
theorem tp_lt (a b : Int32) : a < b ↔ a.toInt < b.toInt := Int32.lt_iff_toInt_lt
theorem tp_le (a b : Int32) : a ≤ b ↔ a.toInt ≤ b.toInt := Int32.le_iff_toInt_le
theorem tp_ei (a b : Int32) : a = b ↔ a.toInt = b.toInt := Int32.toInt_inj.symm
theorem tp_rng (a : Int32) : -2147483648 ≤ a.toInt ∧ a.toInt < 2147483648 := ⟨Int32.le_toInt a, Int32.toInt_lt a⟩
theorem tp_sub (a b : Int32) (h1 : -2147483648 ≤ a.toInt - b.toInt) (h2 : a.toInt - b.toInt < 2147483648) : (a - b).toInt = a.toInt - b.toInt := by
  rw [Int32.toInt_sub, Int.bmod_def]
  omega
theorem tp_add (a b : Int32) (h1 : -2147483648 ≤ a.toInt + b.toInt) (h2 : a.toInt + b.toInt < 2147483648) : (a + b).toInt = a.toInt + b.toInt := by
  rw [Int32.toInt_add, Int.bmod_def]
  omega
theorem tp_of (x : Int32) (h : 0 ≤ x.toInt) : x = nI x.toInt.toNat := by
  rw [tp_ei, nI_toInt (by have := tp_rng x; omega)]
  omega
theorem tp_T {n : Nat} (h : n < 2 ^ 31) : (nI n).toInt = n := nI_toInt h
theorem tp_clamp {x : Int32} (h : 0 ≤ x.toInt) : x.toNatClampNeg = x.toInt.toNat := by
  rw [tp_of x h, nI_clamp (by have := tp_rng x; omega), nI_toInt (by have := tp_rng x; omega)]
  omega
theorem tp_t1 (a b c p : Int) (h : a = b * c) : (a + p * b) * c = b * c * c + p * b * c := by grind
