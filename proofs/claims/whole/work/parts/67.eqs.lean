/-! EQUATIONS IN HOW OFTEN EACH ROW OF THE BASIS IS TAKEN -/
def ew (p K : Nat) (u : Nat → Nat) (k : Nat) : Nat := if k < K then u k else p - 1
theorem lam_ew {p K : Nat} {u r : Nat → Nat} : lam (ew p K u) r (K + 1) = lam u r K + r K * (p - 1) := by
  have h1 : ∀ X, X ≤ K → lam (ew p K u) r X = lam u r X := by
    intro X
    induction X with
    | zero => intro _; rfl
    | succ X ih => intro hX; rw [lam, lam, ih (by omega)]; unfold ew; rw [if_pos (by omega)]
  rw [lam, h1 K (Nat.le_refl _)]
  unfold ew
  rw [if_neg (Nat.lt_irrefl _)]
def gE (p K m : Nat) (E : Nat → Nat → Nat) (led : Nat → Nat) : Prop := ∀ i, i < m → led i < K ∧ E i (led i) = 1 ∧ (∀ k, k ≤ K → E i k < p) ∧ ∀ j, j < i → E i (led j) = 0
def sE (p K m : Nat) (E : Nat → Nat → Nat) (u : Nat → Nat) : Prop := ∀ i, i < m → lam (ew p K u) (E i) (K + 1) % p = 0
theorem lam_up {w r : Nat → Nat} {t x : Nat} : ∀ X, lam (fun k => if k = t then x else w k) r X = lam (fun k => if k = t then 0 else w k) r X + if t < X then r t * x else 0 := by
  intro X
  induction X with
  | zero => rfl
  | succ X ih =>
    rw [lam, lam, ih]
    by_cases e : X = t
    · rw [if_pos e, if_pos e, if_neg (by omega), if_pos (by omega), e, Nat.mul_zero]
    · rw [if_neg e, if_neg e]
      by_cases q : t < X
      · rw [if_pos q, if_pos (by omega)]; omega
      · rw [if_neg q, if_neg (by omega)]; omega
theorem eq_solv {p K m : Nat} {E : Nat → Nat → Nat} {led : Nat → Nat} (hp : tp_pr p) (h : gE p K m E led) : ∃ u, sE p K m E u := by
  have hp7 := hp.lt
  have hh : ∀ d j, j + d = m → ∃ u, ∀ i, j ≤ i → i < m → lam (ew p K u) (E i) (K + 1) % p = 0 := by
    intro d
    induction d with
    | zero => intro j hj; exact ⟨fun _ => 0, fun i h1 h2 => by omega⟩
    | succ d ih =>
      intro j hj
      obtain ⟨u, hu⟩ := ih (j + 1) (by omega)
      obtain ⟨h1, h2, h3, h4⟩ := h j (by omega)
      have hew : ∀ x, ew p K (fun k => if k = led j then x else u k) = fun k => if k = led j then x else ew p K u k := fun x => by
        funext k
        unfold ew
        dsimp only
        by_cases e : k = led j
        · rw [if_pos e, if_pos e, if_pos (by omega)]
        · rw [if_neg e, if_neg e]
      refine ⟨fun k => if k = led j then (p - lam (fun k => if k = led j then 0 else ew p K u k) (E j) (K + 1) % p) % p else u k, fun i i1 i2 => ?_⟩
      rw [hew]
      by_cases e : i = j
      · rw [e, lam_up, if_pos (by omega), h2, Nat.one_mul]
        generalize lam (fun k => if k = led j then 0 else ew p K u k) (E j) (K + 1) = x
        rcases hp with rfl | rfl | rfl | rfl <;> omega
      · have := hu i (by omega) i2
        rw [← this]
        congr 1
        refine lam_cg _ (fun k _ => ?_)
        by_cases w : k = led j
        · rw [w, (h i i2).2.2.2 j (by omega), Nat.zero_mul, Nat.zero_mul]
        · rw [if_neg w]
  obtain ⟨u, hu⟩ := hh m 0 (by omega)
  exact ⟨u, fun i hi => hu i (by omega) hi⟩
/-- a row with the others taken off -/
def tfo (p : Nat) (E : Nat → Nat → Nat) (led r : Nat → Nat) : Nat → Nat → Nat
  | 0, k => r k
  | i + 1, k => (tfo p E led r i k + (p - tfo p E led r i (led i)) * E i k) % p
section EQS
variable {F p K m c w : Nat} {M : tv_M} {T R E : Nat → Nat → Nat} {led r u : Nat → Nat}
theorem tfo_lt (hp : 0 < p) (hr : ∀ k, k ≤ K → r k < p) : ∀ i k, k ≤ K → tfo p E led r i k < p := by
  intro i
  cases i with
  | zero => exact hr
  | succ i => intro k _; exact Nat.mod_lt _ hp
theorem tfo_0 (hp : 0 < p) (h : gE p K m E led) (hr : ∀ k, k ≤ K → r k < p) : ∀ i, i ≤ m → ∀ j, j < i → tfo p E led r i (led j) = 0 := by
  intro i
  induction i with
  | zero => intro _ j hj; omega
  | succ i ih =>
    intro hi j hj
    obtain ⟨h1, h2, h3, h4⟩ := h i (by omega)
    rw [tfo]
    by_cases e : j = i
    · have := tfo_lt (E := E) (led := led) hp hr i (led i) (by omega)
      rw [e, h2, Nat.mul_one, Nat.add_sub_cancel' (by omega), Nat.mod_self]
    · rw [ih (by omega) j (by omega), h4 j (by omega), Nat.mul_zero]; exact Nat.zero_mod p
theorem tfo_s (hu : sE p K m E u) : ∀ i, i ≤ m → lam (ew p K u) (tfo p E led r i) (K + 1) % p = lam (ew p K u) r (K + 1) % p := by
  intro i
  induction i with
  | zero => intro _; rfl
  | succ i ih =>
    intro hi
    rw [show tfo p E led r (i + 1) = fun k => (tfo p E led r i k + (p - tfo p E led r i (led i)) * E i k) % p from rfl, lam_lin, Nat.add_mod, ih (by omega), Nat.mul_mod, hu i (by omega), Nat.mul_zero, Nat.zero_mod, Nat.add_zero, Nat.mod_mod]
/-- the equations in the class's cells -/
def eqS (M : tv_M) (m K : Nat) (E : Nat → Nat → Nat) (led : Nat → Nat) : Prop := M.1 165 4 = nI m ∧ M.1 165 5 = nI K ∧ ∀ i, i < m → (∀ k, k ≤ K → M.1 (167 + i) k = nI (E i k)) ∧ M.1 192 i = nI (led i)
theorem dr_P : ∀ i, i < 25 → tv_P0 166 i = some (167 + i) ∧ tv_lay[167 + i]? = some (20, 25) := by decide +kernel
theorem dr_off (hF : 60 < F) (hp : tp_pr p) (hK : K ≤ 24) (hm : m ≤ 24) (cp : M.1 18 0 = nI p) (hs : eqS M m K E led) (hg : gE p K m E led) (hr : ∀ k, k ≤ K → M.1 (167 + m) k = nI (r k) ∧ r k < p) : ∃ M', Dr_takeOffOthers F (167 + m) M = some ((), M') ∧ (∀ k, k ≤ K → M'.1 (167 + m) k = nI (tfo p E led r m k)) ∧ ∀ a i, a ≠ 167 + m → M'.1 a i = M.1 a i := by
  have hp7 := hp.lt
  have hmP := (dr_P m (by omega)).2
  have htl := fun i => tfo_lt (E := E) (led := led) (show 0 < p by omega) (fun k hk => (hr k hk).2) i
  have hh : ∀ d i nn M', i + d = m → d < nn → (∀ k, k ≤ K → M'.1 (167 + m) k = nI (tfo p E led r i k)) → (∀ a j, a ≠ 167 + m → M'.1 a j = M.1 a j) → ∃ M'', Dr_takeOffOthers_L2 F nn (167 + m) (nI i) M' = some ((), M'') ∧ (∀ k, k ≤ K → M''.1 (167 + m) k = nI (tfo p E led r m k)) ∧ ∀ a i, a ≠ 167 + m → M''.1 a i = M.1 a i := by
    intro d
    induction d with
    | zero =>
      intro i nn M' e1 e2 f1 f2
      obtain ⟨nn, rfl⟩ : ∃ n', nn = n' + 1 := ⟨nn - 1, by omega⟩
      rw [show i = m by omega] at f1 ⊢
      rw [Dr_takeOffOthers_L2, tp_gn hmP, f2 165 4 (by omega), hs.1, if_pos (nI_le (Nat.le_refl _) (by omega))]
      exact ⟨M', rfl, f1, f2⟩
    | succ d ih =>
      intro i nn M' e1 e2 f1 f2
      obtain ⟨nn, rfl⟩ : ∃ n', nn = n' + 1 := ⟨nn - 1, by omega⟩
      obtain ⟨g1, g2, g3, g4⟩ := hg i (by omega)
      obtain ⟨s1, s2⟩ := hs.2.2 i (by omega)
      obtain ⟨q1, q2⟩ := dr_P i (by omega)
      have hl := htl i (led i) (by omega)
      rw [Dr_takeOffOthers_L2, tp_gn hmP, f2 165 4 (by omega), hs.1, if_neg (nI_ge (by omega) (by omega)), tp_rd (by omega) (by decide), f2 192 i (by omega), s2, tp_rd (by omega) (by decide), f1 (led i) (by omega), nI_1]
      by_cases z : tfo p E led r i (led i) = 0
      · rw [if_pos ((nI_z (by omega)).mpr z)]
        refine ih (i + 1) nn M' (by omega) (by omega) (fun k hk => ?_) f2
        rw [f1 k hk, tfo, z, Nat.sub_zero, Nat.add_mul_mod_self_left, Nat.mod_eq_of_lt (htl i k hk)]
      · rw [if_neg (fun v => z ((nI_z (by omega)).mp v)), tp_ap (by omega) (by decide) q1, tp_gn q2, f2 18 0 (by omega), cp, f2 165 5 (by omega), hs.2.1, nI_1, nI_sub (by omega)]
        obtain ⟨u1, M2, y1, y2, y3, y4⟩ := xx_times (F := F) (a := 167 + m) (b := 167 + i) (W := K + 1) (p := p) (tm := p - tfo p E led r i (led i)) (ra := tfo p E led r i) (rb := E i) (M := M') hF hmP q2 (by omega) (by omega) (by omega) (by omega) (by omega) hp (by omega) (fun x hx => ⟨f1 x (by omega), htl i x (by omega)⟩) (fun x hx => ⟨by rw [f2 _ _ (by omega)]; exact s1 x (by omega), g3 x (by omega)⟩)
        rw [tp_cb y1]
        exact ih (i + 1) nn M2 (by omega) (by omega) (fun k hk => y2 k (by omega)) (fun a j v => (y4 a j v).trans (f2 a j v))
  unfold Dr_takeOffOthers
  rw [tp_gn hmP]
  exact hh m 0 F M (by omega) (by omega) (fun k hk => (hr k hk).1) (fun _ _ _ => rfl)
theorem dr_first (hF : 60 < F) (hK : K ≤ 24) (hm : m ≤ 24) (hs5 : M.1 165 5 = nI K) (hp : p ≤ 7) (hr : ∀ k, k ≤ K → M.1 (167 + m) k = nI (r k) ∧ r k < p) : Dr_firstNotNought F (167 + m) M = some (if el_find K (fun k => decide (r k ≠ 0)) < K then nI (el_find K (fun k => decide (r k ≠ 0))) else -1, M) := by
  have hmP := (dr_P m (by omega)).2
  have hh : ∀ d k nn, k + d = K → d < nn → (∀ j, j < k → decide (r j ≠ 0) = false) → Dr_firstNotNought_L2 F nn (167 + m) (nI k) M = some (if el_find K (fun k => decide (r k ≠ 0)) < K then nI (el_find K (fun k => decide (r k ≠ 0))) else -1, M) := by
    intro d
    induction d with
    | zero =>
      intro k nn e1 e2 hno
      obtain ⟨nn, rfl⟩ : ∃ n', nn = n' + 1 := ⟨nn - 1, by omega⟩
      rw [Dr_firstNotNought_L2, tp_gn hmP, hs5, if_pos (nI_le (by omega) (by omega)), el_find_no (fun j hj => hno j (by omega)), if_neg (Nat.lt_irrefl _)]
    | succ d ih =>
      intro k nn e1 e2 hno
      obtain ⟨nn, rfl⟩ : ∃ n', nn = n' + 1 := ⟨nn - 1, by omega⟩
      obtain ⟨h1, h2⟩ := hr k (by omega)
      rw [Dr_firstNotNought_L2, tp_gn hmP, hs5, if_neg (nI_ge (by omega) (by omega)), tp_rd (by omega) (by decide), h1, nI_1]
      by_cases z : r k = 0
      · rw [if_pos ((nI_z (by omega)).mpr z)]
        exact ih (k + 1) nn (by omega) (by omega) (fun j hj => by
          by_cases e : j = k
          · rw [e]; exact decide_eq_false (fun v => v z)
          · exact hno j (by omega))
      · have e : el_find K (fun k => decide (r k ≠ 0)) = k := el_find_at hno (by omega) (decide_eq_true z)
        rw [if_neg (fun v => z ((nI_z (by omega)).mp v)), e, if_pos (by omega)]
  unfold Dr_firstNotNought
  rw [tp_gn hmP]
  exact hh K 0 F (by omega) (by omega) (fun j hj => absurd hj (Nat.not_lt_zero j))
/-- the row of a column's equation -/
def er (p : Nat) (T : Nat → Nat → Nat) (c w k : Nat) : Nat := if k < kk p T then bs p (tL T) (ru p T 99) (fkk p T k) c else w
theorem er_iff (hp : tp_pr p) (hw : w < p) : lam (ew p (kk p T) u) (er p T c w) (kk p T + 1) % p = 0 ↔ vu p T u c % p = w := by
  have e1 : er p T c w (kk p T) = w := by unfold er; rw [if_neg (Nat.lt_irrefl _)]
  rw [lam_ew, e1, vw_iff hp hw]
  have e2 : lam u (er p T c w) (kk p T) = vu p T u c := lam_cg _ (fun k hk => by unfold er; rw [if_pos hk])
  rw [e2]
def fD (m : Nat) (M M' : tv_M) : Prop := ∀ a i, ¬ (167 + m ≤ a ∧ a < 192) → ¬ (a = 192 ∧ m ≤ i) → ¬ (a = 165 ∧ i = 4) → M'.1 a i = M.1 a i
theorem eqS.fD {M M' : tv_M} {m' : Nat} (h : eqS M m K E led) (hf : fD m' M M') (hm : m ≤ m') (hm2 : m ≤ 25) (h4 : M'.1 165 4 = nI m) : eqS M' m K E led := ⟨h4, by rw [hf _ _ (by omega) (by omega) (by omega)]; exact h.2.1, fun i hi => ⟨fun k hk => by rw [hf _ _ (by omega) (by omega) (by omega)]; exact (h.2.2 i hi).1 k hk, by rw [hf _ _ (by omega) (by omega) (by omega)]; exact (h.2.2 i hi).2⟩⟩
theorem dr_add (hF : 60 < F) (hp : tp_pr p) (hT : gT p T) (cc : cT M p T) (ca : cA M p T) (hm : m ≤ 23) (hs : eqS M m (kk p T) E led) (hg : gE p (kk p T) m E led) (hc : c < tC T) (hw : w < p) : ∃ (res : Int32) (M' : tv_M), Dr_addEquation F (nI c) (nI w) M = some (res, M') ∧ fD m M M' ∧ ((res = 1 ∧ ∃ m' E' led', m ≤ m' ∧ m' ≤ m + 1 ∧ eqS M' m' (kk p T) E' led' ∧ gE p (kk p T) m' E' led' ∧ ∀ u, sE p (kk p T) m' E' u ↔ (sE p (kk p T) m E u ∧ vu p T u c % p = w)) ∨ (res = 0 ∧ ∀ u, sE p (kk p T) m E u → ¬ vu p T u c % p = w)) := by
  have hp7 := hp.lt
  have hC := hT.C
  have hL := hT.L
  have hK : kk p T ≤ 24 := by unfold kk; omega
  obtain ⟨q1, q2⟩ := dr_P m (by omega)
  have hel : ∀ k, er p T c w k < p := fun k => by
    unfold er
    by_cases z : k < kk p T
    · rw [if_pos z]; exact bs_lt (by omega)
    · rw [if_neg z]; exact hw
  have hL24 : ∀ d k nn M', k + d = kk p T → d < nn → (∀ j, j < k → M'.1 (167 + m) j = nI (er p T c w j)) → (∀ a j, a ≠ 167 + m → M'.1 a j = M.1 a j) → ∃ M'', Dr_addEquation_L24 F nn (nI c) (nI w) (167 + m) (nI k) M' = tv_cb (Dr_takeOffOthers F (167 + m) M'') (fun r7 M8 => tv_cb (Dr_firstNotNought F (167 + m) M8) (fun r9 M10 => if 0 ≤ r9 then tv_rd M10 (167 + m) 25 r9 (fun x11 => tv_cb (Xx_inverseOf F x11 (M10.1 18 0) M10) (fun r12 M13 => Dr_addEquation_L111 F F (167 + m) r9 r12 0 M13)) else tv_rd M10 (167 + m) 25 (M10.1 165 5) (fun x14 => if x14 = 0 then some (1, M10) else some (0, M10)))) ∧ (∀ k, k ≤ kk p T → M''.1 (167 + m) k = nI (er p T c w k)) ∧ ∀ a j, a ≠ 167 + m → M''.1 a j = M.1 a j := by
    intro d
    induction d with
    | zero =>
      intro k nn M' e1 e2 f1 f2
      obtain ⟨nn, rfl⟩ : ∃ n', nn = n' + 1 := ⟨nn - 1, by omega⟩
      rw [Dr_addEquation_L24, tp_gn q2, f2 165 5 (by omega), hs.2.1, if_pos (nI_le (by omega) (by omega)), tp_wr (by omega) (by decide)]
      refine ⟨_, rfl, fun j hj => ?_, fun a j v => by rw [tp_wk v]; exact f2 a j v⟩
      rw [tp_w]
      by_cases z : j = kk p T
      · rw [if_pos ⟨rfl, z⟩]; unfold er; rw [if_neg (by omega)]
      · rw [if_neg (fun v => z v.2)]; exact f1 j (by omega)
    | succ d ih =>
      intro k nn M' e1 e2 f1 f2
      obtain ⟨nn, rfl⟩ : ∃ n', nn = n' + 1 := ⟨nn - 1, by omega⟩
      have hk : k < kk p T := by omega
      obtain ⟨k1, k2, k3⟩ := fkk_P hk
      have cc' : cT M' p T := cc.cg hT (fun a i q => f2 a i (by have := q.2.1; omega))
      have ca' : cA M' p T := ca.cg hT (fun a i z1 z2 => f2 a i (by omega)) (f2 _ _ (by omega)) (f2 _ _ (by omega))
      have eb := ag_basis (F := F) (f := fkk p T k) hp hT cc' ca' k1 k2 hc
      have k3 : fkk p T k - el_rk (tL T) (ru p T 99).2.2 (fkk p T k) = k := k3
      rw [k3] at eb
      rw [Dr_addEquation_L24, tp_gn q2, f2 165 5 (by omega), hs.2.1, if_neg (nI_ge hk (by omega)), tp_cb eb, tp_wr (by omega) (by decide), nI_1]
      refine ih (k + 1) nn _ (by omega) (by omega) (fun j hj => ?_) (fun a j v => by rw [tp_wk v]; exact f2 a j v)
      rw [tp_w]
      by_cases z : j = k
      · rw [if_pos ⟨rfl, z⟩, z]; unfold er; rw [if_pos hk]
      · rw [if_neg (fun v => z v.2)]; exact f1 j (by omega)
  obtain ⟨M1, a1, a2, a3⟩ := hL24 (kk p T) 0 F M (by omega) (by omega) (fun j hj => absurd hj (Nat.not_lt_zero j)) (fun _ _ _ => rfl)
  have a1 : Dr_addEquation_L24 F F (nI c) (nI w) (167 + m) 0 M = _ := a1
  have hs1 : eqS M1 m (kk p T) E led := ⟨by rw [a3 _ _ (by omega)]; exact hs.1, by rw [a3 _ _ (by omega)]; exact hs.2.1, fun i hi => ⟨fun k hk => by rw [a3 _ _ (by omega)]; exact (hs.2.2 i hi).1 k hk, by rw [a3 _ _ (by omega)]; exact (hs.2.2 i hi).2⟩⟩
  obtain ⟨M2, b1, b2, b3⟩ := dr_off (F := F) (r := er p T c w) hF hp hK (by omega) (by rw [a3 _ _ (by omega)]; exact cc.1) hs1 hg (fun k hk => ⟨a2 k hk, hel k⟩)
  have htl := fun k hk => tfo_lt (E := E) (led := led) (K := kk p T) (show 0 < p by omega) (fun k _ => hel k) m k hk
  have b4 : ∀ a i, a ≠ 167 + m → M2.1 a i = M.1 a i := fun a i v => (b3 a i v).trans (a3 a i v)
  have ef := dr_first (F := F) (M := M2) (r := tfo p E led (er p T c w) m) hF hK (by omega) (by rw [b4 _ _ (by omega)]; exact hs.2.1) (show p ≤ 7 by omega) (fun k hk => ⟨b2 k hk, htl k hk⟩)
  have hsol : ∀ u, sE p (kk p T) m E u → (lam (ew p (kk p T) u) (tfo p E led (er p T c w) m) (kk p T + 1) % p = 0 ↔ vu p T u c % p = w) := fun u hu => by rw [tfo_s hu m (Nat.le_refl _), er_iff hp hw]
  have ezero := tfo_0 (E := E) (led := led) (r := er p T c w) (show 0 < p by omega) hg (fun k _ => hel k) m (Nat.le_refl _)
  generalize htf : tfo p E led (er p T c w) m = t at b2 htl ef hsol ezero
  have hdr : Dr_addEquation F (nI c) (nI w) M = tv_cb (Dr_takeOffOthers F (167 + m) M1) (fun r7 M8 => tv_cb (Dr_firstNotNought F (167 + m) M8) (fun r9 M10 => if 0 ≤ r9 then tv_rd M10 (167 + m) 25 r9 (fun x11 => tv_cb (Xx_inverseOf F x11 (M10.1 18 0) M10) (fun r12 M13 => Dr_addEquation_L111 F F (167 + m) r9 r12 0 M13)) else tv_rd M10 (167 + m) 25 (M10.1 165 5) (fun x14 => if x14 = 0 then some (1, M10) else some (0, M10)))) := by
    unfold Dr_addEquation
    rw [hs.1, if_pos (show nI m ≤ 24 from nI_le (b := 24) (by omega) (by omega)), tp_ap (by omega) (by decide) q1, tp_gn q2]
    exact a1
  rw [tp_cb b1, tp_cb ef] at hdr
  obtain ⟨l1, l2, l3⟩ := el_find_P (kk p T) (fun k => decide (t k ≠ 0))
  generalize el_find (kk p T) (fun k => decide (t k ≠ 0)) = f at hdr l1 l2 l3
  have hfD2 : fD m M M2 := fun a i z1 z2 z3 => b4 a i (by omega)
  by_cases hf : f < kk p T
  · have l3 := of_decide_eq_true (l3 hf)
    have hft := htl f (by omega)
    rw [if_pos hf, if_pos (nI_pos' (by omega)), tp_rd (by omega) (by decide), b2 f (by omega), b4 18 0 (by omega), cc.1, tp_cb (xx_inv hp hft l3 (by omega))] at hdr
    obtain ⟨i1, i2, i3, -⟩ := tp_invP p (by omega) hp (t f) hft l3
    have hL111 : ∀ d k nn M', k + d = kk p T + 1 → d < nn → (∀ j, j ≤ kk p T → M'.1 (167 + m) j = nI (if j < k then t j * tp_inv p (t f) % p else t j)) → (∀ a j, a ≠ 167 + m → M'.1 a j = M.1 a j) → ∃ M'', Dr_addEquation_L111 F nn (167 + m) (nI f) (nI (tp_inv p (t f))) (nI k) M' = some (1, M'') ∧ (∀ j, j ≤ kk p T → M''.1 (167 + m) j = nI (t j * tp_inv p (t f) % p)) ∧ M''.1 192 m = nI f ∧ M''.1 165 4 = nI (m + 1) ∧ ∀ a j, a ≠ 167 + m → ¬ (a = 192 ∧ j = m) → ¬ (a = 165 ∧ j = 4) → M''.1 a j = M.1 a j := by
      intro d
      induction d with
      | zero =>
        intro k nn M' e1 e2 f1 f2
        obtain ⟨nn, rfl⟩ : ∃ n', nn = n' + 1 := ⟨nn - 1, by omega⟩
        rw [Dr_addEquation_L111, tp_gn q2, f2 165 5 (by omega), hs.2.1, if_pos (nI_lt (by omega) (by omega)), f2 165 4 (by omega), hs.1, tp_wr (by omega) (by decide), tp_wk (by omega), f2 165 4 (by omega), hs.1, nI_1, tp_pf]
        refine ⟨_, rfl, fun j hj => ?_, ?_, tp_ws, fun a j z1 z2 z3 => ?_⟩
        · rw [tp_wk (by omega), tp_wk (by omega), f1 j hj, if_pos (by omega)]
        · rw [tp_wk (by omega), tp_ws]
        · rw [tp_w, if_neg z3, tp_w, if_neg z2]; exact f2 a j z1
      | succ d ih =>
        intro k nn M' e1 e2 f1 f2
        obtain ⟨nn, rfl⟩ : ∃ n', nn = n' + 1 := ⟨nn - 1, by omega⟩
        have hkl := htl k (by omega)
        have hmul : t k * tp_inv p (t f) ≤ 7 * 7 := Nat.mul_le_mul (by omega) (by omega)
        rw [Dr_addEquation_L111, tp_gn q2, f2 165 5 (by omega), hs.2.1, if_neg (nI_nlt (by omega) (by omega)), tp_rd (by omega) (by decide), f1 k (by omega), if_neg (Nat.lt_irrefl _), f2 18 0 (by omega), cc.1, nI_mul, tp_cb (xx_rest hp (by omega)), tp_wr (by omega) (by decide), nI_1]
        refine ih (k + 1) nn _ (by omega) (by omega) (fun j hj => ?_) (fun a j v => by rw [tp_wk v]; exact f2 a j v)
        rw [tp_w]
        by_cases z : j = k
        · rw [if_pos ⟨rfl, z⟩, if_pos (by omega), z]
        · rw [if_neg (fun v => z v.2), f1 j hj]
          by_cases z2 : j < k
          · rw [if_pos z2, if_pos (by omega)]
          · rw [if_neg z2, if_neg (by omega)]
    obtain ⟨M3, d1, d2, d3, d4, d5⟩ := hL111 (kk p T + 1) 0 F M2 (by omega) (by omega) (fun j hj => by rw [if_neg (Nat.not_lt_zero j)]; exact b2 j hj) b4
    have d1 : Dr_addEquation_L111 F F (167 + m) (nI f) (nI (tp_inv p (t f))) 0 M2 = _ := d1
    rw [d1] at hdr
    refine ⟨1, M3, hdr, fun a i z1 z2 z3 => d5 a i (by omega) (by omega) z3, Or.inl ⟨rfl, m + 1, fun i k => if i = m then t k * tp_inv p (t f) % p else E i k, fun i => if i = m then f else led i, by omega, Nat.le_refl _, ⟨d4, by rw [d5 _ _ (by omega) (by omega) (by omega)]; exact hs.2.1, fun i hi => ?_⟩, fun i hi => ?_, fun u => ?_⟩⟩
    · by_cases e : i = m
      · subst e
        exact ⟨fun k hk => by dsimp only; rw [if_pos rfl]; exact d2 k hk, by dsimp only; rw [if_pos rfl]; exact d3⟩
      · obtain ⟨s1, s2⟩ := hs.2.2 i (by omega)
        exact ⟨fun k hk => by dsimp only; rw [if_neg e, d5 _ _ (by omega) (by omega) (by omega)]; exact s1 k hk, by dsimp only; rw [if_neg e, d5 _ _ (by omega) (by omega) (by omega)]; exact s2⟩
    · by_cases e : i = m
      · subst e
        dsimp only
        rw [if_pos rfl]
        refine ⟨hf, by rw [if_pos rfl, Nat.mul_comm]; exact i1, fun k _ => by rw [if_pos rfl]; exact Nat.mod_lt _ (by omega), fun j hj => ?_⟩
        rw [if_pos rfl, if_neg (by omega), ezero j hj, Nat.zero_mul, Nat.zero_mod]
      · obtain ⟨g1, g2, g3, g4⟩ := hg i (by omega)
        dsimp only
        rw [if_neg e]
        refine ⟨g1, by rw [if_neg e]; exact g2, fun k hk => by rw [if_neg e]; exact g3 k hk, fun j hj => ?_⟩
        rw [if_neg e, if_neg (by omega)]; exact g4 j hj
    · have hnew : lam (ew p (kk p T) u) (fun k => t k * tp_inv p (t f) % p) (kk p T + 1) % p = 0 ↔ lam (ew p (kk p T) u) t (kk p T + 1) % p = 0 := by
        rw [lam_sc]
        constructor
        · intro h
          have h2 : (t f * (tp_inv p (t f) * lam (ew p (kk p T) u) t (kk p T + 1))) % p = 0 := by rw [Nat.mul_mod, h, Nat.mul_zero, Nat.zero_mod]
          rw [← Nat.mul_assoc, Nat.mul_mod, Nat.mul_comm (t f), i1, Nat.one_mul, Nat.mod_mod] at h2
          exact h2
        · intro h; rw [Nat.mul_mod, h, Nat.mul_zero, Nat.zero_mod]
      constructor
      · intro h
        have hE : sE p (kk p T) m E u := fun i hi => by
          have := h i (by omega)
          dsimp only at this
          rw [show (fun k => if i = m then t k * tp_inv p (t f) % p else E i k) = E i from funext fun k => if_neg (by omega)] at this
          exact this
        refine ⟨hE, (hsol u hE).mp (hnew.mp ?_)⟩
        have := h m (by omega)
        dsimp only at this
        rw [show (fun k => if m = m then t k * tp_inv p (t f) % p else E m k) = fun k => t k * tp_inv p (t f) % p from funext fun k => if_pos rfl] at this
        exact this
      · rintro ⟨hE, hv⟩ i hi
        dsimp only
        by_cases e : i = m
        · rw [show (fun k => if i = m then t k * tp_inv p (t f) % p else E i k) = fun k => t k * tp_inv p (t f) % p from funext fun k => if_pos e]
          exact hnew.mpr ((hsol u hE).mpr hv)
        · rw [show (fun k => if i = m then t k * tp_inv p (t f) % p else E i k) = E i from funext fun k => if_neg e]
          exact hE i (by omega)
  · have hz : ∀ k, k < kk p T → t k = 0 := fun k hk => Classical.byContradiction fun v => by
      have := l2 k (by omega)
      rw [decide_eq_true v] at this
      exact Bool.noConfusion this
    have htK := htl (kk p T) (Nat.le_refl _)
    have hlam : ∀ u, lam (ew p (kk p T) u) t (kk p T + 1) = t (kk p T) * (p - 1) := fun u => by rw [lam_ew, lam_0 (kk p T) (fun x hx => by rw [hz x hx, Nat.zero_mul]), Nat.zero_add]
    rw [if_neg hf, if_neg (by decide), b4 165 5 (by omega), hs.2.1, tp_rd (by omega) (by decide), b2 _ (Nat.le_refl _)] at hdr
    have hs2 : eqS M2 m (kk p T) E led := hs.fD hfD2 (Nat.le_refl _) (by omega) (by rw [b4 _ _ (by omega)]; exact hs.1)
    by_cases z : t (kk p T) = 0
    · rw [if_pos ((nI_z (by omega)).mpr z)] at hdr
      refine ⟨1, M2, hdr, hfD2, Or.inl ⟨rfl, m, E, led, Nat.le_refl _, by omega, hs2, hg, fun u => ⟨fun h => ⟨h, (hsol u h).mp ?_⟩, fun h => h.1⟩⟩⟩
      rw [hlam, z, Nat.zero_mul, Nat.zero_mod]
    · rw [if_neg (fun v => z ((nI_z (by omega)).mp v))] at hdr
      refine ⟨0, M2, hdr, hfD2, Or.inr ⟨rfl, fun u hu hv => ?_⟩⟩
      have := (hsol u hu).mpr hv
      rw [hlam] at this
      generalize t (kk p T) = y at z htK this
      rcases hp with rfl | rfl | rfl | rfl <;> omega
end EQS
