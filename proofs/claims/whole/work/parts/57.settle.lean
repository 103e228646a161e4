/-! SETTLES -/
def pk8 (f : Nat → Nat) : Nat → Nat
  | 0 => 0
  | n + 1 => pk8 f n * 8 + f n
theorem pk8_lt {f : Nat → Nat} : ∀ n, (∀ k, k < n → f k < 8) → pk8 f n < 8 ^ n := by
  intro n
  induction n with
  | zero => intro _; exact Nat.one_pos
  | succ n ih =>
    intro h
    have h1 := ih (fun k hk => h k (by omega))
    have h2 := h n (by omega)
    rw [pk8, Nat.pow_succ]
    omega
theorem pk8_eq {f g : Nat → Nat} : ∀ n, (∀ k, k < n → f k < 8) → (∀ k, k < n → g k < 8) → pk8 f n = pk8 g n → ∀ k, k < n → f k = g k := by
  intro n
  induction n with
  | zero => intro _ _ _ k hk; omega
  | succ n ih =>
    intro h1 h2 h k hk
    have a1 := h1 n (by omega)
    have a2 := h2 n (by omega)
    rw [pk8, pk8] at h
    by_cases e : k = n
    · rw [e]; omega
    · exact ih (fun k hk => h1 k (by omega)) (fun k hk => h2 k (by omega)) (by omega) k (by omega)
theorem pk8_cg {f g : Nat → Nat} : ∀ n, (∀ k, k < n → f k = g k) → pk8 f n = pk8 g n := by
  intro n
  induction n with
  | zero => intro _; rfl
  | succ n ih => intro h; rw [pk8, pk8, ih (fun k hk => h k (by omega)), h n (by omega)]
theorem i64_x : ∀ x, x < 8 → (nI x).toInt64 = Int64.ofNat x := by decide +kernel
theorem i64_sh {n x : Nat} (hn : n < 2 ^ 36) (hx : x < 8) : ((Int64.ofNat n <<< ((3 : Int32).toInt64 &&& 63)) ||| (nI x).toInt64) = Int64.ofNat (n * 8 + x) := by
  rw [i64_x x hx]
  apply Int64.toBitVec_inj.mp
  apply BitVec.eq_of_toNat_eq
  have e : ((Int64.ofNat n <<< ((3 : Int32).toInt64 &&& 63)) ||| Int64.ofNat x).toBitVec = (BitVec.ofNat 64 n <<< 3) ||| BitVec.ofNat 64 x := rfl
  rw [e, BitVec.toNat_or, BitVec.toNat_shiftLeft, BitVec.toNat_ofNat, BitVec.toNat_ofNat, Nat.mod_eq_of_lt (show n < 2 ^ 64 by omega), Nat.mod_eq_of_lt (show x < 2 ^ 64 by omega), Nat.shiftLeft_eq, Nat.mod_eq_of_lt (show n * 2 ^ 3 < 2 ^ 64 by omega), ← Nat.shiftLeft_eq, ← Nat.shiftLeft_add_eq_or_of_lt (by omega), Nat.shiftLeft_eq]
  show _ = (BitVec.ofNat 64 (n * 8 + x)).toNat
  rw [BitVec.toNat_ofNat, Nat.mod_eq_of_lt (by omega)]
theorem i64_inj {n m : Nat} (hn : n < 2 ^ 63) (hm : m < 2 ^ 63) (h : Int64.ofNat n = Int64.ofNat m) : n = m := by
  have h1 : (BitVec.ofNat 64 n).toNat = (BitVec.ofNat 64 m).toNat := congrArg (fun z : Int64 => z.toBitVec.toNat) h
  rw [BitVec.toNat_ofNat, BitVec.toNat_ofNat, Nat.mod_eq_of_lt (by omega), Nat.mod_eq_of_lt (by omega)] at h1
  exact h1
theorem lg_cmp_z (x y : Int64) : lg_cmp x y = 0 ↔ x = y := by
  unfold lg_cmp
  by_cases h : x > y
  · rw [if_pos h]
    have : ¬ x = y := fun e => by
      rw [e] at h
      have := Int64.lt_iff_toInt_lt.mp h
      omega
    exact ⟨fun w => absurd w (by decide), fun w => absurd w this⟩
  · rw [if_neg h]
    by_cases e : x = y
    · rw [if_pos e]; exact ⟨fun _ => e, fun _ => rfl⟩
    · rw [if_neg e]; exact ⟨fun w => absurd w (by decide), fun w => absurd w e⟩
theorem tp_wl2 {M : tv_M} {k j a i : Nat} {x : Int64} : (tv_wl M k j x).2 a i = if a = k ∧ i = j then x else M.2 a i := rfl
section SETTLE
variable {F p : Nat} {a b c : Int32} {M N : tv_M} {T R H : Nat → Nat → Nat} {row : Nat → Nat}
theorem he_pack {f : Nat} {fI : Int32} {r : Nat → Nat} (hF : 60 < F) (hf : f = 0 ∨ f = 12) (hfI : fI = nI f) (hr : ∀ c, c < 24 → M.1 197 c = nI (r c)) (h8 : ∀ c, r c < 8) : He_packed F fI M = some (Int64.ofNat (pk8 (fun k => r (f + k)) 12), M) := by
  subst hfI
  have hh : ∀ d k nn, k + d = 12 → d < nn → He_packed_L5 F nn (nI f) (Int64.ofNat (pk8 (fun k => r (f + k)) k)) (nI (f + k)) M = some (Int64.ofNat (pk8 (fun k => r (f + k)) 12), M) := by
    intro d
    induction d with
    | zero =>
      intro k nn e1 e2
      obtain ⟨nn, rfl⟩ : ∃ n', nn = n' + 1 := ⟨nn - 1, by omega⟩
      rw [show k = 12 by omega, He_packed_L5, show nI f + 12 = nI (f + 12) from nI_add f 12, if_pos (nI_le (Nat.le_refl _) (by omega))]
    | succ d ih =>
      intro k nn e1 e2
      obtain ⟨nn, rfl⟩ : ∃ n', nn = n' + 1 := ⟨nn - 1, by omega⟩
      have hp := pk8_lt (f := fun k => r (f + k)) k (fun k _ => h8 _)
      have hp2 : 8 ^ k ≤ 8 ^ 12 := Nat.pow_le_pow_right (by omega) (by omega)
      rw [He_packed_L5, show nI f + 12 = nI (f + 12) from nI_add f 12, if_neg (nI_ge (by omega) (by omega)), tp_rd (by omega) (by decide), hr _ (by omega), i64_sh (by omega) (h8 _), nI_1]
      exact ih (k + 1) nn (by omega) (by omega)
  exact hh 12 0 F (by omega) (by omega)
theorem rq_iff {t k : Nat} : rq p T H row t k = true ↔ ∀ c, c < 24 → tkn p T H row k c = tkn p T H row t c := by
  unfold rq
  rw [an_iff]
  exact ⟨fun h c hc => of_decide_eq_true (h c hc), fun h c hc => decide_eq_true (h c hc)⟩
theorem he_like {t : Nat} (hF : 400 < F) (ht : t ≤ 300) (h8 : ∀ n c, tkn p T H row n c < 8) (hlo : ∀ i, i ≤ t → M.2 199 i = Int64.ofNat (pk8 (fun k => tkn p T H row i (0 + k)) 12)) (hhi : ∀ i, i ≤ t → M.2 200 i = Int64.ofNat (pk8 (fun k => tkn p T H row i (12 + k)) 12)) : He_firstLike F (nI t) M = some (nI (sk p T H row t), M) := by
  have hb : ∀ i f, pk8 (fun k => tkn p T H row i (f + k)) 12 < 2 ^ 63 := fun i f => Nat.lt_of_lt_of_le (pk8_lt 12 (fun k _ => h8 _ _)) (by decide)
  have hq : ∀ i, i ≤ t → ((lg_cmp (M.2 199 i) (M.2 199 t) = 0 ∧ lg_cmp (M.2 200 i) (M.2 200 t) = 0) ↔ rq p T H row t i = true) := fun i hi => by
    rw [lg_cmp_z, lg_cmp_z, hlo i hi, hlo t (Nat.le_refl _), hhi i hi, hhi t (Nat.le_refl _), rq_iff]
    constructor
    · rintro ⟨h1, h2⟩ c hc
      have h1 := pk8_eq 12 (fun k _ => h8 _ _) (fun k _ => h8 _ _) (i64_inj (hb _ _) (hb _ _) h1)
      have h2 := pk8_eq 12 (fun k _ => h8 _ _) (fun k _ => h8 _ _) (i64_inj (hb _ _) (hb _ _) h2)
      by_cases w : c < 12
      · have := h1 c w
        simp only [Nat.zero_add] at this
        exact this
      · have := h2 (c - 12) (by omega)
        simp only [show 12 + (c - 12) = c by omega] at this
        exact this
    · intro h
      exact ⟨by rw [pk8_cg 12 (fun k hk => h (0 + k) (by omega))], by rw [pk8_cg 12 (fun k hk => h (12 + k) (by omega))]⟩
  have hh : ∀ d i nn, i + d = t → d < nn → (∀ k, k < i → rq p T H row t k = false) → He_firstLike_L18 F nn (nI t) (M.2 199 t) (M.2 200 t) (nI i) M = some (nI (sk p T H row t), M) := by
    intro d
    induction d with
    | zero =>
      intro i nn e1 e2 hno
      obtain ⟨nn, rfl⟩ : ∃ n', nn = n' + 1 := ⟨nn - 1, by omega⟩
      have ei : i = t := by omega
      subst ei
      rw [He_firstLike_L18, if_pos (nI_le (Nat.le_refl _) (by omega))]
      unfold sk
      rw [el_find_no hno]
    | succ d ih =>
      intro i nn e1 e2 hno
      obtain ⟨nn, rfl⟩ : ∃ n', nn = n' + 1 := ⟨nn - 1, by omega⟩
      have hi := ih (i + 1) nn (by omega) (by omega)
      rw [He_firstLike_L18, if_neg (nI_ge (by omega) (by omega)), tp_rdl (by omega) (by decide), tp_rdl (by omega) (by decide), nI_1]
      by_cases q : rq p T H row t i = true
      · have h2 := (hq i (by omega)).mpr q
        rw [if_pos h2.1, if_pos h2.2]
        unfold sk
        rw [el_find_at hno (by omega) q]
      · have hi := hi (fun k hk => by
          by_cases w : k = i
          · rw [w]; exact Bool.eq_false_iff.mpr q
          · exact hno k (by omega))
        by_cases h1 : lg_cmp (M.2 199 i) (M.2 199 t) = 0
        · rw [if_pos h1, if_neg (fun w => q ((hq i (by omega)).mp ⟨h1, w⟩))]; exact hi
        · rw [if_neg h1]; exact hi
  unfold He_firstLike
  rw [tp_rdl (by omega) (by decide), tp_rdl (by omega) (by decide)]
  exact hh t 0 F (by omega) (by omega) (fun k hk => absurd hk (Nat.not_lt_zero k))
/-- what settle may change -/
def fE (M M' : tv_M) : Prop := ∀ a i, a ≠ 197 → a ≠ 198 → ¬ (a = 193 ∧ (i = 9 ∨ i = 10 ∨ i = 11 ∨ i = 12)) → M'.1 a i = M.1 a i
def seR (M : tv_M) (p : Nat) (T H : Nat → Nat → Nat) (row : Nat → Nat) : Prop := (st1 p T H row < 301 ∧ M.1 193 11 = 0 ∧ M.1 193 9 = nI (sk p T H row (st1 p T H row)) ∧ M.1 193 10 = nI (st1 p T H row - sk p T H row (st1 p T H row))) ∨ (st1 p T H row = 301 ∧ M.1 193 11 = 1)
theorem he_settle (hF : 1000 < F) (hp : tp_pr p) (hT : gT p T) (hH : gH p T H) (cc : cT M p T) (ch : cH M H) : ∃ M', He_settle F M = some ((), M') ∧ seR M' p T H (H 2) ∧ fE M M' := by
  have hp7 := hp.lt
  have hok := tkn_ok (show 0 < p by omega) hT hH hH.2.2.2
  have h8 : ∀ n c, tkn p T H (H 2) n c < 8 := fun n c => by have := (hok n c).1; omega
  have hskle : ∀ t, sk p T H (H 2) t ≤ t := fun t => (el_find_P t _).1
  have hh : ∀ d t nn M', t + d = 301 → d < nn → fE M M' → M'.1 193 11 = 0 → (∀ c, c < 24 → M'.1 197 c = nI (tkn p T H (H 2) t c)) → (∀ i, i < t → M'.2 199 i = Int64.ofNat (pk8 (fun k => tkn p T H (H 2) i (0 + k)) 12)) → (∀ i, i < t → M'.2 200 i = Int64.ofNat (pk8 (fun k => tkn p T H (H 2) i (12 + k)) 12)) → (∀ t', t' < t → decide (sk p T H (H 2) t' < t') = false) → ∃ M'', He_settle_L22 F nn (nI t) M' = some ((), M'') ∧ seR M'' p T H (H 2) ∧ fE M M'' := by
    intro d
    induction d with
    | zero =>
      intro t nn M' k1 k2 f1 f2 f3 f4 f5 f6
      obtain ⟨nn, rfl⟩ : ∃ n', nn = n' + 1 := ⟨nn - 1, by omega⟩
      rw [He_settle_L22, if_pos (show (300 : Int32) < nI t from nI_lt (a := 300) (by omega) (by omega)), tp_pf]
      refine ⟨_, rfl, Or.inr ⟨?_, tp_ws⟩, fun a i z1 z2 z3 => by rw [tp_w, if_neg (by omega)]; exact f1 a i z1 z2 z3⟩
      exact el_find_no (fun k hk => f6 k (by omega))
    | succ d ih =>
      intro t nn M' k1 k2 f1 f2 f3 f4 f5 f6
      obtain ⟨nn, rfl⟩ : ∃ n', nn = n' + 1 := ⟨nn - 1, by omega⟩
      have e1 := he_pack (F := F) (M := M') (f := 0) (fI := 0) (r := tkn p T H (H 2) t) (by omega) (Or.inl rfl) rfl f3 (h8 t)
      rw [He_settle_L22, if_neg (show ¬ (300 : Int32) < nI t from nI_nlt (a := 300) (by omega) (by omega)), tp_cb e1, tp_wrl (by omega) (by decide)]
      have e2 := he_pack (F := F) (M := tv_wl M' 199 t (Int64.ofNat (pk8 (fun k => tkn p T H (H 2) t (0 + k)) 12))) (f := 12) (fI := 12) (r := tkn p T H (H 2) t) (by omega) (Or.inr rfl) rfl f3 (h8 t)
      rw [tp_cb e2, tp_wrl (by omega) (by decide)]
      have g1 : ∀ a i, (tv_wl (tv_wl M' 199 t (Int64.ofNat (pk8 (fun k => tkn p T H (H 2) t (0 + k)) 12))) 200 t (Int64.ofNat (pk8 (fun k => tkn p T H (H 2) t (12 + k)) 12))).1 a i = M'.1 a i := fun _ _ => rfl
      have g2 : ∀ i, i ≤ t → (tv_wl (tv_wl M' 199 t (Int64.ofNat (pk8 (fun k => tkn p T H (H 2) t (0 + k)) 12))) 200 t (Int64.ofNat (pk8 (fun k => tkn p T H (H 2) t (12 + k)) 12))).2 199 i = Int64.ofNat (pk8 (fun k => tkn p T H (H 2) i (0 + k)) 12) := fun i hi => by
        rw [tp_wl2, tp_wl2, if_neg (by omega)]
        by_cases w : i = t
        · rw [if_pos ⟨rfl, w⟩, w]
        · rw [if_neg (fun z => w z.2)]; exact f4 i (by omega)
      have g3 : ∀ i, i ≤ t → (tv_wl (tv_wl M' 199 t (Int64.ofNat (pk8 (fun k => tkn p T H (H 2) t (0 + k)) 12))) 200 t (Int64.ofNat (pk8 (fun k => tkn p T H (H 2) t (12 + k)) 12))).2 200 i = Int64.ofNat (pk8 (fun k => tkn p T H (H 2) i (12 + k)) 12) := fun i hi => by
        rw [tp_wl2, tp_wl2]
        by_cases w : i = t
        · rw [if_pos ⟨rfl, w⟩, w]
        · rw [if_neg (fun z => w z.2), if_neg (by omega)]; exact f5 i (by omega)
      generalize tv_wl (tv_wl M' 199 t (Int64.ofNat (pk8 (fun k => tkn p T H (H 2) t (0 + k)) 12))) 200 t (Int64.ofNat (pk8 (fun k => tkn p T H (H 2) t (12 + k)) 12)) = M2 at g1 g2 g3
      have hsk := hskle t
      rw [tp_cb (he_like (F := F) (by omega) (by omega) h8 g2 g3)]
      by_cases q : sk p T H (H 2) t < t
      · rw [if_neg (nI_ge q (by omega)), tp_pf, tp_pf]
        have hst : st1 p T H (H 2) = t := el_find_at f6 (by omega) (decide_eq_true q)
        refine ⟨_, rfl, Or.inl ⟨by rw [hst]; omega, ?_, ?_, ?_⟩, fun a i z1 z2 z3 => ?_⟩
        · rw [tp_wj (by omega), tp_wj (by omega), g1]; exact f2
        · rw [tp_wj (by omega), tp_ws, hst]
        · rw [tp_ws, hst, nI_sub (by omega)]
        · rw [tp_w, if_neg (by omega), tp_w, if_neg (by omega), g1]; exact f1 a i z1 z2 z3
      · rw [if_pos (nI_le (by omega) (by omega))]
        have cc2 : cT M2 p T := cc.cg hT (fun a i q => by rw [g1]; exact f1 a i (by have := q.2.1; omega) (by have := q.2.1; omega) (by have := q.2.1; omega))
        obtain ⟨M3, z1, z2, z3, z4⟩ := he_all (F := F) (M := M2) (row := tkn p T H (H 2) t) (Or.inr rfl) (by omega) hp hT hH cc2 (fun e he => by rw [g1, f1 _ _ (by omega) (by omega) (by omega)]; exact ch.2.1 e he) (fun e he v => by rw [g1, f1 _ _ (by omega) (by omega) (by omega)]; exact ch.2.2.1 e he v) (fun c hc => by rw [g1]; exact f3 c hc) (fun c => (hok t c).1)
        rw [tp_cb z1, nI_1]
        refine ih (t + 1) nn M3 (by omega) (by omega) (fun a i v1 v2 v3 => by rw [z3 a i v1 v2, g1]; exact f1 a i v1 v2 v3) (by rw [z3 _ _ (by omega) (by omega), g1]; exact f2) z2 (fun i hi => by rw [z4]; exact g2 i (by omega)) (fun i hi => by rw [z4]; exact g3 i (by omega)) (fun t' ht => ?_)
        by_cases w : t' = t
        · rw [w]; exact decide_eq_false q
        · exact f6 t' (by omega)
  unfold He_settle
  rw [tp_cpy0 (x := 24) (n := 24) rfl (by decide) (by omega) (by omega), tp_pf]
  exact hh 301 0 F _ (by omega) (by omega) (fun a i v1 v2 v3 => by rw [tp_w, if_neg (by omega), tp_wc1, if_neg v1]) tp_ws (fun c hc => by rw [tp_wk (by omega), tp_wc1, if_pos rfl, if_pos hc]; exact ch.2.2.2 c hc) (fun i hi => absurd hi (Nat.not_lt_zero i)) (fun i hi => absurd hi (Nat.not_lt_zero i)) (fun t' ht => absurd ht (Nat.not_lt_zero t'))
theorem he_spent (hF : 1000 < F) (hp : tp_pr p) (hT : gT p T) (hH : gH p T H) (cc : cT M p T) (ch : cH M H) (ck : cHk M p T H) : ∃ M', He_isSpent F M = some (if st1 p T H (H 2) < 301 then 0 else 1, M') ∧ M'.1 193 12 = 1 ∧ seR M' p T H (H 2) ∧ fE M M' := by
  have hv : ∀ M', seR M' p T H (H 2) → M'.1 193 11 = (if st1 p T H (H 2) < 301 then 0 else 1) := fun M' h => by
    rcases h with h | h
    · rw [if_pos h.1]; exact h.2.1
    · rw [if_neg (by rw [h.1]; omega)]; exact h.2
  have h01 : (if st1 p T H (H 2) < 301 then (0 : Int32) else 1) = 0 ∨ (if st1 p T H (H 2) < 301 then (0 : Int32) else 1) = 1 := by
    by_cases w : st1 p T H (H 2) < 301
    · rw [if_pos w]; exact Or.inl rfl
    · rw [if_neg w]; exact Or.inr rfl
  unfold He_isSpent
  rcases ck with k0 | ⟨k0, k1⟩
  · obtain ⟨M', x1, x2, x3⟩ := he_settle (F := F) hF hp hT hH cc ch
    have x2' : seR (tv_w M' 193 12 1) p T H (H 2) := by
      rcases x2 with h | h
      · exact Or.inl ⟨h.1, by rw [tp_wj (by omega)]; exact h.2.1, by rw [tp_wj (by omega)]; exact h.2.2.1, by rw [tp_wj (by omega)]; exact h.2.2.2⟩
      · exact Or.inr ⟨h.1, by rw [tp_wj (by omega)]; exact h.2⟩
    rw [if_pos k0, tp_cb x1, tp_pf, hv _ x2', tp_zo h01]
    exact ⟨_, rfl, tp_ws, x2', fun a i v1 v2 v3 => by rw [tp_w, if_neg (by omega)]; exact x3 a i v1 v2 v3⟩
  · rw [if_neg (by rw [k0]; decide), hv M k1, tp_zo h01]
    exact ⟨M, rfl, k0, k1, fun _ _ _ _ _ => rfl⟩
end SETTLE
