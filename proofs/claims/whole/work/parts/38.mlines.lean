/-! the reference's told cells, and its lines -/
def mTe (N : tv_M) (T : Nat → Nat → Nat) (e : Nat) : Prop := N.1 253 e = nI (tso T e) ∧ N.1 254 e = nI (tsz T e) ∧ N.1 255 e = if tso T e = 3 then -1000000 else nI (tco T e)
def mTt (N : tv_M) (T : Nat → Nat → Nat) (t : Nat) : Prop := N.1 256 t = nI (to1 T t) ∧ N.1 257 t = nI (to2 T t) ∧ N.1 258 t = nI (trw T t) ∧ (∀ r k, r < trw T t → k < tsz T (to1 T t) → N.1 259 (18 * t + (3 * r + k)) = nI (tta T t (3 * r + k))) ∧ ∀ r k, r < trw T t → k < tsz T (to2 T t) → N.1 259 (18 * t + 9 + (3 * r + k)) = nI (ttb T t (3 * r + k))
def mTb (N : tv_M) (T : Nat → Nat → Nat) (k : Nat) : Prop := N.1 260 k = nI (tbr T k 0) ∧ N.1 262 k = nI (tbr T k 1) ∧ N.1 261 k = nI (tbr T k 2) ∧ N.1 263 k = nI (tbr T k 3)
def mT (N : tv_M) (p : Nat) (T : Nat → Nat → Nat) : Prop := N.1 249 2 = nI p ∧ N.1 249 6 = nI (tE T) ∧ N.1 249 10 = nI (tC T) ∧ N.1 249 11 = nI (tK T) ∧ N.1 249 16 = nI (tB T) ∧ (∀ e, e < tE T → mTe N T e) ∧ (∀ t, t < tK T → mTt N T t) ∧ ∀ k, k < tB T → mTb N T k
def kmT (a i : Nat) : Prop := (a = 249 ∧ (i = 2 ∨ i = 6 ∨ i = 10 ∨ i = 11 ∨ i = 16)) ∨ (253 ≤ a ∧ a ≤ 263)
theorem mT.cg {N N' : tv_M} {p : Nat} {T : Nat → Nat → Nat} (h : mT N p T) (hk : ∀ a i, kmT a i → N'.1 a i = N.1 a i) : mT N' p T := by
  obtain ⟨h0, h1, h2, h3, h4, he, ht, hb⟩ := h
  have hk1 : ∀ i, (i = 2 ∨ i = 6 ∨ i = 10 ∨ i = 11 ∨ i = 16) → N'.1 249 i = N.1 249 i := fun i hi => hk 249 i (Or.inl ⟨rfl, hi⟩)
  have hk2 : ∀ a i, 253 ≤ a → a ≤ 263 → N'.1 a i = N.1 a i := fun a i q1 q2 => hk a i (Or.inr ⟨q1, q2⟩)
  refine ⟨?_, ?_, ?_, ?_, ?_, fun e q => ?_, fun t q => ?_, fun k q => ?_⟩
  · rw [hk1 _ (by omega)]; exact h0
  · rw [hk1 _ (by omega)]; exact h1
  · rw [hk1 _ (by omega)]; exact h2
  · rw [hk1 _ (by omega)]; exact h3
  · rw [hk1 _ (by omega)]; exact h4
  · obtain ⟨e1, e2, e3⟩ := he e q
    refine ⟨?_, ?_, ?_⟩
    · rw [hk2 _ _ (by omega) (by omega)]; exact e1
    · rw [hk2 _ _ (by omega) (by omega)]; exact e2
    · rw [hk2 _ _ (by omega) (by omega)]; exact e3
  · obtain ⟨e1, e2, e3, e4, e5⟩ := ht t q
    refine ⟨?_, ?_, ?_, fun r k f1 f2 => ?_, fun r k f1 f2 => ?_⟩
    · rw [hk2 _ _ (by omega) (by omega)]; exact e1
    · rw [hk2 _ _ (by omega) (by omega)]; exact e2
    · rw [hk2 _ _ (by omega) (by omega)]; exact e3
    · rw [hk2 _ _ (by omega) (by omega)]; exact e4 r k f1 f2
    · rw [hk2 _ _ (by omega) (by omega)]; exact e5 r k f1 f2
  · obtain ⟨e1, e2, e3, e4⟩ := hb k q
    refine ⟨?_, ?_, ?_, ?_⟩
    · rw [hk2 _ _ (by omega) (by omega)]; exact e1
    · rw [hk2 _ _ (by omega) (by omega)]; exact e2
    · rw [hk2 _ _ (by omega) (by omega)]; exact e3
    · rw [hk2 _ _ (by omega) (by omega)]; exact e4
/-- only the lines and their number change -/
def f37 (N N' : tv_M) : Prop := ∀ a i, a ≠ 267 → ¬ (a = 249 ∧ i = 37) → N'.1 a i = N.1 a i
theorem f37.rf {N : tv_M} : f37 N N := fun _ _ _ _ => rfl
theorem f37.tr {N N' N'' : tv_M} (h : f37 N N') (g : f37 N' N'') : f37 N N'' := fun a i q1 q2 => (g a i q1 q2).trans (h a i q1 q2)
theorem mT.f37 {N N' : tv_M} {p : Nat} {T : Nat → Nat → Nat} (h : mT N p T) (hf : f37 N N') : mT N' p T := h.cg (fun a i q => hf a i (by rcases q with q | q <;> omega) (by rcases q with q | q <;> omega))
theorem md_add {F n : Nat} {M : tv_M} (hF : 60 < F) (hn : n < 54) (hM : M.1 249 37 = nI n) : ∃ M', Md_addLine F M = some ((), M') ∧ (∀ x, x < 55 → M'.1 267 (55 * n + x) = nI 0) ∧ (∀ i, (i < 55 * n ∨ 55 * n + 55 ≤ i) → M'.1 267 i = M.1 267 i) ∧ M'.1 249 37 = nI (n + 1) ∧ f37 M M' := by
  unfold Md_addLine
  have h := tl_to0 (g := fun nn j M => Md_addLine_L2 F nn (nI j) M) (N := 55) (F := F) (s := M) (o := fun M => some ((), tv_w M 249 37 (nI (n + 1)))) (Inv := fun j M' => (∀ x, x < j → M'.1 267 (55 * n + x) = nI 0) ∧ (∀ i, (i < 55 * n ∨ 55 * n + 55 ≤ i) → M'.1 267 i = M.1 267 i) ∧ fo 267 268 M M') (by omega) ⟨fun x hx => absurd hx (by omega), fun _ _ => rfl, fo.rf⟩ ?_ ?_
  · obtain ⟨Y, ⟨y1, y2, y3⟩, y4⟩ := h
    refine ⟨_, y4, fun x hx => ?_, fun i hi => ?_, tp_ws, fun a i q1 q2 => ?_⟩
    · rw [tp_wk (by omega)]; exact y1 x hx
    · rw [tp_wk (by omega)]; exact y2 i hi
    · rw [tp_w, if_neg q2]; exact y3 a i (by omega)
  · rintro nn j M' hj ⟨h1, h2, h3⟩
    try dsimp only
    refine ⟨tv_w M' 267 (55 * n + j) (nI 0), ⟨fun x hx => ?_, fun i hi => ?_, h3.w (by omega) (by omega)⟩, ?_⟩
    · rw [tp_w]
      by_cases e : x = j
      · rw [if_pos ⟨rfl, by omega⟩]
      · rw [if_neg (by omega)]; exact h1 x (by omega)
    · rw [tp_wj (by omega)]; exact h2 i hi
    · rw [Md_addLine_L2, if_neg (show ¬ (55 : Int32) ≤ nI j from nI_ge (b := 55) hj (by omega)), h3 249 37 (by omega), hM, show (55 : Int32) * nI n + nI j = nI (55 * n + j) from by rw [← nI_add, ← nI_mul]; rfl, tp_wr (by omega) (by omega), nI_1]
      rfl
  · rintro nn M' ⟨h1, h2, h3⟩
    try dsimp only
    rw [Md_addLine_L2, if_pos (show (55 : Int32) ≤ nI 55 by decide), h3 249 37 (by omega), hM, tp_pf, nI_1]
theorem i_m1000000 : (-1000000 : Int32).toInt = -1000000 := rfl
theorem nI_none {n : Nat} (h : n < 2 ^ 31) : ¬ nI n = -1000000 := fun w => absurd ((tp_ei _ _).mp w) (by rw [nI_toInt h, i_m1000000]; omega)
theorem md_L113 {F n tt r p : Nat} {but : Int32} {k7 : Int32 → Int32 → tv_M → Option (Unit × tv_M)} {k17 : Int32 → Int32 → Int32 → tv_M → Option (Unit × tv_M)} {T : Nat → Nat → Nat} {M : tv_M} (hF : 60 < F) (hp : tp_pr p) (hT : gT p T) (h : mT M p T) (hn : n < 54) (htt : tt < tK T) (hr : r < trw T tt) : ∃ M', Md_layTies_L113 F k7 k17 F but (nI tt) (nI r) (nI (55 * n)) 0 M = k17 but (nI tt) (nI (r + 1)) M' ∧ (∀ x, x < 55 → M'.1 267 (55 * n + x) = if tco T (to2 T tt) ≤ x ∧ x < tco T (to2 T tt) + tsz T (to2 T tt) then nI ((p - ttb T tt (3 * r + (x - tco T (to2 T tt)))) % p) else M.1 267 (55 * n + x)) ∧ (∀ i, (i < 55 * n ∨ 55 * n + 55 ≤ i) → M'.1 267 i = M.1 267 i) ∧ fo 267 268 M M' := by
  have hp7 := hp.lt
  have h8 := hT.2.1
  have hE := hT.1
  have hCC := hT.C
  obtain ⟨g1, g2, g3, g4, g5, g6, g7, g8, g9⟩ := hT.2.2.2.2.2.2.1 tt htt
  obtain ⟨y1, y2, y3⟩ := hT.col g2 g4
  have q := tl_to0 (g := fun nn j M => Md_layTies_L113 F k7 k17 nn but (nI tt) (nI r) (nI (55 * n)) (nI j) M) (N := tsz T (to2 T tt)) (F := F) (s := M) (o := fun M => k17 but (nI tt) (nI (r + 1)) M) (Inv := fun j M' => (∀ x, x < 55 → M'.1 267 (55 * n + x) = if tco T (to2 T tt) ≤ x ∧ x < tco T (to2 T tt) + j then nI ((p - ttb T tt (3 * r + (x - tco T (to2 T tt)))) % p) else M.1 267 (55 * n + x)) ∧ (∀ i, (i < 55 * n ∨ 55 * n + 55 ≤ i) → M'.1 267 i = M.1 267 i) ∧ fo 267 268 M M') (by omega) ⟨fun x _ => by rw [if_neg (by omega)], fun _ _ => rfl, fo.rf⟩ ?_ ?_
  · obtain ⟨Y, ⟨h1, h2, h3⟩, h4⟩ := q
    exact ⟨Y, h4, h1, h2, h3⟩
  · rintro nn j M' hj ⟨i1, i2, i3⟩
    try dsimp only
    have hb := g9 r j hr hj
    have hm : mT M' p T := h.cg (fun a i q => i3 a i (by rcases q with q | q <;> omega))
    obtain ⟨m1, m2, m3, m4, m5⟩ := hm.2.2.2.2.2.2.1 tt htt
    obtain ⟨l1, l2, l3⟩ := hm.2.2.2.2.2.1 _ g2
    rw [if_neg g4] at l3
    refine ⟨tv_w M' 267 (55 * n + (tco T (to2 T tt) + j)) (nI ((p - ttb T tt (3 * r + j)) % p)), ⟨fun x hx => ?_, fun i hi => ?_, i3.w (by omega) (by omega)⟩, ?_⟩
    · rw [tp_w]
      by_cases e : x = tco T (to2 T tt) + j
      · subst e; rw [if_pos ⟨rfl, rfl⟩, if_pos (by omega), Nat.add_sub_cancel_left]
      · rw [if_neg (by omega), i1 x hx]
        by_cases e2 : tco T (to2 T tt) ≤ x ∧ x < tco T (to2 T tt) + j
        · rw [if_pos e2, if_pos (by omega)]
        · rw [if_neg e2, if_neg (by omega)]
    · rw [tp_wj (by omega)]; exact i2 i hi
    · rw [Md_layTies_L113, tp_rd (by omega) (by omega), m2, tp_rd (by omega) (by omega), l2, if_neg (nI_ge hj (by omega)), tp_rd (by omega) (by omega), m2, tp_rd (by omega) (by omega), l3, show (18 : Int32) * nI tt + 9 + 3 * nI r + nI j = nI (18 * tt + 9 + (3 * r + j)) from by rw [← nI_add, ← nI_add, ← nI_add, ← nI_mul, ← nI_mul, ← Int32.add_assoc]; rfl, tp_rd (by omega) (by omega), m5 r j hr hj, hm.1, tp_nz (nI_ne0 (by omega) (by omega)), nI_sub (by omega), nI_rem (by omega) (by omega) (by omega), nI_add, nI_add, Nat.add_assoc, tp_wr (by omega) (by omega), nI_1]
  · rintro nn M' ⟨i1, i2, i3⟩
    try dsimp only
    have hm : mT M' p T := h.cg (fun a i q => i3 a i (by rcases q with q | q <;> omega))
    obtain ⟨m1, m2, m3, m4, m5⟩ := hm.2.2.2.2.2.2.1 tt htt
    obtain ⟨l1, l2, l3⟩ := hm.2.2.2.2.2.1 _ g2
    rw [Md_layTies_L113, tp_rd (by omega) (by omega), m2, tp_rd (by omega) (by omega), l2, if_pos (nI_le (by omega) (by omega)), nI_1]
theorem md_L50 {F n tt r p : Nat} {but : Int32} {k7 : Int32 → Int32 → tv_M → Option (Unit × tv_M)} {k17 : Int32 → Int32 → Int32 → tv_M → Option (Unit × tv_M)} {T : Nat → Nat → Nat} {M : tv_M} (hF : 60 < F) (hp : tp_pr p) (hT : gT p T) (h : mT M p T) (hn : n < 54) (htt : tt < tK T) (hr : r < trw T tt) : ∃ M', Md_layTies_L50 F k7 k17 F but (nI tt) (nI r) (nI (55 * n)) 0 M = Md_layTies_L113 F k7 k17 F but (nI tt) (nI r) (nI (55 * n)) 0 M' ∧ (∀ x, x < 55 → M'.1 267 (55 * n + x) = if tco T (to1 T tt) ≤ x ∧ x < tco T (to1 T tt) + tsz T (to1 T tt) then nI (tta T tt (3 * r + (x - tco T (to1 T tt)))) else M.1 267 (55 * n + x)) ∧ (∀ i, (i < 55 * n ∨ 55 * n + 55 ≤ i) → M'.1 267 i = M.1 267 i) ∧ fo 267 268 M M' := by
  have hp7 := hp.lt
  have h8 := hT.2.1
  have hE := hT.1
  have hCC := hT.C
  obtain ⟨g1, g2, g3, g4, g5, g6, g7, g8, g9⟩ := hT.2.2.2.2.2.2.1 tt htt
  obtain ⟨y1, y2, y3⟩ := hT.col g1 g3
  have q := tl_to0 (g := fun nn j M => Md_layTies_L50 F k7 k17 nn but (nI tt) (nI r) (nI (55 * n)) (nI j) M) (N := tsz T (to1 T tt)) (F := F) (s := M) (o := fun M => Md_layTies_L113 F k7 k17 F but (nI tt) (nI r) (nI (55 * n)) 0 M) (Inv := fun j M' => (∀ x, x < 55 → M'.1 267 (55 * n + x) = if tco T (to1 T tt) ≤ x ∧ x < tco T (to1 T tt) + j then nI (tta T tt (3 * r + (x - tco T (to1 T tt)))) else M.1 267 (55 * n + x)) ∧ (∀ i, (i < 55 * n ∨ 55 * n + 55 ≤ i) → M'.1 267 i = M.1 267 i) ∧ fo 267 268 M M') (by omega) ⟨fun x _ => by rw [if_neg (by omega)], fun _ _ => rfl, fo.rf⟩ ?_ ?_
  · obtain ⟨Y, ⟨h1, h2, h3⟩, h4⟩ := q
    exact ⟨Y, h4, h1, h2, h3⟩
  · rintro nn j M' hj ⟨i1, i2, i3⟩
    try dsimp only
    have hb := g8 r j hr hj
    have hm : mT M' p T := h.cg (fun a i q => i3 a i (by rcases q with q | q <;> omega))
    obtain ⟨m1, m2, m3, m4, m5⟩ := hm.2.2.2.2.2.2.1 tt htt
    obtain ⟨l1, l2, l3⟩ := hm.2.2.2.2.2.1 _ g1
    rw [if_neg g3] at l3
    refine ⟨tv_w M' 267 (55 * n + (tco T (to1 T tt) + j)) (nI (tta T tt (3 * r + j))), ⟨fun x hx => ?_, fun i hi => ?_, i3.w (by omega) (by omega)⟩, ?_⟩
    · rw [tp_w]
      by_cases e : x = tco T (to1 T tt) + j
      · subst e; rw [if_pos ⟨rfl, rfl⟩, if_pos (by omega), Nat.add_sub_cancel_left]
      · rw [if_neg (by omega), i1 x hx]
        by_cases e2 : tco T (to1 T tt) ≤ x ∧ x < tco T (to1 T tt) + j
        · rw [if_pos e2, if_pos (by omega)]
        · rw [if_neg e2, if_neg (by omega)]
    · rw [tp_wj (by omega)]; exact i2 i hi
    · rw [Md_layTies_L50, tp_rd (by omega) (by omega), m1, tp_rd (by omega) (by omega), l2, if_neg (nI_ge hj (by omega)), tp_rd (by omega) (by omega), m1, tp_rd (by omega) (by omega), l3, show (18 : Int32) * nI tt + 3 * nI r + nI j = nI (18 * tt + (3 * r + j)) from by rw [← nI_add, ← nI_add, ← nI_mul, ← nI_mul, ← Int32.add_assoc]; rfl, tp_rd (by omega) (by omega), m4 r j hr hj, nI_add, nI_add, Nat.add_assoc, tp_wr (by omega) (by omega), nI_1]
  · rintro nn M' ⟨i1, i2, i3⟩
    try dsimp only
    have hm : mT M' p T := h.cg (fun a i q => i3 a i (by rcases q with q | q <;> omega))
    obtain ⟨m1, m2, m3, m4, m5⟩ := hm.2.2.2.2.2.2.1 tt htt
    obtain ⟨l1, l2, l3⟩ := hm.2.2.2.2.2.1 _ g1
    rw [Md_layTies_L50, tp_rd (by omega) (by omega), m1, tp_rd (by omega) (by omega), l2, if_pos (nI_le (by omega) (by omega))]
theorem md_lay {F p but : Nat} {but32 : Int32} {T : Nat → Nat → Nat} {M : tv_M} (hF : 60 < F) (hp : tp_pr p) (hT : gT p T) (h : mT M p T) (hb : ∀ j, j < 10 → (nI j = but32 ↔ j = but)) : tq (Md_layTies F but32 M) (fun _ M' => M'.1 249 37 = nI (ly_n T but (tK T)) ∧ mdR M' (ly_n T but (tK T)) (ly p T but (tK T)) ∧ f37 M M') := by
  have hp7 := hp.lt
  have h8 := hT.2.1
  have hE := hT.1
  have hCC := hT.C
  have hnle := ly_n_le (but := but) hT (tK T) (Nat.le_refl _)
  unfold Md_layTies
  rw [tp_pf]
  refine tl_loop0 (g := fun nn j M => Md_layTies_L7 F nn but32 (nI j) M) (N := tK T) (Inv := fun j M' => M'.1 249 37 = nI (ly_n T but j) ∧ mdR M' (ly_n T but j) (ly p T but j) ∧ f37 M M') (by omega) ⟨tp_ws, fun l x hl => absurd hl (Nat.not_lt_zero l), fun a i q1 q2 => by rw [tp_w, if_neg q2]⟩ ?_ ?_
  · rintro nn j M' hj ⟨i1, i2, i3⟩
    try dsimp only
    have hg := (hT.2.2.2.2.2.2.1 j hj).2.2.2.2.2.2.1
    have hgt := hT.2.2.2.2.2.2.1 j hj
    have hmono := ly_n_mono T but (a := j + 1) (tK T) (by omega)
    have hm : mT M' p T := h.f37 i3
    have e0 : Md_layTies_L7 F (nn + 1) but32 (nI j) M' = Md_layTies_L17 F (Md_layTies_L7 F nn) F but32 (nI j) 0 M' := by
      rw [Md_layTies_L7, hm.2.2.2.1, if_neg (nI_ge hj (by omega))]
    rw [e0]
    by_cases e : j = but
    · obtain ⟨F', rfl⟩ : ∃ F', F = F' + 1 := ⟨F - 1, by omega⟩
      refine Or.inl ⟨M', ?_, ?_⟩
      · rw [ly_n, if_pos e, Nat.add_zero]
        exact ⟨i1, fun l x g1 g2 => by rw [i2 l x g1 g2, ly_lo g1], i3⟩
      · rw [Md_layTies_L17, tp_rd (by omega) (by omega), (hm.2.2.2.2.2.2.1 j hj).2.2.1]
        by_cases q : nI (trw T j) ≤ 0
        · rw [if_pos q, nI_1]
        · rw [if_neg q, if_pos ((hb j (by omega)).mpr e), nI_1]
    · rw [ly_n, if_neg e] at hmono
      have hr := tl_to0 (g := fun n2 r M => Md_layTies_L17 F (Md_layTies_L7 F nn) n2 but32 (nI j) (nI r) M) (N := trw T j) (F := F) (s := M') (o := fun M => Md_layTies_L7 F nn but32 (nI (j + 1)) M) (Inv := fun r M' => M'.1 249 37 = nI (ly_n T but j + r) ∧ mdR M' (ly_n T but j + r) (ly p T but (j + 1)) ∧ f37 M M') (by omega) ⟨i1, fun l x g1 g2 => by rw [i2 l x g1 g2, ly_lo g1], i3⟩ ?_ ?_
      · obtain ⟨Z, z1, z2⟩ := hr
        refine Or.inl ⟨Z, ?_, z2⟩
        rw [ly_n, if_neg e]; exact z1
      · rintro n2 r M2 hr ⟨k1, k2, k3⟩
        try dsimp only
        have hm2 : mT M2 p T := h.f37 k3
        obtain ⟨X, x1, x2, x3, x4, x5⟩ := md_add (F := F) (M := M2) hF (show ly_n T but j + r < 54 by omega) k1
        have hmX := hm2.f37 x5
        obtain ⟨Y, y1, y2, y3, y4⟩ := md_L50 (F := F) (but := but32) (k7 := Md_layTies_L7 F nn) (k17 := Md_layTies_L17 F (Md_layTies_L7 F nn) n2) (n := ly_n T but j + r) (r := r) hF hp hT hmX (by omega) hj hr
        have hmY : mT Y p T := hmX.cg (fun a i q => y4 a i (by rcases q with q | q <;> omega))
        obtain ⟨Z, z1, z2, z3, z4⟩ := md_L113 (F := F) (but := but32) (k7 := Md_layTies_L7 F nn) (k17 := Md_layTies_L17 F (Md_layTies_L7 F nn) n2) (n := ly_n T but j + r) (r := r) hF hp hT hmY (by omega) hj hr
        refine ⟨Z, ⟨?_, fun l x g1 g2 => ?_, k3.tr (x5.tr (fun a i q1 q2 => ?_))⟩, ?_⟩
        · rw [z4 _ _ (by omega), y4 _ _ (by omega)]; exact x4
        · by_cases el : l = ly_n T but j + r
          · subst el
            rw [z2 x g2, y2 x g2, x2 x g2, ly_at e hr]
            unfold ti_v
            by_cases q : tco T (to2 T j) ≤ x ∧ x < tco T (to2 T j) + tsz T (to2 T j)
            · rw [if_pos q, if_pos q]
            · rw [if_neg q, if_neg q]
              by_cases q2 : tco T (to1 T j) ≤ x ∧ x < tco T (to1 T j) + tsz T (to1 T j)
              · rw [if_pos q2, if_pos q2]
              · rw [if_neg q2, if_neg q2]
          · rw [z3 _ (by omega), y3 _ (by omega), x3 _ (by omega)]
            exact k2 l x (by omega) g2
        · rw [z4 a i (by omega), y4 a i (by omega)]
        · rw [Md_layTies_L17, tp_rd (by omega) (by omega), (hm2.2.2.2.2.2.2.1 j hj).2.2.1, if_neg (nI_ge hr (by omega)), if_neg (fun q => e ((hb j (by omega)).mp q)), tp_cb x1, x4, show nI (ly_n T but j + r + 1) - 1 = nI (ly_n T but j + r) from nI_pred _, show (55 : Int32) * nI (ly_n T but j + r) = nI (55 * (ly_n T but j + r)) from by rw [← nI_mul]; rfl]
          exact y1.trans z1
      · rintro n2 M2 ⟨k1, k2, k3⟩
        try dsimp only
        have hm2 : mT M2 p T := h.f37 k3
        rw [Md_layTies_L17, tp_rd (by omega) (by omega), (hm2.2.2.2.2.2.2.1 j hj).2.2.1, if_pos (nI_le (by omega) (by omega)), nI_1]
  · rintro nn M' ⟨i1, i2, i3⟩
    try dsimp only
    rw [Md_layTies_L7, (h.f37 i3).2.2.2.1, if_pos (nI_le (by omega) (by omega))]
    exact tq_some ⟨i1, i2, i3⟩
