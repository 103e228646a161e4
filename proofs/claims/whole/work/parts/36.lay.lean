/-! THE LINES OF THE TIES -/
def ti_v (p : Nat) (T : Nat → Nat → Nat) (t r x : Nat) : Nat := if tco T (to2 T t) ≤ x ∧ x < tco T (to2 T t) + tsz T (to2 T t) then (p - ttb T t (3 * r + (x - tco T (to2 T t)))) % p else if tco T (to1 T t) ≤ x ∧ x < tco T (to1 T t) + tsz T (to1 T t) then tta T t (3 * r + (x - tco T (to1 T t))) else 0
/-- how many lines the ties below t have, one tie left out -/
def ly_n (T : Nat → Nat → Nat) (but : Nat) : Nat → Nat
  | 0 => 0
  | t + 1 => ly_n T but t + if t = but then 0 else trw T t
def ly (p : Nat) (T : Nat → Nat → Nat) (but : Nat) : Nat → Nat → Nat → Nat
  | 0, _, _ => 0
  | t + 1, l, x => if ly_n T but t ≤ l ∧ l < ly_n T but (t + 1) then ti_v p T t (l - ly_n T but t) x else ly p T but t l x
theorem ly_lo {p but t l x : Nat} {T : Nat → Nat → Nat} (h : l < ly_n T but t) : ly p T but (t + 1) l x = ly p T but t l x := by
  rw [ly, if_neg (by omega)]
theorem ly_at {p but t r x : Nat} {T : Nat → Nat → Nat} (hb : t ≠ but) (hr : r < trw T t) : ly p T but (t + 1) (ly_n T but t + r) x = ti_v p T t r x := by
  rw [ly, ly_n, if_neg hb, if_pos (by omega), Nat.add_sub_cancel_left]
theorem ly_n_mono (T : Nat → Nat → Nat) (but : Nat) {a : Nat} : ∀ b, a ≤ b → ly_n T but a ≤ ly_n T but b := by
  intro b
  induction b with
  | zero => intro h; have : a = 0 := by omega
            subst this; exact Nat.le_refl _
  | succ b ih =>
    intro h
    by_cases e : a = b + 1
    · subst e; exact Nat.le_refl _
    · have := ih (by omega)
      rw [ly_n]; omega
theorem ly_n_le {p but : Nat} {T : Nat → Nat → Nat} (h : gT p T) : ∀ t, t ≤ tK T → ly_n T but t ≤ 3 * t := by
  intro t
  induction t with
  | zero => intro _; exact Nat.le_refl _
  | succ t ih =>
    intro ht
    have h1 := ih (by omega)
    have := (h.2.2.2.2.2.2.1 t (by omega)).2.2.2.2.2.2.1
    rw [ly_n]
    by_cases e : t = but
    · rw [if_pos e]; omega
    · rw [if_neg e]; omega
theorem ly_n_all {but : Nat} {T : Nat → Nat → Nat} : ∀ t, t ≤ but → ly_n T but t = tls T t := by
  intro t
  induction t with
  | zero => intro _; rfl
  | succ t ih => intro h; rw [ly_n, tls, ih (by omega), if_neg (by omega)]
theorem gT.n99 {p : Nat} {T : Nat → Nat → Nat} (h : gT p T) : ly_n T 99 (tK T) = tL T := by
  have h2 := h.2.1
  rw [ly_n_all (tK T) (by omega), h.2.2.2.2.1]
theorem ti_lt {p t r x : Nat} {T : Nat → Nat → Nat} (hp : 0 < p) (h : gTt p T t) (hr : r < trw T t) : ti_v p T t r x < p := by
  obtain ⟨h1, h2, h3, h4, h5, h6, h7, h8, h9⟩ := h
  unfold ti_v
  by_cases q : tco T (to2 T t) ≤ x ∧ x < tco T (to2 T t) + tsz T (to2 T t)
  · rw [if_pos q]; exact Nat.mod_lt _ hp
  · rw [if_neg q]
    by_cases q2 : tco T (to1 T t) ≤ x ∧ x < tco T (to1 T t) + tsz T (to1 T t)
    · rw [if_pos q2]; exact h8 r _ hr (by omega)
    · rw [if_neg q2]; exact hp
theorem ly_lt {p but : Nat} {T : Nat → Nat → Nat} (hp : 0 < p) (h : gT p T) : ∀ t, t ≤ tK T → ∀ l x, ly p T but t l x < p := by
  intro t
  induction t with
  | zero => intro _ l x; exact hp
  | succ t ih =>
    intro ht l x
    rw [ly]
    by_cases q : ly_n T but t ≤ l ∧ l < ly_n T but (t + 1)
    · rw [if_pos q]
      refine ti_lt hp (h.2.2.2.2.2.2.1 t (by omega)) ?_
      have := q.2
      rw [ly_n] at this
      by_cases e : t = but
      · rw [if_pos e] at this; omega
      · rw [if_neg e] at this; omega
    · rw [if_neg q]; exact ih (by omega) l x
/-! the class lays them -/
theorem sb_begin {F t C x me : Nat} {M : tv_M} (ht : sb_t t) (hC : C ≤ 24) (hx : x ≤ 54) (hme : me ≤ 54) (hM : M.1 t 1 = nI me) : tq (St_begin F t (nI C) (nI x) M) (fun _ M' => M'.1 t 6 = nI 0 ∧ M'.1 t 7 = nI C ∧ M'.1 t 8 = nI 0 ∧ M'.1 t 9 = nI 0 ∧ M'.1 t 10 = nI (C + if me < x then me else x) ∧ (∀ i, i < 6 → M'.1 t i = M.1 t i) ∧ fo t (t + 1) M M') := by
  obtain ⟨p1, -⟩ := sb_P ht
  unfold St_begin
  rw [tp_gl p1]
  have e1 : Jv_min F (nI C) 24 M = some (nI C, M) := by
    unfold Jv_min
    rw [if_neg (show ¬ (24 : Int32) < nI C from Int32.not_lt.mpr (nI_le (b := 24) hC (by omega)))]
  rw [tp_cb e1, tp_pf, tp_wj (by omega), hM]
  have e2 : ∀ M0, Jv_min F (nI x) (nI me) M0 = some (nI (if me < x then me else x), M0) := fun M0 => by
    unfold Jv_min
    by_cases q : me < x
    · rw [if_pos (nI_lt q (by omega)), if_pos q]
    · rw [if_neg (nI_nlt (by omega) (by omega)), if_neg q]
  rw [tp_cb (e2 _), tp_ws, nI_add, tp_pf, tp_pf, tp_pf, tp_pf]
  refine tq_some ⟨?_, ?_, ?_, ?_, ?_, fun i hi => ?_, ?_⟩
  · rw [tp_wj (by omega), tp_wj (by omega), tp_ws]; rfl
  · rw [tp_wj (by omega), tp_wj (by omega), tp_wj (by omega), tp_wj (by omega), tp_ws]
  · rw [tp_wj (by omega), tp_ws]; rfl
  · rw [tp_ws]; rfl
  · rw [tp_wj (by omega), tp_wj (by omega), tp_wj (by omega), tp_ws]
  · rw [tp_wj (by omega), tp_wj (by omega), tp_wj (by omega), tp_wj (by omega), tp_wj (by omega)]
  · exact ((((fo.rf.w (by omega) (by omega)).w (by omega) (by omega)).w (by omega) (by omega)).w (by omega) (by omega)).w (by omega) (by omega)
theorem sb_add {F t n : Nat} {M : tv_M} (ht : sb_t t) (hF : 60 < F) (hn : n < sb_n t) (hM : M.1 t 6 = nI n) : ∃ M', St_addLine F t M = some (some (t + 4 + n), M') ∧ (∀ x, x < sb_w t → M'.1 (t + 4 + n) x = nI 0) ∧ M'.1 (sb_l t) n = -1 ∧ M'.1 t 6 = nI (n + 1) ∧ ∀ a i, a ≠ t + 4 + n → ¬ (a = sb_l t ∧ i = n) → ¬ (a = t ∧ i = 6) → M'.1 a i = M.1 a i := by
  obtain ⟨p1, p2, p3, p4, p5, p6, p7, p8, p9⟩ := sb_P ht
  obtain ⟨b1, b2, b3⟩ := sb_bd ht
  obtain ⟨r1, r2⟩ := sb_row ht hn
  have hsl := sb_lE ht
  unfold St_addLine
  rw [tp_gl p1, tp_nn p2, tp_gn p6, hM, if_pos (show nI n < Int32.ofNat (sb_n t) from nI_lt hn (by omega)), tp_nn p2, tp_gn p6, tp_ap hn (by omega) r1, tp_gn r2, tp_cb (jv_fill r2 (by omega) (by omega)), tp_nn p5, tp_gn p9, tp_wc1, if_neg (by omega), hM, tp_wr hn (by omega), tp_pf, tp_wk (by omega), tp_wc1, if_neg (by omega), hM, nI_1]
  refine ⟨_, rfl, fun x hx => ?_, ?_, tp_ws, fun a i h1 h2 h3 => ?_⟩
  · rw [tp_wk (by omega), tp_wk (by omega), tp_wc1, if_pos rfl, if_pos hx]; rfl
  · rw [tp_wk (by omega), tp_ws]
  · rw [tp_w, if_neg h3, tp_w, if_neg h2, tp_wc1, if_neg h1]
theorem to_write {F t r a w : Nat} {p : Nat} {T : Nat → Nat → Nat} {M : tv_M} (hp : tp_pr p) (hT : gT p T) (h : cT M p T) (hF : 60 < F) (ht : t < tK T) (hr : r < trw T t) (ha : tv_lay[a]? = some (20, w)) (haw : tC T ≤ w) (hw : w ≤ 54) (ha68 : 68 ≤ a) : tq (To_writeLine F (38 + 3 * t) (nI r) a M) (fun _ M' => (∀ x, M'.1 a x = if tco T (to2 T t) ≤ x ∧ x < tco T (to2 T t) + tsz T (to2 T t) then nI ((p - ttb T t (3 * r + (x - tco T (to2 T t)))) % p) else if tco T (to1 T t) ≤ x ∧ x < tco T (to1 T t) + tsz T (to1 T t) then nI (tta T t (3 * r + (x - tco T (to1 T t)))) else M.1 a x) ∧ ∀ b i, b ≠ a → M'.1 b i = M.1 b i) := by
  have h8 := hT.2.1
  have hp7 := hp.lt
  obtain ⟨p1, p2, p3, p4, p5, p6⟩ := tp_tiP t (by omega)
  obtain ⟨g1, g2, g3, g4, g5, g6, g7, g8, g9⟩ := hT.2.2.2.2.2.2.1 t ht
  obtain ⟨c1, c2, c3, c4, c5⟩ := h.2.2.2.2.2.2.2.2.1 t ht
  obtain ⟨x1, x2, x3⟩ := hT.col g1 g3
  obtain ⟨y1, y2, y3⟩ := hT.col g2 g4
  obtain ⟨k1, k2, k3⟩ := h.2.2.2.2.2.2.2.1 _ g1
  obtain ⟨l1, l2, l3⟩ := h.2.2.2.2.2.2.2.1 _ g2
  obtain ⟨-, -, u3, -⟩ := tp_eyP (to1 T t) (by have := hT.1; omega)
  obtain ⟨-, -, v3, -⟩ := tp_eyP (to2 T t) (by have := hT.1; omega)
  have hE := hT.1
  unfold To_writeLine
  rw [tp_gl p4, tp_gn ha, c1, tp_cb (to_lin hT h g1), if_neg g3, c2, tp_cb (to_lin hT h g2), if_neg g4]
  show tq (tv_gl (22 + 2 * to1 T t) 3 (tv_gl (22 + 2 * to2 T t) 3 _)) _
  rw [tp_gl u3, tp_gl v3, if_neg (nI_pos (by omega)), if_pos (show nI r < 3 from nI_lt (b := 3) (by omega) (by omega)), show nI r * 3 = nI (3 * r) from by rw [Nat.mul_comm, ← nI_mul]; rfl]
  have q1 := tl_to0 (g := fun nn j M => To_writeLine_L48 F nn (38 + 3 * t) a (22 + 2 * to1 T t) (22 + 2 * to2 T t) (nI (3 * r)) (nI j) M) (N := tsz T (to1 T t)) (F := F) (s := M) (o := fun M => To_writeLine_L87 F F (38 + 3 * t) a (22 + 2 * to2 T t) (nI (3 * r)) 0 M) (Inv := fun j M' => (∀ x, M'.1 a x = if tco T (to1 T t) ≤ x ∧ x < tco T (to1 T t) + j then nI (tta T t (3 * r + (x - tco T (to1 T t)))) else M.1 a x) ∧ ∀ b i, b ≠ a → M'.1 b i = M.1 b i) (by omega) ⟨fun x => by rw [if_neg (by omega)], fun _ _ _ => rfl⟩ ?_ ?_
  · obtain ⟨Y, ⟨hY1, hY2⟩, hY3⟩ := q1
    rw [show To_writeLine_L48 F F (38 + 3 * t) a (22 + 2 * to1 T t) (22 + 2 * to2 T t) (nI (3 * r)) 0 M = To_writeLine_L87 F F (38 + 3 * t) a (22 + 2 * to2 T t) (nI (3 * r)) 0 Y from hY3]
    refine tl_loop0 (g := fun nn j M => To_writeLine_L87 F nn (38 + 3 * t) a (22 + 2 * to2 T t) (nI (3 * r)) (nI j) M) (N := tsz T (to2 T t)) (Inv := fun j M' => (∀ x, M'.1 a x = if tco T (to2 T t) ≤ x ∧ x < tco T (to2 T t) + j then nI ((p - ttb T t (3 * r + (x - tco T (to2 T t)))) % p) else Y.1 a x) ∧ ∀ b i, b ≠ a → M'.1 b i = M.1 b i) (by omega) ⟨fun x => by rw [if_neg (by omega)], hY2⟩ ?_ ?_
    · rintro nn j M' hj ⟨i1, i2⟩
      try dsimp only
      have hb := g9 r j hr hj
      refine Or.inl ⟨tv_w M' a (tco T (to2 T t) + j) (nI ((p - ttb T t (3 * r + j)) % p)), ⟨fun x => ?_, fun b i hb' => ?_⟩, ?_⟩
      · rw [tp_w]
        by_cases e : x = tco T (to2 T t) + j
        · subst e; rw [if_pos ⟨rfl, rfl⟩, if_pos (by omega), Nat.add_sub_cancel_left]
        · rw [if_neg (fun w => e w.2), i1 x]
          by_cases e2 : tco T (to2 T t) ≤ x ∧ x < tco T (to2 T t) + j
          · rw [if_pos e2, if_pos (by omega)]
          · rw [if_neg e2, if_neg (by omega)]
      · rw [tp_wk hb']; exact i2 b i hb'
      · rw [To_writeLine_L87, tp_gl p4, tp_gn ha, tp_gl v3, i2 _ _ (by omega), l2, if_neg (nI_ge hj (by omega)), tp_nn p3, tp_gn p6, nI_add, tp_rd (by omega) (by omega), i2 (40 + 3 * t) (3 * r + j) (by omega), c5 r j hr hj, i2 18 0 (by omega), h.1, nI_sub (by omega), tp_cb (xx_rest hp (by omega)), i2 (22 + 2 * to2 T t) 3 (by omega), l3, nI_add, tp_wr (by omega) (by omega), nI_1]
    · rintro nn M' ⟨i1, i2⟩
      try dsimp only
      rw [To_writeLine_L87, tp_gl p4, tp_gn ha, tp_gl v3, i2 _ _ (by omega), l2, if_pos (nI_le (by omega) (by omega))]
      refine tq_some ⟨fun x => ?_, i2⟩
      rw [i1 x, hY1 x]
  · rintro nn j M' hj ⟨i1, i2⟩
    try dsimp only
    have hb := g8 r j hr hj
    refine ⟨tv_w M' a (tco T (to1 T t) + j) (nI (tta T t (3 * r + j))), ⟨fun x => ?_, fun b i hb' => ?_⟩, ?_⟩
    · rw [tp_w]
      by_cases e : x = tco T (to1 T t) + j
      · subst e; rw [if_pos ⟨rfl, rfl⟩, if_pos (by omega), Nat.add_sub_cancel_left]
      · rw [if_neg (fun w => e w.2), i1 x]
        by_cases e2 : tco T (to1 T t) ≤ x ∧ x < tco T (to1 T t) + j
        · rw [if_pos e2, if_pos (by omega)]
        · rw [if_neg e2, if_neg (by omega)]
    · rw [tp_wk hb']; exact i2 b i hb'
    · rw [To_writeLine_L48, tp_gl p4, tp_gn ha, tp_gl u3, tp_gl v3, i2 _ _ (by omega), k2, if_neg (nI_ge hj (by omega)), tp_nn p2, tp_gn p5, nI_add, tp_rd (by omega) (by omega), i2 (39 + 3 * t) (3 * r + j) (by omega), c4 r j hr hj, i2 (22 + 2 * to1 T t) 3 (by omega), k3, nI_add, tp_wr (by omega) (by omega), nI_1]
  · rintro nn M' ⟨i1, i2⟩
    try dsimp only
    rw [To_writeLine_L48, tp_gl p4, tp_gn ha, tp_gl u3, tp_gl v3, i2 _ _ (by omega), k2, if_pos (nI_le (by omega) (by omega))]
