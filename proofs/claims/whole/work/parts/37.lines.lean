/-! the class lays the ties' lines into a block -/
theorem tp_nls {α : Type} {p : Nat} {o : Option α} {f : Nat → Option α} : tv_nl (some p) o f = f p := rfl
theorem tp_nln {α : Type} {o : Option α} {f : Nat → Option α} : tv_nl none o f = o := rfl
def al (M M' : tv_M) (t n C mk : Nat) (Y : Nat → Nat → Nat) : Prop := M'.1 t 6 = nI n ∧ (∀ l x, l < n → x < sb_w t → M'.1 (t + 4 + l) x = nI (if x < C then Y l x else if mk = 1 ∧ x = C + l then 1 else 0)) ∧ (∀ l, l < n → M'.1 (sb_l t) l = -1) ∧ (∀ i, i ≠ 6 → M'.1 t i = M.1 t i) ∧ fo t (t + 5 + sb_n t) M M'
theorem al.cg {M M' : tv_M} {t n C mk : Nat} {Y Y' : Nat → Nat → Nat} (h : al M M' t n C mk Y) (hY : ∀ l x, l < n → x < C → Y' l x = Y l x) : al M M' t n C mk Y' := by
  obtain ⟨h1, h2, h3, h4, h5⟩ := h
  refine ⟨h1, fun l x g1 g2 => ?_, h3, h4, h5⟩
  rw [h2 l x g1 g2]
  by_cases e : x < C
  · rw [if_pos e, if_pos e, hY l x g1 e]
  · rw [if_neg e, if_neg e]
theorem ag_row {F t n mk tt r p nn : Nat} {but : Int32} {k3 : Nat → Int32 → Int32 → Int32 → tv_M → Option (Unit × tv_M)} {T Y : Nat → Nat → Nat} {M M' : tv_M} (ht : sb_t t) (hF : 60 < F) (hp : tp_pr p) (hT : gT p T) (h : cT M p T) (hn : n < sb_n t) (hC : tC T ≤ sb_w t) (hmk : mk ≤ 1) (hmk2 : mk = 1 → tC T + n < sb_w t) (htt : tt < tK T) (hr : r < trw T tt) (hb : ¬ nI tt = but) (ha : al M M' t n (tC T) mk Y) (hY : ∀ x, x < tC T → Y n x = ti_v p T tt r x) : ∃ M'', Ag_addLines_L30 F k3 (nn + 1) t but (nI mk) (nI tt) (38 + 3 * tt) (nI r) M' = Ag_addLines_L30 F k3 nn t but (nI mk) (nI tt) (38 + 3 * tt) (nI (r + 1)) M'' ∧ al M M'' t (n + 1) (tC T) mk Y := by
  obtain ⟨a1, a2, a3, a4, a5⟩ := ha
  obtain ⟨b1, b2, b3⟩ := sb_bd ht
  obtain ⟨q1, -⟩ := sb_P ht
  obtain ⟨r1, r2⟩ := sb_row ht hn
  have hsl := sb_lE ht
  have ht70 : 71 ≤ t := by rcases ht with rfl | rfl <;> omega
  have h8 := hT.2.1
  have hCC := hT.C
  obtain ⟨p1, p2, p3, p4, p5, p6⟩ := tp_tiP tt (by omega)
  have hg := hT.2.2.2.2.2.2.1 tt htt
  have hg3 := hg.2.2.2.2.2.2.1
  obtain ⟨x1, x2, x3⟩ := hT.col hg.1 hg.2.2.1
  obtain ⟨y1, y2, y3⟩ := hT.col hg.2.1 hg.2.2.2.1
  have hcT : cT M' p T := h.fo hT a5 (by omega)
  obtain ⟨X, e1, s1, s2, s3, s4⟩ := sb_add (F := F) (M := M') ht hF hn a1
  have hfX : fo t (t + 5 + sb_n t) M' X := fun a i q => s4 a i (by omega) (by omega) (by omega)
  have hcX : cT X p T := hcT.fo hT hfX (by omega)
  obtain ⟨u, Z, e2, z1, z2⟩ := to_write (F := F) (a := t + 4 + n) (w := sb_w t) (M := X) (r := r) hp hT hcX hF htt hr r2 hC b2 (by omega)
  have hz : ∀ x, x < sb_w t → Z.1 (t + 4 + n) x = nI (if x < tC T then Y n x else 0) := fun x hx => by
    rw [z1 x, s1 x hx]
    by_cases e : x < tC T
    · rw [if_pos e, hY x e]
      unfold ti_v
      by_cases q : tco T (to2 T tt) ≤ x ∧ x < tco T (to2 T tt) + tsz T (to2 T tt)
      · rw [if_pos q, if_pos q]
      · rw [if_neg q, if_neg q]
        by_cases q2 : tco T (to1 T tt) ≤ x ∧ x < tco T (to1 T tt) + tsz T (to1 T tt)
        · rw [if_pos q2, if_pos q2]
        · rw [if_neg q2, if_neg q2]
    · rw [if_neg e, if_neg (by omega), if_neg (by omega)]
  have e0 : Ag_addLines_L30 F k3 (nn + 1) t but (nI mk) (nI tt) (38 + 3 * tt) (nI r) M' = if nI mk = 0 then Ag_addLines_L30 F k3 nn t but (nI mk) (nI tt) (38 + 3 * tt) (nI (r + 1)) Z else tv_wr Z (t + 4 + n) (sb_w t) (nI (tC T + n)) 1 (fun M14 => Ag_addLines_L30 F k3 nn t but (nI mk) (nI tt) (38 + 3 * tt) (nI (r + 1)) M14) := by
    rw [Ag_addLines_L30, tp_gl q1, tp_gl p4, (hcT.2.2.2.2.2.2.2.2.1 tt htt).2.2.1, if_neg (nI_ge hr (by omega)), if_neg hb, tp_cb e1, tp_nls, tp_gn r2, tp_cb e2, z2 18 7 (by omega), hcX.2.2.2.2.1, a1, nI_add, nI_1]
  rw [e0]
  have hfZ : ∀ a i, (a < t ∨ t + 5 + sb_n t ≤ a) → Z.1 a i = M.1 a i := fun a i q => by rw [z2 a i (by omega), hfX a i q, a5 a i q]
  have hZt : ∀ i, i ≠ 6 → Z.1 t i = M.1 t i := fun i hi => by rw [z2 t i (by omega), s4 t i (by omega) (by omega) (by omega), a4 i hi]
  have hZl : ∀ l, l < n + 1 → Z.1 (sb_l t) l = -1 := fun l hl => by
    rw [z2 _ _ (by omega)]
    by_cases e : l = n
    · subst e; exact s2
    · rw [s4 _ _ (by omega) (by omega) (by omega)]; exact a3 l (by omega)
  have hZr : ∀ l x, l < n → x < sb_w t → Z.1 (t + 4 + l) x = nI (if x < tC T then Y l x else if mk = 1 ∧ x = tC T + l then 1 else 0) := fun l x g1 g2 => by
    rw [z2 _ _ (by omega), s4 _ _ (by omega) (by omega) (by omega)]; exact a2 l x g1 g2
  by_cases em : mk = 0
  · subst em
    rw [if_pos nI_0]
    refine ⟨Z, rfl, by rw [z2 t 6 (by omega)]; exact s3, fun l x g1 g2 => ?_, hZl, hZt, hfZ⟩
    by_cases e : l = n
    · subst e
      rw [hz x g2, if_neg (show ¬ (0 = 1 ∧ x = tC T + l) from fun w => absurd w.1 (by omega))]
    · exact hZr l x (by omega) g2
  · have em : mk = 1 := by omega
    subst em
    have hw := hmk2 rfl
    rw [if_neg (show ¬ nI 1 = 0 by decide), tp_wr hw (by omega)]
    refine ⟨tv_w Z (t + 4 + n) (tC T + n) 1, rfl, ?_, fun l x g1 g2 => ?_, fun l hl => ?_, fun i hi => ?_, fun a i q => ?_⟩
    · rw [tp_wk (by omega), z2 t 6 (by omega)]; exact s3
    · rw [tp_w]
      by_cases e : l = n
      · subst e
        by_cases e2 : x = tC T + l
        · rw [if_pos ⟨rfl, e2⟩, if_neg (by omega), if_pos ⟨rfl, e2⟩]; rfl
        · rw [if_neg (fun w => e2 w.2), hz x g2, if_neg (fun w : 1 = 1 ∧ x = tC T + l => e2 w.2)]
      · rw [if_neg (by omega)]; exact hZr l x (by omega) g2
    · rw [tp_wk (by omega)]; exact hZl l hl
    · rw [tp_wk (by omega)]; exact hZt i hi
    · rw [tp_wk (by omega)]; exact hfZ a i q
theorem ag_lines {F t mk p but : Nat} {but32 : Int32} {T : Nat → Nat → Nat} {M : tv_M} (ht : sb_t t) (hF : 60 < F) (hp : tp_pr p) (hT : gT p T) (h : cT M p T) (hn : ly_n T but (tK T) ≤ sb_n t) (hC : tC T ≤ sb_w t) (hmk : mk ≤ 1) (hmk2 : mk = 1 → tC T + ly_n T but (tK T) ≤ sb_w t) (hb : ∀ j, j < 10 → (nI j = but32 ↔ j = but)) (hM : M.1 t 6 = nI 0) : tq (Ag_addLines F t but32 (nI mk) M) (fun _ M' => al M M' t (ly_n T but (tK T)) (tC T) mk (ly p T but (tK T))) := by
  obtain ⟨q1, -⟩ := sb_P ht
  have h8 := hT.2.1
  have ht70 : 71 ≤ t := by rcases ht with rfl | rfl <;> omega
  unfold Ag_addLines
  rw [tp_gl q1]
  refine tl_loop0 (g := fun nn j M => Ag_addLines_L3 F nn t but32 (nI mk) (nI j) M) (N := tK T) (Inv := fun j M' => al M M' t (ly_n T but j) (tC T) mk (ly p T but j)) (by omega) ⟨hM, fun l x hl => absurd hl (Nat.not_lt_zero l), fun l hl => absurd hl (Nat.not_lt_zero l), fun _ _ => rfl, fo.rf⟩ ?_ ?_
  · intro nn j M' hj ha
    try dsimp only
    obtain ⟨p1, p2, p3, p4, p5, p6⟩ := tp_tiP j (by omega)
    have hg := (hT.2.2.2.2.2.2.1 j hj).2.2.2.2.2.2.1
    have hmono := ly_n_mono T but (a := j + 1) (tK T) (by omega)
    have hcT : cT M' p T := h.fo hT ha.2.2.2.2 (by omega)
    have e0 : Ag_addLines_L3 F (nn + 1) t but32 (nI mk) (nI j) M' = Ag_addLines_L30 F (Ag_addLines_L3 F nn) F t but32 (nI mk) (nI j) (38 + 3 * j) 0 M' := by
      rw [Ag_addLines_L3, tp_gl q1, hcT.2.2.1, if_neg (nI_ge hj (by omega)), tp_ap (by omega) (by omega) p1, tp_gl p4]
    rw [e0]
    by_cases e : j = but
    · obtain ⟨F', rfl⟩ : ∃ F', F = F' + 1 := ⟨F - 1, by omega⟩
      refine Or.inl ⟨M', ?_, ?_⟩
      · rw [ly_n, if_pos e, Nat.add_zero]
        exact ha.cg (fun l x g1 g2 => ly_lo g1)
      · rw [Ag_addLines_L30, tp_gl q1, tp_gl p4, (hcT.2.2.2.2.2.2.2.2.1 j hj).2.2.1]
        by_cases q : nI (trw T j) ≤ 0
        · rw [if_pos q, nI_1]
        · rw [if_neg q, if_pos ((hb j (by omega)).mpr e), nI_1]
    · rw [ly_n, if_neg e] at hmono
      have hr := tl_to0 (g := fun n2 r M => Ag_addLines_L30 F (Ag_addLines_L3 F nn) n2 t but32 (nI mk) (nI j) (38 + 3 * j) (nI r) M) (N := trw T j) (F := F) (s := M') (o := fun M => Ag_addLines_L3 F nn t but32 (nI mk) (nI (j + 1)) M) (Inv := fun r M' => al M M' t (ly_n T but j + r) (tC T) mk (ly p T but (j + 1))) (by omega) (ha.cg (fun l x g1 g2 => ly_lo g1)) ?_ ?_
      · obtain ⟨Z, z1, z2⟩ := hr
        refine Or.inl ⟨Z, ?_, z2⟩
        rw [ly_n, if_neg e]; exact z1
      · intro n2 r M2 hr h2
        try dsimp only
        obtain ⟨Z, z1, z2⟩ := ag_row (nn := n2) (but := but32) (k3 := Ag_addLines_L3 F nn) (tt := j) (r := r) ht hF hp hT h (show ly_n T but j + r < sb_n t by omega) hC hmk (fun q => by have := hmk2 q; omega) hj hr (fun q => e ((hb j (by omega)).mp q)) h2 (fun x hx => ly_at e hr)
        exact ⟨Z, z2, z1⟩
      · intro n2 M2 h2
        try dsimp only
        have hc2 : cT M2 p T := h.fo hT h2.2.2.2.2 (by omega)
        rw [Ag_addLines_L30, tp_gl q1, tp_gl p4, (hc2.2.2.2.2.2.2.2.2.1 j hj).2.2.1, if_pos (nI_le (by omega) (by omega)), nI_1]
  · intro nn M' ha
    try dsimp only
    have hcT : cT M' p T := h.fo hT ha.2.2.2.2 (by omega)
    rw [Ag_addLines_L3, tp_gl q1, hcT.2.2.1, if_pos (nI_le (by omega) (by omega))]
    exact tq_some ha
