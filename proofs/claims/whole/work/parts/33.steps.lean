/-! THE CLASS'S STEPS: the blocks 71 and 106 -/
def sb_n (t : Nat) : Nat := if t = 71 then 30 else 54
def sb_w (t : Nat) : Nat := if t = 71 then 54 else 25
def sb_l (t : Nat) : Nat := if t = 71 then 105 else 164
def sb_t (t : Nat) : Prop := t = 71 ∨ t = 106
theorem sb_P {t : Nat} (h : sb_t t) : tv_lay[t]? = some (7, 11) ∧ tv_P0 t 2 = some (t + 3) ∧ tv_P0 t 3 = some (t + 1) ∧ tv_P0 t 4 = some (t + 2) ∧ tv_P0 t 5 = some (sb_l t) ∧ tv_lay[t + 3]? = some (27, sb_n t) ∧ tv_lay[t + 1]? = some (20, 24) ∧ tv_lay[t + 2]? = some (20, 24) ∧ tv_lay[sb_l t]? = some (20, sb_n t) := by
  rcases h with rfl | rfl <;> decide +kernel
theorem sb_row71 : ∀ l, l < 30 → tv_P0 74 l = some (75 + l) ∧ tv_lay[75 + l]? = some (20, 54) := by decide +kernel
theorem sb_row106 : ∀ l, l < 54 → tv_P0 109 l = some (110 + l) ∧ tv_lay[110 + l]? = some (20, 25) := by decide +kernel
theorem sb_row {t l : Nat} (h : sb_t t) (hl : l < sb_n t) : tv_P0 (t + 3) l = some (t + 4 + l) ∧ tv_lay[t + 4 + l]? = some (20, sb_w t) := by
  rcases h with rfl | rfl
  · exact sb_row71 l hl
  · exact sb_row106 l hl
theorem sb_bd {t : Nat} (h : sb_t t) : sb_n t ≤ 54 ∧ sb_w t ≤ 54 ∧ (sb_l t < t ∨ t + 4 + sb_n t ≤ sb_l t) := by
  rcases h with rfl | rfl <;> decide +kernel
def sbR (M : tv_M) (t n W : Nat) (R : Nat → Nat → Nat) : Prop := ∀ l x, l < n → x < W → M.1 (t + 4 + l) x = nI (R l x)
def sbL (M : tv_M) (t n : Nat) (isL : Nat → Bool) : Prop := ∀ l, l < n → (isL l = true → 0 ≤ M.1 (sb_l t) l) ∧ (isL l = false → M.1 (sb_l t) l = -1)
theorem sb_least {F t n W p c : Nat} {s : el_S} {M : tv_M} (ht : sb_t t) (hF : 60 < F) (hn : n ≤ sb_n t) (hW : W ≤ sb_w t) (hc : c < W) (hM : M.1 t 6 = nI n) (hR : sbR M t n W s.1) (hL : sbL M t n s.2.1) (hp : p ≤ 7) (hlt : el_lt p n s.1) : St_leastLineAt F t (nI c) M = some (if el_ld n s c < n then nI (el_ld n s c) else -1, M) := by
  obtain ⟨p1, p2, p3, p4, p5, p6, p7, p8, p9⟩ := sb_P ht
  obtain ⟨b1, b2, b3⟩ := sb_bd ht
  have h : tq (St_leastLineAt F t (nI c) M) (fun r M' => r = (if el_ld n s c < n then nI (el_ld n s c) else -1) ∧ M' = M) := by
    unfold St_leastLineAt
    refine tq_gl p1 ?_
    refine tl_loop0 (g := fun nn j M => St_leastLineAt_L2 F nn t (nI c) (nI j) M) (N := n) (Inv := fun j M' => M' = M ∧ ∀ k, k < j → el_ok s c k = false) (by omega) ⟨rfl, fun k hk => absurd hk (by omega)⟩ ?_ ?_
    · rintro nn j M' hj ⟨rfl, hI⟩
      try dsimp only
      obtain ⟨r1, r2⟩ := sb_row ht (show j < sb_n t by omega)
      by_cases hl : s.2.1 j = true
      · refine Or.inl ⟨M', ⟨rfl, fun k hk => ?_⟩, ?_⟩
        · by_cases e : k = j
          · subst e; unfold el_ok; rw [hl]; rfl
          · exact hI k (by omega)
        · rw [St_leastLineAt_L2, tp_gl p1, hM, if_neg (nI_ge hj (by omega)), tp_nn p5, tp_gn p9, tp_rd (by omega) (by omega), if_pos ((hL j hj).1 hl), nI_1]
      · have hl : s.2.1 j = false := Bool.eq_false_iff.mpr hl
        have e0 : St_leastLineAt_L2 F (nn + 1) t (nI c) (nI j) M' = if nI (s.1 j c) = 0 then St_leastLineAt_L2 F nn t (nI c) (nI (j + 1)) M' else some (nI j, M') := by
          rw [St_leastLineAt_L2, tp_gl p1, hM, if_neg (nI_ge hj (by omega)), tp_nn p5, tp_gn p9, tp_rd (by omega) (by omega), (hL j hj).2 hl, if_neg (by decide), tp_nn p2, tp_gn p6, tp_ap (by omega) (by omega) r1, tp_gn r2, tp_rd (by omega) (by omega), hR j c hj hc, nI_1]
        rw [e0]
        have hb := hlt j c hj
        by_cases hz : s.1 j c = 0
        · refine Or.inl ⟨M', ⟨rfl, fun k hk => ?_⟩, ?_⟩
          · by_cases e : k = j
            · subst e; unfold el_ok; rw [hl, hz]; rfl
            · exact hI k (by omega)
          · rw [hz, if_pos nI_0]
        · refine Or.inr ?_
          rw [if_neg (nI_ne0 (by omega) (by omega))]
          have : el_ld n s c = j := el_find_at hI hj (by unfold el_ok; rw [hl]; simp [hz])
          exact tq_some ⟨by rw [this, if_pos hj], rfl⟩
    · rintro nn M' ⟨rfl, hI⟩
      try dsimp only
      have : el_ld n s c = n := el_find_no hI
      rw [St_leastLineAt_L2, tp_gl p1, hM, if_pos (nI_le (by omega) (by omega)), this, if_neg (by omega)]
      exact tq_some ⟨rfl, rfl⟩
  obtain ⟨r, M', e, rfl, rfl⟩ := h
  exact e
/-- a row scaled -/
theorem sb_one {F t n W p l c : Nat} {R : Nat → Nat → Nat} {M : tv_M} (ht : sb_t t) (hF : 60 < F) (hn : n ≤ sb_n t) (hW : W ≤ sb_w t) (hl : l < n) (hc : c < W) (hM : M.1 t 10 = nI W) (hMp : M.1 t 0 = nI p) (hp : tp_pr p) (hR : sbR M t n W R) (hlt : el_lt p n R) (h0 : R l c ≠ 0) : tq (St_makeOneAt F t (nI l) (nI c) M) (fun _ M' => (∀ x, x < W → M'.1 (t + 4 + l) x = nI (el_q p R l c x)) ∧ ∀ a i, a ≠ t + 4 + l → M'.1 a i = M.1 a i) := by
  obtain ⟨p1, p2, p3, p4, p5, p6, p7, p8, p9⟩ := sb_P ht
  obtain ⟨b1, b2, b3⟩ := sb_bd ht
  obtain ⟨r1, r2⟩ := sb_row ht (show l < sb_n t by omega)
  have hp7 := hp.lt
  have hb : ∀ x, R l x < p := fun x => hlt l x hl
  unfold St_makeOneAt
  rw [tp_gl p1, tp_nn p2, tp_gn p6, tp_ap (by omega) (by omega) r1, tp_gn r2, tp_rd (by omega) (by omega), hR l c hl hc]
  have hb' := hb c
  by_cases e1 : R l c = 1
  · rw [e1, if_pos (show nI 1 = 1 from rfl)]
    refine tq_some ⟨fun x hx => ?_, fun a i _ => rfl⟩
    rw [hR l x hl hx]
    unfold el_q
    rw [e1, tp_inv_one, Nat.mul_one, Nat.mod_eq_of_lt (hb x)]
  · rw [if_neg (show ¬ nI (R l c) = 1 from fun q => e1 (nI_inj (b := 1) (by omega) (by omega) q)), tp_rd (by omega) (by omega), hR l c hl hc, hMp, tp_cb (xx_inv hp hb' h0 (by omega))]
    have hinv := (tp_invP p (by omega) hp (R l c) hb' h0).2.1
    refine tl_loop0 (g := fun nn j M => St_makeOneAt_L30 F nn t (t + 4 + l) (nI (tp_inv p (R l c))) (nI j) M) (N := W) (Inv := fun j M' => (∀ x, x < W → M'.1 (t + 4 + l) x = nI (if x < j then el_q p R l c x else R l x)) ∧ ∀ a i, a ≠ t + 4 + l → M'.1 a i = M.1 a i) (by omega) ⟨fun x hx => hR l x hl hx, fun a i _ => rfl⟩ ?_ ?_
    · rintro nn j M' hj ⟨h1, h2⟩
      try dsimp only
      have hm : R l j * tp_inv p (R l c) ≤ 7 * 7 := Nat.mul_le_mul (by have := hb j; omega) (by omega)
      refine Or.inl ⟨tv_w M' (t + 4 + l) j (nI (el_q p R l c j)), ⟨fun x hx => ?_, fun a i ha => ?_⟩, ?_⟩
      · rw [tp_w]
        by_cases e : x = j
        · subst e; rw [if_pos ⟨rfl, rfl⟩, if_pos (by omega)]
        · rw [if_neg (fun q => e q.2), h1 x hx]
          by_cases e2 : x < j
          · rw [if_pos e2, if_pos (by omega)]
          · rw [if_neg e2, if_neg (by omega)]
      · rw [tp_wk ha]; exact h2 a i ha
      · rw [St_makeOneAt_L30, tp_gl p1, tp_gn r2, h2 t 10 (by omega), hM, if_neg (nI_ge hj (by omega)), tp_rd (by omega) (by omega), h1 j hj, if_neg (Nat.lt_irrefl j), nI_mul, h2 t 0 (by omega), hMp, tp_cb (xx_rest hp (by omega)), tp_wr (by omega) (by omega), nI_1]
        rfl
    · rintro nn M' ⟨h1, h2⟩
      try dsimp only
      rw [St_makeOneAt_L30, tp_gl p1, tp_gn r2, h2 t 10 (by omega), hM, if_pos (nI_le (by omega) (by omega))]
      exact tq_some ⟨fun x hx => by rw [h1 x hx, if_pos hx], h2⟩
/-- a row and the times of another -/
theorem xx_times {F a b na nb W p tm : Nat} {ra rb : Nat → Nat} {M : tv_M} (hF : 60 < F) (ha : tv_lay[a]? = some (20, na)) (hb : tv_lay[b]? = some (20, nb)) (hab : a ≠ b) (hna : W ≤ na) (hnb : W ≤ nb) (hna2 : na ≤ 54) (hnb2 : nb ≤ 54) (hp : tp_pr p) (htm : tm ≤ 7) (hra : ∀ x, x < W → M.1 a x = nI (ra x) ∧ ra x < p) (hrb : ∀ x, x < W → M.1 b x = nI (rb x) ∧ rb x < p) : tq (Xx_addTimes F a b (nI tm) (nI W) (nI p) M) (fun _ M' => (∀ x, x < W → M'.1 a x = nI ((ra x + tm * rb x) % p)) ∧ (∀ x, W ≤ x → M'.1 a x = M.1 a x) ∧ ∀ c i, c ≠ a → M'.1 c i = M.1 c i) := by
  have hp7 := hp.lt
  unfold Xx_addTimes
  rw [tp_gn ha, tp_gn hb, if_pos (show (2 : Int32) ≤ nI p from nI_le (a := 2) (by omega) (by omega))]
  refine tl_loop0 (g := fun nn j M => Xx_addTimes_L10 F nn a b (nI tm) (nI W) (nI p) (nI j) M) (N := W) (Inv := fun j M' => (∀ x, x < W → M'.1 a x = nI (if x < j then (ra x + tm * rb x) % p else ra x)) ∧ (∀ x, W ≤ x → M'.1 a x = M.1 a x) ∧ ∀ c i, c ≠ a → M'.1 c i = M.1 c i) (by omega) ⟨fun x hx => (hra x hx).1, fun _ _ => rfl, fun c i _ => rfl⟩ ?_ ?_
  · rintro nn j M' hj ⟨h1, h2, h3⟩
    try dsimp only
    have hm : tm * rb j ≤ 7 * 7 := Nat.mul_le_mul htm (by have := (hrb j hj).2; omega)
    have hr := (hra j hj).2
    refine Or.inl ⟨tv_w M' a j (nI ((ra j + tm * rb j) % p)), ⟨fun x hx => ?_, fun x hx => ?_, fun c i hc => ?_⟩, ?_⟩
    · rw [tp_w]
      by_cases e : x = j
      · subst e; rw [if_pos ⟨rfl, rfl⟩, if_pos (by omega)]
      · rw [if_neg (fun q => e q.2), h1 x hx]
        by_cases e2 : x < j
        · rw [if_pos e2, if_pos (by omega)]
        · rw [if_neg e2, if_neg (by omega)]
    · rw [tp_wj (by omega)]; exact h2 x hx
    · rw [tp_wk hc]; exact h3 c i hc
    · rw [Xx_addTimes_L10, tp_gn ha, tp_gn hb, if_neg (nI_ge hj (by omega)), tp_rd (by omega) (by omega), h1 j hj, if_neg (Nat.lt_irrefl j), tp_rd (by omega) (by omega), h3 b j (Ne.symm hab), (hrb j hj).1, tp_nz (nI_ne0 (by omega) (by omega)), nI_mul, nI_add, nI_rem (by omega) (by omega) (by omega), tp_wr (by omega) (by omega), nI_1]
  · rintro nn M' ⟨h1, h2, h3⟩
    try dsimp only
    rw [Xx_addTimes_L10, tp_gn ha, tp_gn hb, if_pos (nI_le (by omega) (by omega))]
    exact tq_some ⟨fun x hx => by rw [h1 x hx, if_pos hx], h2, h3⟩
/-- the others are taken off -/
theorem sb_off {F t n W p l c : Nat} {R : Nat → Nat → Nat} {q : Nat → Nat} {M : tv_M} (ht : sb_t t) (hF : 60 < F) (hn : n ≤ sb_n t) (hW : W ≤ sb_w t) (hl : l < n) (hc : c < W) (hM6 : M.1 t 6 = nI n) (hM : M.1 t 10 = nI W) (hMp : M.1 t 0 = nI p) (hp : tp_pr p) (hR : ∀ l' x, l' < n → x < W → M.1 (t + 4 + l') x = nI (if l' = l then q x else R l' x)) (hlt : el_lt p n R) (hq : ∀ x, q x < p) : tq (St_takeOffOthers F t (nI l) (nI c) M) (fun _ M' => (∀ l' x, l' < n → x < W → M'.1 (t + 4 + l') x = nI (if l' = l then q x else (R l' x + (p - R l' c) * q x) % p)) ∧ ∀ a i, (a < t + 4 ∨ t + 4 + n ≤ a) → M'.1 a i = M.1 a i) := by
  obtain ⟨p1, p2, p3, p4, p5, p6, p7, p8, p9⟩ := sb_P ht
  obtain ⟨b1, b2, b3⟩ := sb_bd ht
  have hp7 := hp.lt
  obtain ⟨r1, r2⟩ := sb_row ht (show l < sb_n t by omega)
  unfold St_takeOffOthers
  rw [tp_gl p1]
  refine tl_loop0 (g := fun nn j M => St_takeOffOthers_L2 F nn t (nI l) (nI c) (nI j) M) (N := n) (Inv := fun j M' => (∀ l' x, l' < n → x < W → M'.1 (t + 4 + l') x = nI (if l' = l then q x else if l' < j then (R l' x + (p - R l' c) * q x) % p else R l' x)) ∧ ∀ a i, (a < t + 4 ∨ t + 4 + n ≤ a) → M'.1 a i = M.1 a i) (by omega) ⟨fun l' x h1 h2 => hR l' x h1 h2, fun a i _ => rfl⟩ ?_ ?_
  · rintro nn j M' hj ⟨h1, h2⟩
    try dsimp only
    obtain ⟨q1, q2⟩ := sb_row ht (show j < sb_n t by omega)
    have hRb := hlt j c hj
    have e0 : St_takeOffOthers_L2 F (nn + 1) t (nI l) (nI c) (nI j) M' = if nI j = nI l then St_takeOffOthers_L2 F nn t (nI l) (nI c) (nI (j + 1)) M' else if M'.1 (t + 4 + j) c = 0 then St_takeOffOthers_L2 F nn t (nI l) (nI c) (nI (j + 1)) M' else tv_cb (Xx_addTimes F (t + 4 + j) (t + 4 + l) (nI p - M'.1 (t + 4 + j) c) (nI W) (nI p) M') (fun _ M23 => St_takeOffOthers_L2 F nn t (nI l) (nI c) (nI (j + 1)) M23) := by
      rw [St_takeOffOthers_L2, tp_gl p1, h2 t 6 (by omega), hM6, if_neg (nI_ge hj (by omega)), tp_nn p2, tp_gn p6, tp_ap (by omega) (by omega) q1, tp_gn q2, tp_rd (by omega) (by omega), tp_nn p2, tp_gn p6, tp_ap (by omega) (by omega) q1, tp_gn q2, tp_nn p2, tp_gn p6, tp_ap (by omega) (by omega) r1, tp_gn r2, h2 t 0 (by omega), hMp, h2 t 10 (by omega), hM, nI_1]
    rw [e0]
    by_cases e : j = l
    · subst e
      refine Or.inl ⟨M', ⟨fun l' x g1 g2 => ?_, h2⟩, by rw [if_pos rfl]⟩
      rw [h1 l' x g1 g2]
      by_cases e : l' = j
      · rw [if_pos e, if_pos e]
      · rw [if_neg e, if_neg e]
        by_cases e2 : l' < j
        · rw [if_pos e2, if_pos (by omega)]
        · rw [if_neg e2, if_neg (by omega)]
    · rw [if_neg (fun w => e (nI_inj (by omega) (by omega) w)), h1 j c hj hc, if_neg e, if_neg (Nat.lt_irrefl j)]
      by_cases hz : R j c = 0
      · refine Or.inl ⟨M', ⟨fun l' x g1 g2 => ?_, h2⟩, by rw [hz, if_pos nI_0]⟩
        rw [h1 l' x g1 g2]
        by_cases e3 : l' = l
        · rw [if_pos e3, if_pos e3]
        · rw [if_neg e3, if_neg e3]
          by_cases e2 : l' < j
          · rw [if_pos e2, if_pos (by omega)]
          · rw [if_neg e2]
            by_cases e4 : l' = j
            · subst e4
              rw [if_pos (by omega), hz, Nat.sub_zero, Nat.add_mul_mod_self_left, Nat.mod_eq_of_lt (hlt l' x g1)]
            · rw [if_neg (by omega)]
      · rw [if_neg (nI_ne0 (by omega) (by omega)), nI_sub (by omega)]
        obtain ⟨u, M'', e5, g1, g2, g3⟩ := xx_times (F := F) (a := t + 4 + j) (b := t + 4 + l) (na := sb_w t) (nb := sb_w t) (W := W) (p := p) (tm := p - R j c) (ra := R j) (rb := q) (M := M') hF q2 r2 (by omega) hW hW b2 b2 hp (by omega) (fun x hx => ⟨by rw [h1 j x hj hx, if_neg e, if_neg (Nat.lt_irrefl j)], hlt j x hj⟩) (fun x hx => ⟨by rw [h1 l x hl hx, if_pos rfl], hq x⟩)
        refine Or.inl ⟨M'', ⟨fun l' x f1 f2 => ?_, fun a i ha => ?_⟩, by rw [tp_cb e5]⟩
        · by_cases e4 : l' = j
          · subst e4
            rw [g1 x f2, if_neg e, if_pos (by omega)]
          · rw [g3 _ _ (by omega), h1 l' x f1 f2]
            by_cases e3 : l' = l
            · rw [if_pos e3, if_pos e3]
            · rw [if_neg e3, if_neg e3]
              by_cases e2 : l' < j
              · rw [if_pos e2, if_pos (by omega)]
              · rw [if_neg e2, if_neg (by omega)]
        · rw [g3 _ _ (by omega)]; exact h2 a i ha
  · rintro nn M' ⟨h1, h2⟩
    try dsimp only
    rw [St_takeOffOthers_L2, tp_gl p1, h2 t 6 (by omega), hM6, if_pos (nI_le (by omega) (by omega))]
    refine tq_some ⟨fun l' x g1 g2 => ?_, h2⟩
    rw [h1 l' x g1 g2]
    by_cases e3 : l' = l
    · rw [if_pos e3, if_pos e3]
    · rw [if_neg e3, if_neg e3, if_pos g1]
theorem sb_lE {t : Nat} (h : sb_t t) : sb_l t = t + 4 + sb_n t := by rcases h with rfl | rfl <;> rfl
/-- the block t when c columns are through -/
def sb_st (M : tv_M) (t n C W p : Nat) (s : el_S) (c : Nat) : Prop := M.1 t 0 = nI p ∧ M.1 t 6 = nI n ∧ M.1 t 7 = nI C ∧ M.1 t 8 = nI (el_rk n s.2.2 c) ∧ M.1 t 9 = nI (c - el_rk n s.2.2 c) ∧ M.1 t 10 = nI W ∧ sbR M t n W s.1 ∧ sbL M t n s.2.1 ∧ (∀ k, k < c → M.1 (t + 1) k = if s.2.2 k < n then nI (s.2.2 k) else -1) ∧ ∀ k, k < c → ¬ s.2.2 k < n → M.1 (t + 2) (k - el_rk n s.2.2 k) = nI k
theorem sb_put {F t n C W p : Nat} {A : Nat → Nat → Nat} {M : tv_M} (ht : sb_t t) (hF : 60 < F) (hn : n ≤ sb_n t) (hW : W ≤ sb_w t) (hCW : C ≤ W) (hC : C ≤ 24) (hp : tp_pr p) (hlt : el_lt p n A) (h0 : sb_st M t n C W p (el_run p n A 0) 0) : tq (St_putInSteps F t M) (fun _ M' => sb_st M' t n C W p (el_run p n A C) C ∧ M'.1 t 1 = M.1 t 1 ∧ fo t (t + 5 + sb_n t) M M') := by
  obtain ⟨p1, p2, p3, p4, p5, p6, p7, p8, p9⟩ := sb_P ht
  obtain ⟨b1, b2, b3⟩ := sb_bd ht
  have hp7 := hp.lt
  have hsl := sb_lE ht
  unfold St_putInSteps
  rw [tp_gl p1]
  refine tl_loop0 (g := fun nn j M => St_putInSteps_L2 F nn t (nI j) M) (N := C) (Inv := fun j M' => sb_st M' t n C W p (el_run p n A j) j ∧ M'.1 t 1 = M.1 t 1 ∧ fo t (t + 5 + sb_n t) M M') (by omega) ⟨h0, rfl, fo.rf⟩ ?_ ?_
  · rintro nn j M' hj ⟨hI, hI1, hI2⟩
    try dsimp only
    have hlj := el_lt_run (p := p) (n := n) (by omega) hlt j
    rw [el_run]
    generalize el_run p n A j = s at hI hlj
    obtain ⟨i0, i6, i7, i8, i9, i10, iR, iL, iA, iF⟩ := hI
    have hrk := el_rk_le n s.2.2 j
    have hrkc : ∀ (v : Nat) (k : Nat), k ≤ j → el_rk n (fun c' => if c' = j then v else s.2.2 c') k = el_rk n s.2.2 k := fun v k hk => el_rk_cg k (fun k' hk' => if_neg (by omega))
    have e0 : St_putInSteps_L2 F (nn + 1) t (nI j) M' = if (if el_ld n s j < n then nI (el_ld n s j) else -1 : Int32) < 0 then St_putInSteps_L2 F nn t (nI (j + 1)) (tv_w (tv_w (tv_w M' (t + 1) j (if el_ld n s j < n then nI (el_ld n s j) else -1)) (t + 2) (j - el_rk n s.2.2 j) (nI j)) t 9 (nI (j - el_rk n s.2.2 j + 1))) else tv_wr (tv_w M' (t + 1) j (if el_ld n s j < n then nI (el_ld n s j) else -1)) (sb_l t) (sb_n t) (if el_ld n s j < n then nI (el_ld n s j) else -1) (nI j) (fun M18 => tv_pf M18 t 8 ((M18.1 t 8) + 1) (fun M19 => tv_cb (St_makeOneAt F t (if el_ld n s j < n then nI (el_ld n s j) else -1) (nI j) M19) (fun r20 M21 => tv_cb (St_takeOffOthers F t (if el_ld n s j < n then nI (el_ld n s j) else -1) (nI j) M21) (fun r22 M23 => St_putInSteps_L2 F nn t (nI (j + 1)) M23)))) := by
      rw [St_putInSteps_L2, tp_gl p1, i7, if_neg (nI_ge hj (by omega)), tp_cb (sb_least ht hF hn hW (by omega) i6 iR iL (by omega) hlj), tp_nn p3, tp_gn p7, tp_wr (by omega) (by omega), tp_nn p4, tp_gn p8, tp_nn p5, tp_gn p9, tp_wk (by omega), i9, tp_wr (by omega) (by omega), tp_pf, tp_wk (by omega), tp_wk (by omega), i9, nI_1, nI_1]
    rw [e0]
    unfold el_step
    by_cases q : el_ld n s j < n
    · refine Or.inl ?_
      rw [if_pos q, if_pos q, if_neg (nI_pos (by omega)), tp_wr (by omega) (by omega), tp_pf]
      generalize hm : el_ld n s j = l at q ⊢
      have hok := (el_find_P n (el_ok s j)).2.2 (show el_ld n s j < n by omega)
      have hok : el_ok s j l = true := hm ▸ hok
      have h00 : s.1 l j ≠ 0 := by
        unfold el_ok at hok
        rw [Bool.and_eq_true] at hok
        exact of_decide_eq_true hok.2
      have hd : ∀ a i, a ≠ t → a ≠ t + 1 → a ≠ sb_l t → (tv_w (tv_w (tv_w M' (t + 1) j (nI l)) (sb_l t) l (nI j)) t 8 ((tv_w (tv_w M' (t + 1) j (nI l)) (sb_l t) l (nI j)).1 t 8 + 1)).1 a i = M'.1 a i := fun a i q1 q2 q3 => by rw [tp_wk q1, tp_wk q3, tp_wk q2]
      have hdt : ∀ i, i ≠ 8 → (tv_w (tv_w (tv_w M' (t + 1) j (nI l)) (sb_l t) l (nI j)) t 8 ((tv_w (tv_w M' (t + 1) j (nI l)) (sb_l t) l (nI j)).1 t 8 + 1)).1 t i = M'.1 t i := fun i q1 => by rw [tp_wj q1, tp_wk (by omega), tp_wk (by omega)]
      have hd8 : (tv_w (tv_w (tv_w M' (t + 1) j (nI l)) (sb_l t) l (nI j)) t 8 ((tv_w (tv_w M' (t + 1) j (nI l)) (sb_l t) l (nI j)).1 t 8 + 1)).1 t 8 = nI (el_rk n s.2.2 j + 1) := by rw [tp_ws, tp_wk (by omega), tp_wk (by omega), i8, nI_1]
      have hd1 : ∀ i, (tv_w (tv_w (tv_w M' (t + 1) j (nI l)) (sb_l t) l (nI j)) t 8 ((tv_w (tv_w M' (t + 1) j (nI l)) (sb_l t) l (nI j)).1 t 8 + 1)).1 (t + 1) i = if i = j then nI l else M'.1 (t + 1) i := fun i => by
        rw [tp_wk (by omega), tp_wk (by omega), tp_w]
        by_cases e : i = j
        · rw [if_pos ⟨rfl, e⟩, if_pos e]
        · rw [if_neg (fun w => e w.2), if_neg e]
      have hdl : ∀ i, (tv_w (tv_w (tv_w M' (t + 1) j (nI l)) (sb_l t) l (nI j)) t 8 ((tv_w (tv_w M' (t + 1) j (nI l)) (sb_l t) l (nI j)).1 t 8 + 1)).1 (sb_l t) i = if i = l then nI j else M'.1 (sb_l t) i := fun i => by
        rw [tp_wk (by omega), tp_w]
        by_cases e : i = l
        · rw [if_pos ⟨rfl, e⟩, if_pos e]
        · rw [if_neg (fun w => e w.2), if_neg e, tp_wk (by omega)]
      generalize tv_w (tv_w (tv_w M' (t + 1) j (nI l)) (sb_l t) l (nI j)) t 8 ((tv_w (tv_w M' (t + 1) j (nI l)) (sb_l t) l (nI j)).1 t 8 + 1) = X at hd hdt hd8 hd1 hdl ⊢
      have iR1 : sbR X t n W s.1 := fun l' x g1 g2 => by rw [hd _ _ (by omega) (by omega) (by omega)]; exact iR l' x g1 g2
      obtain ⟨u1, Y, e1, y1, y2⟩ := sb_one (M := X) ht hF hn hW q (show j < W by omega) ((hdt 10 (by omega)).trans i10) ((hdt 0 (by omega)).trans i0) hp iR1 hlj h00
      have iR2 : ∀ l' x, l' < n → x < W → Y.1 (t + 4 + l') x = nI (if l' = l then el_q p s.1 l j x else s.1 l' x) := fun l' x g1 g2 => by
        by_cases e : l' = l
        · subst e; rw [y1 x g2, if_pos rfl]
        · rw [y2 _ _ (by omega), iR1 l' x g1 g2, if_neg e]
      have y2t : ∀ i, Y.1 t i = X.1 t i := fun i => y2 t i (by omega)
      obtain ⟨u2, Z, e2, z1, z2⟩ := sb_off (M := Y) (R := s.1) (q := el_q p s.1 l j) ht hF hn hW q (show j < W by omega) (((y2t 6).trans (hdt 6 (by omega))).trans i6) (((y2t 10).trans (hdt 10 (by omega))).trans i10) (((y2t 0).trans (hdt 0 (by omega))).trans i0) hp iR2 hlj (fun x => Nat.mod_lt _ (by omega))
      have zX : ∀ a i, (a < t + 4 ∨ t + 4 + n ≤ a) → Z.1 a i = X.1 a i := fun a i ha => by rw [z2 a i ha, y2 a i (by omega)]
      have hrk1 : el_rk n (fun c' => if c' = j then l else s.2.2 c') (j + 1) = el_rk n s.2.2 j + 1 := by
        rw [el_rk, hrkc l j (by omega), if_pos rfl, if_pos q]
      refine ⟨Z, ⟨⟨?_, ?_, ?_, ?_, ?_, ?_, ?_, ?_, ?_, ?_⟩, ?_, ?_⟩, by rw [tp_cb e1, tp_cb e2]⟩
      · rw [zX t 0 (by omega), hdt 0 (by omega), i0]
      · rw [zX t 6 (by omega), hdt 6 (by omega), i6]
      · rw [zX t 7 (by omega), hdt 7 (by omega), i7]
      · rw [zX t 8 (by omega), hd8]; exact congrArg nI hrk1.symm
      · rw [zX t 9 (by omega), hdt 9 (by omega), i9]
        refine congrArg nI ?_
        show _ = j + 1 - el_rk n (fun c' => if c' = j then l else s.2.2 c') (j + 1)
        rw [hrk1]; omega
      · rw [zX t 10 (by omega), hdt 10 (by omega), i10]
      · intro l' x g1 g2
        exact z1 l' x g1 g2
      · intro l' g1
        rw [zX _ _ (by omega), hdl]
        by_cases e : l' = l
        · rw [if_pos e]
          refine ⟨fun _ => nI_pos' (by omega), fun w => ?_⟩
          have w : (if l' = l then true else s.2.1 l') = false := w
          rw [if_pos e] at w
          exact Bool.noConfusion w
        · rw [if_neg e]
          show ((if l' = l then true else s.2.1 l') = true → _) ∧ ((if l' = l then true else s.2.1 l') = false → _)
          rw [if_neg e]
          exact iL l' g1
      · intro k hk
        rw [zX _ _ (by omega), hd1]
        show _ = if (if k = j then l else s.2.2 k) < n then nI (if k = j then l else s.2.2 k) else -1
        by_cases e : k = j
        · rw [if_pos e, if_pos e, if_pos q]
        · rw [if_neg e, if_neg e]; exact iA k (by omega)
      · intro k hk hk2
        have hk2 : ¬ (if k = j then l else s.2.2 k) < n := hk2
        show Z.1 (t + 2) (k - el_rk n (fun c' => if c' = j then l else s.2.2 c') k) = _
        by_cases e : k = j
        · rw [if_pos e] at hk2; exact absurd q hk2
        · rw [if_neg e] at hk2
          rw [hrkc l k (by omega), zX _ _ (by omega), hd _ _ (by omega) (by omega) (by omega)]
          exact iF k (by omega) hk2
      · rw [zX t 1 (by omega), hdt 1 (by omega), hI1]
      · intro a i ha
        have := hI2 a i ha
        rw [zX a i (by omega), hd a i (by omega) (by omega) (by omega), this]
    · refine Or.inl ?_
      rw [if_neg q, if_neg q, if_pos (by decide)]
      have hrk1 : el_rk n (fun c' => if c' = j then n else s.2.2 c') (j + 1) = el_rk n s.2.2 j := by
        rw [el_rk, hrkc n j (by omega), if_pos rfl, if_neg (Nat.lt_irrefl n)]; rfl
      have hd : ∀ a i, a ≠ t → a ≠ t + 1 → a ≠ t + 2 → (tv_w (tv_w (tv_w M' (t + 1) j (-1)) (t + 2) (j - el_rk n s.2.2 j) (nI j)) t 9 (nI (j - el_rk n s.2.2 j + 1))).1 a i = M'.1 a i := fun a i q1 q2 q3 => by rw [tp_wk q1, tp_wk q3, tp_wk q2]
      have hdt : ∀ i, i ≠ 9 → (tv_w (tv_w (tv_w M' (t + 1) j (-1)) (t + 2) (j - el_rk n s.2.2 j) (nI j)) t 9 (nI (j - el_rk n s.2.2 j + 1))).1 t i = M'.1 t i := fun i q1 => by rw [tp_wj q1, tp_wk (by omega), tp_wk (by omega)]
      have hd9 : (tv_w (tv_w (tv_w M' (t + 1) j (-1)) (t + 2) (j - el_rk n s.2.2 j) (nI j)) t 9 (nI (j - el_rk n s.2.2 j + 1))).1 t 9 = nI (j - el_rk n s.2.2 j + 1) := tp_ws
      have hd1 : ∀ i, (tv_w (tv_w (tv_w M' (t + 1) j (-1)) (t + 2) (j - el_rk n s.2.2 j) (nI j)) t 9 (nI (j - el_rk n s.2.2 j + 1))).1 (t + 1) i = if i = j then -1 else M'.1 (t + 1) i := fun i => by
        rw [tp_wk (by omega), tp_wk (by omega), tp_w]
        by_cases e : i = j
        · rw [if_pos ⟨rfl, e⟩, if_pos e]
        · rw [if_neg (fun w => e w.2), if_neg e]
      have hd2 : ∀ i, (tv_w (tv_w (tv_w M' (t + 1) j (-1)) (t + 2) (j - el_rk n s.2.2 j) (nI j)) t 9 (nI (j - el_rk n s.2.2 j + 1))).1 (t + 2) i = if i = j - el_rk n s.2.2 j then nI j else M'.1 (t + 2) i := fun i => by
        rw [tp_wk (by omega), tp_w]
        by_cases e : i = j - el_rk n s.2.2 j
        · rw [if_pos ⟨rfl, e⟩, if_pos e]
        · rw [if_neg (fun w => e w.2), if_neg e, tp_wk (by omega)]
      generalize tv_w (tv_w (tv_w M' (t + 1) j (-1)) (t + 2) (j - el_rk n s.2.2 j) (nI j)) t 9 (nI (j - el_rk n s.2.2 j + 1)) = X at hd hdt hd9 hd1 hd2 ⊢
      refine ⟨X, ⟨⟨?_, ?_, ?_, ?_, ?_, ?_, ?_, ?_, ?_, ?_⟩, ?_, ?_⟩, rfl⟩
      · rw [hdt 0 (by omega), i0]
      · rw [hdt 6 (by omega), i6]
      · rw [hdt 7 (by omega), i7]
      · rw [hdt 8 (by omega), i8]; exact congrArg nI hrk1.symm
      · rw [hd9]
        refine congrArg nI ?_
        show _ = j + 1 - el_rk n (fun c' => if c' = j then n else s.2.2 c') (j + 1)
        rw [hrk1]; omega
      · rw [hdt 10 (by omega), i10]
      · intro l' x g1 g2
        rw [hd _ _ (by omega) (by omega) (by omega)]; exact iR l' x g1 g2
      · intro l' g1
        rw [hd _ _ (by omega) (by omega) (by omega)]; exact iL l' g1
      · intro k hk
        rw [hd1]
        show _ = if (if k = j then n else s.2.2 k) < n then nI (if k = j then n else s.2.2 k) else -1
        by_cases e : k = j
        · rw [if_pos e, if_pos e, if_neg (Nat.lt_irrefl n)]
        · rw [if_neg e, if_neg e]; exact iA k (by omega)
      · intro k hk hk2
        have hk2 : ¬ (if k = j then n else s.2.2 k) < n := hk2
        show X.1 (t + 2) (k - el_rk n (fun c' => if c' = j then n else s.2.2 c') k) = _
        rw [hrkc n k (by omega), hd2]
        by_cases e : k = j
        · subst e; rw [if_pos rfl]
        · rw [if_neg e] at hk2
          have hm := (el_rk_mono n s.2.2 (a := k + 1) j (by omega)).2
          have hm1 := (el_rk_mono n s.2.2 (a := k + 1) j (by omega)).1
          have hs : el_rk n s.2.2 (k + 1) = el_rk n s.2.2 k := by rw [el_rk, if_neg hk2]; rfl
          have hk3 := el_rk_le n s.2.2 k
          rw [if_neg (by omega)]
          exact iF k (by omega) hk2
      · rw [hdt 1 (by omega), hI1]
      · intro a i ha
        have := hI2 a i ha
        rw [hd a i (by omega) (by omega) (by omega), this]
  · rintro nn M' ⟨hI, hI1, hI2⟩
    try dsimp only
    rw [St_putInSteps_L2, tp_gl p1, hI.2.2.1, if_pos (nI_le (by omega) (by omega))]
    exact tq_some ⟨hI, hI1, hI2⟩
