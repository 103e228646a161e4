/-! THE REFERENCE'S STEPS -/
theorem vn_b0 : vp_nar .boolean 0 = 0 := by decide
theorem vn_b1 : vp_nar .boolean 1 = 1 := by decide
def mdR (N : tv_M) (n : Nat) (R : Nat → Nat → Nat) : Prop := ∀ l x, l < n → x < 55 → N.1 267 (55 * l + x) = nI (R l x)
def md_st (N : tv_M) (n C p : Nat) (s : el_S) (c : Nat) : Prop := N.1 249 37 = nI n ∧ N.1 249 10 = nI C ∧ N.1 249 2 = nI p ∧ mdR N n s.1 ∧ (∀ l, l < n → N.1 268 l = if s.2.1 l then 1 else 0) ∧ ∀ k, k < c → N.1 269 k = if s.2.2 k < n then nI (s.2.2 k) else -1000000
theorem md_L219 {F n p l c l' off : Nat} {k25 : Int32 → tv_M → Option (Unit × tv_M)} {k193 : Int32 → Int32 → Int32 → tv_M → Option (Unit × tv_M)} {R : Nat → Nat → Nat} {M : tv_M} (hF : 60 < F) (hn : n ≤ 54) (hl : l < n) (hl' : l' < n) (hc : c < 24) (hp : tp_pr p) (hMp : M.1 249 2 = nI p) (hld : M.1 269 c = nI l) (hoff : off < p) (hR : mdR M n R) (hlt : el_lt p n R) : ∃ M', Md_takeSteps_L219 F k25 k193 F (nI c) (nI (55 * l)) (nI l') (nI off) 0 M = k193 (nI c) (nI (55 * l)) (nI (l' + 1)) M' ∧ (∀ x, x < 55 → M'.1 267 (55 * l' + x) = nI (if l' = l then R l x else (R l' x + (p - off) * R l x) % p)) ∧ (∀ i, (i < 55 * l' ∨ 55 * l' + 55 ≤ i) → M'.1 267 i = M.1 267 i) ∧ fo 267 268 M M' := by
  have hp7 := hp.lt
  obtain ⟨F', rfl⟩ : ∃ F', F = F' + 1 := ⟨F - 1, by omega⟩
  by_cases e : l' = l
  · refine ⟨M, ?_, fun x hx => by rw [if_pos e, hR l' x hl' hx, e], fun _ _ => rfl, fo.rf⟩
    rw [Md_takeSteps_L219, if_neg (by decide), tp_rd hc (by omega), hld, e, if_pos rfl, nI_1]
  · by_cases e2 : off = 0
    · refine ⟨M, ?_, fun x hx => ?_, fun _ _ => rfl, fo.rf⟩
      · rw [Md_takeSteps_L219, if_neg (by decide), tp_rd hc (by omega), hld, if_neg (fun q => e (nI_inj (by omega) (by omega) q)), e2, if_pos nI_0, nI_1]
      · rw [if_neg e, e2, Nat.sub_zero, Nat.add_mul_mod_self_left, Nat.mod_eq_of_lt (hlt l' x hl'), hR l' x hl' hx]
    · have h := tl_to0 (g := fun nn j M => Md_takeSteps_L219 (F' + 1) k25 k193 nn (nI c) (nI (55 * l)) (nI l') (nI off) (nI j) M) (N := 55) (F := F' + 1) (s := M) (o := fun M => k193 (nI c) (nI (55 * l)) (nI (l' + 1)) M) (Inv := fun j M' => (∀ x, x < 55 → M'.1 267 (55 * l' + x) = nI (if x < j then (R l' x + (p - off) * R l x) % p else R l' x)) ∧ (∀ i, (i < 55 * l' ∨ 55 * l' + 55 ≤ i) → M'.1 267 i = M.1 267 i) ∧ fo 267 268 M M') (by omega) ⟨fun x hx => hR l' x hl' hx, fun _ _ => rfl, fo.rf⟩ ?_ ?_
      · obtain ⟨M', ⟨h1, h2, h3⟩, h4⟩ := h
        refine ⟨M', h4, fun x hx => ?_, h2, h3⟩
        rw [h1 x hx, if_pos hx, if_neg e]
      · rintro nn j M' hj ⟨h1, h2, h3⟩
        try dsimp only
        have hm : (p - off) * R l j ≤ 7 * 7 := Nat.mul_le_mul (by omega) (by have := hlt l j hl; omega)
        have hr := hlt l' j hl'
        refine ⟨tv_w M' 267 (55 * l' + j) (nI ((R l' j + (p - off) * R l j) % p)), ⟨fun x hx => ?_, fun i hi => ?_, h3.w (by omega) (by omega)⟩, ?_⟩
        · rw [tp_w]
          by_cases e : x = j
          · subst e; rw [if_pos ⟨rfl, rfl⟩, if_pos (by omega)]
          · rw [if_neg (fun q => e (by omega)), h1 x hx]
            by_cases e2 : x < j
            · rw [if_pos e2, if_pos (by omega)]
            · rw [if_neg e2, if_neg (by omega)]
        · rw [tp_wj (by omega)]; exact h2 i hi
        · rw [Md_takeSteps_L219, if_neg (show ¬ (55 : Int32) ≤ nI j from nI_ge (b := 55) hj (by omega)), tp_rd hc (by omega), h3 269 c (by omega), hld, if_neg (fun q => e (nI_inj (by omega) (by omega) q)), if_neg (nI_ne0 (by omega) (by omega)), show (55 : Int32) * nI l' + nI j = nI (55 * l' + j) from by rw [← nI_add, ← nI_mul]; rfl, tp_rd (by omega) (by omega), h1 j hj, if_neg (Nat.lt_irrefl j), nI_add (55 * l) j, tp_rd (by omega) (by omega), h2 (55 * l + j) (by omega), hR l j hl hj, h3 249 2 (by omega), hMp, tp_nz (nI_ne0 (by omega) (by omega)), nI_sub (by omega), nI_mul, nI_add, nI_rem (by omega) (by omega) (by omega), tp_wr (by omega) (by omega), nI_1]
      · rintro nn M' ⟨h1, h2, h3⟩
        try dsimp only
        rw [Md_takeSteps_L219, if_pos (show (55 : Int32) ≤ nI 55 by decide), nI_1]
theorem md_L193 {F n p l c : Nat} {k25 : Int32 → tv_M → Option (Unit × tv_M)} {R : Nat → Nat → Nat} {q : Nat → Nat} {M : tv_M} (hF : 60 < F) (hn : n ≤ 54) (hl : l < n) (hc : c < 24) (hp : tp_pr p) (hMp : M.1 249 2 = nI p) (hMn : M.1 249 37 = nI n) (hld : M.1 269 c = nI l) (hR : mdR M n (fun l' x => if l' = l then q x else R l' x)) (hlt : el_lt p n R) (hq : ∀ x, q x < p) : ∃ M', Md_takeSteps_L193 F k25 F (nI c) (nI (55 * l)) 0 M = k25 (nI (c + 1)) M' ∧ mdR M' n (fun l' x => if l' = l then q x else (R l' x + (p - R l' c) * q x) % p) ∧ fo 267 268 M M' := by
  have hp7 := hp.lt
  have h := tl_to0 (g := fun nn j M => Md_takeSteps_L193 F k25 nn (nI c) (nI (55 * l)) (nI j) M) (N := n) (F := F) (s := M) (o := fun M => k25 (nI (c + 1)) M) (Inv := fun j M' => mdR M' n (fun l' x => if l' = l then q x else if l' < j then (R l' x + (p - R l' c) * q x) % p else R l' x) ∧ fo 267 268 M M') (by omega) ⟨hR, fo.rf⟩ ?_ ?_
  · obtain ⟨M', ⟨h1, h2⟩, h3⟩ := h
    refine ⟨M', h3, fun l' x g1 g2 => ?_, h2⟩
    rw [h1 l' x g1 g2]
    try dsimp only
    rw [if_pos g1]
  · rintro nn j M' hj ⟨h1, h2⟩
    try dsimp only
    have hRb := hlt j c hj
    have e1 := h1 j c hj (by omega)
    dsimp only at e1
    rw [if_neg (Nat.lt_irrefl j)] at e1
    have hb : (if j = l then q c else R j c) < p := by
      by_cases e : j = l
      · rw [if_pos e]; exact hq c
      · rw [if_neg e]; exact hRb
    have hlt' : el_lt p n (fun l' x => if l' = l then q x else if l' < j then (R l' x + (p - R l' c) * q x) % p else R l' x) := fun l' x g => by
      try dsimp only
      by_cases e : l' = l
      · rw [if_pos e]; exact hq x
      · rw [if_neg e]
        by_cases e2 : l' < j
        · rw [if_pos e2]; exact Nat.mod_lt _ (by omega)
        · rw [if_neg e2]; exact hlt l' x g
    obtain ⟨M'', g1, g2, g3, g4⟩ := md_L219 (F := F) (l' := j) (off := if j = l then q c else R j c) (k25 := k25) (k193 := Md_takeSteps_L193 F k25 nn) (M := M') hF hn hl hj hc hp ((h2 _ _ (by omega)).trans hMp) ((h2 _ _ (by omega)).trans hld) hb h1 hlt'
    refine ⟨M'', ⟨fun l' x f1 f2 => ?_, h2.tr g4⟩, ?_⟩
    · by_cases e : l' = j
      · subst e
        rw [g2 x f2]
        by_cases e2 : l' = l
        · subst e2; simp
        · simp only [if_neg e2, if_neg (Nat.lt_irrefl l'), if_pos (Nat.lt_succ_self l'), if_true]
      · rw [g3 _ (by omega), h1 l' x f1 f2]
        by_cases e2 : l' = l
        · simp only [if_pos e2]
        · by_cases e3 : l' < j
          · simp only [if_neg e2, if_pos e3, if_pos (show l' < j + 1 by omega)]
          · simp only [if_neg e2, if_neg e3, if_neg (show ¬ l' < j + 1 by omega)]
    · rw [Md_takeSteps_L193, h2 249 37 (by omega), hMn, if_neg (nI_ge hj (by omega)), show (55 : Int32) * nI j + nI c = nI (55 * j + c) from by rw [← nI_add, ← nI_mul]; rfl, tp_rd (by omega) (by omega), e1]
      exact g1
  · rintro nn M' ⟨h1, h2⟩
    try dsimp only
    rw [Md_takeSteps_L193, h2 249 37 (by omega), hMn, if_pos (nI_le (by omega) (by omega)), nI_1]
theorem md_L152 {F n p l c v : Nat} {k25 : Int32 → tv_M → Option (Unit × tv_M)} {R : Nat → Nat → Nat} {M : tv_M} (hF : 60 < F) (hn : n ≤ 54) (hl : l < n) (hc : c < 24) (hp : tp_pr p) (hv : v < p) (hMp : M.1 249 2 = nI p) (hR : mdR M n R) (hlt : el_lt p n R) : ∃ M', Md_takeSteps_L152 F k25 F (nI c) (nI (55 * l)) (nI v) 0 M = Md_takeSteps_L193 F k25 F (nI c) (nI (55 * l)) 0 M' ∧ mdR M' n (fun l' x => if l' = l then R l x * v % p else R l' x) ∧ fo 267 268 M M' := by
  have hp7 := hp.lt
  have h := tl_to0 (g := fun nn j M => Md_takeSteps_L152 F k25 nn (nI c) (nI (55 * l)) (nI v) (nI j) M) (N := 55) (F := F) (s := M) (o := fun M => Md_takeSteps_L193 F k25 F (nI c) (nI (55 * l)) 0 M) (Inv := fun j M' => mdR M' n (fun l' x => if l' = l ∧ x < j then R l x * v % p else R l' x) ∧ fo 267 268 M M') (by omega) ⟨fun l' x g1 g2 => by rw [hR l' x g1 g2]; dsimp only; rw [if_neg (fun w => absurd w.2 (by omega))], fo.rf⟩ ?_ ?_
  · obtain ⟨M', ⟨h1, h2⟩, h3⟩ := h
    refine ⟨M', h3, fun l' x g1 g2 => ?_, h2⟩
    rw [h1 l' x g1 g2]
    try dsimp only
    by_cases e : l' = l
    · rw [if_pos ⟨e, g2⟩, if_pos e]
    · rw [if_neg (fun w => e w.1), if_neg e]
  · rintro nn j M' hj ⟨h1, h2⟩
    try dsimp only
    have hm : R l j * v ≤ 7 * 7 := Nat.mul_le_mul (by have := hlt l j hl; omega) (by omega)
    refine ⟨tv_w M' 267 (55 * l + j) (nI (R l j * v % p)), ⟨fun l' x g1 g2 => ?_, h2.w (by omega) (by omega)⟩, ?_⟩
    · rw [tp_w]
      by_cases e : l' = l ∧ x = j
      · obtain ⟨rfl, rfl⟩ := e
        try dsimp only
        rw [if_pos ⟨rfl, rfl⟩, if_pos ⟨rfl, by omega⟩]
      · rw [if_neg (fun w => e ⟨by omega, by omega⟩), h1 l' x g1 g2]
        try dsimp only
        by_cases e2 : l' = l ∧ x < j
        · rw [if_pos e2, if_pos ⟨e2.1, by omega⟩]
        · rw [if_neg e2, if_neg (fun w => e2 ⟨w.1, by have := w.2; have : ¬ x = j := fun y => e ⟨w.1, y⟩; omega⟩)]
    · have e1 := h1 l j hl hj
      dsimp only at e1
      rw [if_neg (fun w => absurd w.2 (by omega))] at e1
      rw [Md_takeSteps_L152, if_neg (show ¬ (55 : Int32) ≤ nI j from nI_ge (b := 55) hj (by omega)), nI_add (55 * l) j, tp_rd (by omega) (by omega), e1, h2 249 2 (by omega), hMp, tp_nz (nI_ne0 (by omega) (by omega)), nI_mul, nI_rem (by omega) (by omega) (by omega), tp_wr (by omega) (by omega), nI_1]
  · rintro nn M' ⟨h1, h2⟩
    try dsimp only
    rw [Md_takeSteps_L152, if_pos (show (55 : Int32) ≤ nI 55 by decide)]
theorem md_L43 {F n p C c : Nat} {k25 : Int32 → tv_M → Option (Unit × tv_M)} {s : el_S} {M : tv_M} (hF : 60 < F) (hn : n ≤ 54) (hC : C ≤ 24) (hc : c < C) (hp : p ≤ 7) (h : md_st M n C p s c) (hlt : el_lt p n s.1) : Md_takeSteps_L43 F k25 F (nI c) 0 (tv_w M 269 c (-1000000)) = Md_takeSteps_L103 F k25 (nI c) (tv_w M 269 c (if el_ld n s c < n then nI (el_ld n s c) else -1000000)) := by
  obtain ⟨h1, h2, h3, hR, hL, hA⟩ := h
  have hh : ∀ m j nn, j + m = n → m < nn → (∀ k, k < j → el_ok s c k = false) → Md_takeSteps_L43 F k25 nn (nI c) (nI j) (tv_w M 269 c (-1000000)) = Md_takeSteps_L103 F k25 (nI c) (tv_w M 269 c (if el_ld n s c < n then nI (el_ld n s c) else -1000000)) := by
    have hww : tv_w (tv_w M 269 c (-1000000)) 269 c (-1000000) = tv_w M 269 c (-1000000) := tp_ext (fun a i => by
      rw [tp_w, tp_w]
      by_cases e : a = 269 ∧ i = c
      · rw [if_pos e, if_pos e]
      · rw [if_neg e]) (fun _ _ => rfl)
    intro m
    induction m with
    | zero =>
      intro j nn e1 e2 hI
      obtain ⟨nn, rfl⟩ : ∃ n', nn = n' + 1 := ⟨nn - 1, by omega⟩
      have : j = n := by omega
      subst this
      rw [Md_takeSteps_L43, tp_wk (by omega), h1, if_pos (nI_le (by omega) (by omega))]
      have : el_ld j s c = j := el_find_no hI
      rw [this, if_neg (Nat.lt_irrefl j)]
    | succ m ih =>
      intro j nn e1 e2 hI
      obtain ⟨nn, rfl⟩ : ∃ n', nn = n' + 1 := ⟨nn - 1, by omega⟩
      have hj : j < n := by omega
      have e0 : Md_takeSteps_L43 F k25 (nn + 1) (nI c) (nI j) (tv_w M 269 c (-1000000)) = if (if s.2.1 j then 1 else 0 : Int32) = 0 then (if nI (s.1 j c) = 0 then Md_takeSteps_L43 F k25 nn (nI c) (nI (j + 1)) (tv_w M 269 c (-1000000)) else Md_takeSteps_L43 F k25 nn (nI c) (nI (j + 1)) (tv_w (tv_w M 269 c (-1000000)) 269 c (nI j))) else Md_takeSteps_L43 F k25 nn (nI c) (nI (j + 1)) (tv_w M 269 c (-1000000)) := by
        rw [Md_takeSteps_L43, tp_wk (by omega), h1, if_neg (nI_ge hj (by omega)), tp_rd (by omega) (by omega), tp_ws, if_pos rfl, tp_rd (by omega) (by omega), tp_wk (by omega), hL j hj, show (55 : Int32) * nI j + nI c = nI (55 * j + c) from by rw [← nI_add, ← nI_mul]; rfl, tp_rd (by omega) (by omega), tp_wk (by omega), hR j c hj (by omega), tp_wr (by omega) (by omega), tp_wr (by omega) (by omega), hww, nI_1]
      rw [e0]
      have hb := hlt j c hj
      by_cases hl : s.2.1 j = true
      · rw [hl, if_neg (by decide)]
        refine ih (j + 1) nn (by omega) (by omega) (fun k hk => ?_)
        by_cases e : k = j
        · subst e; unfold el_ok; rw [hl]; rfl
        · exact hI k (by omega)
      · have hl : s.2.1 j = false := Bool.eq_false_iff.mpr hl
        rw [hl, if_pos (by rfl)]
        by_cases hz : s.1 j c = 0
        · rw [hz, if_pos nI_0]
          refine ih (j + 1) nn (by omega) (by omega) (fun k hk => ?_)
          by_cases e : k = j
          · subst e; unfold el_ok; rw [hl, hz]; rfl
          · exact hI k (by omega)
        · have hj2 : el_ld n s c = j := el_find_at hI hj (by unfold el_ok; rw [hl]; simp [hz])
          have hww2 : tv_w (tv_w M 269 c (-1000000)) 269 c (nI j) = tv_w M 269 c (nI j) := tp_ext (fun a i => by
            rw [tp_w, tp_w]
            by_cases e : a = 269 ∧ i = c
            · rw [if_pos e, tp_w, if_pos e]
            · rw [if_neg e, if_neg e, tp_w, if_neg e]) (fun _ _ => rfl)
          rw [if_neg (nI_ne0 (by omega) (by omega)), hww2, hj2, if_pos hj]
          obtain ⟨nn, rfl⟩ : ∃ n', nn = n' + 1 := ⟨nn - 1, by omega⟩
          rw [Md_takeSteps_L43, tp_wk (by omega), h1]
          by_cases e3 : n ≤ j + 1
          · rw [if_pos (nI_le e3 (by omega))]
          · rw [if_neg (nI_ge (by omega) (by omega)), tp_rd (by omega) (by omega), tp_ws, if_neg (fun w => absurd ((tp_ei _ _).mp w) (by rw [nI_toInt (by omega)]; have : (-1000000 : Int32).toInt = -1000000 := rfl; omega))]
  exact hh n 0 F (by omega) (by omega) (fun k hk => absurd hk (by omega))
theorem md_col {F n p C c : Nat} {k25 : Int32 → tv_M → Option (Unit × tv_M)} {s : el_S} {M : tv_M} (hF : 60 < F) (hn : n ≤ 54) (hC : C ≤ 24) (hc : c < C) (hp : tp_pr p) (h : md_st M n C p s c) (hlt : el_lt p n s.1) : ∃ M', Md_takeSteps_L43 F k25 F (nI c) 0 (tv_w M 269 c (-1000000)) = k25 (nI (c + 1)) M' ∧ md_st M' n C p (el_step p n c s) (c + 1) ∧ fo 267 270 M M' := by
  have hp7 := hp.lt
  rw [md_L43 hF hn hC hc (by omega) h hlt]
  obtain ⟨h1, h2, h3, hR, hL, hA⟩ := h
  unfold el_step
  by_cases q : el_ld n s c < n
  · rw [if_pos q, if_pos q]
    have hok := (el_find_P n (el_ok s c)).2.2 q
    have hok : el_ok s c (el_ld n s c) = true := hok
    generalize el_ld n s c = l at q hok ⊢
    have h00 : s.1 l c ≠ 0 := by
      unfold el_ok at hok
      rw [Bool.and_eq_true] at hok
      exact of_decide_eq_true hok.2
    have hb := hlt l c q
    have hinv := (tp_invP p (by omega) hp (s.1 l c) hb h00).2.1
    have e0 : Md_takeSteps_L103 F k25 (nI c) (tv_w M 269 c (nI l)) = Md_takeSteps_L152 F k25 F (nI c) (nI (55 * l)) (nI (tp_inv p (s.1 l c))) 0 (tv_w (tv_w M 269 c (nI l)) 268 l 1) := by
      unfold Md_takeSteps_L103
      have e55 : (55 : Int32) * nI l = nI (55 * l) := by rw [← nI_mul]; rfl
      rw [tp_rd (by omega) (by omega), tp_ws, if_neg (fun w => absurd ((tp_ei _ _).mp w) (by rw [nI_toInt (by omega)]; have : (-1000000 : Int32).toInt = -1000000 := rfl; omega)), tp_rd (by omega) (by omega), tp_ws, tp_rd (by omega) (by omega), tp_ws, tp_wr (by omega) (by omega), vn_b1, e55, nI_add, tp_rd (by omega) (by omega), tp_wk (by omega), tp_wk (by omega), hR l c q (by omega), tp_cb (md_inv hp (by rw [tp_wk (by omega), tp_wk (by omega)]; exact h3) hb h00 (by omega))]
    rw [e0]
    obtain ⟨Y, y1, y2, y3⟩ := md_L152 (F := F) (k25 := k25) (M := tv_w (tv_w M 269 c (nI l)) 268 l 1) (R := s.1) (c := c) (l := l) hF hn q (by omega) hp hinv (by rw [tp_wk (by omega), tp_wk (by omega)]; exact h3) (fun l' x g1 g2 => by rw [tp_wk (by omega), tp_wk (by omega)]; exact hR l' x g1 g2) hlt
    rw [y1]
    obtain ⟨Z, z1, z2, z3⟩ := md_L193 (F := F) (k25 := k25) (M := Y) (R := s.1) (q := el_q p s.1 l c) (c := c) (l := l) hF hn q (by omega) hp (by rw [y3 249 2 (by omega), tp_wk (by omega), tp_wk (by omega)]; exact h3) (by rw [y3 249 37 (by omega), tp_wk (by omega), tp_wk (by omega)]; exact h1) (by rw [y3 269 c (by omega), tp_wk (by omega), tp_ws]) y2 hlt (fun x => Nat.mod_lt _ (by omega))
    have hZ : ∀ a i, a ≠ 267 → Z.1 a i = (tv_w (tv_w M 269 c (nI l)) 268 l 1).1 a i := fun a i ha => by rw [z3 a i (by omega), y3 a i (by omega)]
    refine ⟨Z, z1, ⟨?_, ?_, ?_, ?_, ?_, ?_⟩, fun a i ha => ?_⟩
    · rw [hZ _ _ (by omega), tp_wk (by omega), tp_wk (by omega)]; exact h1
    · rw [hZ _ _ (by omega), tp_wk (by omega), tp_wk (by omega)]; exact h2
    · rw [hZ _ _ (by omega), tp_wk (by omega), tp_wk (by omega)]; exact h3
    · exact z2
    · intro l' hl'
      rw [hZ _ _ (by omega), tp_w]
      show _ = if (if l' = l then true else s.2.1 l') = true then 1 else 0
      by_cases e : l' = l
      · rw [if_pos ⟨rfl, e⟩, if_pos e, if_pos rfl]
      · rw [if_neg (fun w => e w.2), if_neg e, tp_wk (by omega)]; exact hL l' hl'
    · intro k hk
      rw [hZ _ _ (by omega), tp_wk (by omega), tp_w]
      show _ = if (if k = c then l else s.2.2 k) < n then nI (if k = c then l else s.2.2 k) else -1000000
      by_cases e : k = c
      · rw [if_pos ⟨rfl, e⟩, if_pos e, if_pos q]
      · rw [if_neg (fun w => e w.2), if_neg e]; exact hA k (by omega)
    · rw [hZ _ _ (by omega), tp_wk (by omega), tp_wk (by omega)]
  · rw [if_neg q, if_neg q]
    refine ⟨tv_w M 269 c (-1000000), ?_, ⟨?_, ?_, ?_, ?_, ?_, ?_⟩, fun a i ha => tp_wk (by omega)⟩
    · unfold Md_takeSteps_L103
      rw [tp_rd (by omega) (by omega), tp_ws, if_pos rfl, nI_1]
    · rw [tp_wk (by omega)]; exact h1
    · rw [tp_wk (by omega)]; exact h2
    · rw [tp_wk (by omega)]; exact h3
    · intro l' x g1 g2
      rw [tp_wk (by omega)]; exact hR l' x g1 g2
    · intro l' hl'
      rw [tp_wk (by omega)]; exact hL l' hl'
    · intro k hk
      rw [tp_w]
      show _ = if (if k = c then n else s.2.2 k) < n then nI (if k = c then n else s.2.2 k) else -1000000
      by_cases e : k = c
      · rw [if_pos ⟨rfl, e⟩, if_pos e, if_neg (Nat.lt_irrefl n)]
      · rw [if_neg (fun w => e w.2), if_neg e]; exact hA k (by omega)
theorem md_put {F n p C : Nat} {A : Nat → Nat → Nat} {M : tv_M} (hF : 60 < F) (hn : n ≤ 54) (hC : C ≤ 24) (hp : tp_pr p) (hlt : el_lt p n A) (h1 : M.1 249 37 = nI n) (h2 : M.1 249 10 = nI C) (h3 : M.1 249 2 = nI p) (hR : mdR M n A) : tq (Md_takeSteps F M) (fun _ M' => md_st M' n C p (el_run p n A C) C ∧ fo 267 270 M M') := by
  have hp7 := hp.lt
  unfold Md_takeSteps
  have h := tl_to0 (g := fun nn j M => Md_takeSteps_L2 F nn (nI j) M) (N := n) (F := F) (s := M) (o := fun M => Md_takeSteps_L25 F F 0 M) (Inv := fun j M' => (∀ l, l < j → M'.1 268 l = 0) ∧ fo 268 269 M M') (by omega) ⟨fun l hl => absurd hl (by omega), fo.rf⟩ ?_ ?_
  · obtain ⟨Y, ⟨y1, y2⟩, y3⟩ := h
    rw [show Md_takeSteps_L2 F F 0 M = Md_takeSteps_L25 F F 0 Y from y3]
    refine tl_loop0 (g := fun nn j M => Md_takeSteps_L25 F nn (nI j) M) (N := C) (Inv := fun j M' => md_st M' n C p (el_run p n A j) j ∧ fo 267 270 M M') (by omega) ⟨⟨?_, ?_, ?_, ?_, ?_, ?_⟩, y2.su (by omega) (by omega)⟩ ?_ ?_
    · rw [y2 _ _ (by omega)]; exact h1
    · rw [y2 _ _ (by omega)]; exact h2
    · rw [y2 _ _ (by omega)]; exact h3
    · intro l x g1 g2
      rw [y2 _ _ (by omega)]; exact hR l x g1 g2
    · intro l hl
      rw [y1 l hl]; rfl
    · intro k hk; exact absurd hk (by omega)
    · rintro nn j M' hj ⟨i1, i2⟩
      try dsimp only
      obtain ⟨Z, z1, z2, z3⟩ := md_col (F := F) (k25 := Md_takeSteps_L25 F nn) hF hn hC hj hp i1 (el_lt_run (by omega) hlt j)
      refine Or.inl ⟨Z, ⟨z2, i2.tr z3⟩, ?_⟩
      rw [Md_takeSteps_L25, i1.2.1, if_neg (nI_ge hj (by omega)), tp_wr (by omega) (by omega)]
      exact z1
    · rintro nn M' ⟨i1, i2⟩
      try dsimp only
      rw [Md_takeSteps_L25, i1.2.1, if_pos (nI_le (by omega) (by omega))]
      exact tq_some ⟨i1, i2⟩
  · rintro nn j M' hj ⟨i1, i2⟩
    try dsimp only
    refine ⟨tv_w M' 268 j 0, ⟨fun l hl => ?_, i2.w (by omega) (by omega)⟩, ?_⟩
    · rw [tp_w]
      by_cases e : l = j
      · rw [if_pos ⟨rfl, e⟩]
      · rw [if_neg (fun w => e w.2)]; exact i1 l (by omega)
    · rw [Md_takeSteps_L2, i2 249 37 (by omega), h1, if_neg (nI_ge hj (by omega)), tp_wr (by omega) (by omega), vn_b0, nI_1]
  · rintro nn M' ⟨i1, i2⟩
    try dsimp only
    rw [Md_takeSteps_L2, i2 249 37 (by omega), h1, if_pos (nI_le (by omega) (by omega))]
