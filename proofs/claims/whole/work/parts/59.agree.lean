/-! WHAT AGREES: the kept steps of the lines -/
def agA (p : Nat) (T : Nat → Nat → Nat) (l x : Nat) : Nat := if x < tC T then ly p T 99 (tK T) l x else if x = tC T + l then 1 else 0
/-- the lines' steps as the reference has them -/
def ru (p : Nat) (T : Nat → Nat → Nat) (but : Nat) : el_S := el_run p (ly_n T but (tK T)) (ly p T but (tK T)) (tC T)
def cA (M : tv_M) (p : Nat) (T : Nat → Nat → Nat) : Prop := sb_st M 71 (tL T) (tC T) (tC T + tL T) p (el_run p (tL T) (agA p T) (tC T)) (tC T) ∧ M.1 71 1 = nI 30 ∧ M.1 106 0 = nI p ∧ M.1 106 1 = nI 1
theorem sb_st.cg {M M' : tv_M} {t n C W p c : Nat} {s : el_S} (ht : sb_t t) (h : sb_st M t n C W p s c) (hn : n ≤ sb_n t) (hk : ∀ a i, t ≤ a → a < t + 5 + sb_n t → M'.1 a i = M.1 a i) : sb_st M' t n C W p s c := by
  have hl := sb_lE ht
  obtain ⟨h0, h6, h7, h8, h9, h10, hR, hL, hd, hf⟩ := h
  refine ⟨?_, ?_, ?_, ?_, ?_, ?_, fun l x q1 q2 => ?_, fun l q => ?_, fun k q => ?_, fun k q1 q2 => ?_⟩
  · rw [hk _ _ (by omega) (by omega)]; exact h0
  · rw [hk _ _ (by omega) (by omega)]; exact h6
  · rw [hk _ _ (by omega) (by omega)]; exact h7
  · rw [hk _ _ (by omega) (by omega)]; exact h8
  · rw [hk _ _ (by omega) (by omega)]; exact h9
  · rw [hk _ _ (by omega) (by omega)]; exact h10
  · rw [hk _ _ (by omega) (by omega)]; exact hR l x q1 q2
  · rw [hk _ _ (by omega) (by omega)]; exact hL l q
  · rw [hk _ _ (by omega) (by omega)]; exact hd k q
  · rw [hk _ _ (by omega) (by omega)]; exact hf k q1 q2
theorem cA.cg {M M' : tv_M} {p : Nat} {T : Nat → Nat → Nat} (hT : gT p T) (h : cA M p T) (hk : ∀ a i, 71 ≤ a → a < 106 → M'.1 a i = M.1 a i) (h0 : M'.1 106 0 = M.1 106 0) (h1 : M'.1 106 1 = M.1 106 1) : cA M' p T := ⟨h.1.cg (Or.inl rfl) (by have := hT.L; show tL T ≤ 30; omega) (fun a i q1 q2 => hk a i q1 q2), by rw [hk _ _ (by omega) (by omega)]; exact h.2.1, by rw [h0]; exact h.2.2.1, by rw [h1]; exact h.2.2.2⟩
theorem agA_lt {p : Nat} {T : Nat → Nat → Nat} (hp : tp_pr p) (hT : gT p T) : el_lt p (tL T) (agA p T) := fun l x _ => by
  have hp7 := hp.lt
  unfold agA
  by_cases q : x < tC T
  · rw [if_pos q]; exact ly_lt (by omega) hT _ (Nat.le_refl _) l x
  · rw [if_neg q]
    by_cases q2 : x = tC T + l
    · rw [if_pos q2]; omega
    · rw [if_neg q2]; omega
theorem gT.nbut {p but : Nat} {T : Nat → Nat → Nat} (h : gT p T) : ly_n T but (tK T) ≤ 30 := by
  have := ly_n_le (but := but) h (tK T) (Nat.le_refl _)
  have := h.2.1
  omega
theorem ru_cg {p : Nat} {T : Nat → Nat → Nat} (hT : gT p T) : (∀ l x, l < tL T → x < tC T → (el_run p (tL T) (agA p T) (tC T)).1 l x = (ru p T 99).1 l x) ∧ (∀ l, l < tL T → (el_run p (tL T) (agA p T) (tC T)).2.1 l = (ru p T 99).2.1 l) ∧ (∀ k, (el_run p (tL T) (agA p T) (tC T)).2.2 k = (ru p T 99).2.2 k) := by
  unfold ru
  rw [hT.n99]
  obtain ⟨h1, h2, h3, -⟩ := el_run_cg (p := p) (n := tL T) (C := tC T) (A := agA p T) (B := ly p T 99 (tK T)) (fun l x _ hx => if_pos hx) (tC T) (Nat.le_refl _)
  exact ⟨h1, h2, h3⟩
section AGREE
variable {F p t n C W c : Nat} {a b : Int32} {M N : tv_M} {T R : Nat → Nat → Nat} {s : el_S}
theorem sb_leadAt (ht : sb_t t) (hC : C ≤ 24) (h : sb_st M t n C W p s C) (hc : c < C) : St_leaderAt F t (nI c) M = some (if s.2.2 c < n then nI (s.2.2 c) else -1, M) := by
  obtain ⟨p1, p2, p3, p4, p5, p6, p7, p8, p9⟩ := sb_P ht
  unfold St_leaderAt
  rw [tp_gl p1, if_neg (nI_pos (by omega)), h.2.2.1, if_pos (nI_lt hc (by omega)), tp_nn p3, tp_gn p7, tp_rd (by omega) (by decide), h.2.2.2.2.2.2.2.2.1 c hc]
theorem sb_numAt {l x : Nat} (ht : sb_t t) (hn : n ≤ sb_n t) (hW : W ≤ sb_w t) (h : sb_st M t n C W p s C) (hl : l < n) (hx : x < W) : St_numberAt F t (nI l) (nI x) M = some (nI (s.1 l x), M) := by
  obtain ⟨p1, p2, p3, p4, p5, p6, p7, p8, p9⟩ := sb_P ht
  obtain ⟨b1, b2, b3⟩ := sb_bd ht
  obtain ⟨r1, r2⟩ := sb_row ht (show l < sb_n t by omega)
  unfold St_numberAt
  rw [tp_gl p1, if_neg (nI_pos (by omega)), h.2.1, if_neg (nI_ge hl (by omega)), if_neg (nI_pos (by omega)), h.2.2.2.2.2.1, if_pos (nI_lt hx (by omega)), tp_nn p2, tp_gn p6, tp_ap (by omega) (by omega) r1, tp_gn r2, tp_rd (by omega) (by omega), h.2.2.2.2.2.2.1 l x hl hx]
theorem sb_numNo {x : Int32} (ht : sb_t t) : St_numberAt F t (-1) x M = some (0, M) := by
  obtain ⟨p1, -⟩ := sb_P ht
  unfold St_numberAt
  rw [tp_gl p1, if_pos (by decide)]
theorem sb_extAt {l x : Nat} (ht : sb_t t) (hn : n ≤ sb_n t) (hW : W ≤ sb_w t) (h : sb_st M t n C W p s C) (hl : l < n) (hx : C + x < W) : St_extraAt F t (nI l) (nI x) M = some (nI (s.1 l (C + x)), M) := by
  obtain ⟨p1, -⟩ := sb_P ht
  unfold St_extraAt
  rw [tp_gl p1, h.2.2.1, nI_add, tp_cb (sb_numAt ht hn hW h hl hx)]
theorem sb_extNo {x : Int32} (ht : sb_t t) : St_extraAt F t (-1) x M = some (0, M) := by
  obtain ⟨p1, -⟩ := sb_P ht
  unfold St_extraAt
  rw [tp_gl p1, tp_cb (sb_numNo ht)]
theorem sb_isL {l : Nat} (ht : sb_t t) (hn : n ≤ sb_n t) (h : sb_st M t n C W p s C) (hl : l < n) : St_isLeader F t (nI l) M = some (if s.2.1 l then 1 else 0, M) := by
  obtain ⟨p1, p2, p3, p4, p5, p6, p7, p8, p9⟩ := sb_P ht
  obtain ⟨b1, b2, b3⟩ := sb_bd ht
  obtain ⟨q1, q2⟩ := h.2.2.2.2.2.2.2.1 l hl
  unfold St_isLeader
  rw [tp_gl p1, if_neg (nI_pos (by omega)), h.2.1, if_neg (nI_ge hl (by omega)), tp_nn p5, tp_gn p9, tp_rd (by omega) (by omega)]
  by_cases q : s.2.1 l = true
  · rw [if_neg (Int32.not_lt.mpr (q1 q)), if_pos q]
  · rw [q2 (Bool.eq_false_iff.mpr q), if_pos (by decide), if_neg q]
/-- the k-th free column -/
theorem fr_ex {ld : Nat → Nat} : ∀ C k, k < C - el_rk n ld C → ∃ f, f < C ∧ ¬ ld f < n ∧ f - el_rk n ld f = k := by
  intro C
  induction C with
  | zero => intro k hk; omega
  | succ C ih =>
    intro k hk
    rw [el_rk] at hk
    have hle := el_rk_le n ld C
    by_cases q : ld C < n
    · rw [if_pos q] at hk
      obtain ⟨f, h1, h2, h3⟩ := ih k (by omega)
      exact ⟨f, by omega, h2, h3⟩
    · rw [if_neg q] at hk
      by_cases e : k = C - el_rk n ld C
      · exact ⟨C, by omega, q, e.symm⟩
      · obtain ⟨f, h1, h2, h3⟩ := ih k (by omega)
        exact ⟨f, by omega, h2, h3⟩
theorem fr_mono {ld : Nat → Nat} {f g : Nat} (hf : ¬ ld f < n) (hfg : f < g) : f - el_rk n ld f < g - el_rk n ld g := by
  have h1 := el_rk_mono n ld (a := f + 1) g (by omega)
  have h2 : el_rk n ld (f + 1) = el_rk n ld f := by rw [el_rk, if_neg hf, Nat.add_zero]
  have h3 := el_rk_le n ld f
  omega
theorem sb_freeCol {f : Nat} (ht : sb_t t) (hC : C ≤ 24) (h : sb_st M t n C W p s C) (hf : f < C) (hfr : ¬ s.2.2 f < n) : St_freeColumn F t (nI (f - el_rk n s.2.2 f)) M = some (nI f, M) := by
  obtain ⟨p1, p2, p3, p4, p5, p6, p7, p8, p9⟩ := sb_P ht
  have h1 := fr_mono hfr hf
  unfold St_freeColumn
  rw [tp_gl p1, if_neg (nI_pos (by omega)), h.2.2.2.2.1, if_pos (nI_lt h1 (by omega)), tp_nn p4, tp_gn p8, tp_rd (by omega) (by decide), h.2.2.2.2.2.2.2.2.2 f hf hfr]
/-- a number of the basis -/
def bs (p n : Nat) (s : el_S) (f c : Nat) : Nat := if s.2.2 c < n then (p - s.1 (s.2.2 c) f) % p else if c = f then 1 else 0
theorem bs_lt (hp : 2 ≤ p) {f c : Nat} : bs p n s f c < p := by
  unfold bs
  by_cases q : s.2.2 c < n
  · rw [if_pos q]; exact Nat.mod_lt _ (by omega)
  · rw [if_neg q]
    by_cases q2 : c = f
    · rw [if_pos q2]; omega
    · rw [if_neg q2]; omega
theorem ru_lt (hp : tp_pr p) (hT : gT p T) {but : Nat} : el_lt p (ly_n T but (tK T)) (ru p T but).1 := by
  have hp7 := hp.lt
  unfold ru
  exact el_lt_run (by omega) (fun l x _ => ly_lt (by omega) hT _ (Nat.le_refl _) l x) _
theorem cA.st (hT : gT p T) (h : cA M p T) : sb_st M 71 (tL T) (tC T) (tC T + tL T) p (el_run p (tL T) (agA p T) (tC T)) (tC T) := h.1
theorem ag_rk (hT : gT p T) : el_rk (tL T) (el_run p (tL T) (agA p T) (tC T)).2.2 (tC T) = el_rk (tL T) (ru p T 99).2.2 (tC T) := el_rk_cg _ (fun k _ => (ru_cg hT).2.2 k)
theorem ag_basis {f c : Nat} (hp : tp_pr p) (hT : gT p T) (cc : cT M p T) (ca : cA M p T) (hf : f < tC T) (hfr : ¬ (ru p T 99).2.2 f < tL T) (hc : c < tC T) : Ag_basisNumber F (nI (f - el_rk (tL T) (ru p T 99).2.2 f)) (nI c) M = some (nI (bs p (tL T) (ru p T 99) f c), M) := by
  have hp7 := hp.lt
  have hC := hT.C
  have hL := hT.L
  obtain ⟨r1, r2, r3⟩ := ru_cg hT
  have h := ca.1
  have e1 := sb_freeCol (F := F) (f := f) (Or.inl rfl) hC h hf (by rw [r3]; exact hfr)
  rw [el_rk_cg f (fun k _ => r3 k)] at e1
  have e2 := sb_leadAt (F := F) (Or.inl rfl) hC h hc
  rw [r3] at e2
  unfold Ag_basisNumber bs
  rw [tp_cb e1, tp_cb e2]
  by_cases q : (ru p T 99).2.2 c < tL T
  · have e3 := sb_numAt (F := F) (l := (ru p T 99).2.2 c) (x := f) (Or.inl rfl) hL (show tC T + tL T ≤ 54 by omega) h q (by omega)
    have hlt := ru_lt hp hT (but := 99) ((ru p T 99).2.2 c) f (by rw [hT.n99]; exact q)
    rw [if_pos q, if_pos (nI_pos' (by omega)), tp_cb e3, cc.1, r1 _ f q hf, nI_sub (by omega), tp_cb (xx_rest hp (by omega)), if_pos q]
  · rw [if_neg q, if_neg (by decide), if_neg q]
    by_cases e : c = f
    · rw [if_pos (by rw [e]), if_pos e]; rfl
    · rw [if_neg (fun w => e (nI_inj (by omega) (by omega) w)), if_neg e]; rfl
theorem ag_free (hT : gT p T) (cc : cT M p T) (ca : cA M p T) : Ag_freeColumns F M = some (nI (tC T - el_rk (tL T) (ru p T 99).2.2 (tC T)), M) := by
  have hle := el_rk_le (tL T) (ru p T 99).2.2 (tC T)
  unfold Ag_freeColumns Ag_leaders
  rw [ca.1.2.2.2.1, ag_rk hT]
  show some (M.1 18 7 - _, M) = _
  rw [cc.2.2.2.2.1, nI_sub hle]
/-! the reference -/
theorem mdb (j : Nat) (h : j < 10) : (nI j = (-1000000 : Int32) ↔ j = 99) := ⟨fun w => absurd w (nI_none (by omega)), fun w => by omega⟩
/-- what the steps may change -/
def fA (N N' : tv_M) : Prop := ∀ a i, ¬ (a = 249 ∧ i = 37) → (a < 267 ∨ 270 ≤ a) → N'.1 a i = N.1 a i
theorem fA.tr {N N' N'' : tv_M} (h : fA N N') (g : fA N' N'') : fA N N'' := fun a i q1 q2 => (g a i q1 q2).trans (h a i q1 q2)
theorem fA.mT {N N' : tv_M} (h : fA N N') (hm : mT N p T) : mT N' p T := hm.cg (fun a i q => h a i (by rcases q with q | q <;> omega) (by rcases q with q | q <;> omega))
theorem md_lines {but : Nat} {but32 : Int32} (hF : 60 < F) (hp : tp_pr p) (hT : gT p T) (mc : mT N p T) (hb : ∀ j, j < 10 → (nI j = but32 ↔ j = but)) : ∃ N1 N2, Md_layTies F but32 N = some ((), N1) ∧ Md_takeSteps F N1 = some ((), N2) ∧ md_st N2 (ly_n T but (tK T)) (tC T) p (ru p T but) (tC T) ∧ fA N N2 := by
  have hp7 := hp.lt
  have hC := hT.C
  have hnb := hT.nbut (but := but)
  obtain ⟨u, N1, x1, x2, x3, x4⟩ := md_lay (F := F) hF hp hT mc hb
  have mc1 := mc.f37 x4
  obtain ⟨v, N2, y1, y2, y3⟩ := md_put (F := F) (C := tC T) hF (show ly_n T but (tK T) ≤ 54 by omega) hC hp (fun l x _ => ly_lt (by omega) hT _ (Nat.le_refl _) l x) x2 mc1.2.2.1 mc1.1 x3
  refine ⟨N1, N2, x1, y1, y2, fun a i q1 q2 => ?_⟩
  rw [y3 a i (by omega), x4 a i (by omega) q1]
theorem md_leaders (hF : 60 < F) (hC : C ≤ 24) (hn : n ≤ 54) (h : md_st N n C p s C) : Md_leaders F N = some (nI (el_rk n s.2.2 C), N) := by
  have hh : ∀ d c nn, c + d = C → d < nn → Md_leaders_L4 F nn (nI (el_rk n s.2.2 c)) (nI c) N = some (nI (el_rk n s.2.2 C), N) := by
    intro d
    induction d with
    | zero =>
      intro c nn e1 e2
      obtain ⟨nn, rfl⟩ : ∃ n', nn = n' + 1 := ⟨nn - 1, by omega⟩
      rw [show c = C by omega, Md_leaders_L4, h.2.1, if_pos (nI_le (Nat.le_refl _) (by omega))]
    | succ d ih =>
      intro c nn e1 e2
      obtain ⟨nn, rfl⟩ : ∃ n', nn = n' + 1 := ⟨nn - 1, by omega⟩
      have hi := ih (c + 1) nn (by omega) (by omega)
      rw [el_rk] at hi
      rw [Md_leaders_L4, h.2.1, if_neg (nI_ge (by omega) (by omega)), tp_rd (by omega) (by decide), h.2.2.2.2.2 c (by omega), nI_1, nI_1]
      by_cases q : s.2.2 c < n
      · rw [if_pos q, if_neg (nI_none (by omega))]
        rw [if_pos q] at hi
        exact hi
      · rw [if_neg q, if_pos rfl, show ∀ x : Int32, x + 0 = x from Int32.add_zero]
        rw [if_neg q, Nat.add_zero] at hi
        exact hi
  exact hh C 0 F (by omega) (by omega)
/-- a call that changes nothing in the class; the reference's working cells -/
def fAm (N N' : tv_M) : Prop := ∀ a i, ¬ (a = 249 ∧ (i = 0 ∨ i = 37)) → (a < 267 ∨ 270 ≤ a) → N'.1 a i = N.1 a i
theorem fA.m (h : fA (tv_w N 249 0 0) M) : fAm N M := fun a i q1 q2 => by rw [h a i (by omega) q2, tp_w, if_neg (by omega)]
theorem fAm_0 : fAm N (tv_w N 249 0 0) := fun a i q1 _ => by rw [tp_w, if_neg (by omega)]
theorem op_all (hF : 60 < F) (hp : tp_pr p) (hT : gT p T) (cc : cT M p T) (ca : cA M p T) (mc : mT N p T) : ∃ r, Xx_all F a M = some (r, M) ∧ tq (Md_all F a N) (fun q N' => q = r ∧ fAm N N') := by
  have hC := hT.C
  have hL := hT.L
  have mc' := mc.w0
  unfold Md_all
  rw [tp_pf]
  rcases tp_ix a (n := 5) (by decide) with h | ⟨k, hk, rfl⟩
  · refine ⟨-1000001, ?_, by rw [tp_cb (md_in_out h (by decide) (by decide)), if_pos rfl]; exact tq_some ⟨rfl, fAm_0⟩⟩
    have hne : ∀ k, k < 5 → ¬ a = nI k := fun k hk w => by
      subst w
      rcases h with h | h
      · exact nI_pos (by omega) h
      · exact nI_ge hk (by decide) h
    unfold Xx_all
    rw [if_neg (show ¬ a = 0 from hne 0 (by omega)), if_neg (show ¬ a = 1 from hne 1 (by omega)), if_neg (show ¬ a = 2 from hne 2 (by omega)), if_neg (show ¬ a = 3 from hne 3 (by omega)), if_neg (show ¬ a = 4 from hne 4 (by omega))]
  · obtain ⟨N1, N2, x1, x2, x3, x4⟩ := md_lines (F := F) hF hp hT mc' mdb
    rw [hT.n99] at x3
    have hle := el_rk_le (tL T) (ru p T 99).2.2 (tC T)
    have hl2 : el_rk (tL T) (ru p T 99).2.2 (tC T) ≤ tL T ∨ True := Or.inr trivial
    have elead : Ag_leaders F M = some (nI (el_rk (tL T) (ru p T 99).2.2 (tC T)), M) := by unfold Ag_leaders; rw [ca.1.2.2.2.1, ag_rk hT]
    have emd := md_leaders (F := F) hF hC (by omega) x3
    rw [tp_cb (md_in_in hk (by decide) (by decide)), if_neg (show ¬ (1 : Int32) = 0 by decide), tp_cb x1, tp_cb x2, tp_cb emd, x3.2.1, x3.1]
    unfold Xx_all
    rw [tp_cb (ag_free hT cc ca), tp_cb elead, tp_cb elead, cc.2.2.2.2.1, cc.2.2.2.2.2.1]
    have hk5 : k = 0 ∨ k = 1 ∨ k = 2 ∨ k = 3 ∨ k = 4 := by omega
    rcases hk5 with rfl | rfl | rfl | rfl | rfl
    · refine ⟨_, rfl, ?_⟩
      rw [if_pos (show nI 0 = 0 from rfl), nI_sub hle]
      exact tq_some ⟨rfl, x4.m⟩
    · exact ⟨_, rfl, tq_some ⟨rfl, x4.m⟩⟩
    · exact ⟨_, rfl, tq_some ⟨rfl, x4.m⟩⟩
    · refine ⟨_, rfl, ?_⟩
      rw [if_neg (show ¬ nI 3 = 0 by decide), if_neg (show ¬ nI 3 = 1 by decide), if_neg (show ¬ nI 3 = 2 by decide), if_pos (show nI 3 = 3 from rfl)]
      try rw [tp_cb emd]
      exact tq_some ⟨rfl, x4.m⟩
    · refine ⟨_, rfl, ?_⟩
      rw [if_neg (show ¬ nI 4 = 0 by decide), if_neg (show ¬ nI 4 = 1 by decide), if_neg (show ¬ nI 4 = 2 by decide), if_neg (show ¬ nI 4 = 3 by decide)]
      try rw [tp_cb emd]
      exact tq_some ⟨rfl, x4.m⟩
theorem op_basis (hF : 60 < F) (hp : tp_pr p) (hT : gT p T) (cc : cT M p T) (ca : cA M p T) (mc : mT N p T) : ∃ r, Xx_basis F a b M = some (r, M) ∧ tq (Md_basis F a b N) (fun q N' => q = r ∧ fAm N N') := by
  have hp7 := hp.lt
  have hC := hT.C
  have hL := hT.L
  have mc' := mc.w0
  unfold Xx_basis Md_basis
  rw [tp_pf]
  by_cases ha : a < 0
  · rw [if_pos ha, if_pos ha]; exact ⟨_, rfl, tq_some ⟨rfl, fAm_0⟩⟩
  rw [if_neg ha, if_neg ha]
  rcases tp_ix b (n := tC T) (by omega) with h | ⟨c, hc, rfl⟩
  · rw [tp_cb (to_col_out cc h), tp_cb (md_col_out hT mc' h), if_pos rfl, if_pos rfl]; exact ⟨_, rfl, tq_some ⟨rfl, fAm_0⟩⟩
  obtain ⟨N1, N2, x1, x2, x3, x4⟩ := md_lines (F := F) hF hp hT mc' mdb
  rw [hT.n99] at x3
  rw [tp_cb (to_col hT cc hc), tp_cb (md_coli hT mc' hc), if_neg (show ¬ (1 : Int32) = 0 by decide), if_neg (show ¬ (1 : Int32) = 0 by decide), tp_cb x1, tp_cb x2, tp_cb (ag_free hT cc ca)]
  have ha0 : 0 ≤ a.toInt := by have := Int32.not_lt.mp ha; rw [tp_le, tp_0T] at this; exact this
  have hak : a = nI a.toInt.toNat := tp_of a ha0
  have hab : a.toInt.toNat < 2 ^ 31 := by have := tp_rng a; omega
  generalize a.toInt.toNat = k at hak hab
  subst hak
  have hle := el_rk_le (tL T) (ru p T 99).2.2 (tC T)
  have hlt := ru_lt hp hT (but := 99)
  rw [hT.n99] at hlt
  have hld : ∀ c, (ru p T 99).2.2 c ≤ tL T := fun c => by
    have := el_run_ldn (p := p) (n := ly_n T 99 (tK T)) (A := ly p T 99 (tK T)) (tC T) c
    rw [hT.n99] at this
    unfold ru
    rw [hT.n99]; exact this
  have hbas : ∀ f, f < tC T → ¬ (ru p T 99).2.2 f < tL T → Ag_basisNumber F (nI (f - el_rk (tL T) (ru p T 99).2.2 f)) (nI c) M = some (nI (bs p (tL T) (ru p T 99) f c), M) := fun f h1 h2 => ag_basis hp hT cc ca h1 h2 hc
  generalize ru p T 99 = s at x3 hle hlt hld hbas ⊢
  by_cases q : tC T - el_rk (tL T) s.2.2 (tC T) ≤ k
  · refine ⟨-1000000, by rw [if_pos (nI_le q hab)], ?_⟩
    have hh : ∀ d f nn, f + d = tC T → d < nn → Md_basis_L35 F nn (nI k) (nI c) (nI (f - el_rk (tL T) s.2.2 f)) (nI f) N2 = some (-1000000, N2) := by
      intro d
      induction d with
      | zero =>
        intro f nn e1 e2
        obtain ⟨nn, rfl⟩ : ∃ n', nn = n' + 1 := ⟨nn - 1, by omega⟩
        rw [show f = tC T by omega, Md_basis_L35, x3.2.1, if_pos (nI_le (Nat.le_refl _) (by omega))]
      | succ d ih =>
        intro f nn e1 e2
        obtain ⟨nn, rfl⟩ : ∃ n', nn = n' + 1 := ⟨nn - 1, by omega⟩
        have hi := ih (f + 1) nn (by omega) (by omega)
        rw [el_rk] at hi
        have hfl := el_rk_le (tL T) s.2.2 f
        rw [Md_basis_L35, x3.2.1, if_neg (nI_ge (by omega) (by omega)), tp_rd (by omega) (by decide), x3.2.2.2.2.2 f (by omega), nI_1, nI_1]
        by_cases w : s.2.2 f < tL T
        · rw [if_pos w, if_neg (nI_none (by omega))]
          rw [if_pos w, show f + 1 - (el_rk (tL T) s.2.2 f + 1) = f - el_rk (tL T) s.2.2 f by omega] at hi
          exact hi
        · have := fr_mono (n := tL T) w (show f < tC T by omega)
          rw [if_neg w, if_pos rfl, if_neg (fun z => absurd (nI_inj (by omega) hab z) (by omega))]
          rw [if_neg w, show f + 1 - (el_rk (tL T) s.2.2 f + 0) = f - el_rk (tL T) s.2.2 f + 1 by omega] at hi
          exact hi
    have h0 := hh (tC T) 0 F (by omega) (by omega)
    have h0 : Md_basis_L35 F F (nI k) (nI c) 0 0 N2 = _ := h0
    rw [h0]
    exact tq_some ⟨rfl, x4.m⟩
  · obtain ⟨f, f1, f2, f3⟩ := fr_ex (n := tL T) (ld := s.2.2) (tC T) k (by omega)
    refine ⟨nI (bs p (tL T) s f c), ?_, ?_⟩
    · rw [if_neg (nI_ge (by omega) (by omega)), ← f3, tp_cb (hbas f f1 f2)]
    · have hh : ∀ d g nn, g + d = f → d < nn → Md_basis_L35 F nn (nI k) (nI c) (nI (g - el_rk (tL T) s.2.2 g)) (nI g) N2 = some (nI (bs p (tL T) s f c), N2) := by
        intro d
        induction d with
        | zero =>
          intro g nn e1 e2
          obtain ⟨nn, rfl⟩ : ∃ n', nn = n' + 1 := ⟨nn - 1, by omega⟩
          have hcl := hld c
          rw [show g = f by omega, f3, Md_basis_L35, x3.2.1, if_neg (nI_ge f1 (by omega)), tp_rd (by omega) (by decide), x3.2.2.2.2.2 f f1, if_neg f2, if_pos rfl, if_pos rfl, tp_rd (by omega) (by decide), x3.2.2.2.2.2 c hc]
          unfold bs
          by_cases w : s.2.2 c < tL T
          · have h7 := hlt (s.2.2 c) f w
            rw [if_pos w, if_neg (nI_none (by omega)), tp_rd (by omega) (by decide), x3.2.2.2.2.2 c hc, if_pos w, show (55 * nI (s.2.2 c) + nI f : Int32) = nI (55 * s.2.2 c + f) from by rw [← nI_add, ← nI_mul]; rfl, tp_rd (by omega) (by decide), x3.2.2.2.1 _ _ w (by omega), x3.2.2.1, tp_nz (nI_ne0 (by omega) (by omega)), nI_sub (by omega), nI_rem (by omega) (by omega) (by omega), if_pos w]
          · rw [if_neg w, if_pos rfl, if_neg w]
            by_cases z : c = f
            · rw [if_pos (by rw [z]), if_pos z]; rfl
            · rw [if_neg (fun v => z (nI_inj (by omega) (by omega) v).symm), if_neg z]; rfl
        | succ d ih =>
          intro g nn e1 e2
          obtain ⟨nn, rfl⟩ : ∃ n', nn = n' + 1 := ⟨nn - 1, by omega⟩
          have hi := ih (g + 1) nn (by omega) (by omega)
          rw [el_rk] at hi
          have hfl := el_rk_le (tL T) s.2.2 g
          rw [Md_basis_L35, x3.2.1, if_neg (nI_ge (by omega) (by omega)), tp_rd (by omega) (by decide), x3.2.2.2.2.2 g (by omega), nI_1, nI_1]
          by_cases w : s.2.2 g < tL T
          · rw [if_pos w, if_neg (nI_none (by omega))]
            rw [if_pos w, show g + 1 - (el_rk (tL T) s.2.2 g + 1) = g - el_rk (tL T) s.2.2 g by omega] at hi
            exact hi
          · have := fr_mono (n := tL T) w (show g < f by omega)
            rw [if_neg w, if_pos rfl, if_neg (fun z => absurd (nI_inj (by omega) hab z) (by omega))]
            rw [if_neg w, show g + 1 - (el_rk (tL T) s.2.2 g + 0) = g - el_rk (tL T) s.2.2 g + 1 by omega] at hi
            exact hi
      have h0 := hh f 0 F (by omega) (by omega)
      have h0 : Md_basis_L35 F F (nI k) (nI c) 0 0 N2 = _ := h0
      rw [h0]
      exact tq_some ⟨rfl, x4.m⟩
end AGREE
