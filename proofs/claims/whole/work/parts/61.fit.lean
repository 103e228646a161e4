/-! FITTING -/
/-- the steps of the lines and the readings of a set -/
def rw1 (p : Nat) (T R : Nat → Nat → Nat) (S : Nat → Bool) : el_S := el_run p (tL T + wr_n T S (tE T)) (wr p T R S (tE T)) (tC T)
def cw1 (p : Nat) (T R : Nat → Nat → Nat) (S : Nat → Bool) (l x : Nat) : Nat := if x < tC T then wr p T R S (tE T) l x else if x = tC T then wr p T R S (tE T) l 24 else 0
def rc1 (p : Nat) (T R : Nat → Nat → Nat) (S : Nat → Bool) : el_S := el_run p (tL T + wr_n T S (tE T)) (cw1 p T R S) (tC T)
/-- no line wants in vain -/
def fi (n : Nat) (s : el_S) : Bool := an (fun l => s.2.1 l || decide (s.1 l 24 = 0)) n
def ft (p : Nat) (T R : Nat → Nat → Nat) (S : Nat → Bool) : Bool := fi (tL T + wr_n T S (tE T)) (rw1 p T R S)
def cF (M : tv_M) (p : Nat) (T R : Nat → Nat → Nat) : Prop := M.1 70 3 = 0 ∨ (M.1 70 3 = 1 ∧ M.1 70 4 = (if ft p T R (hs R) then 1 else 0) ∧ sb_st M 106 (tL T + wr_n T (hs R) (tE T)) (tC T) (tC T + 1) p (rc1 p T R (hs R)) (tC T))
section FIT
variable {F p t n C W c : Nat} {a b : Int32} {M N : tv_M} {T R : Nat → Nat → Nat} {s : el_S} {S : Nat → Bool}
theorem rc_cg (hT : gT p T) : (∀ l x, l < tL T + wr_n T S (tE T) → x < tC T → (rc1 p T R S).1 l x = (rw1 p T R S).1 l x) ∧ (∀ l, l < tL T + wr_n T S (tE T) → (rc1 p T R S).2.1 l = (rw1 p T R S).2.1 l) ∧ (∀ k, (rc1 p T R S).2.2 k = (rw1 p T R S).2.2 k) ∧ ∀ l, l < tL T + wr_n T S (tE T) → (rc1 p T R S).1 l (tC T) = (rw1 p T R S).1 l 24 := by
  obtain ⟨h1, h2, h3, h4⟩ := el_run_cg (p := p) (n := tL T + wr_n T S (tE T)) (C := tC T) (A := cw1 p T R S) (B := wr p T R S (tE T)) (fun l x _ hx => if_pos hx) (tC T) (Nat.le_refl _)
  exact ⟨h1, h2, h3, h4 (tC T) 24 (fun l _ => by unfold cw1; rw [if_neg (Nat.lt_irrefl _), if_pos rfl])⟩
theorem cw_lt (hp : 2 ≤ p) (hT : gT p T) (hR : gR p T R) : el_lt p n (cw1 p T R S) := fun l x _ => by
  unfold cw1
  by_cases q : x < tC T
  · rw [if_pos q]; exact wr_lt hp hT hR _ _ _
  · rw [if_neg q]
    by_cases q2 : x = tC T
    · rw [if_pos q2]; exact wr_lt hp hT hR _ _ _
    · rw [if_neg q2]; omega
theorem hs_lin (hR : gR p T R) : ∀ e, e < tE T → hs R e = true → tso T e ≠ 3 := fun e he h w => by
  have := (hR.1 e he).2 w
  unfold hs at h
  rw [this] at h
  exact absurd h (by decide)
theorem rw_lt (hp : 2 ≤ p) (hT : gT p T) (hR : gR p T R) : el_lt p (tL T + wr_n T S (tE T)) (rw1 p T R S).1 := el_lt_run (by omega) (fun l x _ => wr_lt hp hT hR _ _ _) _
theorem ag_b1 (hp : tp_pr p) (hT : gT p T) (j : Nat) (h : j < 10) : (nI j = (-1 : Int32) ↔ j = 99) := ⟨fun w => absurd ((tp_ei _ _).mp w) (by rw [nI_toInt (by omega), tp_m1T]; omega), fun w => by omega⟩
theorem ag_fitL (hF : 60 < F) (hp : tp_pr p) (hT : gT p T) (hR : gR p T R) (h : sb_st M 106 (tL T + wr_n T (hs R) (tE T)) (tC T) (tC T + 1) p (rc1 p T R (hs R)) (tC T)) : Ag_noLineWantsTheImpossible F M = some (if ft p T R (hs R) then 1 else 0, M) := by
  have hp7 := hp.lt
  have hC := hT.C
  have hL := hT.L
  have h24 := wr_n_24 hT (hs_lin hR)
  obtain ⟨r1, r2, r3, r4⟩ := rc_cg (R := R) (S := hs R) hT
  have hlt := rw_lt (S := hs R) (show 2 ≤ p by omega) hT hR
  have hh : ∀ d l nn, l + d = tL T + wr_n T (hs R) (tE T) → d < nn → (∀ k, k < l → ((rw1 p T R (hs R)).2.1 k || decide ((rw1 p T R (hs R)).1 k 24 = 0)) = true) → Ag_noLineWantsTheImpossible_L2 F nn (nI l) M = some (if ft p T R (hs R) then 1 else 0, M) := by
    intro d
    induction d with
    | zero =>
      intro l nn e1 e2 hk
      obtain ⟨nn, rfl⟩ : ∃ n', nn = n' + 1 := ⟨nn - 1, by omega⟩
      rw [Ag_noLineWantsTheImpossible_L2, h.2.1, if_pos (nI_le (by omega) (by omega)), show ft p T R (hs R) = true from (an_iff _ _).mpr (fun k q => hk k (by omega)), if_pos rfl]
    | succ d ih =>
      intro l nn e1 e2 hk
      obtain ⟨nn, rfl⟩ : ∃ n', nn = n' + 1 := ⟨nn - 1, by omega⟩
      have hl : l < tL T + wr_n T (hs R) (tE T) := by omega
      have hgo : ((rw1 p T R (hs R)).2.1 l || decide ((rw1 p T R (hs R)).1 l 24 = 0)) = true → Ag_noLineWantsTheImpossible_L2 F nn (nI (l + 1)) M = some (if ft p T R (hs R) then 1 else 0, M) := fun z => ih (l + 1) nn (by omega) (by omega) (fun k q => by
        by_cases w : k = l
        · rw [w]; exact z
        · exact hk k (by omega))
      have h7 := hlt l 24 hl
      have e3 := sb_isL (F := F) (Or.inr rfl) (show _ ≤ 54 by omega) h hl
      have e4 := sb_extAt (F := F) (l := l) (x := 0) (Or.inr rfl) (show _ ≤ 54 by omega) (show tC T + 1 ≤ 25 by omega) h hl (by omega)
      rw [Nat.add_zero, r4 l hl] at e4
      have e4 : St_extraAt F 106 (nI l) 0 M = _ := e4
      rw [r2 l hl] at e3
      rw [Ag_noLineWantsTheImpossible_L2, h.2.1, if_neg (nI_ge hl (by omega)), tp_cb e3, tp_cb e4, nI_1]
      by_cases q : (rw1 p T R (hs R)).2.1 l = true
      · rw [if_pos q, if_neg (show ¬ (1 : Int32) = 0 by decide)]
        exact hgo (by rw [q, Bool.true_or])
      · rw [if_neg q, if_pos rfl]
        by_cases z : (rw1 p T R (hs R)).1 l 24 = 0
        · rw [if_pos ((nI_z (by omega)).mpr z)]
          exact hgo (by rw [decide_eq_true z, Bool.or_true])
        · rw [if_neg (fun v => z ((nI_z (by omega)).mp v))]
          have : ft p T R (hs R) = false := by
            rw [Bool.eq_false_iff]
            intro v
            have v := (an_iff _ _).mp v l hl
            rw [Bool.eq_false_iff.mpr q, decide_eq_false z] at v
            exact Bool.noConfusion v
          rw [this]; rfl
  exact hh (tL T + wr_n T (hs R) (tE T)) 0 F (by omega) (by omega) (fun k hk => absurd hk (Nat.not_lt_zero k))
theorem ag_learn (hF : 60 < F) (hp : tp_pr p) (hT : gT p T) (hR : gR p T R) (cc : cT M p T) (cr : cR M T R) (ca : cA M p T) (cf : cF M p T R) : ∃ M', Ag_learnFill F M = some ((), M') ∧ M'.1 70 3 = 1 ∧ cF M' p T R ∧ M'.1 106 1 = nI 1 ∧ M'.1 106 0 = nI p ∧ fC M M' := by
  have hp7 := hp.lt
  have hC := hT.C
  have hL := hT.L
  have h24 := wr_n_24 hT (hs_lin hR)
  unfold Ag_learnFill
  rcases cf with k0 | ⟨k0, k1, k2⟩
  · rw [if_pos k0, cc.2.2.2.2.1]
    obtain ⟨u1, M1, a1, a2, a3, a4, a5, a6, a7, a8⟩ := sb_begin (F := F) (t := 106) (C := tC T) (x := 1) (me := 1) (M := M) (Or.inr rfl) hC (by omega) (by omega) ca.2.2.2
    have a1 : St_begin F 106 (nI (tC T)) 1 M = some (u1, M1) := a1
    have cc1 : cT M1 p T := cc.fo hT a8 (by omega)
    obtain ⟨u2, M2, b1, b2⟩ := ag_lines (F := F) (t := 106) (mk := 0) (but := 99) (but32 := -1) (M := M1) (Or.inr rfl) hF hp hT cc1 (by have := hT.nbut (but := 99); show _ ≤ 54; omega) (by show _ ≤ 25; omega) (by omega) (fun w => absurd w (by omega)) (ag_b1 hp hT) a2
    have b1 : Ag_addLines F 106 (-1) 0 M1 = some (u2, M2) := b1
    rw [hT.n99] at b2
    obtain ⟨b3, b4, b5, b6, b7⟩ := b2
    have f12 : fo 106 165 M M2 := fun a i q => by rw [b7 a i (by show a < 106 ∨ 106 + 5 + 54 ≤ a; omega), a8 a i (by omega)]
    have cc2 : cT M2 p T := cc.fo hT f12 (by omega)
    have cr2 : cR M2 T R := cr.cg hT (fun a i q1 q2 _ => f12 a i (by omega))
    have h0 : cwl M2 M2 p T R (hs R) 0 (tL T) := ⟨b3, fun l x q1 q2 => by
      have := b4 l x q1 (by show x < 25; exact q2)
      have this : M2.1 (110 + l) x = _ := this
      rw [this, if_neg (fun z : 0 = 1 ∧ _ => absurd z.1 (by omega)), wr, wr, if_pos q1, if_pos q1, ly_hi hT (show tC T ≤ 24 by omega) _ (Nat.le_refl _)]
      by_cases w : x < tC T
      · rw [if_pos w, if_pos w]
      · rw [if_neg w, if_neg w]
        by_cases w2 : x = tC T
        · rw [if_pos w2]
        · rw [if_neg w2], fun l q => b5 l q, fun _ _ => rfl, fo.rf⟩
    obtain ⟨u3, M3, c1, c2⟩ := ag_reads (F := F) (M := M2) hF hp hT hR cc2 cr2 h0
    obtain ⟨c3, c4, c5, c6, c7⟩ := c2
    have hst : sb_st M3 106 (tL T + wr_n T (hs R) (tE T)) (tC T) (tC T + 1) p (el_run p (tL T + wr_n T (hs R) (tE T)) (cw1 p T R (hs R)) 0) 0 := sb_st0 (by rw [c6 0 (by omega), b6 0 (by omega), a7 0 (by omega)]; exact ca.2.2.1) c3 (by rw [c6 7 (by omega), b6 7 (by omega)]; exact a3) (by rw [c6 8 (by omega), b6 8 (by omega)]; exact a4) (by rw [c6 9 (by omega), b6 9 (by omega)]; exact a5) (by rw [c6 10 (by omega), b6 10 (by omega)]; exact a6) (fun l x q1 q2 => c4 l x q1 (by omega)) c5
    obtain ⟨u4, M4, d1, d2, d3, d4⟩ := sb_put (F := F) (t := 106) (M := M3) (Or.inr rfl) hF (show _ ≤ 54 by omega) (show tC T + 1 ≤ 25 by omega) (by omega) hC hp (cw_lt (by omega) hT hR) hst
    have d5 := ag_fitL (F := F) (M := M4) hF hp hT hR d2
    have h01 : (if ft p T R (hs R) = true then (1 : Int32) else 0) = 0 ∨ (if ft p T R (hs R) = true then (1 : Int32) else 0) = 1 := by
      by_cases w : ft p T R (hs R) = true
      · rw [if_pos w]; exact Or.inr rfl
      · rw [if_neg w]; exact Or.inl rfl
    rw [tp_cb a1, tp_cb b1, tp_cb c1, tp_cb d1, tp_cb d5, tp_zo h01, tp_pf, tp_pf]
    refine ⟨_, rfl, tp_ws, Or.inr ⟨tp_ws, by rw [tp_wj (by omega), tp_ws], ?_⟩, ?_, ?_, fun a i q1 q2 => ?_⟩
    · exact d2.cg (Or.inr rfl) (show _ ≤ 54 by omega) (fun a i q1 q2 => by rw [tp_wk (by omega), tp_wk (by omega)])
    · rw [tp_wk (by omega), tp_wk (by omega), d3, c6 1 (by omega), b6 1 (by omega), a7 1 (by omega)]; exact ca.2.2.2
    · rw [tp_wk (by omega), tp_wk (by omega)]; exact d2.1
    · rw [tp_wk q1, tp_wk q1, d4 a i (by show a < 106 ∨ 106 + 5 + 54 ≤ a; omega), c7 a i (by omega), f12 a i (by omega)]
  · rw [if_neg (by rw [k0]; decide)]
    exact ⟨M, rfl, k0, Or.inr ⟨k0, k1, k2⟩, ca.2.2.2, ca.2.2.1, fC.rf⟩
/-! the reference: the readings of a set -/
theorem md_vain (hF : 60 < F) (hn : n ≤ 54) (hp : p ≤ 7) (h : md_st N n C p s C) (hlt : el_lt p n s.1) : ∃ v, Md_wantsInVain F N = some (v, N) ∧ ((v = -1000000 ∧ fi n s = true) ∨ ∃ l, l < n ∧ v = nI l ∧ fi n s = false ∧ s.2.1 l = false ∧ s.1 l 24 ≠ 0 ∧ ∀ k, k < l → (s.2.1 k || decide (s.1 k 24 = 0)) = true) := by
  have hh : ∀ d l nn, l + d = n → d < nn → (∀ k, k < l → (s.2.1 k || decide (s.1 k 24 = 0)) = true) → ∃ v, Md_wantsInVain_L2 F nn (nI l) N = some (v, N) ∧ ((v = -1000000 ∧ fi n s = true) ∨ ∃ l, l < n ∧ v = nI l ∧ fi n s = false ∧ s.2.1 l = false ∧ s.1 l 24 ≠ 0 ∧ ∀ k, k < l → (s.2.1 k || decide (s.1 k 24 = 0)) = true) := by
    intro d
    induction d with
    | zero =>
      intro l nn e1 e2 hk
      obtain ⟨nn, rfl⟩ : ∃ n', nn = n' + 1 := ⟨nn - 1, by omega⟩
      rw [Md_wantsInVain_L2, h.1, if_pos (nI_le (by omega) (by omega))]
      exact ⟨_, rfl, Or.inl ⟨rfl, (an_iff _ _).mpr (fun k q => hk k (by omega))⟩⟩
    | succ d ih =>
      intro l nn e1 e2 hk
      obtain ⟨nn, rfl⟩ : ∃ n', nn = n' + 1 := ⟨nn - 1, by omega⟩
      have hl : l < n := by omega
      have h7 := hlt l 24 hl
      have hgo : (s.2.1 l || decide (s.1 l 24 = 0)) = true → _ := fun z => ih (l + 1) nn (by omega) (by omega) (fun k q => by
        by_cases w : k = l
        · rw [w]; exact z
        · exact hk k (by omega))
      rw [Md_wantsInVain_L2, h.1, if_neg (nI_ge hl (by omega)), tp_rd (by omega) (by decide), h.2.2.2.2.1 l hl, show (55 * nI l + 24 : Int32) = nI (55 * l + 24) from by rw [← nI_add, ← nI_mul]; rfl, tp_rd (by omega) (by decide), h.2.2.2.1 l 24 hl (by omega), nI_1]
      by_cases q : s.2.1 l = true
      · rw [if_pos q, if_neg (show ¬ (1 : Int32) = 0 by decide)]
        exact hgo (by rw [q, Bool.true_or])
      · have q := Bool.eq_false_iff.mpr q
        rw [q, if_neg Bool.false_ne_true, if_pos rfl]
        by_cases z : s.1 l 24 = 0
        · rw [if_pos ((nI_z (by omega)).mpr z)]
          exact hgo (by rw [decide_eq_true z, Bool.or_true])
        · rw [if_neg (fun v => z ((nI_z (by omega)).mp v))]
          refine ⟨_, rfl, Or.inr ⟨l, hl, rfl, ?_, q, z, hk⟩⟩
          rw [Bool.eq_false_iff]
          intro v
          have v := (an_iff _ _).mp v l hl
          rw [q, decide_eq_false z] at v
          exact Bool.noConfusion v
  exact hh n 0 F (by omega) (by omega) (fun k hk => absurd hk (Nat.not_lt_zero k))
theorem md_fit {set : Nat} (hF : 60 < F) (hp : tp_pr p) (hT : gT p T) (hR : gR p T R) (mc : mT N p T) (mr : mR N T R) (hset : set < 256) (hS : ∀ e, e < tE T → set.testBit e = true → R 0 e = 1) : ∃ N', Md_areFit F (nI set) N = some (if ft p T R (fun e => set.testBit e) then 1 else 0, N') ∧ md_st N' (tL T + wr_n T (fun e => set.testBit e) (tE T)) (tC T) p (rw1 p T R (fun e => set.testBit e)) (tC T) ∧ fA N N' := by
  have hp7 := hp.lt
  have h8 := hT.1
  have hC := hT.C
  have hL := hT.L
  have hSl : ∀ e, e < tE T → set.testBit e = true → tso T e ≠ 3 := fun e he h w => by
    have h1 := (hR.1 e he).2 w
    have h2 := hS e he h
    omega
  have h24 := wr_n_24 (S := fun e => set.testBit e) hT hSl
  obtain ⟨u, N1, x1, x2, x3, x4⟩ := md_lay (F := F) hF hp hT mc mdb
  rw [hT.n99] at x2 x3
  have g1 : fA N N1 := fun a i q1 q2 => x4 a i (by omega) q1
  generalize hSd : (fun e => set.testBit e) = S at *
  have hSe : ∀ e, S e = set.testBit e := fun e => by rw [← hSd]
  have hin : ∀ (k8 : Int32 → Int32 → tv_M → Option (Int32 × tv_M)) e N', e < tE T → N'.1 249 37 = nI (tL T + wr_n T S e) → mdR N' (tL T + wr_n T S e) (wr p T R S e) → fA N N' → ∃ N'', Md_areFit_L18 F k8 F (nI set) (nI e) 0 N' = k8 (nI set) (nI (e + 1)) N'' ∧ N''.1 249 37 = nI (tL T + wr_n T S (e + 1)) ∧ mdR N'' (tL T + wr_n T S (e + 1)) (wr p T R S (e + 1)) ∧ fA N N'' := by
    intro k8 e N' he k1 k2 k3
    have hd : ∀ N' : tv_M, fA N N' → N'.1 254 e = nI (tsz T e) := fun N' hf => by rw [hf _ _ (by omega) (by omega)]; exact (mc.2.2.2.2.2.1 e he).2.1
    have hsz := (hT.2.2.2.2.2.1 e he).2.2.1
    have hsz1 := (hT.2.2.2.2.2.1 e he).2.1
    by_cases q : set.testBit e = true
    · have hse : S e = true := (hSe e).trans q
      have hso := hSl e he q
      obtain ⟨c1, c2, c3⟩ := hT.col he hso
      have hmono := wr_n_mono (T := T) (S := S) (e := e + 1) (tE T) (by omega)
      rw [wr_n, hse, if_pos rfl] at hmono
      have hh : ∀ d k nn N', k + d = tsz T e → d < nn → N'.1 249 37 = nI (tL T + wr_n T S e + k) → mdR N' (tL T + wr_n T S e + k) (wr p T R S (e + 1)) → fA N N' → ∃ N'', Md_areFit_L18 F k8 nn (nI set) (nI e) (nI k) N' = k8 (nI set) (nI (e + 1)) N'' ∧ N''.1 249 37 = nI (tL T + wr_n T S (e + 1)) ∧ mdR N'' (tL T + wr_n T S (e + 1)) (wr p T R S (e + 1)) ∧ fA N N'' := by
        intro d
        induction d with
        | zero =>
          intro k nn N' e1 e2 k1 k2 k3
          obtain ⟨nn, rfl⟩ : ∃ n', nn = n' + 1 := ⟨nn - 1, by omega⟩
          rw [show k = tsz T e by omega] at k1 k2 ⊢
          rw [Md_areFit_L18, tp_rd (by omega) (by decide), hd N' k3, if_pos (nI_le (Nat.le_refl _) (by omega)), nI_1, wr_n, hse, if_pos rfl, ← Nat.add_assoc]
          exact ⟨N', rfl, k1, k2, k3⟩
        | succ d ih =>
          intro k nn N' e1 e2 k1 k2 k3
          obtain ⟨nn, rfl⟩ : ∃ n', nn = n' + 1 := ⟨nn - 1, by omega⟩
          obtain ⟨N2, y1, y2, y3, y4, y5⟩ := md_add (F := F) (n := tL T + wr_n T S e + k) (M := N') hF (by omega) k1
          have f2 : fA N N2 := k3.tr (fun a i q1 q2 => y5 a i (by omega) q1)
          have m2 := f2.mT mc
          have hcol : N2.1 255 e = nI (tco T e) := by rw [(m2.2.2.2.2.2.1 e he).2.2, if_neg hso]
          have hread : N2.1 271 (tco T e + k) = nI (R 1 (tco T e + k)) := by rw [f2 _ _ (by omega) (by omega)]; exact (mr e he).2 (hS e he q) k (by omega)
          have hat : ∀ x : Nat, (55 * (nI (tL T + wr_n T S e + k + 1) - 1) + nI x : Int32) = nI (55 * (tL T + wr_n T S e + k) + x) := fun x => by
            rw [nI_pm]
            generalize tL T + wr_n T S e + k = z
            rw [← nI_add, ← nI_mul]; rfl
          rw [Md_areFit_L18, tp_rd (by omega) (by decide), hd N' k3, if_neg (nI_ge (by omega) (by omega)), if_pos ((bit_1 hset (by omega)).mpr q), tp_cb y1, tp_rd (by omega) (by decide), hcol, y4, hat, nI_add, tp_wr (by omega) (by decide), tp_rd (by omega) (by decide), tp_wk (by omega), hcol, nI_add, tp_rd (by omega) (by decide), tp_wk (by omega), tp_wk (by omega), hread, y4, show (24 : Int32) = nI 24 from rfl, hat, tp_wr (by omega) (by decide), nI_1]
          refine ih (k + 1) nn _ (by omega) (by omega) (by rw [tp_wk (by omega), tp_wk (by omega), y4]; rfl) (fun l x q1 q2 => ?_) (fun a i q1 q2 => by rw [tp_wk (by omega), tp_wk (by omega)]; exact f2 a i q1 q2)
          by_cases q3 : l = tL T + wr_n T S e + k
          · subst q3
            rw [wr_at hse (by omega), tp_w]
            by_cases z1 : x = 24
            · rw [if_pos ⟨rfl, by omega⟩, if_pos z1]
            · rw [if_neg (by omega), if_neg z1, tp_w]
              by_cases z2 : x = tco T e + k
              · rw [if_pos ⟨rfl, by omega⟩, if_pos z2]; rfl
              · rw [if_neg (by omega), if_neg z2]; exact y2 x q2
          · rw [tp_w, if_neg (by omega), tp_w, if_neg (by omega), y3 _ (by omega)]
            exact k2 l x (by omega) q2
      exact hh (tsz T e) 0 F N' (by omega) (by omega) k1 (fun l x q1 q2 => by rw [wr_lo (by omega)]; exact k2 l x (by omega) q2) k3
    · have hse : S e = false := (hSe e).trans (Bool.eq_false_iff.mpr q)
      obtain ⟨F', hF'⟩ : ∃ n', F = n' + 1 := ⟨F - 1, by omega⟩
      have : ∀ G, Md_areFit_L18 G k8 (F' + 1) (nI set) (nI e) 0 N' = k8 (nI set) (nI (e + 1)) N' := fun G => by
        rw [Md_areFit_L18, tp_rd (by omega) (by decide), hd N' k3, if_neg (show ¬ nI (tsz T e) ≤ 0 from nI_ge (a := 0) (b := tsz T e) (by omega) (by omega)), if_neg (fun w => q ((bit_1 hset (by omega)).mp w)), nI_1]
      have hh := this F
      rw [← hF'] at hh
      refine ⟨N', hh, ?_⟩
      rw [wr_n, hse, if_neg Bool.false_ne_true, Nat.add_zero]
      exact ⟨k1, fun l x q1 q2 => by rw [wr_no hse]; exact k2 l x q1 q2, k3⟩
  have hout : ∀ d e nn N', e + d = tE T → d < nn → N'.1 249 37 = nI (tL T + wr_n T S e) → mdR N' (tL T + wr_n T S e) (wr p T R S e) → fA N N' → ∃ N'', Md_areFit_L8 F nn (nI set) (nI e) N' = some (if ft p T R S then 1 else 0, N'') ∧ md_st N'' (tL T + wr_n T S (tE T)) (tC T) p (rw1 p T R S) (tC T) ∧ fA N N'' := by
    intro d
    induction d with
    | zero =>
      intro e nn N' e1 e2 k1 k2 k3
      obtain ⟨nn, rfl⟩ : ∃ n', nn = n' + 1 := ⟨nn - 1, by omega⟩
      rw [show e = tE T by omega] at k1 k2 ⊢
      have m2 := k3.mT mc
      obtain ⟨v, N2, y1, y2, y3⟩ := md_put (F := F) (C := tC T) (M := N') hF (show tL T + wr_n T S (tE T) ≤ 54 by omega) hC hp (fun l x _ => wr_lt (by omega) hT hR _ _ _) k1 m2.2.2.1 m2.1 k2
      obtain ⟨w, z1, z2⟩ := md_vain (F := F) hF (show tL T + wr_n T S (tE T) ≤ 54 by omega) (show p ≤ 7 by omega) y2 (rw_lt (by omega) hT hR)
      rw [Md_areFit_L8, m2.2.1, if_pos (nI_le (Nat.le_refl _) (by omega)), tp_cb y1, tp_cb z1]
      refine ⟨N2, ?_, y2, k3.tr (fun a i q1 q2 => y3 a i (by omega))⟩
      rcases z2 with ⟨rfl, z2⟩ | ⟨l, hl, rfl, z2, -⟩
      · rw [if_pos rfl, show ft p T R S = true from z2, if_pos rfl]
      · rw [if_neg (nI_none (by omega)), show ft p T R S = false from z2, if_neg Bool.false_ne_true]
    | succ d ih =>
      intro e nn N' e1 e2 k1 k2 k3
      obtain ⟨nn, rfl⟩ : ∃ n', nn = n' + 1 := ⟨nn - 1, by omega⟩
      obtain ⟨N2, y1, y2, y3, y4⟩ := hin (Md_areFit_L8 F nn) e N' (by omega) k1 k2 k3
      rw [Md_areFit_L8, (k3.mT mc).2.1, if_neg (nI_ge (by omega) (by omega)), y1]
      exact ih (e + 1) nn N2 (by omega) (by omega) y2 y3 y4
  unfold Md_areFit
  rw [tp_cb x1]
  exact hout (tE T) 0 F N1 (by omega) (by omega) x2 (fun l x q1 q2 => by
    have q1 : l < tL T := q1
    rw [wr, if_pos q1]; exact x3 l x q1 q2) g1
end FIT
