/-! fill, fixed, cost -/
section FILLOPS
variable {F p t n C W c : Nat} {a b : Int32} {M N : tv_M} {T R : Nat → Nat → Nat} {s : el_S} {S S' : Nat → Bool}
theorem wrn_cg (h : ∀ e, e < tE T → S e = S' e) : ∀ e, e ≤ tE T → wr_n T S e = wr_n T S' e := by
  intro e
  induction e with
  | zero => intro _; rfl
  | succ e ih => intro he; rw [wr_n, wr_n, ih (by omega), h e (by omega)]
theorem wr_cg (h : ∀ e, e < tE T → S e = S' e) : ∀ e, e ≤ tE T → wr p T R S e = wr p T R S' e := by
  intro e
  induction e with
  | zero => intro _; rfl
  | succ e ih =>
    intro he
    funext l x
    rw [wr, wr, ih (by omega), wrn_cg h e (by omega), wrn_cg h (e + 1) he]
theorem rw1_cg (h : ∀ e, e < tE T → S e = S' e) : rw1 p T R S = rw1 p T R S' := by unfold rw1; rw [wr_cg h _ (Nat.le_refl _), wrn_cg h _ (Nat.le_refl _)]
theorem ft_cg (h : ∀ e, e < tE T → S e = S' e) : ft p T R S = ft p T R S' := by unfold ft; rw [rw1_cg h, wrn_cg h _ (Nat.le_refl _)]
theorem hs_set {e : Nat} (he : e < tE T) : (rs (hs R) (tE T)).testBit e = hs R e := by rw [rs_bit, decide_eq_true he, Bool.true_and]
theorem ag_known (h : M.1 70 3 = 1) : Ag_learnFill F M = some ((), M) := by unfold Ag_learnFill; rw [if_neg (by rw [h]; decide)]
/-- what fill knows -/
def kF (M : tv_M) (p : Nat) (T R : Nat → Nat → Nat) : Prop := M.1 70 3 = 1 ∧ M.1 70 4 = (if ft p T R (hs R) then 1 else 0) ∧ sb_st M 106 (tL T + wr_n T (hs R) (tE T)) (tC T) (tC T + 1) p (rc1 p T R (hs R)) (tC T)
theorem ag_fits (hF : 60 < F) (hp : tp_pr p) (hT : gT p T) (hR : gR p T R) (cc : cT M p T) (cr : cR M T R) (ca : cA M p T) (cf : cF M p T R) : ∃ M', Ag_readingsFit F M = some (if ft p T R (hs R) then 1 else 0, M') ∧ kF M' p T R ∧ cA M' p T ∧ fC M M' := by
  obtain ⟨M', x1, x2, x3, x4, x5, x6⟩ := ag_learn (F := F) hF hp hT hR cc cr ca cf
  have hk : kF M' p T R := by
    rcases x3 with h | h
    · rw [x2] at h; exact absurd h (by decide)
    · exact h
  have h01 : (if ft p T R (hs R) = true then (1 : Int32) else 0) = 0 ∨ (if ft p T R (hs R) = true then (1 : Int32) else 0) = 1 := by
    by_cases w : ft p T R (hs R) = true
    · rw [if_pos w]; exact Or.inr rfl
    · rw [if_neg w]; exact Or.inl rfl
  refine ⟨M', ?_, hk, ca.cg hT (fun a i q1 q2 => x6 a i (by omega) (by omega)) (by rw [x5]; exact ca.2.2.1.symm) (by rw [x4]; exact ca.2.2.2.symm), x6⟩
  unfold Ag_readingsFit
  rw [tp_cb x1, hk.2.1, tp_zo h01]
theorem ag_fillN (hF : 60 < F) (hp : tp_pr p) (hT : gT p T) (hR : gR p T R) (hk : kF M p T R) (hc : c < tC T) : Ag_fillNumber F (nI c) M = some (if (rw1 p T R (hs R)).2.2 c < tL T + wr_n T (hs R) (tE T) then nI ((rw1 p T R (hs R)).1 ((rw1 p T R (hs R)).2.2 c) 24) else 0, M) := by
  have hC := hT.C
  have hL := hT.L
  have h24 := wr_n_24 hT (hs_lin hR)
  obtain ⟨r1, r2, r3, r4⟩ := rc_cg (R := R) (S := hs R) hT
  have e2 := sb_leadAt (F := F) (Or.inr rfl) hC hk.2.2 hc
  rw [r3] at e2
  unfold Ag_fillNumber
  rw [tp_cb (ag_known hk.1), tp_cb e2]
  by_cases q : (rw1 p T R (hs R)).2.2 c < tL T + wr_n T (hs R) (tE T)
  · have e4 := sb_extAt (F := F) (l := (rw1 p T R (hs R)).2.2 c) (x := 0) (Or.inr rfl) (show _ ≤ 54 by omega) (show tC T + 1 ≤ 25 by omega) hk.2.2 q (by omega)
    rw [Nat.add_zero, r4 _ q] at e4
    have e4 : St_extraAt F 106 (nI ((rw1 p T R (hs R)).2.2 c)) 0 M = _ := e4
    rw [if_pos q, if_pos q, tp_cb e4]
  · rw [if_neg q, if_neg q, tp_cb (sb_extNo (Or.inr rfl))]
theorem md_fitR (hF : 60 < F) (hp : tp_pr p) (hT : gT p T) (hR : gR p T R) (mc : mT N p T) (mr : mR N T R) : ∃ N', Md_readingSet F N = some (nI (rs (hs R) (tE T)), N) ∧ Md_areFit F (nI (rs (hs R) (tE T))) N = some (if ft p T R (hs R) then 1 else 0, N') ∧ md_st N' (tL T + wr_n T (hs R) (tE T)) (tC T) p (rw1 p T R (hs R)) (tC T) ∧ fA N N' := by
  have h8 := hT.1
  have hcg : ∀ e, e < tE T → (fun e => (rs (hs R) (tE T)).testBit e) e = hs R e := fun e he => hs_set he
  obtain ⟨N', x1, x2, x3⟩ := md_fit (F := F) (set := rs (hs R) (tE T)) hF hp hT hR mc mr (rs_256 h8) (fun e he w => by
    rw [hs_set he] at w
    unfold hs at w
    exact of_decide_eq_true w)
  rw [ft_cg hcg] at x1
  rw [rw1_cg hcg, wrn_cg hcg _ (Nat.le_refl _)] at x2
  exact ⟨N', md_rset hF hT hR mc mr, x1, x2, x3⟩
theorem op_fill (hF : 60 < F) (hp : tp_pr p) (hT : gT p T) (hR : gR p T R) (cc : cT M p T) (cr : cR M T R) (ca : cA M p T) (cf : cF M p T R) (mc : mT N p T) (mr : mR N T R) : ∃ r : Int32, tq (Xx_fill F a M) (fun q M' => q = r ∧ cF M' p T R ∧ cA M' p T ∧ fC M M') ∧ tq (Md_fill F a N) (fun q N' => q = r ∧ fAm N N') := by
  have hp7 := hp.lt
  have hC := hT.C
  have hL := hT.L
  have h24 := wr_n_24 hT (hs_lin hR)
  have mc' := mc.w0
  have mr' := mr.w0
  obtain ⟨M', x1, x2, x3, x4⟩ := ag_fits (F := F) hF hp hT hR cc cr ca cf
  obtain ⟨N', y1, y2, y3, y4⟩ := md_fitR (F := F) hF hp hT hR mc' mr'
  have cf' : cF M' p T R := Or.inr x2
  have ym : fAm N N' := y4.m
  unfold Xx_fill Md_fill
  rw [tp_pf]
  by_cases ha : a = -1
  · rw [if_pos ha, if_pos ha, tp_cb x1]
    unfold Md_fill_L21
    rw [tp_cb y1, tp_cb y2, if_pos ha]
    by_cases w : ft p T R (hs R) = true
    · rw [if_pos w, if_neg (show ¬ (1 : Int32) = 0 by decide), if_neg (show ¬ (1 : Int32) = 0 by decide)]
      exact ⟨_, tq_some ⟨rfl, cf', x3, x4⟩, tq_some ⟨rfl, ym⟩⟩
    · rw [if_neg w, if_pos rfl, if_pos rfl]
      exact ⟨_, tq_some ⟨rfl, cf', x3, x4⟩, tq_some ⟨rfl, ym⟩⟩
  · rw [if_neg ha, if_neg ha]
    rcases tp_ix a (n := tC T) (by omega) with h | ⟨c, hc, rfl⟩
    · rw [tp_cb (to_col_out cc h), tp_cb (md_col_out hT mc' h), if_pos rfl, if_pos rfl]
      exact ⟨_, tq_some ⟨rfl, cf, ca, fC.rf⟩, tq_some ⟨rfl, fAm_0⟩⟩
    · rw [tp_cb (to_col hT cc hc), tp_cb (md_coli hT mc' hc), if_neg (show ¬ (1 : Int32) = 0 by decide), if_neg (show ¬ (1 : Int32) = 0 by decide), tp_cb x1]
      unfold Md_fill_L21
      rw [tp_cb y1, tp_cb y2, if_neg ha]
      by_cases w : ft p T R (hs R) = true
      · rw [if_pos w, if_neg (show ¬ (1 : Int32) = 0 by decide), if_neg (show ¬ (1 : Int32) = 0 by decide), tp_cb (ag_fillN hF hp hT hR x2 hc), tp_rd (by omega) (by decide), y3.2.2.2.2.2 c hc]
        have hld : (rw1 p T R (hs R)).2.2 c ≤ tL T + wr_n T (hs R) (tE T) := el_run_ldn _ _
        by_cases q : (rw1 p T R (hs R)).2.2 c < tL T + wr_n T (hs R) (tE T)
        · rw [if_pos q, if_pos q, if_neg (nI_none (by omega)), tp_rd (by omega) (by decide), y3.2.2.2.2.2 c hc, if_pos q, show (55 * nI ((rw1 p T R (hs R)).2.2 c) + 24 : Int32) = nI (55 * (rw1 p T R (hs R)).2.2 c + 24) from by rw [← nI_add, ← nI_mul]; rfl, tp_rd (by omega) (by decide), y3.2.2.2.1 _ _ q (by omega)]
          exact ⟨_, tq_some ⟨rfl, cf', x3, x4⟩, tq_some ⟨rfl, ym⟩⟩
        · rw [if_neg q, if_neg q, if_pos rfl]
          exact ⟨_, tq_some ⟨rfl, cf', x3, x4⟩, tq_some ⟨rfl, ym⟩⟩
      · rw [if_neg w, if_pos rfl, if_pos rfl]
        exact ⟨_, tq_some ⟨rfl, cf', x3, x4⟩, tq_some ⟨rfl, ym⟩⟩
/-- is a column fixed -/
def fx (n C : Nat) (s : el_S) (l : Nat) : Bool := an (fun i => decide (s.2.2 i < n) || decide (s.1 l i = 0)) C
theorem op_fixed (hF : 60 < F) (hp : tp_pr p) (hT : gT p T) (hR : gR p T R) (cc : cT M p T) (cr : cR M T R) (ca : cA M p T) (cf : cF M p T R) (mc : mT N p T) (mr : mR N T R) : ∃ r : Int32, tq (Xx_fixed F a M) (fun q M' => q = r ∧ cF M' p T R ∧ cA M' p T ∧ fC M M') ∧ tq (Md_fixed F a N) (fun q N' => q = r ∧ fAm N N') := by
  have hp7 := hp.lt
  have hC := hT.C
  have hL := hT.L
  have h24 := wr_n_24 hT (hs_lin hR)
  have mc' := mc.w0
  have mr' := mr.w0
  obtain ⟨M', x1, x2, x3, x4⟩ := ag_fits (F := F) hF hp hT hR cc cr ca cf
  obtain ⟨N', y1, y2, y3, y4⟩ := md_fitR (F := F) hF hp hT hR mc' mr'
  have cf' : cF M' p T R := Or.inr x2
  have ym : fAm N N' := y4.m
  have cc' : cT M' p T := cc.fC hT x4
  unfold Xx_fixed Md_fixed
  rw [tp_pf]
  rcases tp_ix a (n := tC T) (by omega) with h | ⟨c, hc, rfl⟩
  · rw [tp_cb (to_col_out cc h), tp_cb (md_col_out hT mc' h), if_pos rfl, if_pos rfl]
    exact ⟨_, tq_some ⟨rfl, cf, ca, fC.rf⟩, tq_some ⟨rfl, fAm_0⟩⟩
  rw [tp_cb (to_col hT cc hc), tp_cb (md_coli hT mc' hc), if_neg (show ¬ (1 : Int32) = 0 by decide), if_neg (show ¬ (1 : Int32) = 0 by decide), tp_cb x1, tp_cb y1, tp_cb y2]
  by_cases w : ft p T R (hs R) = true
  · rw [if_pos w, if_neg (show ¬ (1 : Int32) = 0 by decide), if_neg (show ¬ (1 : Int32) = 0 by decide), tp_rd (by omega) (by decide), y3.2.2.2.2.2 c hc]
    obtain ⟨r1, r2, r3, r4⟩ := rc_cg (R := R) (S := hs R) hT
    have hldn : ∀ c, (rw1 p T R (hs R)).2.2 c ≤ tL T + wr_n T (hs R) (tE T) := fun c => el_run_ldn _ _
    have e2 := sb_leadAt (F := F) (Or.inr rfl) hC x2.2.2 hc
    rw [r3] at e2
    have hlt := rw_lt (S := hs R) (show 2 ≤ p by omega) hT hR
    have efn := ag_fillN (F := F) hF hp hT hR x2 hc
    unfold Ag_isFixed
    rw [tp_cb (ag_known x2.1), tp_cb e2]
    generalize hN : tL T + wr_n T (hs R) (tE T) = n at *
    by_cases q : (rw1 p T R (hs R)).2.2 c < n
    · rw [if_pos q] at efn
      rw [if_pos q, if_pos (nI_pos' (by omega)), if_pos q, if_neg (nI_none (by omega))]
      have hcl : ∀ d i nn, i + d = tC T → d < nn → (∀ k, k < i → (decide ((rw1 p T R (hs R)).2.2 k < n) || decide ((rw1 p T R (hs R)).1 ((rw1 p T R (hs R)).2.2 c) k = 0)) = true) → Ag_isFixed_L21 F nn (nI ((rw1 p T R (hs R)).2.2 c)) (nI i) M' = some (if fx n (tC T) (rw1 p T R (hs R)) ((rw1 p T R (hs R)).2.2 c) then 1 else 0, M') := by
        intro d
        induction d with
        | zero =>
          intro i nn e1 e2 hk
          obtain ⟨nn, rfl⟩ : ∃ n', nn = n' + 1 := ⟨nn - 1, by omega⟩
          rw [Ag_isFixed_L21, cc'.2.2.2.2.1, if_pos (nI_le (by omega) (by omega)), show fx n (tC T) (rw1 p T R (hs R)) ((rw1 p T R (hs R)).2.2 c) = true from (an_iff _ _).mpr (fun k hk' => hk k (by omega)), if_pos rfl]
        | succ d ih =>
          intro i nn e1 e2 hk
          obtain ⟨nn, rfl⟩ : ∃ n', nn = n' + 1 := ⟨nn - 1, by omega⟩
          have hi : i < tC T := by omega
          have hgo : (decide ((rw1 p T R (hs R)).2.2 i < n) || decide ((rw1 p T R (hs R)).1 ((rw1 p T R (hs R)).2.2 c) i = 0)) = true → Ag_isFixed_L21 F nn (nI ((rw1 p T R (hs R)).2.2 c)) (nI (i + 1)) M' = some (if fx n (tC T) (rw1 p T R (hs R)) ((rw1 p T R (hs R)).2.2 c) then 1 else 0, M') := fun z => ih (i + 1) nn (by omega) (by omega) (fun k q => by
            by_cases w : k = i
            · rw [w]; exact z
            · exact hk k (by omega))
          have e3 := sb_leadAt (F := F) (Or.inr rfl) hC x2.2.2 hi
          rw [r3, hN] at e3
          have e4 := sb_numAt (F := F) (l := (rw1 p T R (hs R)).2.2 c) (x := i) (Or.inr rfl) (show _ ≤ 54 by omega) (show tC T + 1 ≤ 25 by omega) x2.2.2 (by rw [hN]; exact q) (by omega)
          rw [r1 _ i q hi] at e4
          have h7 := hlt _ i q
          rw [Ag_isFixed_L21, cc'.2.2.2.2.1, if_neg (nI_ge hi (by omega)), tp_cb e3, tp_cb e4, nI_1]
          have hli := hldn i
          by_cases z : (rw1 p T R (hs R)).2.2 i < n
          · rw [if_pos z, if_pos (nI_pos' (by omega))]
            exact hgo (by rw [decide_eq_true z, Bool.true_or])
          · rw [if_neg z, if_neg (by decide)]
            by_cases v : (rw1 p T R (hs R)).1 ((rw1 p T R (hs R)).2.2 c) i = 0
            · rw [if_pos ((nI_z (by omega)).mpr v)]
              exact hgo (by rw [decide_eq_true v, Bool.or_true])
            · rw [if_neg (fun u => v ((nI_z (by omega)).mp u))]
              have : fx n (tC T) (rw1 p T R (hs R)) ((rw1 p T R (hs R)).2.2 c) = false := by
                rw [Bool.eq_false_iff]
                intro u
                have u := (an_iff _ _).mp u i hi
                rw [decide_eq_false z, decide_eq_false v] at u
                exact Bool.noConfusion u
              rw [this]; rfl
      have hml : ∀ d i nn, i + d = tC T → d < nn → (∀ k, k < i → (decide ((rw1 p T R (hs R)).2.2 k < n) || decide ((rw1 p T R (hs R)).1 ((rw1 p T R (hs R)).2.2 c) k = 0)) = true) → Md_fixed_L43 F nn (nI c) (nI i) N' = some (if fx n (tC T) (rw1 p T R (hs R)) ((rw1 p T R (hs R)).2.2 c) then nI ((rw1 p T R (hs R)).1 ((rw1 p T R (hs R)).2.2 c) 24) else -1000000, N') := by
        intro d
        induction d with
        | zero =>
          intro i nn e1 e2 hk
          obtain ⟨nn, rfl⟩ : ∃ n', nn = n' + 1 := ⟨nn - 1, by omega⟩
          rw [Md_fixed_L43, y3.2.1, if_pos (nI_le (by omega) (by omega)), show fx n (tC T) (rw1 p T R (hs R)) ((rw1 p T R (hs R)).2.2 c) = true from (an_iff _ _).mpr (fun k hk' => hk k (by omega)), if_pos rfl, tp_rd (by omega) (by decide), y3.2.2.2.2.2 c hc, if_pos q, show (55 * nI ((rw1 p T R (hs R)).2.2 c) + 24 : Int32) = nI (55 * (rw1 p T R (hs R)).2.2 c + 24) from by rw [← nI_add, ← nI_mul]; rfl, tp_rd (by omega) (by decide), y3.2.2.2.1 _ _ q (by omega)]
        | succ d ih =>
          intro i nn e1 e2 hk
          obtain ⟨nn, rfl⟩ : ∃ n', nn = n' + 1 := ⟨nn - 1, by omega⟩
          have hi : i < tC T := by omega
          have hgo : (decide ((rw1 p T R (hs R)).2.2 i < n) || decide ((rw1 p T R (hs R)).1 ((rw1 p T R (hs R)).2.2 c) i = 0)) = true → Md_fixed_L43 F nn (nI c) (nI (i + 1)) N' = some (if fx n (tC T) (rw1 p T R (hs R)) ((rw1 p T R (hs R)).2.2 c) then nI ((rw1 p T R (hs R)).1 ((rw1 p T R (hs R)).2.2 c) 24) else -1000000, N') := fun z => ih (i + 1) nn (by omega) (by omega) (fun k q => by
            by_cases w : k = i
            · rw [w]; exact z
            · exact hk k (by omega))
          have h7 := hlt _ i q
          have hli := hldn i
          rw [Md_fixed_L43, y3.2.1, if_neg (nI_ge hi (by omega)), tp_rd (by omega) (by decide), y3.2.2.2.2.2 i hi, tp_rd (by omega) (by decide), y3.2.2.2.2.2 c hc, if_pos q, show (55 * nI ((rw1 p T R (hs R)).2.2 c) + nI i : Int32) = nI (55 * (rw1 p T R (hs R)).2.2 c + i) from by rw [← nI_add, ← nI_mul]; rfl, tp_rd (by omega) (by decide), y3.2.2.2.1 _ _ q (by omega), nI_1]
          by_cases z : (rw1 p T R (hs R)).2.2 i < n
          · rw [if_pos z, if_neg (nI_none (by omega))]
            exact hgo (by rw [decide_eq_true z, Bool.true_or])
          · rw [if_neg z, if_pos rfl]
            by_cases v : (rw1 p T R (hs R)).1 ((rw1 p T R (hs R)).2.2 c) i = 0
            · rw [if_pos ((nI_z (by omega)).mpr v)]
              exact hgo (by rw [decide_eq_true v, Bool.or_true])
            · rw [if_neg (fun u => v ((nI_z (by omega)).mp u))]
              have : fx n (tC T) (rw1 p T R (hs R)) ((rw1 p T R (hs R)).2.2 c) = false := by
                rw [Bool.eq_false_iff]
                intro u
                have u := (an_iff _ _).mp u i hi
                rw [decide_eq_false z, decide_eq_false v] at u
                exact Bool.noConfusion u
              rw [this]; rfl
      have z1 := hcl (tC T) 0 F (by omega) (by omega) (fun k hk => absurd hk (Nat.not_lt_zero k))
      have z1 : Ag_isFixed_L21 F F (nI ((rw1 p T R (hs R)).2.2 c)) 0 M' = _ := z1
      have z2 := hml (tC T) 0 F (by omega) (by omega) (fun k hk => absurd hk (Nat.not_lt_zero k))
      have z2 : Md_fixed_L43 F F (nI c) 0 N' = _ := z2
      rw [z1, z2]
      by_cases z : fx n (tC T) (rw1 p T R (hs R)) ((rw1 p T R (hs R)).2.2 c) = true
      · rw [if_pos z, if_pos z]
        refine ⟨_, ?_, tq_some ⟨rfl, ym⟩⟩
        rw [tp_cb (c := some ((1 : Int32), M')) rfl, if_neg (show ¬ (1 : Int32) = 0 by decide), tp_cb efn]
        exact tq_some ⟨rfl, cf', x3, x4⟩
      · rw [if_neg z, if_neg z]
        exact ⟨_, tq_some ⟨rfl, cf', x3, x4⟩, tq_some ⟨rfl, ym⟩⟩
    · rw [if_neg q, if_neg (by decide), if_neg q, if_pos rfl]
      exact ⟨_, tq_some ⟨rfl, cf', x3, x4⟩, tq_some ⟨rfl, ym⟩⟩
  · rw [if_neg w, if_pos rfl, if_pos rfl]
    exact ⟨_, tq_some ⟨rfl, cf', x3, x4⟩, tq_some ⟨rfl, ym⟩⟩
theorem op_cost (hF : 60 < F) (hp : tp_pr p) (hT : gT p T) (cc : cT M p T) (ca : cA M p T) (cf : cF M p T R) (mc : mT N p T) : ∃ r : Int32, tq (Xx_cost F a M) (fun q M' => q = r ∧ cF M' p T R ∧ cA M' p T ∧ fC M M') ∧ tq (Md_cost F a N) (fun q N' => q = r ∧ fAm N N') := by
  have hp7 := hp.lt
  have hC := hT.C
  have hL := hT.L
  have h10 := hT.2.1
  have mc' := mc.w0
  unfold Xx_cost Md_cost
  rw [tp_pf, mc'.2.2.2.1]
  rcases tp_ix a (n := tK T) (by omega) with h | ⟨t, ht, rfl⟩
  · rw [tp_cb (to_tie_out cc h), tp_nln, tp_cb (md_in_out h (by omega) rfl), if_pos rfl]
    exact ⟨_, tq_some ⟨rfl, cf, ca, fC.rf⟩, tq_some ⟨rfl, fAm_0⟩⟩
  obtain ⟨p1, p2, p3, p4, p5, p6⟩ := tp_tiP t (by omega)
  have hnb := hT.nbut (but := t)
  have hbt : ∀ j, j < 10 → (nI j = nI t ↔ j = t) := fun j hj => nI_eq (by omega) (by omega)
  obtain ⟨N1, N2, x1, x2, x3, x4⟩ := md_lines (F := F) hF hp hT mc' mdb
  rw [hT.n99] at x3
  have emd := md_leaders (F := F) hF hC (by omega) x3
  have mc2 := x4.mT mc'
  obtain ⟨N3, N4, y1, y2, y3, y4⟩ := md_lines (F := F) (but := t) hF hp hT mc2 hbt
  have emd2 := md_leaders (F := F) hF hC (by omega) y3
  have hl1 := el_rk_le (tL T) (ru p T 99).2.2 (tC T)
  have hcost : ∃ M', Ag_costOf F (nI t) M = some (nI (el_rk (tL T) (ru p T 99).2.2 (tC T)) - nI (el_rk (ly_n T t (tK T)) (ru p T t).2.2 (tC T)), M') ∧ M'.1 70 3 = 0 ∧ cA M' p T ∧ fC M M' := by
    unfold Ag_costOf
    have elead : Ag_leaders F M = some (nI (el_rk (tL T) (ru p T 99).2.2 (tC T)), M) := by unfold Ag_leaders; rw [ca.1.2.2.2.1, ag_rk hT]
    have cc0 : cT (tv_w M 70 3 0) p T := cc.cg hT (fun a i q => by rw [tp_wk (by have := q.2.1; omega)])
    rw [tp_cb elead, tp_pf, cc0.2.2.2.2.1]
    obtain ⟨u1, M1, a1, a2, a3, a4, a5, a6, a7, a8⟩ := sb_begin (F := F) (t := 106) (C := tC T) (x := 0) (me := 1) (M := tv_w M 70 3 0) (Or.inr rfl) hC (by omega) (by omega) (by rw [tp_wk (by omega)]; exact ca.2.2.2)
    have a1 : St_begin F 106 (nI (tC T)) 0 (tv_w M 70 3 0) = some (u1, M1) := a1
    rw [if_neg (by omega), Nat.add_zero] at a6
    have cc1 : cT M1 p T := cc0.fo hT a8 (by omega)
    obtain ⟨u2, M2, b1, b3, b4, b5, b6, b7⟩ := ag_lines (F := F) (t := 106) (mk := 0) (but := t) (but32 := nI t) (M := M1) (Or.inr rfl) hF hp hT cc1 (show _ ≤ 54 by omega) (by show _ ≤ 25; omega) (by omega) (fun w => absurd w (by omega)) hbt a2
    have b1 : Ag_addLines F 106 (nI t) 0 M1 = some (u2, M2) := b1
    have hst : sb_st M2 106 (ly_n T t (tK T)) (tC T) (tC T) p (el_run p (ly_n T t (tK T)) (ly p T t (tK T)) 0) 0 := sb_st0 (by rw [b6 0 (by omega), a7 0 (by omega), tp_wk (by omega)]; exact ca.2.2.1) b3 (by rw [b6 7 (by omega)]; exact a3) (by rw [b6 8 (by omega)]; exact a4) (by rw [b6 9 (by omega)]; exact a5) (by rw [b6 10 (by omega)]; exact a6) (fun l x q1 q2 => by rw [b4 l x q1 (by show x < 25; omega), if_pos q2]) b5
    obtain ⟨u4, M4, d1, d2, d3, d4⟩ := sb_put (F := F) (t := 106) (M := M2) (Or.inr rfl) hF (show _ ≤ 54 by omega) (show tC T ≤ 25 by omega) (Nat.le_refl _) hC hp (fun l x _ => ly_lt (by omega) hT _ (Nat.le_refl _) l x) hst
    have f4 : fo 106 165 (tv_w M 70 3 0) M4 := fun a i q => by rw [d4 a i (by show a < 106 ∨ 106 + 5 + 54 ≤ a; omega), b7 a i (by show a < 106 ∨ 106 + 5 + 54 ≤ a; omega), a8 a i (by omega)]
    rw [tp_cb a1, tp_cb b1, tp_cb d1, d2.2.2.2.1]
    refine ⟨M4, rfl, by rw [f4 _ _ (by omega)]; exact tp_ws, ca.cg hT (fun a i q1 q2 => by rw [f4 _ _ (by omega), tp_wk (by omega)]) (by rw [d2.1]; exact ca.2.2.1.symm) (by rw [d3, b6 1 (by omega), a7 1 (by omega), tp_wk (by omega)]), fun a i q1 q2 => by rw [f4 a i (by omega), tp_wk q1]⟩
  obtain ⟨M', z1, z2, z3, z4⟩ := hcost
  rw [tp_cb (to_tie hT cc ht), tp_nls, tp_gl p4, tp_cb z1, tp_cb (md_in_in ht (by omega) rfl), if_neg (show ¬ (1 : Int32) = 0 by decide), tp_cb x1, tp_cb x2, tp_cb emd, tp_cb y1, tp_cb y2, tp_cb emd2]
  exact ⟨_, tq_some ⟨rfl, Or.inl z2, z3, z4⟩, tq_some ⟨rfl, (x4.tr y4).m⟩⟩
end FILLOPS
