/-! FEWEST -/
def nad (a b : Nat) : Nat := a &&& (b ^^^ 255)
theorem nad_bit (a b : Nat) {k : Nat} (hk : k < 8) : (nad a b).testBit k = (a.testBit k && !b.testBit k) := by
  unfold nad
  rw [Nat.testBit_and, Nat.testBit_xor, show (255 : Nat) = 2 ^ 8 - 1 from rfl, Nat.testBit_two_pow_sub_one, decide_eq_true hk, Bool.xor_true]
theorem nad_lt {a b : Nat} (h : a < 256) : nad a b < 256 := Nat.lt_of_le_of_lt Nat.and_le_left h
theorem i_nad {a b : Nat} (ha : a < 256) (hb : b < 256) : (nI a &&& (nI b ^^^ (-1)) : Int32) = nI (nad a b) := by
  apply Int32.toBitVec_inj.mp
  apply BitVec.eq_of_toNat_eq
  have e : (nI a &&& (nI b ^^^ (-1)) : Int32).toBitVec = BitVec.ofNat 32 a &&& (BitVec.ofNat 32 b ^^^ BitVec.ofNat 32 (2 ^ 32 - 1)) := rfl
  have e2 : (nI (nad a b)).toBitVec = BitVec.ofNat 32 (nad a b) := rfl
  have hn := nad_lt (b := b) ha
  rw [e, e2, BitVec.toNat_and, BitVec.toNat_xor, BitVec.toNat_ofNat, BitVec.toNat_ofNat, BitVec.toNat_ofNat, BitVec.toNat_ofNat, Nat.mod_eq_of_lt (show a < 2 ^ 32 by omega), Nat.mod_eq_of_lt (show b < 2 ^ 32 by omega), Nat.mod_eq_of_lt (show 2 ^ 32 - 1 < 2 ^ 32 by decide), Nat.mod_eq_of_lt (show nad a b < 2 ^ 32 by omega)]
  refine Nat.eq_of_testBit_eq (fun k => ?_)
  by_cases hk : k < 8
  · rw [nad_bit a b hk, Nat.testBit_and, Nat.testBit_xor, Nat.testBit_two_pow_sub_one, decide_eq_true (show k < 32 by omega), Bool.xor_true]
  · have : a.testBit k = false := Nat.testBit_lt_two_pow (Nat.lt_of_lt_of_le ha (Nat.pow_le_pow_right (n := 2) (i := 8) (by omega) (by omega)))
    unfold nad
    rw [Nat.testBit_and, Nat.testBit_and, this, Bool.false_and, Bool.false_and]
theorem eq_bits {a b : Nat} (ha : a < 256) (hb : b < 256) (h : ∀ k, k < 8 → a.testBit k = b.testBit k) : a = b := by
  refine Nat.eq_of_testBit_eq (fun k => ?_)
  by_cases hk : k < 8
  · exact h k hk
  · rw [Nat.testBit_lt_two_pow (Nat.lt_of_lt_of_le ha (Nat.pow_le_pow_right (n := 2) (i := 8) (by omega) (by omega))), Nat.testBit_lt_two_pow (Nat.lt_of_lt_of_le hb (Nat.pow_le_pow_right (n := 2) (i := 8) (by omega) (by omega)))]
theorem nad_0 {a b : Nat} (ha : a < 256) : nad a b = 0 ↔ sub8 a b = true := by
  rw [sub8_iff]
  constructor
  · intro h k hk hx
    have := nad_bit a b hk
    rw [h, Nat.zero_testBit, hx, Bool.true_and] at this
    cases hb : b.testBit k
    · rw [hb] at this; exact Bool.noConfusion this
    · rfl
  · intro h
    refine eq_bits (nad_lt ha) (by omega) (fun k hk => ?_)
    rw [nad_bit a b hk, Nat.zero_testBit]
    by_cases w : a.testBit k = true
    · rw [w, h k hk w]; rfl
    · rw [Bool.eq_false_iff.mpr w]; rfl
theorem cn_sub {f g : Nat → Bool} : ∀ n, (∀ k, k < n → f k = true → g k = true) → cn f n ≤ cn g n ∧ (cn f n = cn g n → ∀ k, k < n → f k = g k) := by
  intro n
  induction n with
  | zero => intro _; exact ⟨Nat.le_refl _, fun _ k hk => absurd hk (Nat.not_lt_zero k)⟩
  | succ n ih =>
    intro h
    obtain ⟨h1, h2⟩ := ih (fun k hk => h k (by omega))
    rw [cn, cn]
    have h3 := h n (by omega)
    by_cases a : f n = true
    · have b := h3 a
      rw [if_pos a, if_pos b]
      refine ⟨by omega, fun e k hk => ?_⟩
      by_cases w : k = n
      · rw [w, a, b]
      · exact h2 (by omega) k (by omega)
    · rw [if_neg a]
      by_cases b : g n = true
      · rw [if_pos b]; exact ⟨by omega, fun e => by omega⟩
      · rw [if_neg b]
        refine ⟨by omega, fun e k hk => ?_⟩
        by_cases w : k = n
        · rw [w, Bool.eq_false_iff.mpr a, Bool.eq_false_iff.mpr b]
        · exact h2 (by omega) k (by omega)
theorem sub_eq {a b : Nat} (ha : a < 256) (hb : b < 256) (hs : sub8 a b = true) (hp : pc b ≤ pc a) : a = b := by
  obtain ⟨h1, h2⟩ := cn_sub (f := fun k => a.testBit k) (g := fun k => b.testBit k) 8 (sub8_iff.mp hs)
  exact eq_bits ha hb (h2 (Nat.le_antisymm h1 hp))
section FEWEST
variable {F p : Nat} {M N : tv_M} {T R : Nat → Nat → Nat}
theorem al_fit (hp : tp_pr p) (hT : gT p T) (hR : gR p T R) : ofit p T R (al_s T R) := by
  refine ⟨sub8_iff.mpr (fun k _ h => h), (ft_u hp hT hR (so_lin hR)).mpr ⟨fun _ => 0, fun e he h => ?_⟩⟩
  unfold so at h
  rw [al_bit, decide_eq_true he, Bool.true_and] at h
  cases hv : hs R e
  · rw [hv] at h; exact Bool.noConfusion h
  · rw [hv] at h; exact Bool.noConfusion h
theorem fwl_P : ∀ X, X ≤ 256 → (fwl p T R X = al_s T R ∧ ∀ off, off < X → ofit p T R off → pc (al_s T R) ≤ pc off) ∨ (fwl p T R X < X ∧ ofit p T R (fwl p T R X) ∧ pc (fwl p T R X) < pc (al_s T R) ∧ ∀ off, off < X → ofit p T R off → pc (fwl p T R X) < pc off ∨ (pc (fwl p T R X) = pc off ∧ fwl p T R X ≤ off)) := by
  intro X
  induction X with
  | zero => intro _; exact Or.inl ⟨rfl, fun off h => absurd h (Nat.not_lt_zero off)⟩
  | succ X ih =>
    intro hX
    have hi := ih (by omega)
    rw [fwl]
    by_cases q : sub8 X (al_s T R) = true ∧ pc X < pc (fwl p T R X) ∧ ft p T R (so R X) = true
    · rw [if_pos q]
      refine Or.inr ⟨by omega, ⟨q.1, q.2.2⟩, ?_, fun off ho hf => ?_⟩
      · rcases hi with ⟨h1, h2⟩ | ⟨h1, h2, h3, h4⟩
        · rw [← h1]; exact q.2.1
        · omega
      · by_cases e : off = X
        · rw [e]; exact Or.inr ⟨rfl, Nat.le_refl _⟩
        · rcases hi with ⟨h1, h2⟩ | ⟨h1, h2, h3, h4⟩
          · have := h2 off (by omega) hf
            rw [h1] at q
            exact Or.inl (by omega)
          · rcases h4 off (by omega) hf with w | w <;> exact Or.inl (by omega)
    · rw [if_neg q]
      have hnew : ofit p T R X → pc (fwl p T R X) ≤ pc X := fun hf => Classical.byContradiction fun w => q ⟨hf.1, by omega, hf.2⟩
      rcases hi with ⟨h1, h2⟩ | ⟨h1, h2, h3, h4⟩
      · refine Or.inl ⟨h1, fun off ho hf => ?_⟩
        by_cases e : off = X
        · rw [e] at hf ⊢; rw [← h1]; exact hnew hf
        · exact h2 off (by omega) hf
      · refine Or.inr ⟨by omega, h2, h3, fun off ho hf => ?_⟩
        by_cases e : off = X
        · rw [e] at hf ⊢
          have := hnew hf
          by_cases w : pc (fwl p T R X) = pc X
          · exact Or.inr ⟨w, by omega⟩
          · exact Or.inl (by omega)
        · exact h4 off (by omega) hf
theorem bh_ge : ∀ x, x < 9 → ∀ off, off < 256 → 2 ^ x ≤ off → an (fun k => !(decide (x ≤ k) && off.testBit k)) 8 = false := by decide +kernel
theorem opt_eq (hp : tp_pr p) (hT : gT p T) (hR : gR p T R) {b cnt : Nat} (h : OptB p T R (2 ^ tE T) b cnt) : b = fwl p T R 256 := by
  have h8 := hT.1
  have hpow : 2 ^ tE T ≤ 256 := Nat.pow_le_pow_right (n := 2) (by omega) h8
  have h := h.ext hpow (fun off o1 o2 ho => by
    have h1 := bh_ge (tE T) (by omega) off o2 o1
    rw [Bool.eq_false_iff] at h1
    refine h1 ((an_iff _ _).mpr (fun k hk => ?_))
    by_cases w : off.testBit k = true
    · have := sub8_iff.mp ho.1 k hk w
      rw [al_bit, Bool.and_eq_true] at this
      rw [decide_eq_false (by have := of_decide_eq_true this.1; omega)]; rfl
    · rw [Bool.eq_false_iff.mpr w, Bool.and_false]; rfl)
  have hall : al_s T R < 256 := rs_256 h8
  have haf := al_fit hp hT hR
  rcases h with ⟨h1, h2⟩ | ⟨h1, h2, h3, h4⟩
  · exact absurd haf (h2 _ hall)
  · rcases fwl_P (p := p) (T := T) (R := R) 256 (Nat.le_refl _) with ⟨g1, g2⟩ | ⟨g1, g2, g3, g4⟩
    · rw [g1]
      exact sub_eq h1 hall h2.1 (g2 b h1 h2)
    · rcases h4 _ g1 g2 with w | w
      · rcases g4 b h1 h2 with z | z <;> omega
      · rcases g4 b h1 h2 with z | z <;> omega
def fDr (M M' : tv_M) : Prop := ∀ a i, (a < 165 ∨ 193 ≤ a) → M'.1 a i = M.1 a i
theorem dr_least (hF : 60 < F) (hp : tp_pr p) (hT : gT p T) (hR : gR p T R) (cc : cT M p T) (ca : cA M p T) (cr : cR M T R) (cd : cD M p T R) : ∃ M', Dr_leastSet F M = some (nI (fwl p T R 256), M') ∧ cD M' p T R ∧ fDr M M' := by
  have h8 := hT.1
  have hC := hT.C
  unfold Dr_leastSet
  rcases cd with k0 | ⟨k0, k1⟩
  · have hK : kk p T ≤ 24 := by unfold kk; omega
    have emin : Jv_min F (nI (kk p T)) 24 M = some (nI (kk p T), M) := by
      unfold Jv_min
      rw [if_neg (show ¬ (24 : Int32) < nI (kk p T) from Int32.not_lt.mpr (nI_le (b := 24) hK (by omega)))]
    have efr : Ag_freeColumns F M = some (nI (kk p T), M) := ag_free hT cc ca
    rw [if_pos k0, tp_cb efr, tp_cb emin, tp_pf, tp_pf, tp_pf, tp_pf]
    have f0 : ∀ a i, ¬ (a = 165 ∧ (i = 4 ∨ i = 5 ∨ i = 6 ∨ i = 7)) → (tv_w (tv_w (tv_w (tv_w M 165 5 (nI (kk p T))) 165 4 0) 165 6 0) 165 7 9).1 a i = M.1 a i := fun a i h => by rw [tp_w, if_neg (by omega), tp_w, if_neg (by omega), tp_w, if_neg (by omega), tp_w, if_neg (by omega)]
    have g4 : (tv_w (tv_w (tv_w (tv_w M 165 5 (nI (kk p T))) 165 4 0) 165 6 0) 165 7 9).1 165 4 = nI 0 := by rw [tp_wj (by omega), tp_wj (by omega), tp_ws]; rfl
    have g5 : (tv_w (tv_w (tv_w (tv_w M 165 5 (nI (kk p T))) 165 4 0) 165 6 0) 165 7 9).1 165 5 = nI (kk p T) := by rw [tp_wj (by omega), tp_wj (by omega), tp_wj (by omega), tp_ws]
    have g6 : (tv_w (tv_w (tv_w (tv_w M 165 5 (nI (kk p T))) 165 4 0) 165 6 0) 165 7 9).1 165 6 = nI 0 := by rw [tp_wj (by omega), tp_ws]; rfl
    have g7 : (tv_w (tv_w (tv_w (tv_w M 165 5 (nI (kk p T))) 165 4 0) 165 6 0) 165 7 9).1 165 7 = nI 9 := tp_ws
    generalize tv_w (tv_w (tv_w (tv_w M 165 5 (nI (kk p T))) 165 4 0) 165 6 0) 165 7 9 = M0 at f0 g4 g5 g6 g7
    have cc0 : cT M0 p T := cc.cg hT (fun a i q => f0 a i (by have := q.2.1; omega))
    have ca0 : cA M0 p T := ca.cg hT (fun a i z1 z2 => f0 a i (by omega)) (f0 _ _ (by omega)) (f0 _ _ (by omega))
    have cr0 : cR M0 T R := cr.cg hT (fun a i q1 q2 _ => f0 a i (by omega))
    have hpow : 2 ^ tE T ≤ 256 := Nat.pow_le_pow_right (n := 2) (by omega) h8
    obtain ⟨M1, b, cnt, y1, y2, y3, y4, y5, y6⟩ := dr_search (F := F) hF hp hT hR (tE T) 0 12 0 (fun _ _ => 0) (fun _ => 0) 0 9 M0 (Nat.le_refl _) (by omega) (Nat.zero_mod _) (by omega) (sub8_iff.mpr (fun k _ h => by rw [Nat.zero_testBit] at h; exact Bool.noConfusion h)) (by have := hT.2.2.2.1; omega) cc0 ca0 cr0 ⟨g4, g5, fun i hi => absurd hi (Nat.not_lt_zero i)⟩ (fun i hi => absurd hi (Nat.not_lt_zero i)) (fun u => ⟨fun _ g g1 g2 => by omega, fun _ i hi => absurd hi (Nat.not_lt_zero i)⟩) g6 g7 (Nat.le_refl _) (Or.inl ⟨rfl, fun off ho => absurd ho (Nat.not_lt_zero off)⟩)
    have y1 : Dr_searchFrom F 12 (nI (tE T) - 1) 0 M0 = some ((), M1) := y1
    rw [Nat.zero_add] at y6
    have hb := opt_eq hp hT hR y6
    rw [cc0.2.1, tp_cb y1, tp_pf, tp_wj (by omega), y3, hb]
    refine ⟨_, rfl, Or.inr ⟨tp_ws, by rw [tp_wj (by omega), y3, hb]⟩, fun a i h => ?_⟩
    rw [tp_wk (by omega), y2 a i (by omega) (by omega) (by omega), f0 a i (by omega)]
  · rw [if_neg (by rw [k0]; decide), k1]
    exact ⟨M, rfl, Or.inr ⟨k0, k1⟩, fun _ _ _ => rfl⟩
theorem md_fewest (hF : 400 < F) (hp : tp_pr p) (hT : gT p T) (hR : gR p T R) (mc : mT N p T) (mr : mR N T R) : ∃ N', Md_fewest_L14 F F (nI (al_s T R)) (nI (al_s T R)) 0 N = some (nI (fwl p T R 256), N') ∧ fA N N' := by
  have h8 := hT.1
  have hall : al_s T R < 256 := rs_256 h8
  have hfl : ∀ X, X ≤ 256 → fwl p T R X < 256 := fun X hX => by
    rcases fwl_P (p := p) (T := T) (R := R) X hX with h | h
    · rw [h.1]; exact hall
    · omega
  have hh : ∀ d off nn N', off + d = 256 → d < nn → fA N N' → ∃ N'', Md_fewest_L14 F nn (nI (al_s T R)) (nI (fwl p T R off)) (nI off) N' = some (nI (fwl p T R 256), N'') ∧ fA N N'' := by
    intro d
    induction d with
    | zero =>
      intro off nn N' e1 e2 f1
      obtain ⟨nn, rfl⟩ : ∃ n', nn = n' + 1 := ⟨nn - 1, by omega⟩
      rw [show off = 256 by omega, Md_fewest_L14, if_pos (show (256 : Int32) ≤ nI 256 by decide)]
      exact ⟨N', rfl, f1⟩
    | succ d ih =>
      intro off nn N' e1 e2 f1
      obtain ⟨nn, rfl⟩ : ∃ n', nn = n' + 1 := ⟨nn - 1, by omega⟩
      have hi := ih (off + 1) nn
      rw [fwl] at hi
      have ho : off < 256 := by omega
      have hb := hfl off (by omega)
      have hnl := nad_lt (b := al_s T R) ho
      have hnl2 := nad_lt (b := off) hall
      have hp1 := bh_5 off ho
      have hp2 := bh_5 _ hb
      rw [Md_fewest_L14, if_neg (show ¬ (256 : Int32) ≤ nI off from nI_ge (b := 256) ho (by omega)), i_nad ho hall, i_nad hall ho, tp_cb (md_bits (by omega) ho), tp_cb (md_bits (by omega) hb), nI_1]
      by_cases q1 : sub8 off (al_s T R) = true
      · rw [if_pos ((nI_z (by omega)).mpr ((nad_0 ho).mpr q1))]
        by_cases q2 : pc off < pc (fwl p T R off)
        · rw [if_neg (nI_ge q2 (by omega))]
          have hcg : ∀ e, e < tE T → (fun e => (nad (al_s T R) off).testBit e) e = so R off e := fun e he => by
            dsimp only
            rw [nad_bit _ _ (by omega), al_bit, decide_eq_true he, Bool.true_and]; rfl
          have mr' : mR N' T R := mr.cg (fun a i w1 w2 => f1 a i (by omega) (by omega))
          obtain ⟨N2, y1, y2, y3⟩ := md_fit (F := F) (N := N') (set := nad (al_s T R) off) (by omega) hp hT hR (f1.mT mc) mr' hnl2 (fun e he h => by
            have := hcg e he
            dsimp only at this
            rw [this] at h
            unfold so at h
            rw [Bool.and_eq_true] at h
            have h := h.1
            unfold hs at h
            exact of_decide_eq_true h)
          rw [ft_cg hcg] at y1
          rw [tp_cb y1]
          by_cases q3 : ft p T R (so R off) = true
          · rw [if_pos q3, if_neg (show ¬ (1 : Int32) = 0 by decide)]
            rw [if_pos ⟨q1, q2, q3⟩] at hi
            exact hi N2 (by omega) (by omega) (f1.tr y3)
          · rw [if_neg q3, if_pos rfl]
            rw [if_neg (fun w => q3 w.2.2)] at hi
            exact hi N2 (by omega) (by omega) (f1.tr y3)
        · rw [if_pos (nI_le (by omega) (by omega))]
          rw [if_neg (fun w => q2 w.2.1)] at hi
          exact hi N' (by omega) (by omega) f1
      · rw [if_neg (fun w => q1 ((nad_0 ho).mp ((nI_z (by omega)).mp w)))]
        rw [if_neg (fun w => q1 w.1)] at hi
        exact hi N' (by omega) (by omega) f1
  exact hh 256 0 F N (by omega) (by omega) (fun _ _ _ _ => rfl)
theorem op_fewest (hF : 400 < F) (hp : tp_pr p) (hT : gT p T) (hR : gR p T R) (cc : cT M p T) (ca : cA M p T) (cr : cR M T R) (cd : cD M p T R) (mc : mT N p T) (mr : mR N T R) : ∃ r : Int32, tq (Xx_fewest F M) (fun q M' => q = r ∧ cD M' p T R ∧ fDr M M') ∧ tq (Md_fewest F N) (fun q N' => q = r ∧ fAm N N') := by
  obtain ⟨M', x1, x2, x3⟩ := dr_least (F := F) (by omega) hp hT hR cc ca cr cd
  obtain ⟨N', y1, y2⟩ := md_fewest (F := F) (N := tv_w N 249 0 0) hF hp hT hR mc.w0 mr.w0
  refine ⟨nI (fwl p T R 256), ?_, ?_⟩
  · unfold Xx_fewest; rw [tp_cb x1]; exact tq_some ⟨rfl, x2, x3⟩
  · unfold Md_fewest
    rw [tp_pf, tp_cb (md_rset (by omega) hT hR mc.w0 mr.w0)]
    have y1 : Md_fewest_L14 F F (nI (rs (hs R) (tE T))) (nI (rs (hs R) (tE T))) 0 (tv_w N 249 0 0) = _ := y1
    rw [y1]
    exact tq_some ⟨rfl, y2.m⟩
end FEWEST
