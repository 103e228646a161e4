/-! ALL SENTENCES -/
def CFr (T : Nat → Nat → Nat) (M M' : tv_M) : Prop := ∀ a i, ¬ (a = 18 ∧ 4 ≤ i ∧ i ≤ 13) → ¬ (a = 68 ∧ 2 ≤ i ∧ i ≤ 8) → ¬ (22 + 2 * tE T ≤ a ∧ a < 38 ∧ a % 2 = 0 ∧ 1 ≤ i ∧ i ≤ 5) → ¬ (38 + 3 * tK T ≤ a ∧ a < 68) → ¬ (a = 21 ∧ 4 * tB T ≤ i) → M'.1 a i = M.1 a i
def JFr (T : Nat → Nat → Nat) (N N' : tv_M) : Prop := ∀ a i, ¬ (a = 249 ∧ (i = 0 ∨ (24 ≤ i ∧ i ≤ 36))) → ¬ (253 ≤ a ∧ a ≤ 255 ∧ tE T ≤ i) → ¬ (256 ≤ a ∧ a ≤ 258 ∧ tK T ≤ i) → ¬ (a = 259 ∧ 18 * tK T ≤ i) → ¬ (260 ≤ a ∧ a ≤ 263 ∧ tB T ≤ i) → N'.1 a i = N.1 a i
theorem cT.cg9 {M M' : tv_M} {p : Nat} {T : Nat → Nat → Nat} (hT : gT p T) (h : cT M p T) (hk : ∀ a i, a < 68 → ¬ (a = 18 ∧ 9 ≤ i) → M'.1 a i = M.1 a i) : cT M' p T := by
  obtain ⟨c0, c4, c5, c6, c7, c8, cn, ce, ctt, cb⟩ := h
  obtain ⟨g1, g2, g3, -⟩ := hT
  refine ⟨by rw [hk _ _ (by omega) (by omega)]; exact c0, by rw [hk _ _ (by omega) (by omega)]; exact c4, by rw [hk _ _ (by omega) (by omega)]; exact c5, by rw [hk _ _ (by omega) (by omega)]; exact c6, by rw [hk _ _ (by omega) (by omega)]; exact c7, by rw [hk _ _ (by omega) (by omega)]; exact c8, fun e he => by rw [hk _ _ (by omega) (by omega)]; exact cn e he, fun e he => ?_, fun t ht => ?_, fun k i hk1 hi => by rw [hk _ _ (by omega) (by omega)]; exact cb k i hk1 hi⟩
  · obtain ⟨a1, a2, a3⟩ := ce e he
    exact ⟨by rw [hk _ _ (by omega) (by omega)]; exact a1, by rw [hk _ _ (by omega) (by omega)]; exact a2, by rw [hk _ _ (by omega) (by omega)]; exact a3⟩
  · obtain ⟨a1, a2, a3, a4, a5⟩ := ctt t ht
    exact ⟨by rw [hk _ _ (by omega) (by omega)]; exact a1, by rw [hk _ _ (by omega) (by omega)]; exact a2, by rw [hk _ _ (by omega) (by omega)]; exact a3, fun r k h1 h2 => by rw [hk _ _ (by omega) (by omega)]; exact a4 r k h1 h2, fun r k h1 h2 => by rw [hk _ _ (by omega) (by omega)]; exact a5 r k h1 h2⟩
section READ
variable {F p : Nat} {Tp T0 : Nat → Nat → Nat}
theorem NE.ac {M M' : tv_M} {T0 T T' : Nat → Nat → Nat} (h8 : tE T ≤ 8) (h : NE M T0 T) (g : NE M' T T') (hx : Ext T T') (hf : CF T M M') : NE M' T0 T' := fun e e1 e2 => by
  by_cases w : e < tE T
  · obtain ⟨a, b⟩ := h e e1 w
    rw [hf _ _ (by omega) (by omega) (by omega) (by omega) (by omega), hf _ _ (by omega) (by omega) (by omega) (by omega) (by omega), (hx.2.2.2.1 e w).2.1]
    exact ⟨a, b⟩
  · exact g e (by omega) e2
theorem s_loop (hF : 600 < F) (hp : tp_pr p) (hg : gTp Tp) : ∀ d nn nm i (M N : tv_M) T q, d + 1 < nn → d + 1 < nm → Tp 0 0 - q.1 ≤ d → i ≤ q.1 → i ≤ 500 → gT p T → Ext T0 T → cT M p T → mT1 N p T → SY M N Tp q → NE M T0 T → (∃ M' N' T' q', Re_takeIn_L20 F nn 1 (nI i) M = Re_takeIn_L49 F 1 M' ∧ Md_read_L64 F nm N = Md_read_L248 F N' ∧ gT p T' ∧ Ext T0 T' ∧ cT M' p T' ∧ mT1 N' p T' ∧ SY M' N' Tp q' ∧ NE M' T0 T' ∧ CF T0 M M' ∧ JF T0 N N') ∨ (∃ M' N' f b, Re_takeIn_L20 F nn 1 (nI i) M = Re_takeIn_L49 F 0 M' ∧ Md_read_L64 F nm N = Md_read_L248 F N' ∧ FL M' N' f b ∧ CF T0 M M' ∧ JF T0 N N') := by
  have h500 := hg.1
  intro d
  induction d with
  | zero =>
    intro nn nm i M N T q e1 e2 e3 e4 e5 hT hx cc mc h hn
    obtain ⟨nn, rfl⟩ : ∃ n', nn = n' + 1 := ⟨nn - 1, by omega⟩
    obtain ⟨nm, rfl⟩ : ∃ n', nm = n' + 1 := ⟨nm - 1, by omega⟩
    have h6 := h.2.2.2.2.2
    have k : q.2.2 = 0 := h6.2.2.1.mpr (by omega)
    refine Or.inl ⟨M, N, T, q, ?_, ?_, hT, hx, cc, mc, h, hn, CF.rf, JF.rf⟩
    · rw [Re_takeIn_L20, if_neg (show ¬ (1 : Int32) = 0 by decide), h.2.1.2.2.1, k, if_pos (show nI 0 = 0 from rfl), ite_self]
    · rw [Md_read_L64, if_pos h.2.2.2.2.1, h.2.2.2.1.2.2.2, if_pos ((mk_e h6.2.2.2.2.2.2.2.2).2.2.1.mpr k)]
  | succ d ih =>
    intro nn nm i M N T q e1 e2 e3 e4 e5 hT hx cc mc h hn
    obtain ⟨nn, rfl⟩ : ∃ n', nn = n' + 1 := ⟨nn - 1, by omega⟩
    obtain ⟨nm, rfl⟩ : ∃ n', nm = n' + 1 := ⟨nm - 1, by omega⟩
    have h6 := h.2.2.2.2.2
    by_cases k : q.2.2 = 0
    · refine Or.inl ⟨M, N, T, q, ?_, ?_, hT, hx, cc, mc, h, hn, CF.rf, JF.rf⟩
      · rw [Re_takeIn_L20, if_neg (show ¬ (1 : Int32) = 0 by decide), h.2.1.2.2.1, k, if_pos (show nI 0 = 0 from rfl), ite_self]
      · rw [Md_read_L64, if_pos h.2.2.2.2.1, h.2.2.2.1.2.2.2, if_pos ((mk_e h6.2.2.2.2.2.2.2.2).2.2.1.mpr k)]
    · have hq : q.1 < Tp 0 0 := by
        exact Nat.lt_of_not_le (fun w => k (h6.2.2.1.mpr w))
      have hk0 : ¬ nI q.2.2 = 0 := fun v => k ((nI_z (by have := h6.2.2.2.2.2.2.2.2; omega)).mp v)
      obtain ⟨r, M', N', x1, x2, x3⟩ := s_one (F := F) hF hp hg hT cc mc h k
      have hL : Re_takeIn_L20 F (nn + 1) 1 (nI i) M = Re_takeIn_L20 F nn r (nI (i + 1)) M' := by
        rw [Re_takeIn_L20, if_neg (show ¬ (500 : Int32) ≤ nI i from nI_ge (b := 500) (by omega) (by omega)), if_neg (show ¬ (1 : Int32) = 0 by decide), h.2.1.2.2.1, if_neg hk0, tp_cb x1, nI_1]
      rw [hL, x2 nm]
      rcases x3 with ⟨rfl, T', q', y1, y2, y3, y4, y5, y6, y7, y8, y9⟩ | ⟨rfl, f, b, y1, y2, y3, y4⟩
      · have z1 := y8.su hx
        have z2 := y9.su hx
        rcases ih nn nm (i + 1) M' N' T' q' (by omega) (by omega) (by omega) (by omega) (by omega) y1 (hx.tr y2) y3 y4 y5 (hn.ac hT.1 y7 y2 y8) with ⟨M2, N2, T2, q2, w1, w2, w3, w4, w5, w6, w7, w8, w9, w10⟩ | ⟨M2, N2, f, b, w1, w2, w3, w4, w5⟩
        · exact Or.inl ⟨M2, N2, T2, q2, w1, w2, w3, w4, w5, w6, w7, w8, z1.tr w9, z2.tr w10⟩
        · exact Or.inr ⟨M2, N2, f, b, w1, w2, w3, z1.tr w4, z2.tr w5⟩
      · obtain ⟨nn, rfl⟩ : ∃ n', nn = n' + 1 := ⟨nn - 1, by omega⟩
        obtain ⟨nm, rfl⟩ : ∃ n', nm = n' + 1 := ⟨nm - 1, by omega⟩
        refine Or.inr ⟨M', N', f, b, ?_, ?_, y1, y3.su hx, y4.su hx⟩
        · rw [Re_takeIn_L20, if_pos rfl, ite_self]
        · rw [Md_read_L64, y1.2.2.1, if_neg (fun w => absurd ((nI_z (by have := y1.2.2.2.2.2.1; omega)).mp w) (by have := y1.2.2.2.2.1; omega))]
theorem s_read {M N : tv_M} {Z : Nat → Nat} (hF : 600 < F) (hp : tp_pr p) (hg : gTp Tp) (hT : gT p T0) (cc : cT M p T0) (mc : mT N p T0) (ct : cTp M Tp) (mt : mTp N Tp) (c3 : M.1 68 3 = nI (Z 1)) (m25 : N.1 249 25 = nI (Z 1)) : (∃ M' N' T', Re_takeIn F M = some (-1, M') ∧ Md_read F N = Md_read_L277 F F (nI (tE T0)) N' ∧ gT p T' ∧ Ext T0 T' ∧ cT M' p T' ∧ mT1 N' p T' ∧ NE M' T0 T' ∧ M'.1 68 2 = 0 ∧ M'.1 68 3 = nI (Z 1) ∧ N'.1 249 6 = nI (tE T0) ∧ N'.1 249 10 = nI (tC T0) ∧ N'.1 249 11 = nI (tK T0) ∧ N'.1 249 16 = nI (tB T0) ∧ N'.1 249 24 = 0 ∧ N'.1 249 25 = nI (Z 1) ∧ CFr T0 M M' ∧ JFr T0 N N') ∨ (∃ M' N' f b, b ≤ 500 ∧ 1 ≤ f ∧ f ≤ 3 ∧ Re_takeIn F M = some (nI b, M') ∧ Md_read F N = some (-1000100 - nI b, N') ∧ cT M' p T0 ∧ mT N' p T0 ∧ M'.1 68 2 = 0 ∧ M'.1 68 3 = nI f ∧ N'.1 249 24 = 0 ∧ N'.1 249 25 = nI f ∧ CFr T0 M M' ∧ JFr T0 N N') := by
  have h500 := hg.1
  -- the class's first acts
  have hk : ∃ M1, To_keep F M = some ((), M1) ∧ M1.1 18 9 = nI (tE T0) ∧ M1.1 18 10 = nI (tK T0) ∧ M1.1 18 11 = nI (tB T0) ∧ M1.1 18 12 = nI (tC T0) ∧ M1.1 18 13 = nI (tL T0) ∧ ∀ a i, ¬ (a = 18 ∧ 9 ≤ i ∧ i ≤ 13) → M1.1 a i = M.1 a i := by
    unfold To_keep
    rw [cc.2.1, tp_pf, tp_wj (by omega), cc.2.2.1, tp_pf, tp_wj (by omega), tp_wj (by omega), cc.2.2.2.1, tp_pf, tp_wj (by omega), tp_wj (by omega), tp_wj (by omega), cc.2.2.2.2.1, tp_pf, tp_wj (by omega), tp_wj (by omega), tp_wj (by omega), tp_wj (by omega), cc.2.2.2.2.2.1, tp_pf]
    refine ⟨_, rfl, ?_, ?_, ?_, ?_, tp_ws, fun a i w => ?_⟩
    · rw [tp_wj (by omega), tp_wj (by omega), tp_wj (by omega), tp_wj (by omega)]; exact tp_ws
    · rw [tp_wj (by omega), tp_wj (by omega), tp_wj (by omega)]; exact tp_ws
    · rw [tp_wj (by omega), tp_wj (by omega)]; exact tp_ws
    · rw [tp_wj (by omega)]; exact tp_ws
    · rw [tp_w, if_neg (by omega), tp_w, if_neg (by omega), tp_w, if_neg (by omega), tp_w, if_neg (by omega), tp_w, if_neg (by omega)]
  obtain ⟨M1, k1, k9, k10, k11, k12, k13, kf⟩ := hk
  have kf2 : ∀ a i, ¬ (a = 18 ∧ 9 ≤ i ∧ i ≤ 13) → ¬ (a = 68 ∧ i = 6) → (tv_w M1 68 6 (nI 0)).1 a i = M.1 a i := fun a i w1 w2 => by rw [tp_w, if_neg w2]; exact kf a i w1
  obtain ⟨M2, g1, g2, g3⟩ := re_go (F := F) (M := tv_w M1 68 6 (nI 0)) (pos := 0) hF hg ⟨by rw [kf2 _ _ (by omega) (by omega)]; exact ct.1, fun i hi => by rw [kf2 _ _ (by omega) (by omega)]; exact ct.2 i hi⟩ (Nat.zero_le _) tp_ws
  have f2 : ∀ a i, ¬ (a = 18 ∧ 9 ≤ i ∧ i ≤ 13) → ¬ (a = 68 ∧ 4 ≤ i ∧ i ≤ 7) → M2.1 a i = M.1 a i := fun a i w1 w2 => by rw [g3 a i (by omega)]; exact kf2 a i w1 (by omega)
  have e1 : Re_takeIn F M = Re_takeIn_L20 F F 1 0 M2 := by
    unfold Re_takeIn
    rw [tp_cb k1, tp_pf]
    exact tp_cb g1
  -- the reference's
  have hm : ∃ N1, Md_read F N = tv_cb (Md_step F N1) (fun _ N2 => Md_read_L64 F F N2) ∧ N1.1 249 26 = nI (Tp 0 0) ∧ N1.1 249 24 = 0 ∧ N1.1 249 27 = nI 0 ∧ N1.1 249 31 = 0 ∧ N1.1 249 33 = nI (tE T0) ∧ N1.1 249 34 = nI (tC T0) ∧ N1.1 249 35 = nI (tK T0) ∧ N1.1 249 36 = nI (tB T0) ∧ ∀ a i, ¬ (a = 249 ∧ (i = 0 ∨ i = 24 ∨ i = 26 ∨ i = 27 ∨ i = 31 ∨ (33 ≤ i ∧ i ≤ 36))) → N1.1 a i = N.1 a i := by
    obtain ⟨m2, m6, m10, m11, m16, -⟩ := mc
    unfold Md_read
    rw [tp_pf, tp_wj (by omega), mt.1, tp_pf, tp_pf, tp_pf, tp_pf, show (tv_w (tv_w (tv_w (tv_w (tv_w N 249 0 0) 249 26 (nI (Tp 0 0))) 249 24 0) 249 27 0) 249 31 0).1 249 6 = nI (tE T0) by rw [tp_wj (by omega), tp_wj (by omega), tp_wj (by omega), tp_wj (by omega), tp_wj (by omega)]; exact m6, tp_pf]
    rw [tp_wj (by omega), tp_wj (by omega), tp_wj (by omega), tp_wj (by omega), tp_wj (by omega), tp_wj (by omega), m10, tp_pf]
    rw [tp_wj (by omega), tp_wj (by omega), tp_wj (by omega), tp_wj (by omega), tp_wj (by omega), tp_wj (by omega), tp_wj (by omega), m11, tp_pf]
    rw [tp_wj (by omega), tp_wj (by omega), tp_wj (by omega), tp_wj (by omega), tp_wj (by omega), tp_wj (by omega), tp_wj (by omega), tp_wj (by omega), m16, tp_pf]
    refine ⟨_, rfl, ?_, ?_, ?_, ?_, ?_, ?_, ?_, tp_ws, fun a i w => ?_⟩
    · rw [tp_wj (by omega), tp_wj (by omega), tp_wj (by omega), tp_wj (by omega), tp_wj (by omega), tp_wj (by omega), tp_wj (by omega)]; exact tp_ws
    · rw [tp_wj (by omega), tp_wj (by omega), tp_wj (by omega), tp_wj (by omega), tp_wj (by omega), tp_wj (by omega)]; exact tp_ws
    · rw [tp_wj (by omega), tp_wj (by omega), tp_wj (by omega), tp_wj (by omega), tp_wj (by omega)]; exact tp_ws
    · rw [tp_wj (by omega), tp_wj (by omega), tp_wj (by omega), tp_wj (by omega)]; exact tp_ws
    · rw [tp_wj (by omega), tp_wj (by omega), tp_wj (by omega)]; exact tp_ws
    · rw [tp_wj (by omega), tp_wj (by omega)]; exact tp_ws
    · rw [tp_wj (by omega)]; exact tp_ws
    · rw [tp_w, if_neg (by omega), tp_w, if_neg (by omega), tp_w, if_neg (by omega), tp_w, if_neg (by omega), tp_w, if_neg (by omega), tp_w, if_neg (by omega), tp_w, if_neg (by omega), tp_w, if_neg (by omega), tp_w, if_neg (by omega)]
  obtain ⟨N1, e2, n26, n24, n27, n31, n33, n34, n35, n36, nf⟩ := hm
  have tx1 : mTx N1 Tp := ⟨n26, fun i hi => by rw [nf _ _ (by omega)]; exact mt.2 i hi⟩
  obtain ⟨N2, s1, s2, s3⟩ := md_step (F := F) (N := N1) (pos := 0) hF hg tx1 (Nat.zero_le _) n27
  rw [e1, e2, tp_cb s1]
  have cc2 : cT M2 p T0 := cc.cg9 hT (fun a i z1 z2 => f2 a i (by omega) (by omega))
  have mc2 : mT1 N2 p T0 := by
    obtain ⟨m2, m6, m10, m11, m16, me, mtt, mb⟩ := mc
    have hN : ∀ a i, a ≠ 249 → N2.1 a i = N.1 a i := fun a i w => by rw [s3 a i (by omega), nf a i (by omega)]
    refine ⟨by rw [s3 _ _ (by omega), nf _ _ (by omega)]; exact m2, by rw [s3 _ _ (by omega)]; exact n33, by rw [s3 _ _ (by omega)]; exact n34, by rw [s3 _ _ (by omega)]; exact n35, by rw [s3 _ _ (by omega)]; exact n36, fun e he => ?_, fun t ht => ?_, fun k hk => ?_⟩
    · obtain ⟨x1, x2, x3⟩ := me e he
      exact ⟨by rw [hN _ _ (by omega)]; exact x1, by rw [hN _ _ (by omega)]; exact x2, by rw [hN _ _ (by omega)]; exact x3⟩
    · obtain ⟨x1, x2, x3, x4, x5⟩ := mtt t ht
      exact ⟨by rw [hN _ _ (by omega)]; exact x1, by rw [hN _ _ (by omega)]; exact x2, by rw [hN _ _ (by omega)]; exact x3, fun r k h1 h2 => by rw [hN _ _ (by omega)]; exact x4 r k h1 h2, fun r k h1 h2 => by rw [hN _ _ (by omega)]; exact x5 r k h1 h2⟩
    · obtain ⟨x1, x2, x3, x4⟩ := mb k hk
      exact ⟨by rw [hN _ _ (by omega)]; exact x1, by rw [hN _ _ (by omega)]; exact x2, by rw [hN _ _ (by omega)]; exact x3, by rw [hN _ _ (by omega)]; exact x4⟩
  have hS : SY M2 N2 Tp (lx Tp 0) := ⟨⟨⟨by rw [f2 _ _ (by omega) (by omega)]; exact ct.1, fun i hi => by rw [f2 _ _ (by omega) (by omega)]; exact ct.2 i hi⟩, by rw [f2 _ _ (by omega) (by omega), s3 _ _ (by omega), nf _ _ (by omega), c3, m25]⟩, g2, s3.tx tx1, s2, by rw [s3 _ _ (by omega)]; exact n31, WQ_lx (Nat.zero_le _)⟩
  have hCr : ∀ M', CF T0 M2 M' → ∀ a i, ¬ (a = 18 ∧ 4 ≤ i ∧ i ≤ 13) → ¬ (a = 68 ∧ 3 ≤ i ∧ i ≤ 8) → ¬ (22 + 2 * tE T0 ≤ a ∧ a < 38 ∧ a % 2 = 0 ∧ 1 ≤ i ∧ i ≤ 5) → ¬ (38 + 3 * tK T0 ≤ a ∧ a < 68) → ¬ (a = 21 ∧ 4 * tB T0 ≤ i) → M'.1 a i = M.1 a i := fun M' w a i w1 w2 w3 w4 w5 => by rw [w a i (by omega) w2 w3 w4 w5, f2 a i (by omega) (by omega)]
  have hJr : ∀ N', JF T0 N2 N' → JFr T0 N N' := fun N' w a i w1 w2 w3 w4 w5 => by rw [w a i (by omega) w2 w3 w4 w5, s3 a i (by omega), nf a i (by omega)]
  rcases s_loop (F := F) (T0 := T0) hF hp hg 500 F F 0 M2 N2 T0 (lx Tp 0) (by omega) (by omega) (by omega) (Nat.zero_le _) (Nat.zero_le _) hT Ext.rf cc2 mc2 hS (fun e a b => absurd a (by omega)) with ⟨M3, N3, T', q', w1, w2, w3, w4, w5, w6, w7, w8, w9, w10⟩ | ⟨M3, N3, f, b, w1, w2, w3, w4, w5⟩
  · refine Or.inl ⟨tv_w M3 68 2 0, N3, T', ?_, ?_, w3, w4, ?_, w6, fun e z1 z2 => ?_, tp_ws, ?_, ?_, ?_, ?_, ?_, ?_, ?_, ?_, hJr _ w10⟩
    · refine w1.trans ?_
      unfold Re_takeIn_L49
      rw [tp_pf, if_neg (show ¬ (1 : Int32) = 0 by decide)]
    · rw [w2]; unfold Md_read_L248
      rw [w7.2.2.2.2.1, if_pos (show (0 : Int32) ≤ 0 from Int32.le_refl _), w10 _ _ (by omega) (by omega) (by omega) (by omega) (by omega), s3 _ _ (by omega), nf _ _ (by omega), mc.2.1]
    · exact w5.cg w3 (fun a i z => by rw [tp_w, if_neg (by have := z.2.1; omega)])
    · have h8' := w3.1
      rw [tp_wk (by omega), tp_wk (by omega)]; exact w8 e z1 z2
    · rw [tp_wj (by omega), w7.1.2, w10 _ _ (by omega) (by omega) (by omega) (by omega) (by omega), s3 _ _ (by omega), nf _ _ (by omega)]; exact m25
    · rw [w10 _ _ (by omega) (by omega) (by omega) (by omega) (by omega), s3 _ _ (by omega), nf _ _ (by omega)]; exact mc.2.1
    · rw [w10 _ _ (by omega) (by omega) (by omega) (by omega) (by omega), s3 _ _ (by omega), nf _ _ (by omega)]; exact mc.2.2.1
    · rw [w10 _ _ (by omega) (by omega) (by omega) (by omega) (by omega), s3 _ _ (by omega), nf _ _ (by omega)]; exact mc.2.2.2.1
    · rw [w10 _ _ (by omega) (by omega) (by omega) (by omega) (by omega), s3 _ _ (by omega), nf _ _ (by omega)]; exact mc.2.2.2.2.1
    · rw [w10 _ _ (by omega) (by omega) (by omega) (by omega) (by omega), s3 _ _ (by omega)]; exact n24
    · rw [w10 _ _ (by omega) (by omega) (by omega) (by omega) (by omega), s3 _ _ (by omega), nf _ _ (by omega)]; exact m25
    · exact fun a i z1 z2 z3 z4 z5 => by rw [tp_w, if_neg (by omega)]; exact hCr M3 w9 a i z1 (by omega) z3 z4 z5
  · obtain ⟨v1, v2, v3, v4, v5, v6, v7⟩ := w3
    have hne : ¬ nI f ≤ 0 := nI_ge (a := 0) (b := f) (by omega) (by omega)
    have hgb : ∃ M4, To_goBack F (tv_w M3 68 2 0) = some ((), M4) ∧ M4.1 18 4 = nI (tE T0) ∧ M4.1 18 5 = nI (tK T0) ∧ M4.1 18 6 = nI (tB T0) ∧ M4.1 18 7 = nI (tC T0) ∧ M4.1 18 8 = nI (tL T0) ∧ ∀ a i, ¬ (a = 18 ∧ 4 ≤ i ∧ i ≤ 8) → ¬ (a = 68 ∧ i = 2) → M4.1 a i = M3.1 a i := by
      have x : ∀ i, 9 ≤ i → i ≤ 13 → M3.1 18 i = M1.1 18 i := fun i z1 z2 => by rw [w4 _ _ (by omega) (by omega) (by omega) (by omega) (by omega), g3 _ _ (by omega), tp_wk (by omega)]
      unfold To_goBack
      rw [tp_wk (by omega), x 9 (by omega) (by omega), k9, tp_pf, tp_wj (by omega), tp_wk (by omega), x 10 (by omega) (by omega), k10, tp_pf, tp_wj (by omega), tp_wj (by omega), tp_wk (by omega), x 11 (by omega) (by omega), k11, tp_pf, tp_wj (by omega), tp_wj (by omega), tp_wj (by omega), tp_wk (by omega), x 12 (by omega) (by omega), k12, tp_pf, tp_wj (by omega), tp_wj (by omega), tp_wj (by omega), tp_wj (by omega), tp_wk (by omega), x 13 (by omega) (by omega), k13, tp_pf]
      refine ⟨_, rfl, ?_, ?_, ?_, ?_, tp_ws, fun a i z1 z2 => ?_⟩
      · rw [tp_wj (by omega), tp_wj (by omega), tp_wj (by omega), tp_wj (by omega)]; exact tp_ws
      · rw [tp_wj (by omega), tp_wj (by omega), tp_wj (by omega)]; exact tp_ws
      · rw [tp_wj (by omega), tp_wj (by omega)]; exact tp_ws
      · rw [tp_wj (by omega)]; exact tp_ws
      · rw [tp_w, if_neg (by omega), tp_w, if_neg (by omega), tp_w, if_neg (by omega), tp_w, if_neg (by omega), tp_w, if_neg (by omega), tp_w, if_neg z2]
    obtain ⟨M4, b1, b4, b5, b6, b7, b8, bf⟩ := hgb
    have b2 : M4.1 68 2 = 0 := by
      have : M4.1 68 2 = (tv_w M3 68 2 0).1 68 2 := by
        unfold To_goBack at b1
        simp only [tp_pf] at b1
        rw [← (Prod.mk.inj (Option.some.inj b1)).2, tp_wk (by omega), tp_wk (by omega), tp_wk (by omega), tp_wk (by omega), tp_wk (by omega)]
      rw [this]; exact tp_ws
    have hc4 : ∀ a i, ¬ (a = 18 ∧ 4 ≤ i ∧ i ≤ 13) → ¬ (a = 68 ∧ 2 ≤ i ∧ i ≤ 8) → ¬ (22 + 2 * tE T0 ≤ a ∧ a < 38 ∧ a % 2 = 0 ∧ 1 ≤ i ∧ i ≤ 5) → ¬ (38 + 3 * tK T0 ≤ a ∧ a < 68) → ¬ (a = 21 ∧ 4 * tB T0 ≤ i) → M4.1 a i = M.1 a i := fun a i z1 z2 z3 z4 z5 => by rw [bf a i (by omega) (by omega)]; exact hCr M3 w4 a i z1 (by omega) z3 z4 z5
    have h8 := hT.1
    have h10 := hT.2.1
    refine Or.inr ⟨M4, tv_w N3 249 25 (nI f), f, b, v7, v5, v6, ?_, ?_, ?_, ?_, b2, ?_, ?_, tp_ws, hc4, ?_⟩
    · refine w1.trans ?_
      unfold Re_takeIn_L49
      rw [tp_pf, if_pos rfl, tp_cb b1, bf _ _ (by omega) (by omega), v2]
    · rw [w2]; unfold Md_read_L248
      rw [v3, if_neg hne, tp_pf, tp_wj (by omega), v4]
    · obtain ⟨c0, c4, c5, c6, c7, c8, cn, ce, ctt, cb⟩ := cc
      refine ⟨by rw [hc4 _ _ (by omega) (by omega) (by omega) (by omega) (by omega)]; exact c0, b4, b5, b6, b7, b8, fun e he => by rw [hc4 _ _ (by omega) (by omega) (by omega) (by omega) (by omega)]; exact cn e he, fun e he => ?_, fun t ht => ?_, fun k i hk hi => by rw [hc4 _ _ (by omega) (by omega) (by omega) (by omega) (by omega)]; exact cb k i hk hi⟩
      · obtain ⟨a1, a2, a3⟩ := ce e he
        exact ⟨by rw [hc4 _ _ (by omega) (by omega) (by omega) (by omega) (by omega)]; exact a1, by rw [hc4 _ _ (by omega) (by omega) (by omega) (by omega) (by omega)]; exact a2, by rw [hc4 _ _ (by omega) (by omega) (by omega) (by omega) (by omega)]; exact a3⟩
      · obtain ⟨a1, a2, a3, a4, a5⟩ := ctt t ht
        exact ⟨by rw [hc4 _ _ (by omega) (by omega) (by omega) (by omega) (by omega)]; exact a1, by rw [hc4 _ _ (by omega) (by omega) (by omega) (by omega) (by omega)]; exact a2, by rw [hc4 _ _ (by omega) (by omega) (by omega) (by omega) (by omega)]; exact a3, fun r k h1 h2 => by rw [hc4 _ _ (by omega) (by omega) (by omega) (by omega) (by omega)]; exact a4 r k h1 h2, fun r k h1 h2 => by rw [hc4 _ _ (by omega) (by omega) (by omega) (by omega) (by omega)]; exact a5 r k h1 h2⟩
    · obtain ⟨m2, m6, m10, m11, m16, me, mtt, mb⟩ := mc
      have hN : JFr T0 N (tv_w N3 249 25 (nI f)) := fun a i z1 z2 z3 z4 z5 => by rw [tp_w, if_neg (by omega)]; exact hJr N3 w5 a i z1 z2 z3 z4 z5
      refine ⟨by rw [hN _ _ (by omega) (by omega) (by omega) (by omega) (by omega)]; exact m2, by rw [hN _ _ (by omega) (by omega) (by omega) (by omega) (by omega)]; exact m6, by rw [hN _ _ (by omega) (by omega) (by omega) (by omega) (by omega)]; exact m10, by rw [hN _ _ (by omega) (by omega) (by omega) (by omega) (by omega)]; exact m11, by rw [hN _ _ (by omega) (by omega) (by omega) (by omega) (by omega)]; exact m16, fun e he => ?_, fun t ht => ?_, fun k hk => ?_⟩
      · obtain ⟨x1, x2, x3⟩ := me e he
        exact ⟨by rw [hN _ _ (by omega) (by omega) (by omega) (by omega) (by omega)]; exact x1, by rw [hN _ _ (by omega) (by omega) (by omega) (by omega) (by omega)]; exact x2, by rw [hN _ _ (by omega) (by omega) (by omega) (by omega) (by omega)]; exact x3⟩
      · obtain ⟨x1, x2, x3, x4, x5⟩ := mtt t ht
        obtain ⟨o1, o2, o3, o4, o5, o6, o7, -⟩ := hT.2.2.2.2.2.2.1 t ht
        have l1 := (hT.col o1 o3).2.1
        have l2 := (hT.col o2 o4).2.1
        exact ⟨by rw [hN _ _ (by omega) (by omega) (by omega) (by omega) (by omega)]; exact x1, by rw [hN _ _ (by omega) (by omega) (by omega) (by omega) (by omega)]; exact x2, by rw [hN _ _ (by omega) (by omega) (by omega) (by omega) (by omega)]; exact x3, fun r k h1 h2 => by rw [hN _ _ (by omega) (by omega) (by omega) (by omega) (by omega)]; exact x4 r k h1 h2, fun r k h1 h2 => by rw [hN _ _ (by omega) (by omega) (by omega) (by omega) (by omega)]; exact x5 r k h1 h2⟩
      · obtain ⟨x1, x2, x3, x4⟩ := mb k hk
        exact ⟨by rw [hN _ _ (by omega) (by omega) (by omega) (by omega) (by omega)]; exact x1, by rw [hN _ _ (by omega) (by omega) (by omega) (by omega) (by omega)]; exact x2, by rw [hN _ _ (by omega) (by omega) (by omega) (by omega) (by omega)]; exact x3, by rw [hN _ _ (by omega) (by omega) (by omega) (by omega) (by omega)]; exact x4⟩
    · rw [bf _ _ (by omega) (by omega)]; exact v1
    · rw [tp_wj (by omega), w5 _ _ (by omega) (by omega) (by omega) (by omega) (by omega), s3 _ _ (by omega)]; exact n24
    · exact fun a i z1 z2 z3 z4 z5 => by rw [tp_w, if_neg (by omega)]; exact hJr N3 w5 a i z1 z2 z3 z4 z5
end READ
