/-! the reference narrows -/
def f265 (N N' : tv_M) : Prop := ∀ a i, a ≠ 265 → N'.1 a i = N.1 a i
theorem f265.rf {N : tv_M} : f265 N N := fun _ _ _ => rfl
theorem f265.tr {N N' N'' : tv_M} (h : f265 N N') (g : f265 N' N'') : f265 N N'' := fun a i q => (g a i q).trans (h a i q)
theorem mT.f265 {N N' : tv_M} {p : Nat} {T : Nat → Nat → Nat} (h : mT N p T) (hf : f265 N N') : mT N' p T := h.cg (fun a i q => hf a i (by rcases q with q | q <;> omega))
theorem mG.f265 {N N' : tv_M} {T : Nat → Nat → Nat} (h : mG N T) (hf : f265 N N') : mG N' T := h.cg (fun i => hf 264 i (by omega))
section MNARROW
variable {F p : Nat} {a b c : Int32} {M N : tv_M} {T R : Nat → Nat → Nat} {Q : Nat → Nat}
theorem md_bar {e v i y : Nat} (mg : mG N T) (he : e < 8) (hv : v < 4) (hi : i < 8) (hy : y < 4) : Md_isBarred F (nI e) (nI v) (nI i) (nI y) N = some (if br T e v i y then 1 else 0, N) := by
  unfold Md_isBarred
  rw [show (32 * nI e + 8 * nI v + nI i : Int32) = nI (32 * e + 8 * v + i) from by rw [← nI_add, ← nI_add, ← nI_mul, ← nI_mul]; rfl, tp_rd (by omega) (by decide), mg e v i he hv hi]
  have hl := gn_lt T e v i
  have hb := gn_bit T e v i hy
  by_cases q : br T e v i y = true
  · rw [if_pos ((bit_1 (by omega) (by omega)).mpr (hb.trans q)), if_pos q]
  · rw [if_neg (fun w => q (hb.symm.trans ((bit_1 (by omega) (by omega)).mp w))), if_neg q]
theorem md_some {k5 : Int32 → Int32 → Int32 → Int32 → tv_M → Option (Int32 × tv_M)} {a x b : Nat} {l3 : Int32} (hT : gT p T) (hQ : gQ T Q) (mq : mQ N T Q) (mg : mG N T) (ha' : a < tE T) (hb' : b < tE T) (hx : x < 4) (hs : tso T b = 3) : ∀ m y nn, y + m = 4 → m + 1 < nn → Md_hasAll_L41 F k5 nn (nI a) (nI x) l3 (nI b) 0 (nI y) N = Md_hasAll_L94 F k5 (nI a) (nI x) l3 (nI b) (if on (fun y => (Q b).testBit y && !br T a x b y) m y then 1 else 0) N := by
  have h8 := hT.1
  have hq := hQ.lt hT hb' hs
  intro m
  induction m with
  | zero =>
    intro y nn e1 e2
    obtain ⟨nn, rfl⟩ : ∃ n', nn = n' + 1 := ⟨nn - 1, by omega⟩
    rw [Md_hasAll_L41, if_pos (show (4 : Int32) ≤ nI y from nI_le (a := 4) (by omega) (by omega))]
    rfl
  | succ m ih =>
    intro y nn e1 e2
    obtain ⟨nn, rfl⟩ : ∃ n', nn = n' + 1 := ⟨nn - 1, by omega⟩
    obtain ⟨nm, rfl⟩ : ∃ n', nn = n' + 1 := ⟨nn - 1, by omega⟩
    have hi := ih (y + 1) (nm + 1) (by omega) (by omega)
    rw [Md_hasAll_L41, if_neg (show ¬ (4 : Int32) ≤ nI y from nI_ge (b := 4) (by omega) (by omega)), if_pos rfl, tp_rd (by omega) (by decide), mq b hb' hs, tp_cb (md_bar mg (by omega) hx (by omega) (by omega)), on, nI_1]
    by_cases b1 : (Q b).testBit y = true
    · rw [if_pos ((bit_1 (by omega) (by omega)).mpr b1), b1, Bool.true_and]
      by_cases b2 : br T a x b y = true
      · rw [b2, if_pos rfl, if_neg (show ¬ (1 : Int32) = 0 by decide), hi]; rfl
      · rw [Bool.eq_false_iff.mpr b2, if_neg Bool.false_ne_true, if_pos rfl, Md_hasAll_L41, if_neg (show ¬ (1 : Int32) = 0 by decide)]
        by_cases w : (4 : Int32) ≤ nI (y + 1)
        · rw [if_pos w]; rfl
        · rw [if_neg w]; rfl
    · rw [if_neg (fun w => b1 ((bit_1 (by omega) (by omega)).mp w)), Bool.eq_false_iff.mpr b1, Bool.false_and, Bool.false_or, hi]
theorem md_all {a x : Nat} (hF : 60 < F) (hT : gT p T) (hQ : gQ T Q) (mc : mT N p T) (mq : mQ N T Q) (mg : mG N T) (ha' : a < tE T) (hx : x < 4) : Md_hasAll F (nI a) (nI x) N = some (if ha T Q a x then 1 else 0, N) := by
  have h8 := hT.1
  have hh : ∀ m j nn, j + m = tE T → m < nn → Md_hasAll_L5 F nn (nI a) (nI x) (if an (hb T Q a x) j then 1 else 0) (nI j) N = some (if ha T Q a x then 1 else 0, N) := by
    intro m
    induction m with
    | zero =>
      intro j nn e1 e2
      obtain ⟨nn, rfl⟩ : ∃ n', nn = n' + 1 := ⟨nn - 1, by omega⟩
      rw [show j = tE T by omega, Md_hasAll_L5, mc.2.1, if_pos (nI_le (Nat.le_refl _) (by omega)), tp_zo]
      · rfl
      · by_cases q : an (hb T Q a x) (tE T) = true
        · rw [if_pos q]; exact Or.inr rfl
        · rw [if_neg q]; exact Or.inl rfl
    | succ m ih =>
      intro j nn e1 e2
      obtain ⟨nn, rfl⟩ : ∃ n', nn = n' + 1 := ⟨nn - 1, by omega⟩
      have hi := ih (j + 1) nn (by omega) (by omega)
      have hone : ∀ l3 : Int32, Md_hasAll_L41 F (Md_hasAll_L5 F nn) F (nI a) (nI x) l3 (nI j) 1 0 N = Md_hasAll_L94 F (Md_hasAll_L5 F nn) (nI a) (nI x) l3 (nI j) 1 N := fun l3 => by
        obtain ⟨F', hF'⟩ : ∃ n', F = n' + 1 := ⟨F - 1, by omega⟩
        have : ∀ G, Md_hasAll_L41 G (Md_hasAll_L5 F nn) (F' + 1) (nI a) (nI x) l3 (nI j) 1 0 N = Md_hasAll_L94 G (Md_hasAll_L5 F nn) (nI a) (nI x) l3 (nI j) 1 N := fun G => by
          rw [Md_hasAll_L41, if_neg (show ¬ (4 : Int32) ≤ 0 by decide), if_neg (show ¬ (1 : Int32) = 0 by decide)]
        have h := this F
        rwa [← hF'] at h
      have hfin : ∀ (f1 f2 : Bool), an (hb T Q a x) j = f1 → hb T Q a x j = f2 → Md_hasAll_L94 F (Md_hasAll_L5 F nn) (nI a) (nI x) (if f1 then 1 else 0) (nI j) (if f2 then 1 else 0) N = some (if ha T Q a x then 1 else 0, N) := fun f1 f2 w1 w2 => by
        rw [an, w1, w2] at hi
        unfold Md_hasAll_L94
        rw [nI_1]
        cases f1 <;> cases f2 <;> exact hi
      rw [Md_hasAll_L5, mc.2.1, if_neg (nI_ge (by omega) (by omega))]
      by_cases e : j = a
      · rw [if_pos (by rw [e]), hone]
        exact hfin _ true rfl (by unfold hb; rw [decide_eq_true e, Bool.true_or])
      · rw [if_neg (fun w => e (nI_inj (by omega) (by omega) w)), tp_rd (by omega) (by decide), (mc.2.2.2.2.2.1 j (by omega)).1]
        have hso := (hT.2.2.2.2.2.1 j (by omega)).1
        by_cases hs : tso T j = 3
        · rw [if_pos ((nI_e3 (by omega)).mpr hs)]
          have e5 := md_some (F := F) (k5 := Md_hasAll_L5 F nn) (l3 := if an (hb T Q a x) j then 1 else 0) hT hQ mq mg ha' (show j < tE T by omega) hx hs 4 0 F (by omega) (by omega)
          rw [show nI 0 = 0 from rfl] at e5
          rw [e5]
          refine hfin _ _ rfl ?_
          unfold hb
          rw [decide_eq_false e, decide_eq_false (fun z => z hs), Bool.false_or, Bool.false_or, ← bit_on _ (hQ.lt hT (by omega) hs) _ (gw_lt ..)]
          exact on_cg 4 0 (fun y h1 h2 => by rw [gw_bit _ _ _ _ (by omega)])
        · rw [if_neg (fun w => hs ((nI_e3 (by omega)).mp w)), hone]
          exact hfin _ true rfl (by unfold hb; rw [decide_eq_true hs, Bool.true_or, Bool.or_true])
  exact hh (tE T) 0 F (by omega) (by omega)
theorem md_one {k9 : Int32 → Int32 → tv_M → Option (Int32 × tv_M)} {k17 : Int32 → Int32 → Int32 → tv_M → Option (Int32 × tv_M)} {a n0 : Nat} {s : nS} (hF : 60 < F) (hT : gT p T) (hQ : gQ T s.1) (mc : mT N p T) (mq : mQ N T s.1) (mg : mG N T) (ha' : a < tE T) (hn0 : n0 ≤ s.2) : ∃ N', Md_narrow_L28 F k9 k17 F (nI s.2) (if s.2 ≤ n0 then 0 else 1) (nI a) 0 N = k17 (nI (nrw T a 4 s).2) (if (nrw T a 4 s).2 ≤ n0 then 0 else 1) (nI (a + 1)) N' ∧ mQ N' T (nrw T a 4 s).1 ∧ f265 N N' := by
  have h8 := hT.1
  obtain ⟨g1, g2, g3, g4, g5⟩ := hT.2.2.2.2.2.1 a ha'
  have hh : ∀ m x nn N', x + m = 4 → m < nn → mQ N' T (nrw T a x s).1 → f265 N N' → ∃ N'', Md_narrow_L28 F k9 k17 nn (nI (nrw T a x s).2) (if (nrw T a x s).2 ≤ n0 then 0 else 1) (nI a) (nI x) N' = k17 (nI (nrw T a 4 s).2) (if (nrw T a 4 s).2 ≤ n0 then 0 else 1) (nI (a + 1)) N'' ∧ mQ N'' T (nrw T a 4 s).1 ∧ f265 N N'' := by
    intro m
    induction m with
    | zero =>
      intro x nn N' e1 e2 c1 f1
      obtain ⟨nn, rfl⟩ : ∃ n', nn = n' + 1 := ⟨nn - 1, by omega⟩
      have e : x = 4 := by omega
      subst e
      rw [Md_narrow_L28, if_pos (show (4 : Int32) ≤ nI 4 by decide), nI_1]
      exact ⟨N', rfl, c1, f1⟩
    | succ m ih =>
      intro x nn N' e1 e2 c1 f1
      obtain ⟨nn, rfl⟩ : ∃ n', nn = n' + 1 := ⟨nn - 1, by omega⟩
      have q1 := gQ_rw (a := a) x hQ
      have hle := nrw_le (T := T) (a := a) x (s := s)
      have hi := ih (x + 1) nn
      rw [nrw] at hi
      rw [Md_narrow_L28, if_neg (show ¬ (4 : Int32) ≤ nI x from nI_ge (b := 4) (by omega) (by omega)), tp_rd (by omega) (by decide), ((mc.f265 f1).2.2.2.2.2.1 a ha').1, nI_1, nI_1]
      generalize nrw T a x s = u at c1 hi q1 hle
      by_cases hs : tso T a = 3
      · have hl := q1.lt hT ha' hs
        rw [if_pos ((nI_e3 (by omega)).mpr hs), tp_rd (by omega) (by decide), c1 a ha' hs]
        by_cases b1 : (u.1 a).testBit x = true
        · rw [if_pos ((bit_1 (by omega) (by omega)).mpr b1), tp_cb (md_all hF hT q1 (mc.f265 f1) c1 (mg.f265 f1) ha' (by omega))]
          by_cases b2 : ha T u.1 a x = true
          · have e : nst T a x u = u := if_neg (fun w => by rw [b2] at w; exact Bool.noConfusion w.2.2)
            rw [e] at hi
            rw [b2, if_pos rfl, if_neg (show ¬ (1 : Int32) = 0 by decide)]
            exact hi N' (by omega) (by omega) c1 f1
          · have b2 : ha T u.1 a x = false := Bool.eq_false_iff.mpr b2
            have e : nst T a x u = (fun b => if b = a then u.1 a - 2 ^ x else u.1 b, u.2 + 1) := if_pos ⟨hs, b1, b2⟩
            rw [e] at hi
            have hi := hi (tv_w N' 265 a (nI (u.1 a - 2 ^ x))) (by omega) (by omega) (fun y hy hys => by
              show _ = nI (if y = a then _ else _)
              rw [tp_w]
              by_cases w : y = a
              · rw [if_pos w, if_pos ⟨rfl, w⟩]
              · rw [if_neg w, if_neg (fun z => w z.2)]; exact c1 y hy hys) (fun y i z1 => by rw [tp_wk z1]; exact f1 y i z1)
            rw [b2, if_neg Bool.false_ne_true, if_pos rfl, tp_rd (by omega) (by decide), c1 a ha' hs, bit_cl _ (by omega) x (by omega), if_pos b1, tp_wr (by omega) (by decide)]
            rw [show ((fun b => if b = a then u.1 a - 2 ^ x else u.1 b, u.2 + 1) : nS).2 = u.2 + 1 from rfl, if_neg (show ¬ u.2 + 1 ≤ n0 by omega)] at hi
            exact hi
        · have e : nst T a x u = u := if_neg (fun w => b1 w.2.1)
          rw [e] at hi
          rw [if_neg (fun w => b1 ((bit_1 (by omega) (by omega)).mp w))]
          exact hi N' (by omega) (by omega) c1 f1
      · have e : nst T a x u = u := if_neg (fun w => hs w.1)
        rw [e] at hi
        rw [if_neg (fun w => hs ((nI_e3 (by omega)).mp w))]
        exact hi N' (by omega) (by omega) c1 f1
  exact hh 4 0 F N (by omega) (by omega) mq f265.rf
theorem md_round {k9 : Int32 → Int32 → tv_M → Option (Int32 × tv_M)} {s : nS} (hF : 60 < F) (hT : gT p T) (hQ : gQ T s.1) (mc : mT N p T) (mq : mQ N T s.1) (mg : mG N T) : ∃ N', Md_narrow_L17 F k9 F (nI s.2) 0 0 N = k9 (nI (nrd T (tE T) s).2) (if (nrd T (tE T) s).2 ≤ s.2 then 0 else 1) N' ∧ mQ N' T (nrd T (tE T) s).1 ∧ f265 N N' := by
  have h8 := hT.1
  have hh : ∀ m j nn N', j + m = tE T → m < nn → mQ N' T (nrd T j s).1 → f265 N N' → ∃ N'', Md_narrow_L17 F k9 nn (nI (nrd T j s).2) (if (nrd T j s).2 ≤ s.2 then 0 else 1) (nI j) N' = k9 (nI (nrd T (tE T) s).2) (if (nrd T (tE T) s).2 ≤ s.2 then 0 else 1) N'' ∧ mQ N'' T (nrd T (tE T) s).1 ∧ f265 N N'' := by
    intro m
    induction m with
    | zero =>
      intro j nn N' e1 e2 c1 f1
      obtain ⟨nn, rfl⟩ : ∃ n', nn = n' + 1 := ⟨nn - 1, by omega⟩
      have e : j = tE T := by omega
      rw [e] at c1 ⊢
      rw [Md_narrow_L17, (mc.f265 f1).2.1, if_pos (nI_le (Nat.le_refl _) (by omega))]
      exact ⟨N', rfl, c1, f1⟩
    | succ m ih =>
      intro j nn N' e1 e2 c1 f1
      obtain ⟨nn, rfl⟩ : ∃ n', nn = n' + 1 := ⟨nn - 1, by omega⟩
      rw [Md_narrow_L17, (mc.f265 f1).2.1, if_neg (nI_ge (by omega) (by omega))]
      obtain ⟨N2, x1, x2, x3⟩ := md_one (F := F) (a := j) (n0 := s.2) (k9 := k9) (k17 := Md_narrow_L17 F k9 nn) hF hT (gQ_rd j hQ) (mc.f265 f1) c1 (mg.f265 f1) (by omega) (nrd_le j)
      rw [x1]
      exact ih (j + 1) nn N2 (by omega) (by omega) x2 (f1.tr x3)
  have := hh (tE T) 0 F N (by omega) (by omega) mq f265.rf
  rw [show (nrd T 0 s) = s from rfl, if_pos (Nat.le_refl _)] at this
  exact this
theorem md_narrow (hF : 60 < F) (hT : gT p T) (hQ : gQ T Q) (mc : mT N p T) (mq : mQ N T Q) (mg : mG N T) : ∃ N', Md_narrow_L9 F F 0 1 N = some (nI (nit T 33 (Q, 0)).2, N') ∧ mQ N' T (nit T 33 (Q, 0)).1 ∧ f265 N N' := by
  have h8 := hT.1
  have hh : ∀ k nn (s : nS) N', k < nn → 33 ≤ s.2 + k → s.2 + tbt T s.1 (tE T) ≤ 32 → gQ T s.1 → mQ N' T s.1 → f265 N N' → ∃ N'', Md_narrow_L9 F nn (nI s.2) 1 N' = some (nI (nit T k s).2, N'') ∧ mQ N'' T (nit T k s).1 ∧ f265 N N'' := by
    intro k
    induction k with
    | zero => intro nn s N' e1 e2 e3 _ _ _; omega
    | succ k ih =>
      intro nn s N' e1 e2 e3 hq c1 f1
      obtain ⟨nn, rfl⟩ : ∃ n', nn = n' + 1 := ⟨nn - 1, by omega⟩
      rw [Md_narrow_L9, if_neg (show ¬ (1 : Int32) = 0 by decide)]
      obtain ⟨N2, x1, x2, x3⟩ := md_round (F := F) (k9 := Md_narrow_L9 F nn) hF hT hq (mc.f265 f1) c1 (mg.f265 f1)
      have hb := tbt_rd hT (tE T) (Nat.le_refl _) hq
      rw [x1, nit]
      by_cases q : (nrd T (tE T) s).2 ≤ s.2
      · rw [if_pos q, if_pos q]
        obtain ⟨nn, rfl⟩ : ∃ n', nn = n' + 1 := ⟨nn - 1, by omega⟩
        exact ⟨_, by rw [Md_narrow_L9, if_pos (show (0 : Int32) = 0 from rfl)], x2, f1.tr x3⟩
      · rw [if_neg q, if_neg q]
        exact ih nn (nrd T (tE T) s) N2 (by omega) (by omega) (by omega) (gQ_rd _ hq) x2 (f1.tr x3)
  have hb := tbt_le hT hQ (tE T) (Nat.le_refl _)
  exact hh 33 F (Q, 0) N (by omega) (by show 33 ≤ 0 + 33; omega) (by show 0 + tbt T Q (tE T) ≤ 32; omega) hQ mq f265.rf
theorem op_narrow (hF : 60 < F) (hT : gT p T) (hQ : gQ T Q) (cc : cT M p T) (cq : cQ M T Q) (cg : cG M T) (mc : mT N p T) (mq : mQ N T Q) (mg : mG N T) : ∃ (r : Int32) (Q' : Nat → Nat), gQ T Q' ∧ tq (Xx_narrow F M) (fun q M' => q = r ∧ cQ M' T Q' ∧ cK M' T Q' ∧ fQ M M') ∧ tq (Md_narrow F N) (fun q N' => q = r ∧ mQ N' T Q' ∧ fQm N N') := by
  obtain ⟨M', x1, x2, x3, x4⟩ := ch_narrow (F := F) hF hT hQ cc cq cg
  have mg' : mG (tv_w N 249 0 0) T := mg.cg (fun i => by rw [tp_wk (by omega)])
  obtain ⟨N', y1, y2, y3⟩ := md_narrow (F := F) hF hT hQ mc.w0 mq.w0 mg'
  refine ⟨nI (nit T 33 (Q, 0)).2, (nit T 33 (Q, 0)).1, gQ_it 33 (s := (Q, 0)) hQ, ?_, ?_⟩
  · unfold Xx_narrow; rw [tp_cb x1]; exact tq_some ⟨rfl, x2, Or.inl x4, x3⟩
  · unfold Md_narrow; rw [tp_pf, y1]; exact tq_some ⟨rfl, y2, fun a i q1 q2 q3 => by rw [y3 a i q2, tp_w, if_neg (by omega)]⟩
end MNARROW
