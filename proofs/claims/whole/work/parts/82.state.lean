/-! ALL TOGETHER: the state of both -/
section STATE
variable {p : Nat} {M M' N N' : tv_M} {T R H S0 Tp Tr : Nat → Nat → Nat} {S1 : Nat → Nat → Int32} {Q Z : Nat → Nat}
theorem cS.k (h : cS M S0 S1) (hk : ∀ a i, 2 ≤ a ∧ a < 18 → M'.1 a i = M.1 a i) : cS M' S0 S1 := h.cg (fun a i q1 q2 => hk a i ⟨q1, q2⟩)
theorem cZ.k (h : cZ M p Z) (hk : ∀ a i, a = 0 ∧ (i = 0 ∨ i = 9) → M'.1 a i = M.1 a i) : cZ M' p Z := ⟨by rw [hk _ _ (by omega)]; exact h.1, by rw [hk _ _ (by omega)]; exact h.2⟩
theorem cT.k (hT : gT p T) (h : cT M p T) (hk : ∀ a i, 18 ≤ a ∧ a < 68 ∧ ¬ (a < 38 ∧ 22 ≤ a ∧ (a % 2 = 1 ∨ i = 4 ∨ i = 5)) → M'.1 a i = M.1 a i) : cT M' p T := h.cg hT (fun a i q => hk a i q)
theorem cTp.k (h : cTp M Tp) (hk : ∀ a i, (a = 68 ∧ i = 2) ∨ a = 69 → M'.1 a i = M.1 a i) : cTp M' Tp := ⟨by rw [hk _ _ (by omega)]; exact h.1, fun i hi => by rw [hk _ _ (by omega)]; exact h.2 i hi⟩
def c68 (M : tv_M) (Z : Nat → Nat) : Prop := M.1 68 3 = nI (Z 1)
theorem c68.k (h : c68 M Z) (hk : ∀ a i, a = 68 ∧ i = 3 → M'.1 a i = M.1 a i) : c68 M' Z := by
  unfold c68; rw [hk _ _ (by omega)]; exact h
theorem cR.k (hT : gT p T) (h : cR M T R) (hk : ∀ a i, 22 ≤ a ∧ a < 38 ∧ (a % 2 = 1 ∨ i = 5) → M'.1 a i = M.1 a i) : cR M' T R := h.cg hT (fun a i q1 q2 q3 => hk a i ⟨q1, q2, q3⟩)
theorem cQ.k (hT : gT p T) (h : cQ M T Q) (hk : ∀ a i, 22 ≤ a ∧ a < 38 ∧ a % 2 = 0 ∧ i = 4 → M'.1 a i = M.1 a i) : cQ M' T Q := fun e he hs => by
  have := hT.1
  rw [hk _ _ (by omega)]; exact h e he hs
theorem cG.k (hT : gT p T) (h : cG M T) (hk : ∀ a i, 203 ≤ a ∧ a < 236 → M'.1 a i = M.1 a i) : cG M' T := h.cg hT (fun a i q1 q2 => hk a i ⟨q1, q2⟩)
theorem cK.k (h : cK M T Q) (hk : ∀ a i, (a = 201 ∧ (i = 5 ∨ i = 6)) ∨ a = 246 → M'.1 a i = M.1 a i) : cK M' T Q := by
  rcases h with h | ⟨h1, h2, h3⟩
  · exact Or.inl (by rw [hk _ _ (by omega)]; exact h)
  · exact Or.inr ⟨by rw [hk _ _ (by omega)]; exact h1, by rw [hk _ _ (by omega)]; exact h2, fun w e he hs => by rw [hk _ _ (by omega)]; exact h3 w e he hs⟩
theorem cH.k (h : cH M H) (hk : ∀ a i, (a = 193 ∧ i = 3) ∨ (194 ≤ a ∧ a < 197) → M'.1 a i = M.1 a i) : cH M' H := h.cg hk
theorem cHk.k (h : cHk M p T H) (hk : ∀ a i, a = 193 ∧ 9 ≤ i ∧ i ≤ 12 → M'.1 a i = M.1 a i) : cHk M' p T H := by
  unfold cHk
  rw [hk 193 12 (by omega), hk 193 11 (by omega), hk 193 10 (by omega), hk 193 9 (by omega)]
  exact h
theorem cA.k (hT : gT p T) (h : cA M p T) (hk : ∀ a i, (71 ≤ a ∧ a < 106) ∨ (a = 106 ∧ i ≤ 1) → M'.1 a i = M.1 a i) : cA M' p T := h.cg hT (fun a i q1 q2 => hk a i (by omega)) (hk _ _ (by omega)) (hk _ _ (by omega))
theorem cF.k (hT : gT p T) (hR : gR p T R) (h : cF M p T R) (hk : ∀ a i, (a = 70 ∧ 3 ≤ i ∧ i ≤ 4) ∨ (106 ≤ a ∧ a < 165) → M'.1 a i = M.1 a i) : cF M' p T R := h.cg hT hR (hk _ _ (by omega)) (hk _ _ (by omega)) (fun a i q1 q2 => hk a i (by omega))
theorem cD.k (h : cD M p T R) (hk : ∀ a i, a = 165 ∧ (i = 6 ∨ i = 8) → M'.1 a i = M.1 a i) : cD M' p T R := by
  unfold cD
  rw [hk 165 6 (by omega), hk 165 8 (by omega)]
  exact h
theorem cB.k (h : cB M Tr) (hk : ∀ a i, (a = 247 ∧ i = 2) ∨ a = 248 → M'.1 a i = M.1 a i) : cB M' Tr := ⟨by rw [hk _ _ (by omega)]; exact h.1, fun i hi => by rw [hk _ _ (by omega)]; exact h.2 i hi⟩
theorem mS.k (h : mS N S0 S1) (hk : ∀ a i, 250 ≤ a ∧ a < 253 → N'.1 a i = N.1 a i) : mS N' S0 S1 := h.cg (fun a i q1 q2 => hk a i ⟨q1, q2⟩)
theorem mZ.k (h : mZ N Z) (hk : ∀ a i, a = 249 ∧ (i = 1 ∨ i = 25) → N'.1 a i = N.1 a i) : mZ N' Z := ⟨by rw [hk _ _ (by omega)]; exact h.1, by rw [hk _ _ (by omega)]; exact h.2⟩
theorem mT.k (h : mT N p T) (hk : ∀ a i, (a = 249 ∧ (i = 2 ∨ i = 6 ∨ i = 10 ∨ i = 11 ∨ i = 16)) ∨ (253 ≤ a ∧ a ≤ 263) → N'.1 a i = N.1 a i) : mT N' p T := h.cg (fun a i q => hk a i q)
theorem mTp.k (h : mTp N Tp) (hk : ∀ a i, (a = 249 ∧ i = 24) ∨ a = 266 → N'.1 a i = N.1 a i) : mTp N' Tp := ⟨by rw [hk _ _ (by omega)]; exact h.1, fun i hi => by rw [hk _ _ (by omega)]; exact h.2 i hi⟩
theorem mR.k (h : mR N T R) (hk : ∀ a i, 270 ≤ a ∧ a < 272 → N'.1 a i = N.1 a i) : mR N' T R := h.cg (fun a i q1 q2 => hk a i ⟨q1, q2⟩)
theorem mQ.k (h : mQ N T Q) (hk : ∀ a i, a = 265 ∧ i = i → N'.1 a i = N.1 a i) : mQ N' T Q := h.cg (fun i => hk _ _ ⟨rfl, rfl⟩)
theorem mG.k (h : mG N T) (hk : ∀ a i, a = 264 ∧ i = i → N'.1 a i = N.1 a i) : mG N' T := h.cg (fun i => hk _ _ ⟨rfl, rfl⟩)
theorem mH.k (h : mH N T H) (hk : ∀ a i, (a = 249 ∧ i = 43) ∨ (272 ≤ a ∧ a < 275) → N'.1 a i = N.1 a i) : mH N' T H := h.cg hk
theorem mB.k (h : mB N Tr) (hk : ∀ a i, (a = 249 ∧ i = 54) ∨ a = 280 → N'.1 a i = N.1 a i) : mB N' Tr := ⟨by rw [hk _ _ (by omega)]; exact h.1, fun i hi => by rw [hk _ _ (by omega)]; exact h.2 i hi⟩
end STATE
def IG (p : Nat) (T R H S0 Tp Tr : Nat → Nat → Nat) (Q Z : Nat → Nat) : Prop := gS S0 ∧ Z 0 ≤ 5 ∧ gT p T ∧ gTp Tp ∧ gR p T R ∧ gQ T Q ∧ gH p T H ∧ gB Tr
def IC (M : tv_M) (p : Nat) (T R H S0 Tp Tr : Nat → Nat → Nat) (S1 : Nat → Nat → Int32) (Q Z : Nat → Nat) : Prop := cS M S0 S1 ∧ cZ M p Z ∧ cT M p T ∧ cTp M Tp ∧ c68 M Z ∧ cR M T R ∧ cQ M T Q ∧ cG M T ∧ cK M T Q ∧ cH M H ∧ cHk M p T H ∧ cA M p T ∧ cF M p T R ∧ cD M p T R ∧ cB M Tr
def IM (N : tv_M) (p : Nat) (T R H S0 Tp Tr : Nat → Nat → Nat) (S1 : Nat → Nat → Int32) (Q Z : Nat → Nat) : Prop := mS N S0 S1 ∧ mZ N Z ∧ mT N p T ∧ mTp N Tp ∧ mR N T R ∧ mQ N T Q ∧ mG N T ∧ mH N T H ∧ mB N Tr
def JJ (p : Nat) (M N : tv_M) : Prop := ∃ T R H S0 Tp Tr S1 Q Z, IG p T R H S0 Tp Tr Q Z ∧ IC M p T R H S0 Tp Tr S1 Q Z ∧ IM N p T R H S0 Tp Tr S1 Q Z
def OPr (p : Nat) (M N : tv_M) (x y : Option (Int32 × tv_M)) : Prop := ∃ r M' N', x = some (r, M') ∧ y = some (r, N') ∧ JJ p M' N' ∧ fo 0 249 M M' ∧ fo 249 281 N N'
theorem JJ.fn {p : Nat} {M N N' : tv_M} (h : JJ p M N) (hf : fo 0 249 N N') : JJ p M N' := by
  obtain ⟨T, R, H, S0, Tp, Tr, S1, Q, Z, ⟨g1, g2, g3, g4, g5, g6, g7, g8⟩, ⟨c1, c2, c3, c4, c5, c6, c7, c8, c9, c10, c11, c12, c13, c14, c15⟩, ⟨m1, m2, m3, m4, m5, m6, m7, m8, m9⟩⟩ := h
  exact ⟨T, R, H, S0, Tp, Tr, S1, Q, Z, ⟨g1, g2, g3, g4, g5, g6, g7, g8⟩, ⟨c1, c2, c3, c4, c5, c6, c7, c8, c9, c10, c11, c12, c13, c14, c15⟩, ⟨m1.k (fun a i q => hf a i (by omega)), m2.k (fun a i q => hf a i (by omega)), m3.k (fun a i q => hf a i (by omega)), m4.k (fun a i q => hf a i (by omega)), m5.k (fun a i q => hf a i (by omega)), m6.k (fun a i q => hf a i (by omega)), m7.k (fun a i q => hf a i (by omega)), m8.k (fun a i q => hf a i (by omega)), m9.k (fun a i q => hf a i (by omega))⟩⟩
theorem JJ.fm {p : Nat} {M M' N : tv_M} (h : JJ p M N) (hf : fo 249 281 M M') : JJ p M' N := by
  obtain ⟨T, R, H, S0, Tp, Tr, S1, Q, Z, ⟨g1, g2, g3, g4, g5, g6, g7, g8⟩, ⟨c1, c2, c3, c4, c5, c6, c7, c8, c9, c10, c11, c12, c13, c14, c15⟩, ⟨m1, m2, m3, m4, m5, m6, m7, m8, m9⟩⟩ := h
  exact ⟨T, R, H, S0, Tp, Tr, S1, Q, Z, ⟨g1, g2, g3, g4, g5, g6, g7, g8⟩, ⟨c1.k (fun a i q => hf a i (by omega)), c2.k (fun a i q => hf a i (by omega)), c3.k g3 (fun a i q => hf a i (by omega)), c4.k (fun a i q => hf a i (by omega)), c5.k (fun a i q => hf a i (by omega)), c6.k g3 (fun a i q => hf a i (by omega)), c7.k g3 (fun a i q => hf a i (by omega)), c8.k g3 (fun a i q => hf a i (by omega)), c9.k (fun a i q => hf a i (by omega)), c10.k (fun a i q => hf a i (by omega)), c11.k (fun a i q => hf a i (by omega)), c12.k g3 (fun a i q => hf a i (by omega)), c13.k g3 g5 (fun a i q => hf a i (by omega)), c14.k (fun a i q => hf a i (by omega)), c15.k (fun a i q => hf a i (by omega))⟩, ⟨m1, m2, m3, m4, m5, m6, m7, m8, m9⟩⟩
/-- one call of the law -/
theorem lw_one {p : Nat} {M : tv_M} {x y : tv_M → Option (Int32 × tv_M)} (h : ∀ M N, JJ p M N → OPr p M N (x M) (y N)) (hj : JJ p M M) : ∃ r M' N', x M = some (r, M') ∧ y M' = some (r, N') ∧ JJ p N' N' := by
  obtain ⟨r, M', N0, a1, -, -, a4, -⟩ := h M M hj
  obtain ⟨r', M'', N', b1, b2, b3, b4, b5⟩ := h M M' (hj.fn a4)
  rw [a1] at b1
  obtain ⟨rfl, rfl⟩ := Prod.mk.inj (Option.some.inj b1)
  exact ⟨r, M', N', a1, b2, b3.fm b5⟩
