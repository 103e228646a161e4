/-! THE CALL read -/
section JREAD
variable {F p : Nat} {M N : tv_M}
set_option maxHeartbeats 1000000 in
theorem jj_read (hF : 200000 < F) (hp : tp_pr p) (h : JJ p M N) : OPr p M N (Xx_read F M) (Md_read F N) := by
  obtain ⟨T, R, H, S0, Tp, Tr, S1, Q, Z, ⟨g1, g2, g3, g4, g5, g6, g7, g8⟩, ⟨c1, c2, c3, c4, c5, c6, c7, c8, c9, c10, c11, c12, c13, c14, c15⟩, ⟨m1, m2, m3, m4, m5, m6, m7, m8, m9⟩⟩ := h
  have h8 := g3.1
  have gtp : gTp (fun t i => if t = 0 then 0 else Tp t i) := ⟨Nat.zero_le _, fun i => g4.2 i⟩
  rcases s_read (F := F) (by omega) hp g4 g3 c3 m3 c4 m4 c5 m2.2 with ⟨M1, N1, T', x1, x2, x3, hx, x5, x6, x7, x8, x9, n6, n10, n11, n16, n24, n25, hf, hn⟩ | ⟨M', N', f, b, b1, b2, b3, x1, x2, x3, x4, x5, x6, x7, x8, hf, hn⟩
  rotate_left
  · have e1 : Xx_read F M = some (-1000100 - nI b, M') := by
      unfold Xx_read
      rw [tp_cb x1, if_neg (show ¬ nI b = (-1 : Int32) from fun w => absurd ((tp_ei _ _).mp w) (by rw [nI_toInt (by omega), tp_m1T]; omega))]
    refine ⟨_, M', N', e1, x2, ⟨T, R, H, S0, fun t i => if t = 0 then 0 else Tp t i, Tr, S1, Q, fun i => if i = 1 then f else Z i, ⟨g1, g2, g3, gtp, g5, g6, g7, g8⟩, ⟨?_, ?_, x3, ⟨x5, fun i hi => absurd hi (Nat.not_lt_zero _)⟩, x6, fun e he => ?_, fun e he hs => ?_, ?_, ?_, ?_, ?_, ?_, ?_, ?_, ?_⟩, ⟨?_, ⟨?_, x8⟩, x4, ⟨x7, fun i hi => absurd hi (Nat.not_lt_zero _)⟩, ?_, ?_, ?_, ?_, ?_⟩⟩, fun a i q => hf a i (by omega) (by omega) (by omega) (by omega) (by omega), fun a i q => hn a i (by omega) (by omega) (by omega) (by omega) (by omega)⟩
    · exact c1.k (fun a i q => hf a i (by omega) (by omega) (by omega) (by omega) (by omega))
    · exact c2.k (fun a i q => hf a i (by omega) (by omega) (by omega) (by omega) (by omega))
    · obtain ⟨y1, y2⟩ := c6 e he
      exact ⟨by rw [hf _ _ (by omega) (by omega) (by omega) (by omega) (by omega)]; exact y1, fun w k hk => by rw [hf _ _ (by omega) (by omega) (by omega) (by omega) (by omega)]; exact y2 w k hk⟩
    · rw [hf _ _ (by omega) (by omega) (by omega) (by omega) (by omega)]; exact c7 e he hs
    · exact c8.k g3 (fun a i q => hf a i (by omega) (by omega) (by omega) (by omega) (by omega))
    · exact c9.k (fun a i q => hf a i (by omega) (by omega) (by omega) (by omega) (by omega))
    · exact c10.k (fun a i q => hf a i (by omega) (by omega) (by omega) (by omega) (by omega))
    · exact c11.k (fun a i q => hf a i (by omega) (by omega) (by omega) (by omega) (by omega))
    · exact c12.k g3 (fun a i q => hf a i (by omega) (by omega) (by omega) (by omega) (by omega))
    · exact c13.k g3 g5 (fun a i q => hf a i (by omega) (by omega) (by omega) (by omega) (by omega))
    · exact c14.k (fun a i q => hf a i (by omega) (by omega) (by omega) (by omega) (by omega))
    · exact c15.k (fun a i q => hf a i (by omega) (by omega) (by omega) (by omega) (by omega))
    · exact m1.k (fun a i q => hn a i (by omega) (by omega) (by omega) (by omega) (by omega))
    · rw [hn _ _ (by omega) (by omega) (by omega) (by omega) (by omega)]; exact m2.1
    · exact m5.k (fun a i q => hn a i (by omega) (by omega) (by omega) (by omega) (by omega))
    · exact m6.k (fun a i q => hn a i (by omega) (by omega) (by omega) (by omega) (by omega))
    · exact m7.k (fun a i q => hn a i (by omega) (by omega) (by omega) (by omega) (by omega))
    · exact m8.k (fun a i q => hn a i (by omega) (by omega) (by omega) (by omega) (by omega))
    · exact m9.k (fun a i q => hn a i (by omega) (by omega) (by omega) (by omega) (by omega))
  have h8' := x3.1
  have hC' := x3.C
  have hCC := Ext.C g3 x3 hx
  -- the class
  have k71 : ∀ a i, (71 ≤ a ∧ a < 249) → M1.1 a i = M.1 a i := fun a i q => hf a i (by omega) (by omega) (by omega) (by omega) (by omega)
  obtain ⟨M2, l1, l2, l3, l4⟩ := ag_lls (F := F) (M := M1) (by omega) hp x3 x5 (by rw [k71 _ _ (by omega)]; exact c12.1.1) (by rw [k71 _ _ (by omega)]; exact c12.2.1) (by rw [k71 _ _ (by omega)]; exact c12.2.2.1) (by rw [k71 _ _ (by omega)]; exact c12.2.2.2)
  have cc3 : cT (tv_w M2 165 8 0) p T' := x5.k x3 (fun a i q => by rw [tp_w, if_neg (by omega)]; exact l4 a i (by omega) (by omega))
  obtain ⟨M4, d1, d2, d3, d4⟩ := ch_learn (F := F) (M := tv_w M2 165 8 0) (by omega) x3 cc3
  have f24 : ∀ a i, ¬ (a = 165 ∧ i = 8) → ¬ (a = 201 ∧ i = 6) → (a < 203 ∨ 236 ≤ a) → M4.1 a i = M2.1 a i := fun a i q1 q2 q3 => by rw [d4 a i q2 q3, tp_w, if_neg q1]
  have f14 : ∀ a i, ¬ (a = 70 ∧ i = 3) → (a < 71 ∨ 106 ≤ a) → ¬ (a = 165 ∧ i = 8) → ¬ (a = 201 ∧ i = 6) → (a < 203 ∨ 236 ≤ a) → M4.1 a i = M1.1 a i := fun a i q1 q2 q3 q4 q5 => by rw [f24 a i q3 q4 q5]; exact l4 a i q1 q2
  have cc4 : cT M4 p T' := x5.k x3 (fun a i q => f14 a i (by omega) (by omega) (by omega) (by omega) (by omega))
  have e1 : Xx_read F M = some (nI (tE T'), M4) := by
    unfold Xx_read
    rw [tp_cb x1, if_pos rfl, tp_cb l1]
    unfold Dr_forget
    rw [tp_pf, tp_cb (c := some ((), tv_w M2 165 8 0)) rfl, tp_cb d1, cc4.2.1]
  -- the reference
  obtain ⟨N2, r1, r2, r3⟩ := md_277 (F := F) (by omega) x3 hx x6 n10
  have mc2 : mT1 N2 p T' := by
    obtain ⟨a1, a2, a3, a4, a5, ae, at', ab⟩ := x6
    refine ⟨by rw [r3 _ _ (by omega)]; exact a1, by rw [r3 _ _ (by omega)]; exact a2, by rw [r3 _ _ (by omega)]; exact a3, by rw [r3 _ _ (by omega)]; exact a4, by rw [r3 _ _ (by omega)]; exact a5, fun e he => ?_, fun t ht => ?_, fun k hk => ?_⟩
    · obtain ⟨y1, y2, y3⟩ := ae e he
      exact ⟨by rw [r3 _ _ (by omega)]; exact y1, by rw [r3 _ _ (by omega)]; exact y2, by rw [r3 _ _ (by omega)]; exact y3⟩
    · obtain ⟨y1, y2, y3, y4, y5⟩ := at' t ht
      exact ⟨by rw [r3 _ _ (by omega)]; exact y1, by rw [r3 _ _ (by omega)]; exact y2, by rw [r3 _ _ (by omega)]; exact y3, fun r k z1 z2 => by rw [r3 _ _ (by omega)]; exact y4 r k z1 z2, fun r k z1 z2 => by rw [r3 _ _ (by omega)]; exact y5 r k z1 z2⟩
    · obtain ⟨y1, y2, y3, y4⟩ := ab k hk
      exact ⟨by rw [r3 _ _ (by omega)]; exact y1, by rw [r3 _ _ (by omega)]; exact y2, by rw [r3 _ _ (by omega)]; exact y3, by rw [r3 _ _ (by omega)]; exact y4⟩
  obtain ⟨N3, s1, s2, s3⟩ := md_341 (F := F) (by omega) g3 x3 hx mc2 (by rw [r3 _ _ (by omega)]; exact n16)
  generalize hN4 : tv_w (tv_w (tv_w N3 249 6 (nI (tE T'))) 249 10 (nI (tC T'))) 249 11 (nI (tK T')) = N4 at s1
  have f34 : ∀ a i, ¬ (a = 249 ∧ (i = 6 ∨ i = 10 ∨ i = 11)) → N4.1 a i = N3.1 a i := fun a i q => by rw [← hN4, tp_w, if_neg (by omega), tp_w, if_neg (by omega), tp_w, if_neg (by omega)]
  have f14' : ∀ a i, ¬ (a = 249 ∧ (i = 6 ∨ i = 10 ∨ i = 11)) → ¬ ((a = 270 ∨ a = 265 ∨ a = 272) ∧ tE T ≤ i) → ¬ (a = 274 ∧ tC T ≤ i) → N4.1 a i = N1.1 a i := fun a i q1 q2 q3 => by rw [f34 a i q1, s3 a i q3, r3 a i q2]
  obtain ⟨N5, t1, t2, t3, t4⟩ := md_391 (F := F) (N := N4) (T0 := T) (by omega) x3 hx (by rw [f14' _ _ (by omega) (by omega) (by omega)]; exact x6.2.2.2.2.1) (by rw [← hN4, tp_wj (by omega), tp_wj (by omega), tp_ws]) (fun k hk => by
    obtain ⟨y1, y2, y3, y4⟩ := x6.2.2.2.2.2.2.2 k hk
    exact ⟨by rw [f14' _ _ (by omega) (by omega) (by omega)]; exact y1, by rw [f14' _ _ (by omega) (by omega) (by omega)]; exact y2, by rw [f14' _ _ (by omega) (by omega) (by omega)]; exact y3, by rw [f14' _ _ (by omega) (by omega) (by omega)]; exact y4⟩) (m7.k (fun a i q => by rw [f14' a i (by omega) (by omega) (by omega)]; exact hn a i (by omega) (by omega) (by omega) (by omega) (by omega)))
  have f15 : ∀ a i, ¬ (a = 249 ∧ (i = 6 ∨ i = 10 ∨ i = 11 ∨ i = 16)) → ¬ ((a = 270 ∨ a = 265 ∨ a = 272) ∧ tE T ≤ i) → ¬ (a = 274 ∧ tC T ≤ i) → a ≠ 264 → N5.1 a i = N1.1 a i := fun a i q1 q2 q3 q4 => by rw [t4 a i q4 (by omega)]; exact f14' a i (by omega) q2 q3
  have f25 : ∀ a i, ¬ (a = 249 ∧ (i = 6 ∨ i = 10 ∨ i = 11 ∨ i = 16)) → ¬ (a = 274 ∧ tC T ≤ i) → a ≠ 264 → N5.1 a i = N2.1 a i := fun a i q1 q3 q4 => by rw [t4 a i q4 (by omega), f34 a i (by omega), s3 a i q3]
  have f35 : ∀ a i, ¬ (a = 249 ∧ (i = 6 ∨ i = 10 ∨ i = 11 ∨ i = 16)) → a ≠ 264 → N5.1 a i = N3.1 a i := fun a i q1 q4 => by rw [t4 a i q4 (by omega), f34 a i (by omega)]
  have e2 : Md_read F N = some (nI (tE T'), N5) := by rw [x2, r1, s1, t1]
  have mt5 : mT N5 p T' := by
    obtain ⟨a1, a2, a3, a4, a5, ae, at', ab⟩ := x6
    refine ⟨by rw [f15 _ _ (by omega) (by omega) (by omega) (by omega)]; exact a1, ?_, ?_, ?_, t2, fun e he => ?_, fun t ht => ?_, fun k hk => ?_⟩
    · rw [t4 _ _ (by omega) (by omega), ← hN4, tp_wj (by omega), tp_wj (by omega), tp_ws]
    · rw [t4 _ _ (by omega) (by omega), ← hN4, tp_wj (by omega), tp_ws]
    · rw [t4 _ _ (by omega) (by omega), ← hN4, tp_ws]
    · obtain ⟨y1, y2, y3⟩ := ae e he
      exact ⟨by rw [f15 _ _ (by omega) (by omega) (by omega) (by omega)]; exact y1, by rw [f15 _ _ (by omega) (by omega) (by omega) (by omega)]; exact y2, by rw [f15 _ _ (by omega) (by omega) (by omega) (by omega)]; exact y3⟩
    · obtain ⟨y1, y2, y3, y4, y5⟩ := at' t ht
      exact ⟨by rw [f15 _ _ (by omega) (by omega) (by omega) (by omega)]; exact y1, by rw [f15 _ _ (by omega) (by omega) (by omega) (by omega)]; exact y2, by rw [f15 _ _ (by omega) (by omega) (by omega) (by omega)]; exact y3, fun r k z1 z2 => by rw [f15 _ _ (by omega) (by omega) (by omega) (by omega)]; exact y4 r k z1 z2, fun r k z1 z2 => by rw [f15 _ _ (by omega) (by omega) (by omega) (by omega)]; exact y5 r k z1 z2⟩
    · obtain ⟨y1, y2, y3, y4⟩ := ab k hk
      exact ⟨by rw [f15 _ _ (by omega) (by omega) (by omega) (by omega)]; exact y1, by rw [f15 _ _ (by omega) (by omega) (by omega) (by omega)]; exact y2, by rw [f15 _ _ (by omega) (by omega) (by omega) (by omega)]; exact y3, by rw [f15 _ _ (by omega) (by omega) (by omega) (by omega)]; exact y4⟩
  have hfr : ∀ a i, ¬ (18 ≤ a ∧ a < 69) → ¬ (a = 70 ∧ i = 3) → (a < 71 ∨ 106 ≤ a) → ¬ (a = 165 ∧ i = 8) → ¬ (a = 201 ∧ i = 6) → (a < 203 ∨ 236 ≤ a) → M4.1 a i = M.1 a i := fun a i q0 q1 q2 q3 q4 q5 => by rw [f14 a i q1 q2 q3 q4 q5]; exact hf a i (by omega) (by omega) (by omega) (by omega) (by omega)
  have hnr : ∀ a i, ¬ (a = 249 ∧ (i = 0 ∨ i = 6 ∨ i = 10 ∨ i = 11 ∨ i = 16 ∨ (24 ≤ i ∧ i ≤ 36))) → ¬ ((a = 270 ∨ a = 265 ∨ a = 272) ∧ tE T ≤ i) → ¬ (a = 274 ∧ tC T ≤ i) → ¬ (253 ≤ a ∧ a ≤ 264) → N5.1 a i = N.1 a i := fun a i q1 q2 q3 q4 => by rw [f15 a i (by omega) q2 q3 (by omega)]; exact hn a i (by omega) (by omega) (by omega) (by omega) (by omega)
  have hR0 : ∀ x, x < tE T → (if (0 = 0 ∧ tE T ≤ x) then 0 else R 0 x) = R 0 x := fun x q => if_neg (fun z => absurd z.2 (by omega))
  have hR1 : ∀ x, tE T ≤ x → (if (0 = 0 ∧ tE T ≤ x) then 0 else R 0 x) = 0 := fun x q => if_pos ⟨rfl, q⟩
  have hR2 : ∀ x, (if (1 = 0 ∧ tE T ≤ x) then 0 else R 1 x) = R 1 x := fun x => if_neg (fun z => absurd z.1 (by omega))
  refine ⟨_, M4, N5, e1, e2, ⟨T', fun t x => if (t = 0 ∧ tE T ≤ x) then 0 else R t x, H, S0, fun t i => if t = 0 then 0 else Tp t i, Tr, S1, fun x => if tE T ≤ x then 2 ^ tsz T' x - 1 else Q x, Z, ⟨g1, g2, x3, gtp, ⟨fun e he => ?_, fun c => ?_⟩, fun e he hs => ?_, gH.x g3 x3 g7 hx, g8⟩, ⟨?_, ?_, cc4, ⟨?_, fun i hi => absurd hi (Nat.not_lt_zero _)⟩, ?_, fun e he => ?_, fun e he hs => ?_, d2, Or.inl d3, ?_, ?_, ?_, Or.inl ?_, Or.inl ?_, ?_⟩, ⟨?_, ⟨?_, ?_⟩, mt5, ⟨?_, fun i hi => absurd hi (Nat.not_lt_zero _)⟩, fun e he => ?_, fun e he hs => ?_, t3, ⟨?_, fun e he => ?_, fun e he hne => ?_, fun c hc => ?_⟩, ?_⟩⟩, fun a i q => hfr a i (by omega) (by omega) (by omega) (by omega) (by omega) (by omega), fun a i q => hnr a i (by omega) (by omega) (by omega) (by omega)⟩
  · by_cases w : e < tE T
    · dsimp only
      rw [hR0 e w, (hx.2.2.2.1 e w).1]; exact g5.1 e w
    · dsimp only
      rw [hR1 e (by omega)]; exact ⟨Nat.zero_le _, fun _ => rfl⟩
  · dsimp only
    rw [hR2]; exact g5.2 c
  · dsimp only
    by_cases w : e < tE T
    · obtain ⟨y1, y2, y3⟩ := hx.2.2.2.1 e w
      rw [if_neg (by omega), y2]; exact g6 e w (by rw [← y1]; exact hs)
    · rw [if_pos (by omega)]
      exact Nat.sub_lt (Nat.two_pow_pos _) (by omega)
  · exact c1.k (fun a i q => hfr a i (by omega) (by omega) (by omega) (by omega) (by omega) (by omega))
  · exact c2.k (fun a i q => hfr a i (by omega) (by omega) (by omega) (by omega) (by omega) (by omega))
  · rw [f14 _ _ (by omega) (by omega) (by omega) (by omega) (by omega)]; exact x8
  · show M4.1 68 3 = _
    rw [f14 _ _ (by omega) (by omega) (by omega) (by omega) (by omega)]; exact x9
  · dsimp only
    by_cases w : e < tE T
    · obtain ⟨y1, y2, y3⟩ := hx.2.2.2.1 e w
      obtain ⟨z1, z2⟩ := c6 e w
      rw [hR0 e w, y2, y3]
      refine ⟨by rw [f14 _ _ (by omega) (by omega) (by omega) (by omega) (by omega), hf _ _ (by omega) (by omega) (by omega) (by omega) (by omega)]; exact z1, fun v k hk => ?_⟩
      rw [f14 _ _ (by omega) (by omega) (by omega) (by omega) (by omega), hf _ _ (by omega) (by omega) (by omega) (by omega) (by omega), hR2]; exact z2 v k hk
    · rw [hR1 e (by omega)]
      refine ⟨by rw [f14 _ _ (by omega) (by omega) (by omega) (by omega) (by omega)]; exact (x7 e (by omega) he).1, fun v => absurd v (by omega)⟩
  · dsimp only
    by_cases w : e < tE T
    · obtain ⟨y1, y2, y3⟩ := hx.2.2.2.1 e w
      rw [if_neg (by omega), f14 _ _ (by omega) (by omega) (by omega) (by omega) (by omega), hf _ _ (by omega) (by omega) (by omega) (by omega) (by omega)]
      exact c7 e w (by rw [← y1]; exact hs)
    · rw [if_pos (by omega), f14 _ _ (by omega) (by omega) (by omega) (by omega) (by omega)]; exact (x7 e (by omega) he).2
  · exact c10.k (fun a i q => hfr a i (by omega) (by omega) (by omega) (by omega) (by omega) (by omega))
  · exact (cHk.x g3 g7 hx c11).k (fun a i q => hfr a i (by omega) (by omega) (by omega) (by omega) (by omega) (by omega))
  · exact l2.k x3 (fun a i q => f24 a i (by omega) (by omega) (by omega))
  · rw [f24 _ _ (by omega) (by omega) (by omega)]; exact l3
  · rw [d4 _ _ (by omega) (by omega)]; exact tp_ws
  · exact c15.k (fun a i q => hfr a i (by omega) (by omega) (by omega) (by omega) (by omega) (by omega))
  · exact m1.k (fun a i q => hnr a i (by omega) (by omega) (by omega) (by omega))
  · rw [hnr _ _ (by omega) (by omega) (by omega) (by omega)]; exact m2.1
  · rw [f15 _ _ (by omega) (by omega) (by omega) (by omega)]; exact n25
  · rw [f15 _ _ (by omega) (by omega) (by omega) (by omega)]; exact n24
  · dsimp only
    by_cases w : e < tE T
    · obtain ⟨y1, y2, y3⟩ := hx.2.2.2.1 e w
      obtain ⟨z1, z2⟩ := m5 e w
      rw [hR0 e w, y2, y3]
      refine ⟨by rw [hnr _ _ (by omega) (by omega) (by omega) (by omega)]; exact z1, fun v k hk => ?_⟩
      rw [hnr _ _ (by omega) (by omega) (by omega) (by omega), hR2]; exact z2 v k hk
    · rw [hR1 e (by omega)]
      refine ⟨by rw [f25 _ _ (by omega) (by omega) (by omega)]; exact (r2 e (by omega) he).1, fun v => absurd v (by omega)⟩
  · dsimp only
    by_cases w : e < tE T
    · obtain ⟨y1, y2, y3⟩ := hx.2.2.2.1 e w
      rw [if_neg (by omega), hnr _ _ (by omega) (by omega) (by omega) (by omega)]
      exact m6 e w (by rw [← y1]; exact hs)
    · rw [if_pos (by omega), f25 _ _ (by omega) (by omega) (by omega)]; exact (r2 e (by omega) he).2.2 hs
  · rw [hnr _ _ (by omega) (by omega) (by omega) (by omega)]; exact m8.1
  · by_cases w : e < tE T
    · rw [hnr _ _ (by omega) (by omega) (by omega) (by omega)]; exact m8.2.1 e w
    · rw [f25 _ _ (by omega) (by omega) (by omega), g7.2.1 e (by omega), if_pos rfl]; exact (r2 e (by omega) he).2.1
  · have w : e < tE T := Nat.lt_of_not_le (fun z => hne (g7.2.1 e z))
    rw [hnr _ _ (by omega) (by omega) (by omega) (by omega)]; exact m8.2.2.1 e w hne
  · by_cases w : c < tC T
    · rw [hnr _ _ (by omega) (by omega) (by omega) (by omega)]; exact m8.2.2.2 c w
    · rw [f35 _ _ (by omega) (by omega), (g7.2.2.2 c).2 (by omega)]; exact s2 c (by omega) hc
  · exact m9.k (fun a i q => hnr a i (by omega) (by omega) (by omega) (by omega))
end JREAD
