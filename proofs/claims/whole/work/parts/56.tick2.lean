/-! tick -/
section TICK2
variable {F p : Nat} {a b c : Int32} {M N : tv_M} {T R H : Nat → Nat → Nat} {row : Nat → Nat}
theorem tk_hu {r2 : Nat → Nat} : tk p T (hu H r2) row = tk p T H row := by
  unfold tk
  have : ∀ e, tke p T (hu H r2) row e = tke p T H row e := fun e => by
    induction e with
    | zero => rfl
    | succ e ih => funext c; rw [tke, tke, ih]; rfl
  exact this _
theorem tkn_hu {r2 : Nat → Nat} : ∀ n, tkn p T (hu H r2) row n = tkn p T H row n := by
  intro n
  induction n with
  | zero => rfl
  | succ n ih => rw [tkn, tkn, ih, tk_hu]
theorem tkn_add : ∀ n m, tkn p T H row (m + n) = tkn p T H (tkn p T H row m) n := by
  intro n m
  induction n with
  | zero => rfl
  | succ n ih => rw [← Nat.add_assoc, tkn, ih, tkn]
theorem op_tick (hF : 200 < F) (hp : tp_pr p) (hT : gT p T) (hH : gH p T H) (cc : cT M p T) (ch : cH M H) (ck : cHk M p T H) (mc : mT N p T) (mh : mH N T H) : ∃ (r : Int32) (H' : Nat → Nat → Nat), gH p T H' ∧ tq (Xx_tick F a M) (fun q M' => q = r ∧ cH M' H' ∧ cHk M' p T H' ∧ fH M M') ∧ tq (Md_tick F a N) (fun q N' => q = r ∧ mH N' T H' ∧ fHm N N') := by
  have h8 := hT.1
  have hC := hT.C
  have hp7 := hp.lt
  have mc' := mc.w0
  have mh' := mh.w0
  have fm0 : fHm N (tv_w N 249 0 0) := fun a i q1 _ => by rw [tp_w, if_neg (by omega)]
  have hin : Md_in F a.toInt64 1 100 (tv_w N 249 0 0) = some (if 1 ≤ a ∧ a ≤ 100 then 1 else 0, tv_w N 249 0 0) := tp_in (b := 1) (c := 100) (by decide) (by decide)
  by_cases q : 1 ≤ a ∧ a ≤ 100
  · have hb1 : (1 : Int) ≤ a.toInt := (tp_le _ _).mp q.1
    have hb2 : a.toInt ≤ 100 := (tp_le _ _).mp q.2
    have hb3 : a = nI a.toInt.toNat := tp_of a (by omega)
    have hbv : a.toInt.toNat ≤ 100 := by omega
    generalize a.toInt.toNat = n at hb3 hbv
    subst hb3
    have hok := tkn_ok (show 0 < p by omega) hT hH hH.2.2.2
    have hx : ∀ d k nn M', k + d = n → d < nn → (∀ c, c < 24 → M'.1 196 c = nI (tkn p T H (H 2) k c)) → (∀ a i, a ≠ 196 → a ≠ 198 → M'.1 a i = M.1 a i) → ∃ M'', He_goOn_L2 F nn (nI n) (nI k) M' = He_goOn_L30 F F 0 0 M'' ∧ (∀ c, c < 24 → M''.1 196 c = nI (tkn p T H (H 2) n c)) ∧ (∀ a i, a ≠ 196 → a ≠ 198 → ¬ (a = 193 ∧ i = 12) → M''.1 a i = M.1 a i) ∧ M''.1 193 12 = 0 := by
      intro d
      induction d with
      | zero =>
        intro k nn M' k1 k2 f1 f2
        obtain ⟨nn, rfl⟩ : ∃ n', nn = n' + 1 := ⟨nn - 1, by omega⟩
        have ek : k = n := by omega
        subst ek
        rw [He_goOn_L2, if_pos (nI_le (Nat.le_refl _) (by omega)), tp_pf]
        exact ⟨_, rfl, fun c hc => by rw [tp_wk (by omega)]; exact f1 c hc, fun a i z1 z2 z3 => by rw [tp_w, if_neg z3]; exact f2 a i z1 z2, tp_ws⟩
      | succ d ih =>
        intro k nn M' k1 k2 f1 f2
        obtain ⟨nn, rfl⟩ : ∃ n', nn = n' + 1 := ⟨nn - 1, by omega⟩
        have cc' : cT M' p T := cc.cg hT (fun a i q => f2 a i (by have := q.2.1; omega) (by have := q.2.1; omega))
        obtain ⟨M2, z1, z2, z3, z4⟩ := he_all (F := F) (M := M') (row := tkn p T H (H 2) k) (Or.inl rfl) (by omega) hp hT hH cc' (fun e he => by rw [f2 _ _ (by omega) (by omega)]; exact ch.2.1 e he) (fun e he v => by rw [f2 _ _ (by omega) (by omega)]; exact ch.2.2.1 e he v) f1 (fun c => (hok k c).1)
        rw [He_goOn_L2, if_neg (nI_ge (by omega) (by omega)), tp_cb z1, nI_1]
        exact ih (k + 1) nn M2 (by omega) (by omega) z2 (fun a i v1 v2 => (z3 a i v1 v2).trans (f2 a i v1 v2))
    obtain ⟨M1, x1, x2, x3, x4⟩ := hx n 0 F M (by omega) (by omega) ch.2.2.2 (fun _ _ _ _ => rfl)
    have h30 : ∀ d c nn, c + d = tC T → d < nn → He_goOn_L30 F nn (nI (cn (fun x => decide (tkn p T H (H 2) n x ≠ 0)) c)) (nI c) M1 = some (nI (cn (fun x => decide (tkn p T H (H 2) n x ≠ 0)) (tC T)), M1) := by
      intro d
      induction d with
      | zero =>
        intro c nn k1 k2
        obtain ⟨nn, rfl⟩ : ∃ n', nn = n' + 1 := ⟨nn - 1, by omega⟩
        rw [show c = tC T by omega, He_goOn_L30, x3 18 7 (by omega) (by omega) (by omega), cc.2.2.2.2.1, if_pos (nI_le (Nat.le_refl _) (by omega))]
      | succ d ih =>
        intro c nn k1 k2
        obtain ⟨nn, rfl⟩ : ∃ n', nn = n' + 1 := ⟨nn - 1, by omega⟩
        have hl := (hok n c).1
        have hi := ih (c + 1) nn (by omega) (by omega)
        rw [cn] at hi
        rw [He_goOn_L30, x3 18 7 (by omega) (by omega) (by omega), cc.2.2.2.2.1, if_neg (nI_ge (by omega) (by omega)), tp_rd (by omega) (by decide), x2 c (by omega), nI_1, nI_1]
        by_cases z : tkn p T H (H 2) n c = 0
        · rw [if_pos ((nI_z (by omega)).mpr z)]
          rw [decide_eq_false (fun v => v z), if_neg Bool.false_ne_true, Nat.add_zero] at hi
          exact hi
        · rw [if_neg (fun v => z ((nI_z (by omega)).mp v))]
          rw [decide_eq_true z, if_pos rfl] at hi
          exact hi
    have hy : ∀ d k nn N', k + d = n → d < nn → (∀ c, c < tC T → N'.1 274 c = nI (tkn p T H (H 2) k c)) → (∀ a i, a ≠ 274 → a ≠ 275 → N'.1 a i = (tv_w N 249 0 0).1 a i) → ∃ N'', Md_tick_L22 F nn (nI n) (nI k) N' = Md_tick_L41 F F 0 0 N'' ∧ (∀ c, c < tC T → N''.1 274 c = nI (tkn p T H (H 2) n c)) ∧ ∀ a i, a ≠ 274 → a ≠ 275 → N''.1 a i = (tv_w N 249 0 0).1 a i := by
      intro d
      induction d with
      | zero =>
        intro k nn N' k1 k2 f1 f2
        obtain ⟨nn, rfl⟩ : ∃ n', nn = n' + 1 := ⟨nn - 1, by omega⟩
        have ek : k = n := by omega
        subst ek
        rw [Md_tick_L22, if_pos (nI_le (Nat.le_refl _) (by omega))]
        exact ⟨_, rfl, f1, f2⟩
      | succ d ih =>
        intro k nn N' k1 k2 f1 f2
        obtain ⟨nn, rfl⟩ : ∃ n', nn = n' + 1 := ⟨nn - 1, by omega⟩
        have mc2 : mT N' p T := mc'.cg (fun a i q => f2 a i (by rcases q with q | q <;> omega) (by rcases q with q | q <;> omega))
        obtain ⟨N2, z1, z2, z3⟩ := md_tick1 (F := F) (N := N') (row := tkn p T H (H 2) k) (by omega) hp hT hH mc2 (fun e he => by rw [f2 _ _ (by omega) (by omega)]; exact mh'.2.1 e he) (fun e he v => by rw [f2 _ _ (by omega) (by omega)]; exact mh'.2.2.1 e he v) f1 (fun c => (hok k c).1)
        rw [Md_tick_L22, if_neg (nI_ge (by omega) (by omega)), tp_cb z1, nI_1]
        exact ih (k + 1) nn N2 (by omega) (by omega) z2 (fun a i v1 v2 => (z3 a i v1 v2).trans (f2 a i v1 v2))
    obtain ⟨N1, y1, y2, y3⟩ := hy n 0 F (tv_w N 249 0 0) (by omega) (by omega) mh'.2.2.2 (fun _ _ _ _ => rfl)
    have h41 : ∀ d c nn, c + d = tC T → d < nn → Md_tick_L41 F nn (nI (cn (fun x => decide (tkn p T H (H 2) n x ≠ 0)) c)) (nI c) N1 = some (nI (cn (fun x => decide (tkn p T H (H 2) n x ≠ 0)) (tC T)), N1) := by
      intro d
      induction d with
      | zero =>
        intro c nn k1 k2
        obtain ⟨nn, rfl⟩ : ∃ n', nn = n' + 1 := ⟨nn - 1, by omega⟩
        rw [show c = tC T by omega, Md_tick_L41, y3 249 10 (by omega) (by omega), mc'.2.2.1, if_pos (nI_le (Nat.le_refl _) (by omega))]
      | succ d ih =>
        intro c nn k1 k2
        obtain ⟨nn, rfl⟩ : ∃ n', nn = n' + 1 := ⟨nn - 1, by omega⟩
        have hl := (hok n c).1
        have hi := ih (c + 1) nn (by omega) (by omega)
        rw [cn] at hi
        rw [Md_tick_L41, y3 249 10 (by omega) (by omega), mc'.2.2.1, if_neg (nI_ge (by omega) (by omega)), tp_rd (by omega) (by decide), y2 c (by omega), nI_1, nI_1]
        by_cases z : tkn p T H (H 2) n c = 0
        · rw [if_pos ((nI_z (by omega)).mpr z), show ∀ x : Int32, x + 0 = x from Int32.add_zero]
          rw [decide_eq_false (fun v => v z), if_neg Bool.false_ne_true, Nat.add_zero] at hi
          exact hi
        · rw [if_neg (fun v => z ((nI_z (by omega)).mp v))]
          rw [decide_eq_true z, if_pos rfl] at hi
          exact hi
    have ex : Xx_tick F (nI n) M = some (nI (cn (fun x => decide (tkn p T H (H 2) n x ≠ 0)) (tC T)), M1) := by
      have e1 : He_goOn F (nI n) M = some (nI (cn (fun x => decide (tkn p T H (H 2) n x ≠ 0)) (tC T)), M1) := by
        show He_goOn_L2 F F (nI n) (nI 0) M = _
        rw [x1]
        exact h30 (tC T) 0 F (by omega) (by omega)
      unfold Xx_tick
      rw [if_neg (Int32.not_lt.mpr q.1), if_pos q.2, tp_cb e1]
    have ey : Md_tick F (nI n) N = some (nI (cn (fun x => decide (tkn p T H (H 2) n x ≠ 0)) (tC T)), N1) := by
      unfold Md_tick
      rw [tp_pf, tp_cb hin, if_pos q, if_neg (show ¬ (1 : Int32) = 0 by decide)]
      show Md_tick_L22 F F (nI n) (nI 0) (tv_w N 249 0 0) = _
      rw [y1]
      exact h41 (tC T) 0 F (by omega) (by omega)
    refine ⟨_, hu H (tkn p T H (H 2) n), hH.hu (hok n), tq_eq ex ⟨rfl, ⟨?_, fun e he => ?_, fun e he v => ?_, x2⟩, Or.inl x4, fun a i v => x3 a i (by omega) (by omega) (by omega)⟩, tq_eq ey ⟨rfl, ⟨?_, fun e he => ?_, fun e he v => ?_, y2⟩, fun a i v1 v2 => ?_⟩⟩
    · rw [x3 _ _ (by omega) (by omega) (by omega)]; exact ch.1
    · rw [x3 _ _ (by omega) (by omega) (by omega)]; exact ch.2.1 e he
    · rw [x3 _ _ (by omega) (by omega) (by omega)]; exact ch.2.2.1 e he v
    · rw [y3 _ _ (by omega) (by omega)]; exact mh'.1
    · rw [y3 _ _ (by omega) (by omega)]; exact mh'.2.1 e he
    · rw [y3 _ _ (by omega) (by omega)]; exact mh'.2.2.1 e he v
    · rw [y3 _ _ (by omega) (by omega)]; exact fm0 a i v1 v2
  · have ey : Md_tick F a N = some (-1000001, tv_w N 249 0 0) := by
      unfold Md_tick
      rw [tp_pf, tp_cb hin, if_neg q, if_pos rfl]
    have ex : Xx_tick F a M = some (-1000001, M) := by
      unfold Xx_tick
      by_cases w : a < 1
      · rw [if_pos w]
      · rw [if_neg w, if_neg (fun v => q ⟨Int32.not_lt.mp w, v⟩)]
    exact ⟨_, H, hH, tq_eq ex ⟨rfl, ch, ck, fH.rf⟩, tq_eq ey ⟨rfl, mh', fm0⟩⟩
end TICK2
