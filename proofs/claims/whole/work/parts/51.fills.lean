/-! FILLS -/
theorem tp_cpy0 {α : Type} {M : tv_M} {a k n0 n1 n : Nat} {x : Int32} {f : tv_M → Option α} (hx : x = nI n) (hn : n < 2 ^ 31) (h0 : n ≤ n0) (h1 : n ≤ n1) : tv_cpy M a n0 0 k n1 0 x f = f (tv_wc M k (fun j => if j < n then M.1 a j else M.1 k j)) := by
  subst hx
  unfold tv_cpy
  rw [nI_clamp hn, show (0 : Int32).toNatClampNeg = 0 from rfl, if_pos ⟨Int32.le_refl _, Int32.le_refl _, nI_pos' hn, by omega, by omega⟩]
  congr 2
  funext j
  unfold va_cpy
  by_cases h : j < n
  · rw [if_pos (by omega), if_pos h, Nat.sub_zero, Nat.zero_add]
  · rw [if_neg (by omega), if_neg h]
section FILLS
variable {F p : Nat} {M N : tv_M} {T R : Nat → Nat → Nat} {Q : Nat → Nat}
theorem wo_cg : ∀ m e (O O' : Nat → Nat), (∀ i, e ≤ i → i < e + m → tso T i = 3 → O i = O' i) → wo T m e O = wo T m e O' := by
  intro m
  induction m with
  | zero => intro e O O' _; rfl
  | succ m ih =>
    intro e O O' h
    by_cases hs : tso T e = 3
    · rw [wo_s hs, wo_s hs]
      have : ∀ v, wv T m e O v = wv T m e O' v := fun v => by
        unfold wv
        rw [h e (by omega) (by omega) hs]
        by_cases q : (O' e).testBit v = true
        · rw [if_pos q, if_pos q]
          exact ih (e + 1) _ _ (fun i h1 h2 h3 => by (try dsimp only); rw [h i (by omega) (by omega) h3])
        · rw [if_neg q, if_neg q]
      rw [this 0, this 1, this 2, this 3]
    · rw [wo_n hs, wo_n hs]
      exact ih (e + 1) _ _ (fun i h1 h2 h3 => h i (by omega) (by omega) h3)
theorem wo_0 : ∀ m e (O : Nat → Nat) i, e ≤ i → i < e + m → tso T i = 3 → O i = 0 → wo T m e O = 0 := by
  intro m
  induction m with
  | zero => intro e O i h1 h2; omega
  | succ m ih =>
    intro e O i h1 h2 hs h0
    by_cases he : tso T e = 3
    · rw [wo_s he]
      have : ∀ v, wv T m e O v = 0 := fun v => by
        unfold wv
        by_cases w : e = i
        · rw [w, h0, Nat.zero_testBit, if_neg Bool.false_ne_true]
        · by_cases q : (O e).testBit v = true
          · rw [if_pos q]
            exact ih (e + 1) _ i (by omega) (by omega) hs (by (try dsimp only); rw [h0, Nat.zero_and])
          · rw [if_neg q]
      rw [this 0, this 1, this 2, this 3]
    · rw [wo_n he]
      have w : e ≠ i := fun w => he (by rw [w]; exact hs)
      exact ih (e + 1) _ i (by omega) (by omega) hs h0
theorem wo_le : ∀ m e (O : Nat → Nat), wo T m e O ≤ 4 ^ m := by
  intro m
  induction m with
  | zero => intro e O; exact Nat.le_refl _
  | succ m ih =>
    intro e O
    have hp : 4 ^ (m + 1) = 4 ^ m * 4 := Nat.pow_succ ..
    by_cases he : tso T e = 3
    · rw [wo_s he]
      have : ∀ v, wv T m e O v ≤ 4 ^ m := fun v => by
        unfold wv
        by_cases q : (O e).testBit v = true
        · rw [if_pos q]; exact ih _ _
        · rw [if_neg q]; exact Nat.zero_le _
      have h0 := this 0
      have h1 := this 1
      have h2 := this 2
      have h3 := this 3
      omega
    · rw [wo_n he]
      have := ih (e + 1) O
      omega
theorem wo_lt {m e : Nat} {O : Nat → Nat} (h : m ≤ 8) : wo T m e O < 2 ^ 31 := Nat.lt_of_le_of_lt (Nat.le_trans (wo_le m e O) (Nat.pow_le_pow_right (by omega) h)) (by decide)
theorem bl_br {e v i y : Nat} (h : e < i) : ∀ k, brd T k e v i y = true → bld T k e = true := by
  intro k
  induction k with
  | zero => intro w; exact Bool.noConfusion w
  | succ k ih =>
    intro w
    rw [brd, Bool.or_eq_true, Bool.or_eq_true, decide_eq_true_eq, decide_eq_true_eq] at w
    rw [bld, Bool.or_eq_true, decide_eq_true_eq]
    rcases w with w | w | w
    · exact Or.inl (ih w)
    · refine Or.inr ?_
      rw [w.1, w.2.2.1, if_neg (by omega)]
    · refine Or.inr ?_
      rw [w.1, w.2.2.1, if_pos h]
theorem gw_15 {e v i : Nat} (h : e < i) (hb : bl T e = false) : gw T e v i = 15 := by
  have : ∀ y, br T e v i y = false := fun y => Bool.eq_false_iff.mpr (fun w => by have w2 : bl T e = true := bl_br h _ w; rw [w2] at hb; exact Bool.noConfusion hb)
  unfold gw
  simp only [this]
  decide
theorem an_15 : ∀ q, q < 16 → q &&& 15 = q := by decide +kernel
theorem pc_s : ∀ q, q < 16 → pc q = (if q.testBit 0 then 1 else 0) + (if q.testBit 1 then 1 else 0) + (if q.testBit 2 then 1 else 0) + (if q.testBit 3 then 1 else 0) := by decide +kernel
theorem gQ.an (h : gQ T Q) (e v : Nat) : gQ T (fun i => Q i &&& gw T e v i) := fun i hi hs => Nat.lt_of_le_of_lt Nat.and_le_left (h i hi hs)
theorem wo_fr {m e : Nat} {O : Nat → Nat} (hT : gT p T) (hO : gQ T O) (he : e + m < tE T) (hs : tso T e = 3) (hb : bl T e = false) : wo T (m + 1) e O = pc (O e) * wo T m (e + 1) O := by
  have : ∀ v, wv T m e O v = (if (O e).testBit v then 1 else 0) * wo T m (e + 1) O := fun v => by
    unfold wv
    by_cases q : (O e).testBit v = true
    · rw [if_pos q, if_pos q, Nat.one_mul]
      exact wo_cg m (e + 1) _ _ (fun i h1 h2 h3 => by (try dsimp only); rw [gw_15 (by omega) hb, an_15 _ (hO.lt hT (by omega) h3)])
    · rw [if_neg q, if_neg q, Nat.zero_mul]
  rw [wo_s hs, this 0, this 1, this 2, this 3, pc_s _ (hO.lt hT (by omega) hs), Nat.add_mul, Nat.add_mul, Nat.add_mul]
/-! the class -/
theorem ch_opP : ∀ j, j < 9 → tv_P0 236 j = some (237 + j) ∧ tv_lay[237 + j]? = some (20, 8) := by decide +kernel
def co (M : tv_M) (T : Nat → Nat → Nat) (e : Nat) (O : Nat → Nat) : Prop := ∀ i, e ≤ i → i < tE T → tso T i = 3 → M.1 (237 + e) i = nI (O i)
theorem ch_leave {e v m : Nat} {O : Nat → Nat} (hF : 60 < F) (hT : gT p T) (hO : gQ T O) (cc : cT M p T) (cg : cG M T) (hc : co M T e O) (hv : v < 4) (hm : e + 1 + m = tE T) : ∃ r M', Ch_leavesLaterOpen F (nI e) (nI v) M = some (r, M') ∧ (∀ a i, a ≠ 238 + e → M'.1 a i = M.1 a i) ∧ ((r = 1 ∧ co M' T (e + 1) (fun i => O i &&& gw T e v i)) ∨ (r = 0 ∧ wo T m (e + 1) (fun i => O i &&& gw T e v i) = 0)) := by
  have h8 := hT.1
  obtain ⟨r1, r2⟩ := ch_rowP (4 * e + v) (by omega)
  obtain ⟨o1, o2⟩ := ch_opP e (by omega)
  obtain ⟨o3, o4⟩ := ch_opP (e + 1) (by omega)
  have o4 : tv_lay[238 + e]? = some (20, 8) := by rw [show 238 + e = 237 + (e + 1) by omega]; exact o4
  have o3 : tv_P0 236 (e + 1) = some (238 + e) := by rw [show 238 + e = 237 + (e + 1) by omega]; exact o3
  have hh : ∀ d j nn M', j + d = tE T → d < nn → e < j → (∀ a i, a ≠ 238 + e → M'.1 a i = M.1 a i) → (∀ i, e < i → i < j → tso T i = 3 → M'.1 (238 + e) i = nI (O i &&& gw T e v i)) → ∃ r M'', Ch_leavesLaterOpen_L16 F nn (nI e) (203 + (4 * e + v)) (nI j) M' = some (r, M'') ∧ (∀ a i, a ≠ 238 + e → M''.1 a i = M.1 a i) ∧ ((r = 1 ∧ co M'' T (e + 1) (fun i => O i &&& gw T e v i)) ∨ (r = 0 ∧ wo T m (e + 1) (fun i => O i &&& gw T e v i) = 0)) := by
    intro d
    induction d with
    | zero =>
      intro j nn M' e1 e2 e3 f1 c1
      obtain ⟨nn, rfl⟩ : ∃ n', nn = n' + 1 := ⟨nn - 1, by omega⟩
      rw [Ch_leavesLaterOpen_L16, tp_gn r2, f1 18 4 (by omega), cc.2.1, if_pos (nI_le (by omega) (by omega))]
      exact ⟨1, M', rfl, f1, Or.inl ⟨rfl, fun i h1 h2 h3 => by rw [show 237 + (e + 1) = 238 + e by omega]; exact c1 i (by omega) (by omega) h3⟩⟩
    | succ d ih =>
      intro j nn M' e1 e2 e3 f1 c1
      obtain ⟨nn, rfl⟩ : ∃ n', nn = n' + 1 := ⟨nn - 1, by omega⟩
      obtain ⟨p1, p2, p3, p4⟩ := tp_eyP j (by omega)
      have cc' : cT M' p T := cc.cg hT (fun a i q => f1 a i (by have := q.2.1; omega))
      rw [Ch_leavesLaterOpen_L16, tp_gn r2, f1 18 4 (by omega), cc.2.1, if_neg (nI_ge (by omega) (by omega)), tp_ap (by omega) (by decide) o1, tp_gn o2, tp_rd (by omega) (by decide), tp_rd (by omega) (by decide), f1 (237 + e) j (by omega), f1 (203 + (4 * e + v)) j (by omega), cg.1 e v j (by omega) hv (by omega), nI_1, nI_1, tp_ap (by omega) (by decide) o3, tp_gn o4, tp_wr (by omega) (by decide), tp_ap (by omega) (by decide) p1, tp_gl p3, tp_cb (ey_choice hT cc' (by omega))]
      have hgo := ih (j + 1) nn (tv_w M' (238 + e) j (M.1 (237 + e) j &&& nI (gw T e v j))) (by omega) (by omega) (by omega) (fun a i q => by rw [tp_wk q]; exact f1 a i q) (fun i h1 h2 h3 => by
        rw [tp_w]
        by_cases w : i = j
        · rw [if_pos ⟨rfl, w⟩, w]
          rw [w] at h3
          rw [hc j (by omega) (by omega) h3, bit_an _ (hO.lt hT (by omega) h3) _ (gw_lt ..)]
        · rw [if_neg (fun z => w z.2)]; exact c1 i h1 (by omega) h3)
      by_cases hs : tso T j = 3
      · rw [if_pos hs, if_neg (show ¬ (1 : Int32) = 0 by decide)]
        have hv' : M.1 (237 + e) j &&& nI (gw T e v j) = nI (O j &&& gw T e v j) := by rw [hc j (by omega) (by omega) hs, bit_an _ (hO.lt hT (by omega) hs) _ (gw_lt ..)]
        have hl := bit_anl _ (hO.lt hT (show j < tE T by omega) hs) _ (gw_lt T e v j)
        by_cases q : O j &&& gw T e v j = 0
        · rw [if_pos (by rw [hv', q]; rfl)]
          exact ⟨0, M', rfl, f1, Or.inr ⟨rfl, wo_0 m (e + 1) _ j (by omega) (by omega) hs q⟩⟩
        · rw [if_neg (by rw [hv']; exact fun w => q ((nI_z (by omega)).mp w))]
          exact hgo
      · rw [if_neg hs, if_pos (show (0 : Int32) = 0 from rfl), tp_ap (by omega) (by decide) o3, tp_gn o4, tp_wr (by omega) (by decide)]
        by_cases q : M.1 (237 + e) j &&& nI (gw T e v j) = 0
        · rw [if_pos q]; exact hgo
        · rw [if_neg q]; exact hgo
  unfold Ch_leavesLaterOpen
  rw [show nI e * 4 + nI v = nI (4 * e + v) from by rw [Nat.mul_comm, ← nI_add, ← nI_mul]; rfl, tp_ap (by omega) (by decide) r1, tp_gn r2, nI_1]
  exact hh m (e + 1) F M (by omega) (by omega) (by omega) (fun _ _ _ => rfl) (fun i h1 h2 => by omega)
def fW (e : Nat) (M M' : tv_M) : Prop := ∀ a i, ¬ (237 + e < a ∧ a < 246) → M'.1 a i = M.1 a i
theorem fW.cT {e : Nat} {M M' : tv_M} (hT : gT p T) (hf : fW e M M') (h : cT M p T) : cT M' p T := h.cg hT (fun a i q => hf a i (by have := q.2.1; omega))
theorem fW.cG {e : Nat} {M M' : tv_M} (hT : gT p T) (hf : fW e M M') (h : cG M T) : cG M' T := h.cg hT (fun a i q1 q2 => hf a i (by omega))
def wsum (T : Nat → Nat → Nat) (m e : Nat) (O : Nat → Nat) : Nat → Nat
  | 0 => 0
  | v + 1 => wsum T m e O v + wv T m e O v
theorem wsum_4 {m e : Nat} {O : Nat → Nat} (hs : tso T e = 3) : wo T (m + 1) e O = wsum T m e O 4 := by
  rw [wo_s hs]
  show _ = 0 + wv T m e O 0 + wv T m e O 1 + wv T m e O 2 + wv T m e O 3
  omega
theorem wsum_top {m e : Nat} {O : Nat → Nat} (he : e < tE T) (hs : tso T e = 3) (hO : gQ T O) : ∀ d, wsum T m e O (tsz T e + d) = wsum T m e O (tsz T e) := by
  intro d
  induction d with
  | zero => rfl
  | succ d ih =>
    rw [show tsz T e + (d + 1) = (tsz T e + d) + 1 from rfl, wsum, ih]
    unfold wv
    rw [Nat.testBit_lt_two_pow (Nat.lt_of_lt_of_le (hO e he hs) (Nat.pow_le_pow_right (by omega) (by omega))), if_neg Bool.false_ne_true, Nat.add_zero]
theorem ch_ways (hF : 60 < F) (hT : gT p T) : ∀ m e (O : Nat → Nat) nn (M : tv_M), e + m = tE T → m < nn → gQ T O → cT M p T → cG M T → co M T e O → ∃ M', Ch_waysFrom F nn (nI e) M = some (nI (wo T m e O), M') ∧ fW e M M' := by
  have h8 := hT.1
  intro m
  induction m with
  | zero =>
    intro e O nn M e1 e2 hO cc cg hc
    obtain ⟨nn, rfl⟩ : ∃ n', nn = n' + 1 := ⟨nn - 1, by omega⟩
    rw [Ch_waysFrom, tp_cb (to_eye_out cc (Or.inr (nI_le (by omega) (by omega)))), tp_nln]
    exact ⟨M, rfl, fun _ _ _ => rfl⟩
  | succ m ih =>
    intro e O nn M e1 e2 hO cc cg hc
    obtain ⟨nn, rfl⟩ : ∃ n', nn = n' + 1 := ⟨nn - 1, by omega⟩
    have he : e < tE T := by omega
    obtain ⟨p1, p2, p3, p4⟩ := tp_eyP e (by omega)
    obtain ⟨o1, o2⟩ := ch_opP e (by omega)
    obtain ⟨o3, o4⟩ := ch_opP (e + 1) (by omega)
    obtain ⟨g1, g2, g3, g4, g5⟩ := hT.2.2.2.2.2.1 e he
    have h31 : ∀ x, (tso T e = 3 → x = pc (O e)) → (tso T e ≠ 3 → x = 1) → ∃ M', Ch_waysFrom_L31 F (Ch_waysFrom F nn) (nI e) (22 + 2 * e) M = some (nI (x * wo T m (e + 1) O), M') ∧ fW e M M' := by
      intro x hx1 hx2
      unfold Ch_waysFrom_L31
      rw [tp_gl p3, tp_ap (by omega) (by decide) o1, tp_gn o2, nI_1, tp_ap (by omega) (by decide) o3, tp_gn o4, tp_cpy0 (x := 8) (n := 8) rfl (by decide) (by omega) (by omega)]
      have f1 : fW e M (tv_wc M (237 + (e + 1)) (fun j => if j < 8 then M.1 (237 + e) j else M.1 (237 + (e + 1)) j)) := fun a i q => by rw [tp_wc1, if_neg (by omega)]
      have c1 : co (tv_wc M (237 + (e + 1)) (fun j => if j < 8 then M.1 (237 + e) j else M.1 (237 + (e + 1)) j)) T (e + 1) O := fun i h1 h2 h3 => by rw [tp_wc1, if_pos rfl, if_pos (by omega)]; exact hc i (by omega) h2 h3
      have c2 : co (tv_wc M (237 + (e + 1)) (fun j => if j < 8 then M.1 (237 + e) j else M.1 (237 + (e + 1)) j)) T e O := fun i h1 h2 h3 => by rw [tp_wc1, if_neg (by omega)]; exact hc i (by omega) h2 h3
      generalize tv_wc M (237 + (e + 1)) (fun j => if j < 8 then M.1 (237 + e) j else M.1 (237 + (e + 1)) j) = M1 at f1 c1 c2
      obtain ⟨M2, x1, x2⟩ := ih (e + 1) O nn M1 (by omega) (by omega) hO (f1.cT hT cc) (f1.cG hT cg) c1
      have hL74 : ∀ s0, s0 = nI x → x < 2 ^ 31 → ∃ M', Ch_waysFrom_L74 F (Ch_waysFrom F nn) (nI e) s0 M1 = some (nI (x * wo T m (e + 1) O), M') ∧ fW e M M' := fun s0 h0 hx => by
        unfold Ch_waysFrom_L74
        rw [h0, nI_1, tp_cb x1, nI_mul]
        by_cases q : x = 0
        · rw [if_pos ((nI_z hx).mpr q), q, Nat.zero_mul]
          exact ⟨M1, rfl, f1⟩
        · rw [if_neg (fun w => q ((nI_z hx).mp w))]
          exact ⟨M2, rfl, fun a i w => (x2 a i (by omega)).trans (f1 a i w)⟩
      rw [tp_cb (ey_choice hT (f1.cT hT cc) he)]
      by_cases hs : tso T e = 3
      · have hq := hO.lt hT he hs
        rw [if_pos hs, if_neg (show ¬ (1 : Int32) = 0 by decide), tp_ap (by omega) (by decide) o1, tp_gn o2, tp_rd (by omega) (by decide), c2 e (Nat.le_refl _) he hs, tp_cb (jv_bits (by omega))]
        have h4 := pc_4 _ hq
        exact hL74 _ (by rw [hx1 hs]) (by rw [hx1 hs]; omega)
      · rw [if_neg hs, if_pos rfl]
        exact hL74 1 (by rw [hx2 hs]; rfl) (by rw [hx2 hs]; decide)
    rw [Ch_waysFrom, tp_cb (to_eye hT cc he), tp_nls, tp_gl p3, tp_cb (ey_choice hT cc he)]
    by_cases hs : tso T e = 3
    · rw [if_pos hs, if_neg (show ¬ (1 : Int32) = 0 by decide), tp_rd (by omega) (by decide), cg.2 e he]
      by_cases hb : bl T e = true
      · rw [if_pos hb, if_neg (show ¬ (1 : Int32) = 0 by decide), wsum_4 hs]
        have hh : ∀ d v ng M', v + d = tsz T e → d < ng → fW e M M' → ∃ M'', Ch_waysFrom_L98 F (Ch_waysFrom F nn) ng (nI e) (22 + 2 * e) (nI (wsum T m e O v)) (nI v) M' = some (nI (wsum T m e O (tsz T e)), M'') ∧ fW e M M'' := by
          intro d
          induction d with
          | zero =>
            intro v ng M' k1 k2 f1
            obtain ⟨ng, rfl⟩ : ∃ n', ng = n' + 1 := ⟨ng - 1, by omega⟩
            rw [show v = tsz T e by omega, Ch_waysFrom_L98, tp_gl p3, ((f1.cT hT cc).2.2.2.2.2.2.2.1 e he).2.1, if_pos (nI_le (Nat.le_refl _) (by omega))]
            exact ⟨M', rfl, f1⟩
          | succ d ihd =>
            intro v ng M' k1 k2 f1
            obtain ⟨ng, rfl⟩ : ∃ n', ng = n' + 1 := ⟨ng - 1, by omega⟩
            have hq := hO.lt hT he hs
            have c1 : co M' T e O := fun i h1 h2 h3 => by rw [f1 _ _ (by omega)]; exact hc i h1 h2 h3
            have hi := ihd (v + 1) ng
            rw [wsum] at hi
            rw [Ch_waysFrom_L98, tp_gl p3, ((f1.cT hT cc).2.2.2.2.2.2.2.1 e he).2.1, if_neg (nI_ge (by omega) (by omega)), tp_ap (by omega) (by decide) o1, tp_gn o2, tp_rd (by omega) (by decide), c1 e (Nat.le_refl _) he hs, nI_1, nI_1]
            unfold wv at hi
            by_cases b1 : (O e).testBit v = true
            · rw [if_pos ((bit_1 (by omega) (by omega)).mpr b1)]
              rw [if_pos b1] at hi
              obtain ⟨r, M2, x1, x2, x3⟩ := ch_leave (F := F) (m := m) hF hT hO (f1.cT hT cc) (f1.cG hT cg) c1 (show v < 4 by omega) (by omega)
              have f2 : fW e M M2 := fun a i w => (x2 a i (by omega)).trans (f1 a i w)
              rw [tp_cb x1]
              rcases x3 with ⟨rfl, x3⟩ | ⟨rfl, x3⟩
              · obtain ⟨M3, y1, y2⟩ := ih (e + 1) _ nn M2 (by omega) (by omega) (hO.an e v) (f2.cT hT cc) (f2.cG hT cg) x3
                rw [if_neg (show ¬ (1 : Int32) = 0 by decide), tp_cb y1, nI_add]
                exact hi M3 (by omega) (by omega) (fun a i w => (y2 a i (by omega)).trans (f2 a i w))
              · rw [if_pos rfl]
                rw [x3, Nat.add_zero] at hi
                exact hi M2 (by omega) (by omega) f2
            · rw [if_neg (fun w => b1 ((bit_1 (by omega) (by omega)).mp w))]
              rw [if_neg b1, Nat.add_zero] at hi
              exact hi M' (by omega) (by omega) f1
        have e4 := wsum_top (m := m) he hs hO (4 - tsz T e)
        rw [show tsz T e + (4 - tsz T e) = 4 by omega] at e4
        rw [e4]
        exact hh (tsz T e) 0 F M (by omega) (by omega) (fun _ _ _ => rfl)
      · have hb : bl T e = false := Bool.eq_false_iff.mpr hb
        rw [hb, if_neg Bool.false_ne_true, if_pos rfl, wo_fr hT hO (by omega) hs hb]
        exact h31 _ (fun _ => rfl) (fun w => absurd hs w)
    · rw [if_neg hs, if_pos rfl, wo_n hs]
      obtain ⟨M', x1, x2⟩ := h31 1 (fun w => absurd w hs) (fun _ => rfl)
      rw [Nat.one_mul] at x1
      exact ⟨M', x1, x2⟩
end FILLS
