/-! THE FIRST OF THE FILLS -/
section FIRST
variable {F p : Nat} {a : Int32} {M N : tv_M} {T R : Nat → Nat → Nat} {Q : Nat → Nat}
theorem fo1_n {m e i : Nat} {O : Nat → Nat} (hs : ¬ tso T e = 3) : fo1 T (m + 1) e O i = fo1 T m (e + 1) O i := by rw [fo1, if_neg hs]
theorem fo1_at {m e v i : Nat} {O : Nat → Nat} (hs : tso T e = 3) (hv : v < 4) (h0 : ∀ u, u < v → wv T m e O u = 0) (h1 : wv T m e O v ≠ 0) : fo1 T (m + 1) e O i = if i = e then v else fo1 T m (e + 1) (fun i => O i &&& gw T e v i) i := by
  rw [fo1, if_pos hs]
  have : v = 0 ∨ v = 1 ∨ v = 2 ∨ v = 3 := by omega
  rcases this with rfl | rfl | rfl | rfl
  · rw [if_pos h1]
  · rw [if_neg (fun w => w (h0 0 (by omega))), if_pos h1]
  · rw [if_neg (fun w => w (h0 0 (by omega))), if_neg (fun w => w (h0 1 (by omega))), if_pos h1]
  · rw [if_neg (fun w => w (h0 0 (by omega))), if_neg (fun w => w (h0 1 (by omega))), if_neg (fun w => w (h0 2 (by omega)))]
theorem wo_at {m e v : Nat} {O : Nat → Nat} (hs : tso T e = 3) (hv : v < 4) (h1 : wv T m e O v ≠ 0) : wo T (m + 1) e O ≠ 0 := by
  rw [wo_s hs]
  have : v = 0 ∨ v = 1 ∨ v = 2 ∨ v = 3 := by omega
  rcases this with rfl | rfl | rfl | rfl <;> omega
theorem wo_no {m e : Nat} {O : Nat → Nat} (hs : tso T e = 3) (h : ∀ v, v < 4 → wv T m e O v = 0) : wo T (m + 1) e O = 0 := by
  rw [wo_s hs, h 0 (by omega), h 1 (by omega), h 2 (by omega), h 3 (by omega)]
theorem fo1_cg : ∀ m e (O O' : Nat → Nat), (∀ i, e ≤ i → i < e + m → tso T i = 3 → O i = O' i) → ∀ i, fo1 T m e O i = fo1 T m e O' i := by
  intro m
  induction m with
  | zero => intro e O O' _ i; rfl
  | succ m ih =>
    intro e O O' h i
    by_cases hs : tso T e = 3
    · have hw : ∀ v, wv T m e O v = wv T m e O' v := fun v => by
        unfold wv
        rw [h e (by omega) (by omega) hs]
        by_cases q : (O' e).testBit v = true
        · rw [if_pos q, if_pos q]
          exact wo_cg m (e + 1) _ _ (fun i h1 h2 h3 => by (try dsimp only); rw [h i (by omega) (by omega) h3])
        · rw [if_neg q, if_neg q]
      have hf : ∀ v, fo1 T m (e + 1) (fun i => O i &&& gw T e v i) i = fo1 T m (e + 1) (fun i => O' i &&& gw T e v i) i := fun v => ih (e + 1) _ _ (fun i h1 h2 h3 => by (try dsimp only); rw [h i (by omega) (by omega) h3]) i
      rw [fo1, fo1, if_pos hs, if_pos hs, hw 0, hw 1, hw 2, hf 0, hf 1, hf 2, hf 3]
    · rw [fo1_n hs, fo1_n hs]
      exact ih (e + 1) _ _ (fun i h1 h2 h3 => h i (by omega) (by omega) h3) i
def fV (e : Nat) (M M' : tv_M) : Prop := ∀ a i, ¬ (237 + e < a ∧ a < 246) → ¬ (a = 246 ∧ e ≤ i) → M'.1 a i = M.1 a i
theorem fV.cT {e : Nat} {M M' : tv_M} (hT : gT p T) (hf : fV e M M') (h : cT M p T) : cT M' p T := h.cg hT (fun a i q => hf a i (by have := q.2.1; omega) (by have := q.2.1; omega))
theorem fV.cG {e : Nat} {M M' : tv_M} (hT : gT p T) (hf : fV e M M') (h : cG M T) : cG M' T := h.cg hT (fun a i q1 q2 => hf a i (by omega) (by omega))
theorem ch_first (hF : 60 < F) (hT : gT p T) : ∀ m e (O : Nat → Nat) nn (M : tv_M), e + m = tE T → m < nn → gQ T O → cT M p T → cG M T → co M T e O → ∃ r M', Ch_findFirst F nn (nI e) M = some (r, M') ∧ fV e M M' ∧ ((r = 1 ∧ wo T m e O ≠ 0 ∧ ∀ i, e ≤ i → i < tE T → tso T i = 3 → M'.1 246 i = nI (fo1 T m e O i)) ∨ (r = 0 ∧ wo T m e O = 0)) := by
  have h8 := hT.1
  intro m
  induction m with
  | zero =>
    intro e O nn M e1 e2 hO cc cg hc
    obtain ⟨nn, rfl⟩ : ∃ n', nn = n' + 1 := ⟨nn - 1, by omega⟩
    rw [Ch_findFirst, tp_cb (to_eye_out cc (Or.inr (nI_le (by omega) (by omega)))), tp_nln]
    exact ⟨1, M, rfl, fun _ _ _ _ => rfl, Or.inl ⟨rfl, Nat.one_ne_zero, fun i h1 h2 => by omega⟩⟩
  | succ m ih =>
    intro e O nn M e1 e2 hO cc cg hc
    obtain ⟨nn, rfl⟩ : ∃ n', nn = n' + 1 := ⟨nn - 1, by omega⟩
    have he : e < tE T := by omega
    obtain ⟨p1, p2, p3, p4⟩ := tp_eyP e (by omega)
    obtain ⟨o1, o2⟩ := ch_opP e (by omega)
    obtain ⟨o3, o4⟩ := ch_opP (e + 1) (by omega)
    obtain ⟨g1, g2, g3, g4, g5⟩ := hT.2.2.2.2.2.1 e he
    rw [Ch_findFirst, tp_cb (to_eye hT cc he), tp_nls, tp_gl p3, tp_cb (ey_choice hT cc he)]
    by_cases hs : tso T e = 3
    · rw [if_pos hs, if_neg (show ¬ (1 : Int32) = 0 by decide)]
      have hq := hO.lt hT he hs
      have hh : ∀ d v ng M', v + d = tsz T e → d < ng → fV e M M' → (∀ u, u < v → wv T m e O u = 0) → ∃ r M'', Ch_findFirst_L53 F (Ch_findFirst F nn) ng (nI e) (22 + 2 * e) (nI v) M' = some (r, M'') ∧ fV e M M'' ∧ ((r = 1 ∧ wo T (m + 1) e O ≠ 0 ∧ ∀ i, e ≤ i → i < tE T → tso T i = 3 → M''.1 246 i = nI (fo1 T (m + 1) e O i)) ∨ (r = 0 ∧ wo T (m + 1) e O = 0)) := by
        intro d
        induction d with
        | zero =>
          intro v ng M' k1 k2 f1 k3
          obtain ⟨ng, rfl⟩ : ∃ n', ng = n' + 1 := ⟨ng - 1, by omega⟩
          rw [show v = tsz T e by omega] at k3 ⊢
          rw [Ch_findFirst_L53, tp_gl p3, ((f1.cT hT cc).2.2.2.2.2.2.2.1 e he).2.1, if_pos (nI_le (Nat.le_refl _) (by omega))]
          refine ⟨0, M', rfl, f1, Or.inr ⟨rfl, wo_no hs (fun v hv => ?_)⟩⟩
          by_cases w : v < tsz T e
          · exact k3 v w
          · unfold wv
            rw [Nat.testBit_lt_two_pow (Nat.lt_of_lt_of_le (hO e he hs) (Nat.pow_le_pow_right (by omega) (by omega))), if_neg Bool.false_ne_true]
        | succ d ihd =>
          intro v ng M' k1 k2 f1 k3
          obtain ⟨ng, rfl⟩ : ∃ n', ng = n' + 1 := ⟨ng - 1, by omega⟩
          have c1 : co M' T e O := fun i h1 h2 h3 => by rw [f1 _ _ (by omega) (by omega)]; exact hc i h1 h2 h3
          have hi : ∀ M', fV e M M' → wv T m e O v = 0 → _ := fun M' hf hw => ihd (v + 1) ng M' (by omega) (by omega) hf (fun u hu => by
            by_cases w : u = v
            · rw [w]; exact hw
            · exact k3 u (by omega))
          rw [Ch_findFirst_L53, tp_gl p3, ((f1.cT hT cc).2.2.2.2.2.2.2.1 e he).2.1, if_neg (nI_ge (by omega) (by omega)), tp_ap (by omega) (by decide) o1, tp_gn o2, tp_rd (by omega) (by decide), c1 e (Nat.le_refl _) he hs, nI_1, nI_1]
          by_cases b1 : (O e).testBit v = true
          · have hwv : wv T m e O v = wo T m (e + 1) (fun i => O i &&& gw T e v i) := if_pos b1
            rw [if_pos ((bit_1 (by omega) (by omega)).mpr b1)]
            obtain ⟨r, M2, x1, x2, x3⟩ := ch_leave (F := F) (m := m) hF hT hO (f1.cT hT cc) (f1.cG hT cg) c1 (show v < 4 by omega) (by omega)
            have f2 : fV e M M2 := fun a i w w2 => (x2 a i (by omega)).trans (f1 a i w w2)
            rw [tp_cb x1]
            rcases x3 with ⟨rfl, x3⟩ | ⟨rfl, x3⟩
            · rw [if_neg (show ¬ (1 : Int32) = 0 by decide), tp_wr (by omega) (by decide)]
              have f3 : fV e M (tv_w M2 246 e (nI v)) := fun a i w w2 => by rw [tp_w, if_neg (by omega)]; exact f2 a i w w2
              have x3' : co (tv_w M2 246 e (nI v)) T (e + 1) (fun i => O i &&& gw T e v i) := fun i h1 h2 h3 => by rw [tp_wk (by omega)]; exact x3 i h1 h2 h3
              obtain ⟨r, M3, y1, y2, y3⟩ := ih (e + 1) _ nn (tv_w M2 246 e (nI v)) (by omega) (by omega) (hO.an e v) (f3.cT hT cc) (f3.cG hT cg) x3'
              have f4 : fV e M M3 := fun a i w w2 => (y2 a i (by omega) (by omega)).trans (f3 a i w w2)
              rw [tp_cb y1]
              rcases y3 with ⟨rfl, y3, y4⟩ | ⟨rfl, y3⟩
              · rw [if_neg (show ¬ (1 : Int32) = 0 by decide)]
                have hne : wv T m e O v ≠ 0 := by rw [hwv]; exact y3
                refine ⟨1, M3, rfl, f4, Or.inl ⟨rfl, wo_at hs (by omega) hne, fun i h1 h2 h3 => ?_⟩⟩
                rw [fo1_at hs (by omega) k3 hne]
                by_cases w : i = e
                · rw [if_pos w, w, y2 246 e (by omega) (by omega), tp_ws]
                · rw [if_neg w]; exact y4 i (by omega) h2 h3
              · rw [if_pos rfl]
                exact hi M3 f4 (by rw [hwv]; exact y3)
            · rw [if_pos rfl]
              exact hi M2 f2 (by rw [hwv]; exact x3)
          · rw [if_neg (fun w => b1 ((bit_1 (by omega) (by omega)).mp w))]
            exact hi M' f1 (if_neg b1)
      exact hh (tsz T e) 0 F M (by omega) (by omega) (fun _ _ _ _ => rfl) (fun u hu => absurd hu (Nat.not_lt_zero u))
    · rw [if_neg hs, if_pos rfl, tp_ap (by omega) (by decide) o1, tp_gn o2, nI_1, tp_ap (by omega) (by decide) o3, tp_gn o4, tp_cpy0 (x := 8) (n := 8) rfl (by decide) (by omega) (by omega)]
      have f1 : fV e M (tv_wc M (237 + (e + 1)) (fun j => if j < 8 then M.1 (237 + e) j else M.1 (237 + (e + 1)) j)) := fun a i q _ => by rw [tp_wc1, if_neg (by omega)]
      have c1 : co (tv_wc M (237 + (e + 1)) (fun j => if j < 8 then M.1 (237 + e) j else M.1 (237 + (e + 1)) j)) T (e + 1) O := fun i h1 h2 h3 => by rw [tp_wc1, if_pos rfl, if_pos (by omega)]; exact hc i (by omega) h2 h3
      generalize tv_wc M (237 + (e + 1)) (fun j => if j < 8 then M.1 (237 + e) j else M.1 (237 + (e + 1)) j) = M1 at f1 c1
      obtain ⟨r, M2, y1, y2, y3⟩ := ih (e + 1) O nn M1 (by omega) (by omega) hO (f1.cT hT cc) (f1.cG hT cg) c1
      have f4 : fV e M M2 := fun a i w w2 => (y2 a i (by omega) (by omega)).trans (f1 a i w w2)
      have hr : r = 0 ∨ r = 1 := y3.elim (fun w => Or.inr w.1) (fun w => Or.inl w.1)
      rw [tp_cb y1, tp_zo hr, wo_n hs]
      refine ⟨r, M2, rfl, f4, ?_⟩
      rcases y3 with ⟨rfl, y3, y4⟩ | ⟨rfl, y3⟩
      · refine Or.inl ⟨rfl, y3, fun i h1 h2 h3 => ?_⟩
        have w : i ≠ e := fun w => hs (by rw [← w]; exact h3)
        rw [fo1_n hs]; exact y4 i (by omega) h2 h3
      · exact Or.inr ⟨rfl, y3⟩
/-- the class's answer -/
theorem ch_all_ways (hF : 60 < F) (hT : gT p T) (hQ : gQ T Q) (cc : cT M p T) (cq : cQ M T Q) (cg : cG M T) (ck : cK M T Q) : ∃ M', Ch_ways F M = some (nI (wo T (tE T) 0 Q), M') ∧ cK M' T Q ∧ M'.1 201 6 = 1 ∧ cQ M' T Q ∧ fQ M M' := by
  have h8 := hT.1
  have hwl : wo T (tE T) 0 Q < 2 ^ 31 := wo_lt h8
  unfold Ch_ways
  rcases ck with k0 | ⟨k0, k1, k2⟩
  · rw [if_pos k0]
    obtain ⟨o1, o2⟩ := ch_opP 0 (by omega)
    have hh : ∀ d j nn M', j + d = tE T → d < nn → (∀ a i, a ≠ 237 → M'.1 a i = M.1 a i) → (∀ i, i < j → tso T i = 3 → M'.1 237 i = nI (Q i)) → ∃ M'', Ch_ways_L9 F nn (nI j) M' = some (nI (wo T (tE T) 0 Q), M'') ∧ cK M'' T Q ∧ M''.1 201 6 = 1 ∧ cQ M'' T Q ∧ fQ M M'' := by
      intro d
      induction d with
      | zero =>
        intro j nn M' e1 e2 f1 c1
        obtain ⟨nn, rfl⟩ : ∃ n', nn = n' + 1 := ⟨nn - 1, by omega⟩
        have cc' : cT M' p T := cc.cg hT (fun a i q => f1 a i (by have := q.2.1; omega))
        have cg' : cG M' T := cg.cg hT (fun a i q1 q2 => f1 a i (by omega))
        have hc : co M' T 0 Q := fun i _ h2 h3 => c1 i (by omega) h3
        rw [Ch_ways_L9, cc'.2.1, if_pos (nI_le (by omega) (by omega))]
        obtain ⟨M2, x1, x2⟩ := ch_ways (F := F) hF hT (tE T) 0 Q 12 M' (by omega) (by omega) hQ cc' cg' hc
        have x1 : Ch_waysFrom F 12 0 M' = _ := x1
        rw [tp_cb x1, tp_pf, tp_ws]
        have f2 : ∀ a i, a ≠ 201 → (a < 237 ∨ 246 ≤ a) → (tv_w M2 201 5 (nI (wo T (tE T) 0 Q))).1 a i = M.1 a i := fun a i w1 w2 => by rw [tp_wk w1, x2 a i (by omega), f1 a i (by omega)]
        have f2' : ∀ i, i ≠ 5 → (tv_w M2 201 5 (nI (wo T (tE T) 0 Q))).1 201 i = M.1 201 i := fun i w => by rw [tp_wj w, x2 201 i (by omega), f1 201 i (by omega)]
        have f3 : (tv_w M2 201 5 (nI (wo T (tE T) 0 Q))).1 201 5 = nI (wo T (tE T) 0 Q) := tp_ws
        have hc2 : co (tv_w M2 201 5 (nI (wo T (tE T) 0 Q))) T 0 Q := fun i h1 h2 h3 => by rw [tp_wk (by omega), x2 _ i (by omega)]; exact hc i h1 h2 h3
        generalize tv_w M2 201 5 (nI (wo T (tE T) 0 Q)) = M3 at f2 f2' f3 hc2
        have cc3 : cT M3 p T := cc.cg hT (fun a i q => f2 a i (by have := q.2.1; omega) (by have := q.2.1; omega))
        have cg3 : cG M3 T := cg.cg hT (fun a i q1 q2 => f2 a i (by omega) (by omega))
        by_cases q : wo T (tE T) 0 Q = 0
        · rw [if_pos (show nI (wo T (tE T) 0 Q) ≤ 0 from by rw [q]; decide), tp_pf]
          refine ⟨_, by rw [tp_wj (by omega), f3], Or.inr ⟨tp_ws, by rw [tp_wj (by omega), f3], fun w => absurd q w⟩, tp_ws, fun e he hs => ?_, fun a i w1 w2 w3 => ?_⟩
          · rw [tp_wk (by omega), f2 _ _ (by omega) (by omega)]; exact cq e he hs
          · rw [tp_w, if_neg (by omega)]
            by_cases w : a = 201
            · rw [w]; exact f2' i (by omega)
            · exact f2 a i w (by omega)
        · rw [if_neg (show ¬ nI (wo T (tE T) 0 Q) ≤ 0 from nI_ge (b := wo T (tE T) 0 Q) (a := 0) (by omega) hwl)]
          obtain ⟨r, M4, y1, y2, y3⟩ := ch_first (F := F) hF hT (tE T) 0 Q 12 M3 (by omega) (by omega) hQ cc3 cg3 hc2
          have y1 : Ch_findFirst F 12 0 M3 = _ := y1
          rw [tp_cb y1, tp_pf]
          rcases y3 with ⟨rfl, y3, y4⟩ | ⟨rfl, y3⟩
          · refine ⟨_, by rw [tp_wj (by omega), y2 201 5 (by omega) (by omega), f3], Or.inr ⟨tp_ws, by rw [tp_wj (by omega), y2 201 5 (by omega) (by omega), f3], fun _ e he hs => ?_⟩, tp_ws, fun e he hs => ?_, fun a i w1 w2 w3 => ?_⟩
            · rw [tp_wk (by omega)]; exact y4 e (by omega) he hs
            · rw [tp_wk (by omega), y2 _ _ (by omega) (by omega), f2 _ _ (by omega) (by omega)]; exact cq e he hs
            · rw [tp_w, if_neg (by omega), y2 a i (by omega) (by omega)]
              by_cases w : a = 201
              · rw [w]; exact f2' i (by omega)
              · exact f2 a i w (by omega)
          · exact absurd y3 q
      | succ d ih =>
        intro j nn M' e1 e2 f1 c1
        obtain ⟨nn, rfl⟩ : ∃ n', nn = n' + 1 := ⟨nn - 1, by omega⟩
        obtain ⟨p1, p2, p3, p4⟩ := tp_eyP j (by omega)
        rw [Ch_ways_L9, f1 18 4 (by omega), cc.2.1, if_neg (nI_ge (by omega) (by omega)), show (0 : Int32) = nI 0 from rfl, tp_ap (by omega) (by decide) o1, tp_gn o2, tp_ap (by omega) (by decide) p1, tp_gl p3, tp_wr (by omega) (by decide), nI_1]
        refine ih (j + 1) nn _ (by omega) (by omega) (fun a i q => by rw [tp_wk q]; exact f1 a i q) (fun i hi hs => ?_)
        rw [tp_w]
        by_cases w : i = j
        · rw [if_pos ⟨rfl, w⟩, f1 _ _ (by omega), w]; rw [w] at hs; exact cq j (by omega) hs
        · rw [if_neg (fun z => w z.2)]; exact c1 i (by omega) hs
    exact hh (tE T) 0 F M (by omega) (by omega) (fun _ _ _ => rfl) (fun i hi => absurd hi (Nat.not_lt_zero i))
  · rw [if_neg (by rw [k0]; decide), k1]
    exact ⟨M, rfl, Or.inr ⟨k0, k1, k2⟩, k0, cq, fQ.rf⟩
end FIRST
