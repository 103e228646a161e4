/-! ASK -/
section ASK2
variable {F p e d nn : Nat} {a b c : Int32} {M N : tv_M} {T R Tr : Nat → Nat → Nat} {Q : Nat → Nat} {Z : Nat → Nat}
theorem bo_10 {q : Nat} {D : Int32} : Bo_give F (nn + 1) q 10 D M = tv_gl q 3 (if D ≤ 40 then tv_cb (Bo_leaveTrace F 10 M) (fun _ M3 => some (M3.1 q 2, M3)) else some (0, M)) := rfl
theorem bo_11 {q : Nat} {D : Int32} : Bo_give F (nn + 1) q 11 D M = tv_gl q 3 (if D ≤ 40 then tv_cb (Bo_leaveTrace F 11 M) (fun _ M3 => tv_cb (Bo_give F nn q 10 (D + 1) M3) (fun r5 M6 => tv_cb (To_tiesOf F (M6.1 q 0) M6) (fun r7 M8 => some (r5 + r7, M8)))) else some (0, M)) := rfl
theorem bo_12 {q : Nat} {D : Int32} : Bo_give F (nn + 1) q 12 D M = tv_gl q 3 (if D ≤ 40 then tv_cb (Bo_leaveTrace F 12 M) (fun _ M3 => tv_cb (Bo_give F nn q 11 (D + 1) M3) (fun r10 M11 => some (r10 * (M11.1 18 0), M11))) else some (0, M)) := rfl
theorem bo_13 {q : Nat} {D : Int32} : Bo_give F (nn + 1) q 13 D M = tv_gl q 3 (if D ≤ 40 then tv_cb (Bo_leaveTrace F 13 M) (fun _ M3 => tv_cb (Bo_give F nn q 11 (D + 1) M3) (fun r13 M14 => tv_cb (Bo_answerAnew F (Bo_give F nn) q 1 (D + 1) M14) (fun r15 M16 => some (r13 - r15, M16)))) else some (0, M)) := rfl
theorem bo_14 {q : Nat} {D : Int32} : Bo_give F (nn + 1) q 14 D M = tv_gl q 3 (if D ≤ 40 then tv_cb (Bo_leaveTrace F 14 M) (fun _ M3 => tv_cb (Bo_give F nn q 10 (D + 1) M3) (fun r18 M19 => tv_cb (Jv_bitCount F (M19.1 q 4) M19) (fun r20 M21 => some (r18 + r20, M21)))) else some (0, M)) := rfl
theorem bo_20 {q : Nat} {D : Int32} : Bo_give F (nn + 1) q 20 D M = tv_gl q 3 (if D ≤ 40 then tv_cb (Bo_leaveTrace F 20 M) (fun _ M3 => some (M3.1 q 0, M3)) else some (0, M)) := rfl
theorem bo_21 {q : Nat} {D : Int32} : Bo_give F (nn + 1) q 21 D M = tv_gl q 3 (if D ≤ 40 then tv_cb (Bo_leaveTrace F 21 M) (fun _ M3 => tv_cb (Bo_give F nn q 20 (D + 1) M3) (fun r29 M30 => if (M30.1 q 5) = 0 then some (r29 + 0, M30) else some (r29 + 100, M30))) else some (0, M)) := rfl
theorem bo_22 {q : Nat} {D : Int32} : Bo_give F (nn + 1) q 22 D M = tv_gl q 3 (if D ≤ 40 then tv_cb (Bo_leaveTrace F 22 M) (fun _ M3 => tv_cb (Bo_give F nn q 21 (D + 1) M3) (fun r32 M33 => tv_cb (Bo_answerAnew F (Bo_give F nn) q 0 (D + 1) M33) (fun r34 M35 => some (r32 + r34, M35)))) else some (0, M)) := rfl
theorem bo_23 {q : Nat} {D : Int32} : Bo_give F (nn + 1) q 23 D M = tv_gl q 3 (if D ≤ 40 then tv_cb (Bo_leaveTrace F 23 M) (fun _ M3 => tv_cb (Bo_give F nn q 20 (D + 1) M3) (fun r37 M38 => some (r37 + 1000, M38))) else some (0, M)) := rfl
/-- the trace with several bodies more -/
def tr_s (Tr : Nat → Nat → Nat) : List Nat → Nat → Nat → Nat
  | [] => Tr
  | b :: l => tr_s (tr_p Tr b) l
theorem gB_s {l : List Nat} : ∀ {Tr : Nat → Nat → Nat}, gB Tr → gB (tr_s Tr l) := by
  induction l with
  | nil => intro Tr h; exact h
  | cons b l ih => intro Tr h; exact ih (gB_p h)
/-- o answers v, and leaves l in the trace -/
def bv (o : Option (Int32 × tv_M)) (M : tv_M) (Tr : Nat → Nat → Nat) (v : Int32) (l : List Nat) : Prop := ∃ M', o = some (v, M') ∧ cB M' (tr_s Tr l) ∧ fo 247 249 M M'
/-- what an ask reads -/
def bI (M : tv_M) (p : Nat) (T R : Nat → Nat → Nat) (Q : Nat → Nat) : Prop := cT M p T ∧ cR M T R ∧ cQ M T Q
theorem bI.fo {M M' : tv_M} (hT : gT p T) (h : bI M p T R Q) (hf : fo 247 249 M M') : bI M' p T R Q := ⟨h.1.fo hT hf (by omega), h.2.1.cg hT (fun a i q1 q2 _ => hf a i (by omega)), h.2.2.cg hT (fun a q1 q2 => hf a 4 (by omega))⟩
theorem bo_lv {b : Nat} {B : Int32} (hB : B = nI b) (hg : gB Tr) (cb : cB M Tr) : ∃ M', Bo_leaveTrace F B M = some ((), M') ∧ cB M' (tr_p Tr b) ∧ fo 247 249 M M' := by
  subst hB; exact bo_leave hg cb
theorem bo_d {d : Nat} (hd : d ≤ 40) : nI d ≤ 40 := nI_le (b := 40) hd (by omega)
theorem bv10 (hT : gT p T) (he : e < tE T) (hg : gB Tr) (hI : bI M p T R Q) (cb : cB M Tr) (hd : d ≤ 40) : bv (Bo_give F (nn + 1) (22 + 2 * e) 10 (nI d) M) M Tr (nI (tsz T e)) [10] := by
  have h8 := hT.1
  obtain ⟨p1, p2, p3, p4⟩ := tp_eyP e (by omega)
  obtain ⟨M', h1, h2, h3⟩ := bo_lv (F := F) (B := 10) (b := 10) rfl hg cb
  rw [bo_10, tp_gl p3, if_pos (bo_d hd), tp_cb h1, ((hI.fo hT h3).1.2.2.2.2.2.2.2.1 e he).2.1]
  exact ⟨M', rfl, h2, h3⟩
theorem bv20 (hT : gT p T) (he : e < tE T) (hg : gB Tr) (hI : bI M p T R Q) (cb : cB M Tr) (hd : d ≤ 40) : bv (Bo_give F (nn + 1) (22 + 2 * e) 20 (nI d) M) M Tr (nI e) [20] := by
  have h8 := hT.1
  obtain ⟨p1, p2, p3, p4⟩ := tp_eyP e (by omega)
  obtain ⟨M', h1, h2, h3⟩ := bo_lv (F := F) (B := 20) (b := 20) rfl hg cb
  rw [bo_20, tp_gl p3, if_pos (bo_d hd), tp_cb h1, (hI.fo hT h3).1.2.2.2.2.2.2.1 e (by omega)]
  exact ⟨M', rfl, h2, h3⟩
theorem bv11 (hF : 60 < F) (hT : gT p T) (he : e < tE T) (hg : gB Tr) (hI : bI M p T R Q) (cb : cB M Tr) (hd : d < 40) : bv (Bo_give F (nn + 2) (22 + 2 * e) 11 (nI d) M) M Tr (nI (tsz T e + tie_of T e)) [11, 10] := by
  have h8 := hT.1
  obtain ⟨p1, p2, p3, p4⟩ := tp_eyP e (by omega)
  obtain ⟨M1, h1, h2, h3⟩ := bo_lv (F := F) (B := 11) (b := 11) rfl hg cb
  obtain ⟨M2, h4, h5, h6⟩ := bv10 (F := F) (nn := nn) (d := d + 1) hT he (gB_p hg) (hI.fo hT h3) h2 (by omega)
  have hI2 := (hI.fo hT h3).fo hT h6
  rw [bo_11, tp_gl p3, if_pos (bo_d (by omega)), tp_cb h1, nI_1, tp_cb h4, hI2.1.2.2.2.2.2.2.1 e (by omega), tp_cb (to_ties hF hT hI2.1 (by omega)), nI_add]
  exact ⟨M2, rfl, h5, h3.tr h6⟩
theorem bv12 (hF : 60 < F) (hT : gT p T) (he : e < tE T) (hg : gB Tr) (hI : bI M p T R Q) (cb : cB M Tr) (hd : d < 39) : bv (Bo_give F (nn + 3) (22 + 2 * e) 12 (nI d) M) M Tr (nI ((tsz T e + tie_of T e) * p)) [12, 11, 10] := by
  have h8 := hT.1
  obtain ⟨p1, p2, p3, p4⟩ := tp_eyP e (by omega)
  obtain ⟨M1, h1, h2, h3⟩ := bo_lv (F := F) (B := 12) (b := 12) rfl hg cb
  obtain ⟨M2, h4, h5, h6⟩ := bv11 (F := F) (nn := nn) (d := d + 1) hF hT he (gB_p hg) (hI.fo hT h3) h2 (by omega)
  have hI2 := (hI.fo hT h3).fo hT h6
  rw [bo_12, tp_gl p3, if_pos (bo_d (by omega)), tp_cb h1, nI_1, tp_cb h4, hI2.1.1, nI_mul]
  exact ⟨M2, rfl, h5, h3.tr h6⟩
theorem bv14 (hT : gT p T) (hQ : gQ T Q) (he : e < tE T) (hs : tso T e = 3) (hg : gB Tr) (hI : bI M p T R Q) (cb : cB M Tr) (hd : d < 40) : bv (Bo_give F (nn + 2) (22 + 2 * e) 14 (nI d) M) M Tr (nI (tsz T e + pc (Q e))) [14, 10] := by
  have h8 := hT.1
  obtain ⟨p1, p2, p3, p4⟩ := tp_eyP e (by omega)
  obtain ⟨M1, h1, h2, h3⟩ := bo_lv (F := F) (B := 14) (b := 14) rfl hg cb
  obtain ⟨M2, h4, h5, h6⟩ := bv10 (F := F) (nn := nn) (d := d + 1) hT he (gB_p hg) (hI.fo hT h3) h2 (by omega)
  have hI2 := (hI.fo hT h3).fo hT h6
  have hq : Q e < 256 := Nat.lt_of_lt_of_le (hQ e he hs) (Nat.le_trans (Nat.pow_le_pow_right (n := 2) (by omega) (hT.2.2.2.2.2.1 e he).2.2.1) (by decide))
  rw [bo_14, tp_gl p3, if_pos (bo_d (by omega)), tp_cb h1, nI_1, tp_cb h4, hI2.2.2 e he hs, tp_cb (jv_bits hq), nI_add]
  exact ⟨M2, rfl, h5, h3.tr h6⟩
theorem bv21 (hT : gT p T) (hR : gR p T R) (he : e < tE T) (hg : gB Tr) (hI : bI M p T R Q) (cb : cB M Tr) (hd : d < 40) : bv (Bo_give F (nn + 2) (22 + 2 * e) 21 (nI d) M) M Tr (nI (e + 100 * R 0 e)) [21, 20] := by
  have h8 := hT.1
  obtain ⟨p1, p2, p3, p4⟩ := tp_eyP e (by omega)
  obtain ⟨M1, h1, h2, h3⟩ := bo_lv (F := F) (B := 21) (b := 21) rfl hg cb
  obtain ⟨M2, h4, h5, h6⟩ := bv20 (F := F) (nn := nn) (d := d + 1) hT he (gB_p hg) (hI.fo hT h3) h2 (by omega)
  have hI2 := (hI.fo hT h3).fo hT h6
  rw [bo_21, tp_gl p3, if_pos (bo_d (by omega)), tp_cb h1, nI_1, tp_cb h4, (hI2.2.1 e he).1]
  have : R 0 e = 0 ∨ R 0 e = 1 := by have := (hR.1 e he).1; omega
  rcases this with w | w
  · rw [w, if_pos (show nI 0 = 0 from rfl), show ∀ x : Int32, x + 0 = x from Int32.add_zero]
    exact ⟨M2, rfl, h5, h3.tr h6⟩
  · rw [w, if_neg (show ¬ nI 1 = 0 by decide), show nI e + 100 = nI (e + 100) from nI_add e 100]
    exact ⟨M2, rfl, h5, h3.tr h6⟩
theorem bv23 (hT : gT p T) (he : e < tE T) (hg : gB Tr) (hI : bI M p T R Q) (cb : cB M Tr) (hd : d < 40) : bv (Bo_give F (nn + 2) (22 + 2 * e) 23 (nI d) M) M Tr (nI (e + 1000)) [23, 20] := by
  have h8 := hT.1
  obtain ⟨p1, p2, p3, p4⟩ := tp_eyP e (by omega)
  obtain ⟨M1, h1, h2, h3⟩ := bo_lv (F := F) (B := 23) (b := 23) rfl hg cb
  obtain ⟨M2, h4, h5, h6⟩ := bv20 (F := F) (nn := nn) (d := d + 1) hT he (gB_p hg) (hI.fo hT h3) h2 (by omega)
  rw [bo_23, tp_gl p3, if_pos (bo_d (by omega)), tp_cb h1, nI_1, tp_cb h4, show nI e + 1000 = nI (e + 1000) from nI_add e 1000]
  exact ⟨M2, rfl, h5, h3.tr h6⟩
def bo_b (s w : Nat) : Nat := if w = 0 then 11 + s else if s = 0 then 21 else if s = 1 then 22 else if s = 2 then 21 else 23
theorem bo_for {s w : Nat} (hF : 60 < F) (hs : s ≤ 3) (hw : w ≤ 1) : Bo_bodyFor F (nI (s + 1)) (nI w) M = some (nI (bo_b s w), M) := by
  obtain ⟨F, rfl⟩ : ∃ F', F = F' + 10 := ⟨F - 10, by omega⟩
  have h1 : s = 0 ∨ s = 1 ∨ s = 2 ∨ s = 3 := by omega
  have h2 : w = 0 ∨ w = 1 := by omega
  rcases h1 with rfl | rfl | rfl | rfl <;> rcases h2 with rfl | rfl <;> rfl
theorem bo_anew {w : Nat} {W B v : Int32} {l : List Nat} {g : Nat → Int32 → Int32 → tv_M → Option (Int32 × tv_M)} (hF : 60 < F) (hT : gT p T) (he : e < tE T) (hI : bI M p T R Q) (hw : w ≤ 1) (hW : W = nI w) (hB : B = nI (bo_b (tso T e) w)) (h : bv (g (22 + 2 * e) B (nI (d + 1)) M) M Tr v l) : bv (Bo_answerAnew F g (22 + 2 * e) W (nI d) M) M Tr v l := by
  have h8 := hT.1
  obtain ⟨p1, p2, p3, p4⟩ := tp_eyP e (by omega)
  obtain ⟨M', h1, h2, h3⟩ := h
  subst hW; subst hB
  unfold Bo_answerAnew
  rw [tp_gl p3, tp_cb (bo_kind hT hI.1 he), tp_cb (bo_for hF (hT.2.2.2.2.2.1 e he).1 hw), nI_1, tp_cb h1]
  exact ⟨M', rfl, h2, h3⟩
theorem bv13 (hF : 60 < F) (hT : gT p T) (hR : gR p T R) (he : e < tE T) (hs : tso T e = 2) (hg : gB Tr) (hI : bI M p T R Q) (cb : cB M Tr) (hd : d < 38) : bv (Bo_give F (nn + 3) (22 + 2 * e) 13 (nI d) M) M Tr (nI (tsz T e + tie_of T e) - nI (e + 100 * R 0 e)) [13, 11, 10, 21, 20] := by
  have h8 := hT.1
  obtain ⟨p1, p2, p3, p4⟩ := tp_eyP e (by omega)
  obtain ⟨M1, h1, h2, h3⟩ := bo_lv (F := F) (B := 13) (b := 13) rfl hg cb
  have hI1 := hI.fo hT h3
  obtain ⟨M2, h4, h5, h6⟩ := bv11 (F := F) (nn := nn) (d := d + 1) hF hT he (gB_p hg) hI1 h2 (by omega)
  have hI2 := hI1.fo hT h6
  obtain ⟨M3, h7, h8', h9⟩ := bo_anew (F := F) (w := 1) (W := 1) (B := 21) (d := d + 1) hF hT he hI2 (by omega) rfl (by rw [hs]; rfl) (bv21 (F := F) (nn := nn) (d := d + 1 + 1) hT hR he (gB_s (l := [13, 11, 10]) hg) hI2 h5 (by omega))
  rw [bo_13, tp_gl p3, if_pos (bo_d (by omega)), tp_cb h1, nI_1, tp_cb h4, tp_cb h7]
  exact ⟨M3, rfl, h8', (h3.tr h6).tr h9⟩
theorem bv22 (hF : 60 < F) (hT : gT p T) (hR : gR p T R) (he : e < tE T) (hs : tso T e = 1) (hg : gB Tr) (hI : bI M p T R Q) (cb : cB M Tr) (hd : d < 36) : bv (Bo_give F (nn + 4) (22 + 2 * e) 22 (nI d) M) M Tr (nI (e + 100 * R 0 e + (tsz T e + tie_of T e) * p)) [22, 21, 20, 12, 11, 10] := by
  have h8 := hT.1
  obtain ⟨p1, p2, p3, p4⟩ := tp_eyP e (by omega)
  obtain ⟨M1, h1, h2, h3⟩ := bo_lv (F := F) (B := 22) (b := 22) rfl hg cb
  have hI1 := hI.fo hT h3
  obtain ⟨M2, h4, h5, h6⟩ := bv21 (F := F) (nn := nn + 1) (d := d + 1) hT hR he (gB_p hg) hI1 h2 (by omega)
  have hI2 := hI1.fo hT h6
  obtain ⟨M3, h7, h8', h9⟩ := bo_anew (F := F) (w := 0) (W := 0) (B := 12) (d := d + 1) hF hT he hI2 (by omega) rfl (by rw [hs]; rfl) (bv12 (F := F) (nn := nn) (d := d + 1 + 1) hF hT he (gB_s (l := [22, 21, 20]) hg) hI2 h5 (by omega))
  rw [bo_22, tp_gl p3, if_pos (bo_d (by omega)), tp_cb h1, nI_1, tp_cb h4, tp_cb h7, nI_add]
  exact ⟨M3, rfl, h8', (h3.tr h6).tr h9⟩
/-- what an ask answers, and what it leaves -/
def ak_v (p : Nat) (T R : Nat → Nat → Nat) (Q : Nat → Nat) (e w : Nat) : Int32 :=
  if w = 0 then (if tso T e = 0 then nI (tsz T e + tie_of T e) else if tso T e = 1 then nI ((tsz T e + tie_of T e) * p) else if tso T e = 2 then nI (tsz T e + tie_of T e) - nI (e + 100 * R 0 e) else nI (tsz T e + pc (Q e)))
  else (if tso T e = 1 then nI (e + 100 * R 0 e + (tsz T e + tie_of T e) * p) else if tso T e = 3 then nI (e + 1000) else nI (e + 100 * R 0 e))
def ak_l (T : Nat → Nat → Nat) (e w : Nat) : List Nat :=
  if w = 0 then (if tso T e = 0 then [11, 10] else if tso T e = 1 then [12, 11, 10] else if tso T e = 2 then [13, 11, 10, 21, 20] else [14, 10])
  else (if tso T e = 1 then [22, 21, 20, 12, 11, 10] else if tso T e = 3 then [23, 20] else [21, 20])
def tr_0 : Nat → Nat → Nat := fun _ _ => 0
theorem bo_answer {w : Nat} (hF : 60 < F) (hT : gT p T) (hR : gR p T R) (hQ : gQ T Q) (he : e < tE T) (hw : w ≤ 1) (hI : bI M p T R Q) : bv (Bo_answer F (22 + 2 * e) (nI w) M) M tr_0 (ak_v p T R Q e w) (ak_l T e w) := by
  have h8 := hT.1
  obtain ⟨p1, p2, p3, p4⟩ := tp_eyP e (by omega)
  unfold Bo_answer
  rw [tp_gl p3, tp_pf]
  have f0 : fo 247 249 M (tv_w M 247 2 0) := fo.rf.w (by omega) (by omega)
  have hI0 := hI.fo hT f0
  have cb : cB (tv_w M 247 2 0) tr_0 := ⟨rfl, fun i hi => absurd hi (Nat.not_lt_zero i)⟩
  have hg : gB tr_0 := Nat.zero_le _
  generalize tv_w M 247 2 0 = M0 at f0 hI0 cb
  have hs := (hT.2.2.2.2.2.1 e he).1
  have key : bv (Bo_answerAnew F (Bo_give F 50) (22 + 2 * e) (nI w) (nI 0) M0) M0 tr_0 (ak_v p T R Q e w) (ak_l T e w) := by
    have h1 : tso T e = 0 ∨ tso T e = 1 ∨ tso T e = 2 ∨ tso T e = 3 := by omega
    have h2 : w = 0 ∨ w = 1 := by omega
    unfold ak_v ak_l
    rcases h2 with rfl | rfl
    · rcases h1 with k | k | k | k
      · simp only [k, if_true]
        exact bo_anew (B := 11) hF hT he hI0 (by omega) rfl (by rw [k]; rfl) (bv11 (nn := 48) hF hT he hg hI0 cb (by omega))
      · simp only [k, if_true, show ¬ (1 : Nat) = 0 by omega, if_false]
        exact bo_anew (B := 12) hF hT he hI0 (by omega) rfl (by rw [k]; rfl) (bv12 (nn := 47) hF hT he hg hI0 cb (by omega))
      · simp only [k, if_true, show ¬ (2 : Nat) = 0 by omega, show ¬ (2 : Nat) = 1 by omega, if_false]
        exact bo_anew (B := 13) hF hT he hI0 (by omega) rfl (by rw [k]; rfl) (bv13 (nn := 47) hF hT hR he k hg hI0 cb (by omega))
      · simp only [k, if_true, show ¬ (3 : Nat) = 0 by omega, show ¬ (3 : Nat) = 1 by omega, show ¬ (3 : Nat) = 2 by omega, if_false]
        exact bo_anew (B := 14) hF hT he hI0 (by omega) rfl (by rw [k]; rfl) (bv14 (nn := 48) hT hQ he k hg hI0 cb (by omega))
    · rcases h1 with k | k | k | k
      · simp only [k, show ¬ (1 : Nat) = 0 by omega, show ¬ (0 : Nat) = 1 by omega, show ¬ (0 : Nat) = 3 by omega, if_false]
        exact bo_anew (B := 21) hF hT he hI0 (by omega) rfl (by rw [k]; rfl) (bv21 (nn := 48) hT hR he hg hI0 cb (by omega))
      · simp only [k, if_true, show ¬ (1 : Nat) = 0 by omega, if_false]
        exact bo_anew (B := 22) hF hT he hI0 (by omega) rfl (by rw [k]; rfl) (bv22 (nn := 46) hF hT hR he k hg hI0 cb (by omega))
      · simp only [k, show ¬ (1 : Nat) = 0 by omega, show ¬ (2 : Nat) = 1 by omega, show ¬ (2 : Nat) = 3 by omega, if_false]
        exact bo_anew (B := 21) hF hT he hI0 (by omega) rfl (by rw [k]; rfl) (bv21 (nn := 48) hT hR he hg hI0 cb (by omega))
      · simp only [k, if_true, show ¬ (1 : Nat) = 0 by omega, show ¬ (3 : Nat) = 1 by omega, if_false]
        exact bo_anew (B := 23) hF hT he hI0 (by omega) rfl (by rw [k]; rfl) (bv23 (nn := 48) hT he hg hI0 cb (by omega))
  obtain ⟨M', h1, h2, h3⟩ := key
  have h1 : Bo_answerAnew F (Bo_give F 50) (22 + 2 * e) (nI w) 0 M0 = _ := h1
  rw [tp_cb h1]
  exact ⟨M', rfl, h2, f0.tr h3⟩
/-! the reference -/
def mv (o : Option (Int32 × tv_M)) (N : tv_M) (Tr : Nat → Nat → Nat) (v : Int32) (l : List Nat) : Prop := ∃ N', o = some (v, N') ∧ mB N' (tr_s Tr l) ∧ f54 N N'
def bJ (N : tv_M) (p : Nat) (T R : Nat → Nat → Nat) (Q : Nat → Nat) : Prop := mT N p T ∧ mR N T R ∧ mQ N T Q
theorem bJ.f54 {N N' : tv_M} (h : bJ N p T R Q) (hf : f54 N N') : bJ N' p T R Q := ⟨h.1.f54 hf, h.2.1.cg (fun a i q1 q2 => hf a i (by omega) (by omega)), h.2.2.cg (fun i => hf 265 i (by omega) (by omega))⟩
theorem md_lv {b : Nat} {B : Int32} (hB : B = nI b) (hg : gB Tr) (h : mB N Tr) : ∃ N', Md_began F B N = some ((), N') ∧ mB N' (tr_p Tr b) ∧ f54 N N' := by
  subst hB; exact md_began hg h
theorem mv_lin (hF : 60 < F) (hT : gT p T) (he : e < tE T) (hg : gB Tr) (hI : bJ N p T R Q) (cb : mB N Tr) : mv (Md_linearSize F (nI e) N) N Tr (nI (tsz T e + tie_of T e)) [11, 10] := by
  have h8 := hT.1
  obtain ⟨N1, h1, h2, h3⟩ := md_lv (F := F) (B := 11) (b := 11) rfl hg cb
  obtain ⟨N2, h4, h5, h6⟩ := md_lv (F := F) (B := 10) (b := 10) rfl (gB_p hg) h2
  have hI2 := (hI.f54 h3).f54 h6
  unfold Md_linearSize
  rw [tp_cb h1, tp_cb h4, tp_rd (by omega) (by decide), (hI2.1.2.2.2.2.2.1 e he).2.1, tp_cb (md_ties hF hT hI2.1 (by omega)), nI_add]
  exact ⟨N2, rfl, h5, h3.tr h6⟩
theorem mv_mod (hF : 60 < F) (hT : gT p T) (he : e < tE T) (hg : gB Tr) (hI : bJ N p T R Q) (cb : mB N Tr) : mv (Md_modSize F (nI e) N) N Tr (nI ((tsz T e + tie_of T e) * p)) [12, 11, 10] := by
  obtain ⟨N1, h1, h2, h3⟩ := md_lv (F := F) (B := 12) (b := 12) rfl hg cb
  obtain ⟨N2, h4, h5, h6⟩ := mv_lin (F := F) hF hT he (gB_p hg) (hI.f54 h3) h2
  have hI2 := (hI.f54 h3).f54 h6
  unfold Md_modSize
  rw [tp_cb h1, tp_cb h4, hI2.1.1, nI_mul]
  exact ⟨N2, rfl, h5, h3.tr h6⟩
theorem mv_mark (hF : 60 < F) (hT : gT p T) (hR : gR p T R) (he : e < tE T) (hg : gB Tr) (hI : bJ N p T R Q) (cb : mB N Tr) : mv (Md_markOf F (nI e) N) N Tr (ak_v p T R Q e 1) (ak_l T e 1) := by
  have h8 := hT.1
  have hs := (hT.2.2.2.2.2.1 e he).1
  have hr : R 0 e = 0 ∨ R 0 e = 1 := by have := (hR.1 e he).1; omega
  unfold Md_markOf ak_v ak_l
  rw [tp_cb (md_kind hT hI.1 he)]
  have h1 : tso T e = 0 ∨ tso T e = 1 ∨ tso T e = 2 ∨ tso T e = 3 := by omega
  have lin : ∀ (N : tv_M) (Tr : Nat → Nat → Nat) (k : Int32), gB Tr → bJ N p T R Q → mB N Tr → ¬ k = 4 → ∃ N', Md_markOf_L30 F (nI e) k 21 N = Md_markOf_L69 F (nI e) k (nI (e + 100 * R 0 e)) N' ∧ mB N' (tr_s Tr [21, 20]) ∧ f54 N N' := by
    intro N Tr k hg hI cb hk
    obtain ⟨N1, h1, h2, h3⟩ := md_lv (F := F) (B := 21) (b := 21) rfl hg cb
    obtain ⟨N2, h4, h5, h6⟩ := md_lv (F := F) (B := 20) (b := 20) rfl (gB_p hg) h2
    have hI2 := (hI.f54 h3).f54 h6
    refine ⟨N2, ?_, h5, h3.tr h6⟩
    unfold Md_markOf_L30
    rw [tp_cb h1, tp_cb h4, if_neg hk, tp_rd (by omega) (by decide), (hI2.2.1 e he).1]
    rcases hr with w | w
    · rw [w, if_pos (show nI 0 = 0 from rfl)]; rfl
    · rw [w, if_neg (show ¬ nI 1 = 0 by decide), show nI e + 100 = nI (e + 100) from nI_add e 100]
  rcases h1 with k | k | k | k
  · rw [k, if_neg (show ¬ nI (0 + 1) = 2 by decide), if_neg (show ¬ nI (0 + 1) = 4 by decide)]
    simp only [show ¬ (1 : Nat) = 0 by omega, show ¬ (0 : Nat) = 1 by omega, show ¬ (0 : Nat) = 3 by omega, if_false]
    obtain ⟨N2, h4, h5, h6⟩ := lin N Tr (nI (0 + 1)) hg hI cb (by decide)
    rw [h4]
    exact ⟨N2, rfl, h5, h6⟩
  · rw [k, if_pos (show nI (1 + 1) = 2 by decide)]
    obtain ⟨N1, h1, h2, h3⟩ := md_lv (F := F) (B := 22) (b := 22) rfl hg cb
    rw [tp_cb h1, if_neg (show ¬ nI (1 + 1) = 4 by decide)]
    simp only [show ¬ (1 : Nat) = 0 by omega, if_true, if_false]
    obtain ⟨N2, h4, h5, h6⟩ := lin N1 _ (nI (1 + 1)) (gB_p hg) (hI.f54 h3) h2 (by decide)
    rw [h4]
    obtain ⟨N3, h7, h8', h9⟩ := mv_mod (F := F) hF hT he (gB_s (l := [22, 21, 20]) hg) ((hI.f54 h3).f54 h6) h5
    unfold Md_markOf_L69
    rw [if_pos (show nI (1 + 1) = 2 by decide), tp_cb h7, nI_add]
    exact ⟨N3, rfl, h8', (h3.tr h6).tr h9⟩
  · rw [k, if_neg (show ¬ nI (2 + 1) = 2 by decide), if_neg (show ¬ nI (2 + 1) = 4 by decide)]
    simp only [show ¬ (1 : Nat) = 0 by omega, show ¬ (2 : Nat) = 1 by omega, show ¬ (2 : Nat) = 3 by omega, if_false]
    obtain ⟨N2, h4, h5, h6⟩ := lin N Tr (nI (2 + 1)) hg hI cb (by decide)
    rw [h4]
    exact ⟨N2, rfl, h5, h6⟩
  · rw [k, if_neg (show ¬ nI (3 + 1) = 2 by decide), if_pos (show nI (3 + 1) = 4 by decide)]
    simp only [show ¬ (1 : Nat) = 0 by omega, show ¬ (3 : Nat) = 1 by omega, if_true, if_false]
    obtain ⟨N1, h1, h2, h3⟩ := md_lv (F := F) (B := 23) (b := 23) rfl hg cb
    obtain ⟨N2, h4, h5, h6⟩ := md_lv (F := F) (B := 20) (b := 20) rfl (gB_p hg) h2
    unfold Md_markOf_L30
    rw [tp_cb h1, tp_cb h4, if_pos (show nI (3 + 1) = 4 by decide), show nI e + 1000 = nI (e + 1000) from nI_add e 1000]
    exact ⟨N2, rfl, h5, h3.tr h6⟩
theorem mv_size (hF : 60 < F) (hT : gT p T) (hR : gR p T R) (hQ : gQ T Q) (he : e < tE T) (hg : gB Tr) (hI : bJ N p T R Q) (cb : mB N Tr) : mv (Md_sizeOf F (nI e) N) N Tr (ak_v p T R Q e 0) (ak_l T e 0) := by
  have h8 := hT.1
  have hs := (hT.2.2.2.2.2.1 e he).1
  unfold Md_sizeOf ak_v ak_l
  rw [tp_cb (md_kind hT hI.1 he)]
  have h1 : tso T e = 0 ∨ tso T e = 1 ∨ tso T e = 2 ∨ tso T e = 3 := by omega
  rcases h1 with k | k | k | k
  · rw [k, if_neg (show ¬ nI (0 + 1) = 2 by decide), if_neg (show ¬ nI (0 + 1) = 4 by decide), if_neg (show ¬ nI (0 + 1) = 3 by decide)]
    simp only [if_true]
    obtain ⟨N1, h1, h2, h3⟩ := mv_lin (F := F) hF hT he hg hI cb
    unfold Md_sizeOf_L62
    rw [tp_cb h1, if_neg (show ¬ nI (0 + 1) = 3 by decide)]
    exact ⟨N1, rfl, h2, h3⟩
  · rw [k, if_pos (show nI (1 + 1) = 2 by decide)]
    simp only [show ¬ (1 : Nat) = 0 by omega, if_true, if_false]
    obtain ⟨N1, h1, h2, h3⟩ := mv_mod (F := F) hF hT he hg hI cb
    rw [tp_cb h1]
    exact ⟨N1, rfl, h2, h3⟩
  · rw [k, if_neg (show ¬ nI (2 + 1) = 2 by decide), if_neg (show ¬ nI (2 + 1) = 4 by decide), if_pos (show nI (2 + 1) = 3 by decide)]
    simp only [show ¬ (2 : Nat) = 0 by omega, show ¬ (2 : Nat) = 1 by omega, if_true, if_false]
    obtain ⟨N1, h1, h2, h3⟩ := md_lv (F := F) (B := 13) (b := 13) rfl hg cb
    rw [tp_cb h1]
    obtain ⟨N2, h4, h5, h6⟩ := mv_lin (F := F) hF hT he (gB_p hg) (hI.f54 h3) h2
    obtain ⟨N3, h7, h8', h9⟩ := mv_mark (F := F) hF hT hR he (gB_s (l := [13, 11, 10]) hg) ((hI.f54 h3).f54 h6) h5
    unfold ak_v at h7
    unfold ak_l at h8'
    simp only [k, show ¬ (1 : Nat) = 0 by omega, show ¬ (2 : Nat) = 1 by omega, show ¬ (2 : Nat) = 3 by omega, if_false] at h7 h8'
    unfold Md_sizeOf_L62
    rw [tp_cb h4, if_pos (show nI (2 + 1) = 3 by decide), tp_cb h7]
    exact ⟨N3, rfl, h8', (h3.tr h6).tr h9⟩
  · rw [if_neg (show ¬ nI (tso T e + 1) = 2 by rw [k]; decide), if_pos (show nI (tso T e + 1) = 4 by rw [k]; decide)]
    obtain ⟨N1, h1, h2, h3⟩ := md_lv (F := F) (B := 14) (b := 14) rfl hg cb
    obtain ⟨N2, h4, h5, h6⟩ := md_lv (F := F) (B := 10) (b := 10) rfl (gB_p hg) h2
    have hI2 := (hI.f54 h3).f54 h6
    have hq : Q e < 256 := Nat.lt_of_lt_of_le (hQ e he k) (Nat.le_trans (Nat.pow_le_pow_right (n := 2) (by omega) (hT.2.2.2.2.2.1 e he).2.2.1) (by decide))
    rw [tp_cb h1, tp_cb h4, tp_rd (by omega) (by decide), (hI2.1.2.2.2.2.2.1 e he).2.1, tp_rd (by omega) (by decide), hI2.2.2 e he k, tp_cb (md_bits hF hq), nI_add]
    simp only [k, show ¬ (3 : Nat) = 0 by omega, show ¬ (3 : Nat) = 1 by omega, show ¬ (3 : Nat) = 2 by omega, if_true, if_false]
    exact ⟨N2, rfl, h5, h3.tr h6⟩
theorem op_ask (hF : 60 < F) (hT : gT p T) (hR : gR p T R) (hQ : gQ T Q) (hg : gB Tr) (hI : bI M p T R Q) (cb : cB M Tr) (hJ : bJ N p T R Q) (mb : mB N Tr) : ∃ (r : Int32) (Tr' : Nat → Nat → Nat), gB Tr' ∧ tq (Xx_ask F a b M) (fun q M' => q = r ∧ cB M' Tr' ∧ fo 247 249 M M') ∧ tq (Md_ask F a b N) (fun q N' => q = r ∧ mB N' Tr' ∧ ∀ a i, ¬ (a = 249 ∧ (i = 0 ∨ i = 54)) → a ≠ 280 → N'.1 a i = N.1 a i) := by
  have h8 := hT.1
  have hJ' : bJ (tv_w N 249 0 0) p T R Q := ⟨hJ.1.w0, hJ.2.1.w0, hJ.2.2.w0⟩
  have hsame : Xx_ask F a b M = some (-1000001, M) → Md_ask F a b N = some (-1000001, tv_w N 249 0 0) → ∃ (r : Int32) (Tr' : Nat → Nat → Nat), gB Tr' ∧ tq (Xx_ask F a b M) (fun q M' => q = r ∧ cB M' Tr' ∧ fo 247 249 M M') ∧ tq (Md_ask F a b N) (fun q N' => q = r ∧ mB N' Tr' ∧ ∀ a i, ¬ (a = 249 ∧ (i = 0 ∨ i = 54)) → a ≠ 280 → N'.1 a i = N.1 a i) := fun h1 h2 => ⟨_, Tr, hg, tq_eq h1 ⟨rfl, cb, fo.rf⟩, tq_eq h2 ⟨rfl, ⟨by rw [tp_wj (by omega)]; exact mb.1, fun i hi => by rw [tp_wk (by omega)]; exact mb.2 i hi⟩, fun a i q1 q2 => by rw [tp_w, if_neg (by omega)]⟩⟩
  rcases tp_ix a (n := tE T) (by omega) with h | ⟨e, he, rfl⟩
  · refine hsame ?_ ?_
    · unfold Xx_ask; rw [tp_cb (to_eye_out hI.1 h), tp_nln]
    · unfold Md_ask; rw [tp_pf, tp_cb (md_eye_out hT hJ'.1 h), if_pos rfl]
  obtain ⟨p1, p2, p3, p4⟩ := tp_eyP e (by omega)
  rcases tp_ix b (n := 2) (by decide) with h | ⟨w, hw, rfl⟩
  · refine hsame ?_ ?_
    · have hne : ∀ k, k < 2 → ¬ b = nI k := fun k hk w => by
        subst w
        rcases h with h | h
        · exact nI_pos (by omega) h
        · exact nI_ge hk (by decide) h
      unfold Xx_ask; rw [tp_cb (to_eye hT hI.1 he), tp_nls, tp_gl p3, if_neg (show ¬ b = 0 from hne 0 (by omega)), if_neg (show ¬ b = 1 from hne 1 (by omega))]
    · unfold Md_ask; rw [tp_pf, tp_cb (md_eye hT hJ'.1 he), if_neg (show ¬ (1 : Int32) = 0 by decide), tp_cb (md_in_out h (by decide) (by decide)), if_pos rfl]
  obtain ⟨M', x1, x2, x3⟩ := bo_answer (F := F) hF hT hR hQ he (show w ≤ 1 by omega) hI
  have f0 : f54 (tv_w N 249 0 0) (tv_w (tv_w N 249 0 0) 249 54 0) := fun a i q1 q2 => by rw [tp_w (M := tv_w N 249 0 0), if_neg q1]
  have hJ2 := hJ'.f54 f0
  have cb0 : mB (tv_w (tv_w N 249 0 0) 249 54 0) tr_0 := ⟨rfl, fun i hi => absurd hi (Nat.not_lt_zero i)⟩
  have hy : ∃ N', Md_ask F (nI e) (nI w) N = some (ak_v p T R Q e w, N') ∧ mB N' (tr_s tr_0 (ak_l T e w)) ∧ f54 (tv_w N 249 0 0) N' := by
    unfold Md_ask
    rw [tp_pf, tp_cb (md_eye hT hJ'.1 he), if_neg (show ¬ (1 : Int32) = 0 by decide), tp_cb (md_in_in hw (by decide) (by decide)), if_neg (show ¬ (1 : Int32) = 0 by decide), tp_pf]
    have h2 : w = 0 ∨ w = 1 := by omega
    rcases h2 with rfl | rfl
    · obtain ⟨N', y1, y2, y3⟩ := mv_size (F := F) (Tr := tr_0) hF hT hR hQ he (Nat.zero_le _) hJ2 cb0
      rw [if_pos (show nI 0 = 0 from rfl), tp_cb y1]
      exact ⟨N', rfl, y2, f0.tr y3⟩
    · obtain ⟨N', y1, y2, y3⟩ := mv_mark (F := F) (Tr := tr_0) hF hT hR he (Nat.zero_le _) hJ2 cb0
      rw [if_neg (show ¬ nI 1 = 0 by decide), tp_cb y1]
      exact ⟨N', rfl, y2, f0.tr y3⟩
  obtain ⟨N', y1, y2, y3⟩ := hy
  refine ⟨ak_v p T R Q e w, tr_s tr_0 (ak_l T e w), gB_s (Nat.zero_le _), ?_, tq_eq y1 ⟨rfl, y2, fun a i q1 q2 => by rw [y3 a i (by omega) q2, tp_w, if_neg (by omega)]⟩⟩
  unfold Xx_ask
  rw [tp_cb (to_eye hT hI.1 he), tp_nls, tp_gl p3]
  have h2 : w = 0 ∨ w = 1 := by omega
  rcases h2 with rfl | rfl
  · rw [if_pos (show nI 0 = 0 from rfl), tp_cb x1]; exact tq_some ⟨rfl, x2, x3⟩
  · rw [if_neg (show ¬ nI 1 = 0 by decide), if_pos (show nI 1 = 1 from rfl), tp_cb x1]; exact tq_some ⟨rfl, x2, x3⟩
end ASK2
