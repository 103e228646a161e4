/-! KINDS AND BODIES -/
def gB (Tr : Nat → Nat → Nat) : Prop := Tr 0 0 ≤ 16
def cB (M : tv_M) (Tr : Nat → Nat → Nat) : Prop := M.1 247 2 = nI (Tr 0 0) ∧ ∀ i, i < Tr 0 0 → M.1 248 i = nI (Tr 1 i)
def mB (N : tv_M) (Tr : Nat → Nat → Nat) : Prop := N.1 249 54 = nI (Tr 0 0) ∧ ∀ i, i < Tr 0 0 → N.1 280 i = nI (Tr 1 i)
def tr_p (Tr : Nat → Nat → Nat) (b : Nat) : Nat → Nat → Nat := if 16 ≤ Tr 0 0 then Tr else fun t i => if t = 0 then (if i = 0 then Tr 0 0 + 1 else Tr 0 i) else if t = 1 ∧ i = Tr 0 0 then b else Tr t i
theorem gB_p {Tr : Nat → Nat → Nat} {b : Nat} (h : gB Tr) : gB (tr_p Tr b) := by
  unfold gB tr_p
  by_cases q : 16 ≤ Tr 0 0
  · rw [if_pos q]; exact h
  · rw [if_neg q]; show Tr 0 0 + 1 ≤ 16; omega
def f54 (N N' : tv_M) : Prop := ∀ a i, ¬ (a = 249 ∧ i = 54) → a ≠ 280 → N'.1 a i = N.1 a i
theorem f54.tr {N N' N'' : tv_M} (h : f54 N N') (g : f54 N' N'') : f54 N N'' := fun a i q1 q2 => (g a i q1 q2).trans (h a i q1 q2)
theorem mT.f54 {N N' : tv_M} {p : Nat} {T : Nat → Nat → Nat} (h : mT N p T) (hf : f54 N N') : mT N' p T := h.cg (fun a i q => hf a i (by rcases q with q | q <;> omega) (by rcases q with q | q <;> omega))
theorem bo_leave {F b : Nat} {M : tv_M} {Tr : Nat → Nat → Nat} (hg : gB Tr) (h : cB M Tr) : ∃ M', Bo_leaveTrace F (nI b) M = some ((), M') ∧ cB M' (tr_p Tr b) ∧ fo 247 249 M M' := by
  unfold gB at hg
  unfold Bo_leaveTrace tr_p
  rw [h.1]
  by_cases q : 16 ≤ Tr 0 0
  · rw [if_pos (show (16 : Int32) ≤ nI (Tr 0 0) from nI_le (a := 16) q (by omega)), if_pos q]
    exact ⟨M, rfl, h, fo.rf⟩
  · rw [if_neg (show ¬ (16 : Int32) ≤ nI (Tr 0 0) from nI_ge (b := 16) (by omega) (by omega)), if_neg q, tp_wr (by omega) (by decide), tp_pf, tp_wk (by omega), h.1, nI_1]
    refine ⟨_, rfl, ⟨tp_ws, fun i hi => ?_⟩, (fo.rf.w (by omega) (by omega)).w (by omega) (by omega)⟩
    have hi : i < Tr 0 0 + 1 := hi
    rw [tp_wk (by omega), tp_w]
    show _ = nI (if 1 = 0 then _ else if 1 = 1 ∧ i = Tr 0 0 then b else Tr 1 i)
    rw [if_neg (show ¬ 1 = 0 by omega)]
    by_cases e : i = Tr 0 0
    · rw [if_pos ⟨rfl, e⟩, if_pos ⟨rfl, e⟩]
    · rw [if_neg (fun w => e w.2), if_neg (fun w => e w.2)]; exact h.2 i (by omega)
theorem md_began {F b : Nat} {N : tv_M} {Tr : Nat → Nat → Nat} (hg : gB Tr) (h : mB N Tr) : ∃ N', Md_began F (nI b) N = some ((), N') ∧ mB N' (tr_p Tr b) ∧ f54 N N' := by
  unfold gB at hg
  unfold Md_began tr_p
  rw [h.1]
  by_cases q : 16 ≤ Tr 0 0
  · rw [if_pos (show (16 : Int32) ≤ nI (Tr 0 0) from nI_le (a := 16) q (by omega)), if_pos q]
    exact ⟨N, rfl, h, fun _ _ _ _ => rfl⟩
  · rw [if_neg (show ¬ (16 : Int32) ≤ nI (Tr 0 0) from nI_ge (b := 16) (by omega) (by omega)), if_neg q, tp_wr (by omega) (by decide), tp_pf, tp_wk (by omega), h.1, nI_1]
    refine ⟨_, rfl, ⟨tp_ws, fun i hi => ?_⟩, fun a i q1 q2 => by rw [tp_w, if_neg q1, tp_wk q2]⟩
    have hi : i < Tr 0 0 + 1 := hi
    rw [tp_wk (by omega), tp_w]
    show _ = nI (if 1 = 0 then _ else if 1 = 1 ∧ i = Tr 0 0 then b else Tr 1 i)
    rw [if_neg (show ¬ 1 = 0 by omega)]
    by_cases e : i = Tr 0 0
    · rw [if_pos ⟨rfl, e⟩, if_pos ⟨rfl, e⟩]
    · rw [if_neg (fun w => e w.2), if_neg (fun w => e w.2)]; exact h.2 i (by omega)
section BODIES
variable {F p : Nat} {a b c : Int32} {M N : tv_M} {T R Tr : Nat → Nat → Nat} {Q : Nat → Nat} {Z : Nat → Nat}
theorem bo_kind {e : Nat} (hT : gT p T) (h : cT M p T) (he : e < tE T) : Bo_kindOf F (22 + 2 * e) M = some (nI (tso T e + 1), M) := by
  have h8 := hT.1
  obtain ⟨p1, p2, p3, p4⟩ := tp_eyP e (by omega)
  have g1 := (hT.2.2.2.2.2.1 e he).1
  unfold Bo_kindOf
  rw [tp_gl p3, (h.2.2.2.2.2.2.2.1 e he).1]
  have : tso T e = 0 ∨ tso T e = 1 ∨ tso T e = 2 ∨ tso T e = 3 := by omega
  rcases this with w | w | w | w <;> rw [w] <;> rfl
theorem md_kind {e : Nat} (hT : gT p T) (h : mT N p T) (he : e < tE T) : Md_kindOf F (nI e) N = some (nI (tso T e + 1), N) := by
  have h8 := hT.1
  have g1 := (hT.2.2.2.2.2.1 e he).1
  unfold Md_kindOf
  rw [tp_rd (by omega) (by decide), tp_rd (by omega) (by decide), tp_rd (by omega) (by decide), (h.2.2.2.2.2.1 e he).1]
  have : tso T e = 0 ∨ tso T e = 1 ∨ tso T e = 2 ∨ tso T e = 3 := by omega
  rcases this with w | w | w | w <;> rw [w] <;> rfl
theorem op_kind (hT : gT p T) (cc : cT M p T) (mc : mT N p T) : ∃ r, Xx_kind F a M = some (r, M) ∧ Md_kind F a N = some (r, tv_w N 249 0 0) := by
  have h8 := hT.1
  have mc' := mc.w0
  unfold Xx_kind Md_kind
  rw [tp_pf]
  rcases tp_ix a (n := tE T) (by omega) with h | ⟨e, he, rfl⟩
  · exact ⟨-1000001, by rw [tp_cb (to_eye_out cc h), tp_nln], by rw [tp_cb (md_eye_out hT mc' h), if_pos rfl]⟩
  · obtain ⟨p1, p2, p3, p4⟩ := tp_eyP e (by omega)
    exact ⟨_, by rw [tp_cb (to_eye hT cc he), tp_nls, tp_gl p3, tp_cb (bo_kind hT cc he)], by rw [tp_cb (md_eye hT mc' he), if_neg (show ¬ (1 : Int32) = 0 by decide), tp_cb (md_kind hT mc' he)]⟩
/-- is of a kind -/
def kd_of (s k : Nat) : Bool := k == 0 || s + 1 == k || (k == 1 && (s == 1 || s == 2))
theorem bo_isL {s k : Nat} (hs : s ≤ 3) (hk : k ≤ 4) (hF : 60 < F) : Bo_isOfKind_L7 F F (nI k) (nI (s + 1)) 0 M = some (if kd_of s k then 1 else 0, M) := by
  obtain ⟨F, rfl⟩ : ∃ F', F = F' + 10 := ⟨F - 10, by omega⟩
  have h1 : s = 0 ∨ s = 1 ∨ s = 2 ∨ s = 3 := by omega
  have h2 : k = 0 ∨ k = 1 ∨ k = 2 ∨ k = 3 ∨ k = 4 := by omega
  rcases h1 with rfl | rfl | rfl | rfl <;> rcases h2 with rfl | rfl | rfl | rfl | rfl <;> rfl
theorem md_isOf {s k : Nat} (hs : s ≤ 3) (hk : k ≤ 4) : Md_isOf F (nI (s + 1)) (nI k) N = some (if kd_of s k then 1 else 0, N) := by
  have h1 : s = 0 ∨ s = 1 ∨ s = 2 ∨ s = 3 := by omega
  have h2 : k = 0 ∨ k = 1 ∨ k = 2 ∨ k = 3 ∨ k = 4 := by omega
  rcases h1 with rfl | rfl | rfl | rfl <;> rcases h2 with rfl | rfl | rfl | rfl | rfl <;> rfl
/-- what a call that writes a finding may change -/
theorem op_as (hF : 60 < F) (hT : gT p T) (cc : cT M p T) (cz : cZ M p Z) (hZ : Z 0 ≤ 5) (mc : mT N p T) (mz : mZ N Z) : ∃ (r : Int32) (Z' : Nat → Nat), Z' 0 ≤ 5 ∧ Z' 1 = Z 1 ∧ tq (Xx_as F a b M) (fun q M' => q = r ∧ cZ M' p Z' ∧ fo 0 1 M M') ∧ tq (Md_as F a b N) (fun q N' => q = r ∧ mZ N' Z' ∧ f01 N N') := by
  have h8 := hT.1
  have mc' := mc.w0
  have hsame : ∀ r : Int32, Xx_as F a b M = some (r, M) → Md_as F a b N = some (r, tv_w N 249 0 0) → ∃ (r : Int32) (Z' : Nat → Nat), Z' 0 ≤ 5 ∧ Z' 1 = Z 1 ∧ tq (Xx_as F a b M) (fun q M' => q = r ∧ cZ M' p Z' ∧ fo 0 1 M M') ∧ tq (Md_as F a b N) (fun q N' => q = r ∧ mZ N' Z' ∧ f01 N N') := fun r h1 h2 => ⟨r, Z, hZ, rfl, tq_eq h1 ⟨rfl, cz, fo.rf⟩, tq_eq h2 ⟨rfl, ⟨by rw [tp_wj (by omega)]; exact mz.1, by rw [tp_wj (by omega)]; exact mz.2⟩, f01.rf.w (Or.inl rfl)⟩⟩
  rcases tp_ix a (n := tE T) (by omega) with h | ⟨e, he, rfl⟩
  · refine hsame (-1000001) ?_ ?_
    · unfold Xx_as; rw [tp_cb (to_eye_out cc h), tp_nln]
    · unfold Md_as; rw [tp_pf, tp_cb (md_eye_out hT mc' h), if_pos rfl]
  obtain ⟨p1, p2, p3, p4⟩ := tp_eyP e (by omega)
  have g1 := (hT.2.2.2.2.2.1 e he).1
  rcases tp_ix b (n := 5) (by decide) with h | ⟨k, hk, rfl⟩
  · refine hsame (-1000001) ?_ ?_
    · unfold Xx_as; rw [tp_cb (to_eye hT cc he), tp_nls, tp_gl p3]
      by_cases q : b < 0
      · rw [if_pos q]
      · rw [if_neg q, if_neg]
        intro w
        have h := h.resolve_left q
        rw [tp_le, nI_toInt (by decide)] at h
        rw [tp_le, show (4 : Int32).toInt = 4 from rfl] at w
        omega
    · unfold Md_as; rw [tp_pf, tp_cb (md_eye hT mc' he), if_neg (show ¬ (1 : Int32) = 0 by decide), tp_cb (md_in_out h (by decide) (by decide)), if_pos rfl]
  have mc'' : mT (tv_w (tv_w N 249 0 0) 249 1 0) p T := mc'.cg (fun a i q => by rw [tp_w, if_neg (by rcases q with q | q <;> omega)])
  have ex : Xx_as F (nI e) (nI k) M = if kd_of (tso T e) k then some (nI (tsz T e), tv_w M 0 9 0) else some (-1000010 - 3, tv_w M 0 9 3) := by
    unfold Xx_as
    rw [tp_cb (to_eye hT cc he), tp_nls, tp_gl p3, if_neg (nI_pos (by omega)), if_pos (show nI k ≤ 4 from nI_le (b := 4) (by omega) (by omega))]
    have eo : Bo_isOfKind F (22 + 2 * e) (nI k) M = some (if kd_of (tso T e) k then 1 else 0, M) := by
      unfold Bo_isOfKind
      rw [tp_gl p3, tp_cb (bo_kind hT cc he)]
      exact bo_isL g1 (by omega) hF
    rw [tp_cb eo]
    by_cases q : kd_of (tso T e) k = true
    · rw [if_pos q, if_pos q, if_neg (show ¬ (1 : Int32) = 0 by decide), (cc.2.2.2.2.2.2.2.1 e he).2.1]; rfl
    · rw [if_neg q, if_neg q, if_pos rfl]; rfl
  have ey : Md_as F (nI e) (nI k) N = if kd_of (tso T e) k then some (nI (tsz T e), tv_w (tv_w N 249 0 0) 249 1 0) else some (-1000010 - 3, tv_w (tv_w (tv_w N 249 0 0) 249 1 0) 249 1 3) := by
    unfold Md_as
    rw [tp_pf, tp_cb (md_eye hT mc' he), if_neg (show ¬ (1 : Int32) = 0 by decide), tp_cb (md_in_in hk (by decide) (by decide)), if_neg (show ¬ (1 : Int32) = 0 by decide), tp_pf, tp_cb (md_kind hT mc'' he), tp_cb (md_isOf g1 (by omega))]
    by_cases q : kd_of (tso T e) k = true
    · rw [if_pos q, if_pos q, if_neg (show ¬ (1 : Int32) = 0 by decide), tp_rd (by omega) (by decide), (mc''.2.2.2.2.2.1 e he).2.1]
    · rw [if_neg q, if_neg q, if_pos rfl]; rfl
  by_cases q : kd_of (tso T e) k = true
  · rw [if_pos q] at ex ey
    exact ⟨_, fun i => if i = 0 then 0 else Z i, Nat.zero_le _, rfl, tq_eq ex ⟨rfl, ⟨by rw [tp_wj (by omega)]; exact cz.1, rfl⟩, fo.rf.w (by omega) (by omega)⟩, tq_eq ey ⟨rfl, ⟨rfl, by rw [tp_wj (by omega), tp_wj (by omega)]; exact mz.2⟩, (f01.rf.w (Or.inl rfl)).w (Or.inr rfl)⟩⟩
  · rw [if_neg q] at ex ey
    exact ⟨_, fun i => if i = 0 then 3 else Z i, (by show 3 ≤ 5; omega), rfl, tq_eq ex ⟨rfl, ⟨by rw [tp_wj (by omega)]; exact cz.1, rfl⟩, fo.rf.w (by omega) (by omega)⟩, tq_eq ey ⟨rfl, ⟨rfl, by rw [tp_wj (by omega), tp_wj (by omega), tp_wj (by omega)]; exact mz.2⟩, ((f01.rf.w (Or.inl rfl)).w (Or.inr rfl)).w (Or.inr rfl)⟩⟩
theorem op_trace (hg : gB Tr) (cb : cB M Tr) (mb : mB N Tr) : ∃ r, Xx_trace F a M = some (r, M) ∧ Md_trace F a N = some (r, tv_w N 249 0 0) := by
  unfold gB at hg
  have mb' : (tv_w N 249 0 0).1 249 54 = nI (Tr 0 0) := by rw [tp_wj (by omega)]; exact mb.1
  unfold Xx_trace Md_trace
  rw [tp_pf, mb']
  rcases tp_ix a (n := Tr 0 0) (by omega) with h | ⟨i, hi, rfl⟩
  · refine ⟨-1000000, ?_, by rw [tp_cb (md_in_out h (by omega) rfl), if_pos rfl]⟩
    have : Bo_traceNumber F a M = some (-1000000, M) := by
      unfold Bo_traceNumber
      by_cases q : a < 0
      · rw [if_pos q]
      · rw [if_neg q, cb.1, if_neg (Int32.not_lt.mpr (h.resolve_left q))]
    rw [tp_cb this]
  · refine ⟨nI (Tr 1 i), ?_, by rw [tp_cb (md_in_in hi (by omega) rfl), if_neg (show ¬ (1 : Int32) = 0 by decide), tp_rd (by omega) (by decide), tp_wk (by omega), mb.2 i hi]⟩
    have : Bo_traceNumber F (nI i) M = some (nI (Tr 1 i), M) := by
      unfold Bo_traceNumber
      rw [if_neg (nI_pos (by omega)), cb.1, if_pos (nI_lt hi (by omega)), tp_rd (by omega) (by decide), cb.2 i hi]
    rw [tp_cb this]
end BODIES
