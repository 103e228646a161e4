/-! THE FIRST MEMORY -/
def st_B0 : tb_M := (fun _ _ => 0, fun _ _ => 0, fun _ _ => none, 0)
def st_pr (x : Int32) : Int32 := if x = 2 then 2 else if x = 3 then 3 else if x = 5 then 5 else 7
def st_I (p : Int32) (k j : Nat) : Int32 :=
  if j = 0 ∧ (k = 0 ∨ k = 18 ∨ k = 71 ∨ k = 106) then p
  else if k = 249 ∧ j = 2 then p
  else if k = 71 ∧ j = 1 then 30
  else if k = 106 ∧ j = 1 then 1
  else if j = 0 ∧ 2 ≤ k ∧ k < 18 ∧ k % 2 = 0 then -1
  else if (k = 195 ∨ k = 250) ∧ j < 8 then -1
  else if j = 0 ∧ 22 ≤ k ∧ k < 38 ∧ k % 2 = 0 then Int32.ofNat ((k - 22) / 2)
  else 0
def st_all : Nat → (Nat → Bool) → Bool
  | 0, _ => true
  | n + 1, f => f n && st_all n f
theorem st_allP : ∀ {n : Nat} {f : Nat → Bool}, st_all n f = true → ∀ k, k < n → f k = true := by
  intro n
  induction n with
  | zero => intro f _ k hk; omega
  | succ n ih =>
    intro f h k hk
    rw [st_all, Bool.and_eq_true] at h
    by_cases e : k = n
    · subst e; exact h.1
    · exact ih h.2 k (by omega)
/-- the same within the bounds of the cell k -/
def st_eqc (A B : tb_M) (k : Nat) : Bool :=
  if (tv_lay.getD k (99, 0)).1 < 13 then st_all (tv_nf.getD (tv_lay.getD k (99, 0)).1 0) (fun j => if (tv_rf.getD (tv_lay.getD k (99, 0)).1 []).getD j false then decide (A.2.2.1 k j = B.2.2.1 k j) else decide (A.1 k j = B.1 k j))
  else if (tv_lay.getD k (99, 0)).1 < 23 then st_all (tv_lay.getD k (99, 0)).2 (fun j => decide (A.1 k j = B.1 k j))
  else if (tv_lay.getD k (99, 0)).1 = 23 then st_all (tv_lay.getD k (99, 0)).2 (fun j => decide (A.2.1 k j = B.2.1 k j))
  else st_all (tv_lay.getD k (99, 0)).2 (fun j => decide (A.2.2.1 k j = B.2.2.1 k j))
theorem arrV_congr {c : ClassId} {N : Nat} {f g : Nat → Value} (h : ∀ j, j < N → f j = g j) : arrV c N f = arrV c N g := by
  unfold arrV
  have : (fun j : Fin N => f j.val) = fun j : Fin N => g j.val := funext fun j => h j.val j.isLt
  rw [this]
theorem st_at {D : va_G} {A B : tb_M} {b k : Nat} {cA : Nat → ClassId} {H : Heap} (he : st_eqc A B k = true) (h : va_at D tv_cl (b + k, tv_E b cA A.1 A.2.1 A.2.2.1 k (tv_lay.getD k (99, 0))) H) : va_at D tv_cl (b + k, tv_E b cA B.1 B.2.1 B.2.2.1 k (tv_lay.getD k (99, 0))) H := by
  unfold st_eqc at he
  generalize tv_lay.getD k (99, 0) = q at he h ⊢
  obtain ⟨c, N⟩ := q
  by_cases h1 : c < 13
  · rw [if_pos h1] at he
    have e : tv_E b cA A.1 A.2.1 A.2.2.1 k (c, N) = tv_E b cA B.1 B.2.1 B.2.2.1 k (c, N) := by
      rw [tv_E_ob h1, tv_E_ob h1]
      refine congrArg (fun l => Sum.inr (c, l)) ?_
      unfold tv_ob
      refine List.map_congr_left fun j hj => ?_
      have hj := List.mem_range.mp hj
      have := st_allP he j hj
      by_cases hr : (tv_rf.getD c []).getD j false = true
      · rw [if_pos hr] at this ⊢
        rw [if_pos hr, of_decide_eq_true this]
      · rw [if_neg hr] at this ⊢
        rw [if_neg hr, of_decide_eq_true this]
    rw [← e]
    exact h
  · rw [if_neg h1] at he
    by_cases h2 : c < 23
    · rw [if_pos h2] at he
      have e : ∀ C : tb_M, tv_E b cA C.1 C.2.1 C.2.2.1 k (c, N) = .inl (cA (c - 20), N, .inl (C.1 k)) := fun C => by simp [tv_E, h1, h2]
      rw [e A] at h
      rw [e B]
      show H[b + k]? = some (vp_cell _ (N, .inl (B.1 k)))
      have h : H[b + k]? = some (vp_cell _ (N, .inl (A.1 k))) := h
      rw [h, vp_cell_i, vp_cell_i]
      exact congrArg some (arrV_congr fun j hj => congrArg Value.int (of_decide_eq_true (st_allP he j hj)))
    · rw [if_neg h2] at he
      by_cases h3 : c = 23
      · rw [if_pos h3] at he
        have e : ∀ C : tb_M, tv_E b cA C.1 C.2.1 C.2.2.1 k (c, N) = .inl (cA 3, N, .inr (.inl (C.2.1 k))) := fun C => by simp [tv_E, h3]
        rw [e A] at h
        rw [e B]
        show H[b + k]? = some (vp_cell _ (N, .inr (.inl (B.2.1 k))))
        have h : H[b + k]? = some (vp_cell _ (N, .inr (.inl (A.2.1 k)))) := h
        rw [h, vp_cell_l, vp_cell_l]
        exact congrArg some (arrV_congr fun j hj => congrArg Value.long (of_decide_eq_true (st_allP he j hj)))
      · rw [if_neg h3] at he
        have e : ∀ C : tb_M, tv_E b cA C.1 C.2.1 C.2.2.1 k (c, N) = .inl (cA (c - 20), N, .inr (.inr (.inr (.inr (fun j => (C.2.2.1 k j).map (fun x => b + x)))))) := fun C => by simp [tv_E, h1, h2, h3]
        rw [e A] at h
        rw [e B]
        show H[b + k]? = some (vp_cell _ (N, .inr (.inr (.inr (.inr (fun j => (B.2.2.1 k j).map (fun x => b + x)))))))
        have h : H[b + k]? = some (vp_cell _ (N, .inr (.inr (.inr (.inr (fun j => (A.2.2.1 k j).map (fun x => b + x))))))) := h
        rw [h, vp_cell_q, vp_cell_q]
        exact congrArg some (arrV_congr fun j hj => by
          show va_rf ((A.2.2.1 k j).map _) = va_rf ((B.2.2.1 k j).map _)
          rw [of_decide_eq_true (st_allP he j hj)])
theorem st_tbV {θ : tv_Th} {A B : tb_M} {H : Heap} (hn : A.n = B.n) (he : ∀ k, k < A.n → st_eqc A B k = true) (hz : ∀ k, B.n ≤ k → B.1 k = (fun _ => 0) ∧ B.2.1 k = (fun _ => 0) ∧ B.2.2.1 k = (fun _ => none)) (h : tb_V θ A H) : tb_V θ B H := by
  refine ⟨fun k q hq => ?_, hz⟩
  obtain ⟨hk, -⟩ := tv_ws_at hq
  have h1 : (tv_ws θ.1 θ.2.2.1 A.n A.1 A.2.1 A.2.2.1)[k]? = some (θ.1 + k, tv_E θ.1 θ.2.2.1 A.1 A.2.1 A.2.2.1 k (tv_lay.getD k (99, 0))) := by
    unfold tv_ws
    rw [List.getElem?_map, List.getElem?_range (by rw [hn]; exact hk)]
    rfl
  have h2 : (tv_ws θ.1 θ.2.2.1 B.n B.1 B.2.1 B.2.2.1)[k]? = some (θ.1 + k, tv_E θ.1 θ.2.2.1 B.1 B.2.1 B.2.2.1 k (tv_lay.getD k (99, 0))) := by
    unfold tv_ws
    rw [List.getElem?_map, List.getElem?_range hk]
    rfl
  rw [h2] at hq
  cases hq
  exact st_at (he k (by rw [hn]; exact hk)) (h.1 k _ h1)
def st_M1 (p : Int32) : tb_M := (fun k j => if k < 249 then st_I p k j else 0, fun _ _ => 0, fun k j => if k < 249 then tv_P0 k j else none, 249)
def st_M2 (p : Int32) : tb_M := (fun k j => if k < 281 then st_I p k j else 0, fun _ _ => 0, fun k j => if k < 281 then tv_P0 k j else none, 281)
def st_c1 (p : Int32) : Bool := match BXx_init 249 0 p (tb_up st_B0) with
  | none => false
  | some q => decide (q.2.2.2.2 = 249) && st_all 249 (fun k => st_eqc q.2 (st_M1 p) k)
def st_c2 (p : Int32) : Bool := match BMd_init 281 249 p (tb_up (st_M1 p)) with
  | none => false
  | some q => decide (q.2.2.2.2 = 281) && st_all 281 (fun k => st_eqc q.2 (st_M2 p) k)
theorem st_c1_2 : st_c1 2 = true := by decide +kernel
theorem st_c1_3 : st_c1 3 = true := by decide +kernel
theorem st_c1_5 : st_c1 5 = true := by decide +kernel
theorem st_c1_7 : st_c1 7 = true := by decide +kernel
theorem st_c2_2 : st_c2 2 = true := by decide +kernel
theorem st_c2_3 : st_c2 3 = true := by decide +kernel
theorem st_c2_5 : st_c2 5 = true := by decide +kernel
theorem st_c2_7 : st_c2 7 = true := by decide +kernel
theorem st_prE (x : Int32) : (x = 2 ∧ st_pr x = 2) ∨ (x = 3 ∧ st_pr x = 3) ∨ (x = 5 ∧ st_pr x = 5) ∨ (¬ x = 2 ∧ ¬ x = 3 ∧ ¬ x = 5 ∧ st_pr x = 7) := by
  unfold st_pr
  by_cases h2 : x = 2
  · exact Or.inl ⟨h2, by rw [if_pos h2]⟩
  · by_cases h3 : x = 3
    · exact Or.inr (Or.inl ⟨h3, by rw [if_neg h2, if_pos h3]⟩)
    · by_cases h5 : x = 5
      · exact Or.inr (Or.inr (Or.inl ⟨h5, by rw [if_neg h2, if_neg h3, if_pos h5]⟩))
      · exact Or.inr (Or.inr (Or.inr ⟨h2, h3, h5, by rw [if_neg h2, if_neg h3, if_neg h5]⟩))
theorem st_prime_c (p : Int32) (h : p = 2 ∨ p = 3 ∨ p = 5 ∨ p = 7) : st_c1 p = true ∧ st_c2 p = true := by
  rcases h with rfl | rfl | rfl | rfl
  · exact ⟨st_c1_2, st_c2_2⟩
  · exact ⟨st_c1_3, st_c2_3⟩
  · exact ⟨st_c1_5, st_c2_5⟩
  · exact ⟨st_c1_7, st_c2_7⟩
theorem st_pr4 (x : Int32) : st_pr x = 2 ∨ st_pr x = 3 ∨ st_pr x = 5 ∨ st_pr x = 7 := by
  rcases st_prE x with h | h | h | h
  · exact Or.inl h.2
  · exact Or.inr (Or.inl h.2)
  · exact Or.inr (Or.inr (Or.inl h.2))
  · exact Or.inr (Or.inr (Or.inr h.2.2.2))
theorem st_X7 (sz k : Nat) (x : Int32) (M : tb_M) : BXx_init sz k x M = BXx_init sz k (st_pr x) M := by
  rcases st_prE x with ⟨h, e⟩ | ⟨h, e⟩ | ⟨h, e⟩ | ⟨h2, h3, h5, e⟩
  · rw [e, h]
  · rw [e, h]
  · rw [e, h]
  · rw [e]
    have hp : ∀ (n : Nat) (M : tb_M), BXx_primeOr7 n x M = BXx_primeOr7 n 7 M := fun n M => by
      unfold BXx_primeOr7
      rw [if_neg h2, if_neg h3, if_neg h5]
      rfl
    unfold BXx_init
    simp only [hp]
theorem st_D7 (sz k : Nat) (x : Int32) (M : tb_M) : BMd_init sz k x M = BMd_init sz k (st_pr x) M := by
  rcases st_prE x with ⟨h, e⟩ | ⟨h, e⟩ | ⟨h, e⟩ | ⟨h2, h3, h5, e⟩
  · rw [e, h]
  · rw [e, h]
  · rw [e, h]
  · rw [e]
    unfold BMd_init
    simp only [if_neg h2, if_neg h3, if_neg h5, if_neg (show ¬ (7 : Int32) = 2 by decide), if_neg (show ¬ (7 : Int32) = 3 by decide), if_neg (show ¬ (7 : Int32) = 5 by decide)]
theorem st_1 (x : Int32) : ∃ M, BXx_init 249 0 x (tb_up st_B0) = some ((), M) ∧ M.n = 249 ∧ ∀ k, k < 249 → st_eqc M (st_M1 (st_pr x)) k = true := by
  rw [st_X7]
  have h := (st_prime_c _ (st_pr4 x)).1
  unfold st_c1 at h
  cases hb : BXx_init 249 0 (st_pr x) (tb_up st_B0) with
  | none => rw [hb] at h; cases h
  | some q =>
    rw [hb] at h
    have h := (Bool.and_eq_true _ _).mp h
    exact ⟨q.2, rfl, of_decide_eq_true h.1, fun k hk => st_allP h.2 k hk⟩
theorem st_2 (x : Int32) : ∃ M, BMd_init 281 249 x (tb_up (st_M1 (st_pr x))) = some ((), M) ∧ M.n = 281 ∧ ∀ k, k < 281 → st_eqc M (st_M2 (st_pr x)) k = true := by
  rw [st_D7]
  have h := (st_prime_c _ (st_pr4 x)).2
  unfold st_c2 at h
  cases hb : BMd_init 281 249 (st_pr x) (tb_up (st_M1 (st_pr x))) with
  | none => rw [hb] at h; cases h
  | some q =>
    rw [hb] at h
    have h := (Bool.and_eq_true _ _).mp h
    exact ⟨q.2, rfl, of_decide_eq_true h.1, fun k hk => st_allP h.2 k hk⟩
