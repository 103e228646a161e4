/-! THE MEMORY: ints and longs by cell and place; the references between the cells never change once all is made: tv_P0 -/
abbrev tv_M : Type := (Nat → Nat → Int32) × (Nat → Nat → Int64)
def tv_w (M : tv_M) (k j : Nat) (x : Int32) : tv_M := (fun a i => if a = k ∧ i = j then x else M.1 a i, M.2)
def tv_wl (M : tv_M) (k j : Nat) (x : Int64) : tv_M := (M.1, fun a i => if a = k ∧ i = j then x else M.2 a i)
/-- a stretch of a row written -/
def tv_wc (M : tv_M) (k : Nat) (f : Nat → Int32) : tv_M := (fun a i => if a = k then f i else M.1 a i, M.2)
def tv_re (b : Nat) (r : Option Nat) : Value := va_rf (r.map (fun x => b + x))
def tv_ob (b ci N : Nat) (I : Nat → Nat → Int32) (P : Nat → Nat → Option Nat) (k : Nat) : List Value := (List.range N).map (fun j => if (tv_rf.getD ci []).getD j false then tv_re b (P k j) else .int (I k j))
def tv_E (b : Nat) (cA : Nat → ClassId) (I : Nat → Nat → Int32) (J : Nat → Nat → Int64) (P : Nat → Nat → Option Nat) (k : Nat) (q : Nat × Nat) : va_E :=
  if q.1 < 13 then .inr (q.1, tv_ob b q.1 (tv_nf.getD q.1 0) I P k)
  else if q.1 < 23 then .inl (cA (q.1 - 20), q.2, .inl (I k))
  else if q.1 = 23 then .inl (cA 3, q.2, .inr (.inl (J k)))
  else .inl (cA (q.1 - 20), q.2, .inr (.inr (.inr (.inr (fun j => (P k j).map (fun x => b + x))))))
def tv_ws (b : Nat) (cA : Nat → ClassId) (n : Nat) (I : Nat → Nat → Int32) (J : Nat → Nat → Int64) (P : Nat → Nat → Option Nat) : va_W := (List.range n).map (fun k => (b + k, tv_E b cA I J P k (tv_lay.getD k (99, 0))))
def tv_tys (cA : Nat → ClassId) : List (ClassId × FieldType) := [(cA 0, .int), (cA 1, .byte), (cA 2, .boolean), (cA 3, .long), (cA 4, .object "TiedViews$Sheet"), (cA 5, .object "TiedViews$Eye"), (cA 6, .object "TiedViews$Tie"), (cA 7, .array .int)]
section TVW
variable {b n k m ci : Nat} {cA : Nat → ClassId} {I I' : Nat → Nat → Int32} {J J' : Nat → Nat → Int64} {P P' : Nat → Nat → Option Nat}
theorem tv_get {q : Nat × Nat} (hk : k < n) (hq : tv_lay[k]? = some q) : (tv_ws b cA n I J P)[k]? = some (b + k, tv_E b cA I J P k q) := by
  unfold tv_ws
  rw [List.getElem?_map, List.getElem?_range hk]
  simp [List.getD_eq_getElem?_getD, hq]
theorem tv_len : (tv_ws b cA n I J P).length = n := by simp [tv_ws]
theorem tv_ws_at {i : Nat} {q : Nat × va_E} (h : (tv_ws b cA n I J P)[i]? = some q) : i < n ∧ q.1 = b + i := by
  have hl := (List.getElem?_eq_some_iff.mp h).1
  rw [tv_len] at hl
  unfold tv_ws at h
  rw [List.getElem?_map, List.getElem?_range hl] at h
  cases h
  exact ⟨hl, rfl⟩
def tv_A (b : Nat) : Nat → Prop := fun q => b ≤ q
theorem tv_D : va_D (tv_A b) (tv_ws b cA n I J P) := by
  refine ⟨fun i j x y hi hj hxy => ?_, fun i x hi => ?_⟩
  · have h1 := (tv_ws_at hi).2
    have h2 := (tv_ws_at hj).2
    omega
  · have h1 := (tv_ws_at hi).2
    rw [h1]
    exact Nat.le_add_right b i
theorem tv_E_eq (q : Nat × Nat) (h1 : I' k = I k) (h2 : J' k = J k) (h3 : P' k = P k) : tv_E b cA I' J' P' k q = tv_E b cA I J P k q := by
  unfold tv_E tv_ob
  simp only [h1, h2, h3]
theorem tv_set {q : Nat × Nat} {E : va_E} (hq : tv_lay[k]? = some q) (hE : tv_E b cA I' J' P' k q = E) (ho : ∀ a, a ≠ k → I' a = I a ∧ J' a = J a ∧ P' a = P a) : (tv_ws b cA n I J P).set k (b + k, E) = tv_ws b cA n I' J' P' := by
  apply List.ext_getElem?
  intro i
  by_cases hi : i < n
  · by_cases hik : i = k
    · subst hik
      rw [List.getElem?_set_self (by rw [tv_len]; exact hi), tv_get hi hq, hE]
    · rw [List.getElem?_set_ne (Ne.symm hik)]
      unfold tv_ws
      rw [List.getElem?_map, List.getElem?_map, List.getElem?_range hi]
      obtain ⟨h1, h2, h3⟩ := ho i hik
      simp only [Option.map_some]
      rw [tv_E_eq _ h1 h2 h3]
  · rw [List.getElem?_eq_none (by rw [List.length_set, tv_len]; omega), List.getElem?_eq_none (by rw [tv_len]; omega)]
theorem tv_E_ob (h : ci < 13) : tv_E b cA I J P k (ci, m) = .inr (ci, tv_ob b ci (tv_nf.getD ci 0) I P k) := by simp [tv_E, h]
theorem tv_E_i : tv_E b cA I J P k (20, m) = .inl (cA 0, m, .inl (I k)) := rfl
theorem tv_E_b : tv_E b cA I J P k (21, m) = .inl (cA 1, m, .inl (I k)) := rfl
theorem tv_E_z : tv_E b cA I J P k (22, m) = .inl (cA 2, m, .inl (I k)) := rfl
theorem tv_E_l : tv_E b cA I J P k (23, m) = .inl (cA 3, m, .inr (.inl (J k))) := rfl
theorem tv_E_q (t : Nat) : tv_E b cA I J P k (24 + t, m) = .inl (cA (4 + t), m, .inr (.inr (.inr (.inr (fun j => (P k j).map (fun x => b + x)))))) := by
  unfold tv_E
  rw [if_neg (by omega), if_neg (by omega), if_neg (by omega)]
  simp [show 24 + t - 20 = 4 + t by omega]
theorem tv_ob_i {j N : Nat} (hj : j < N) (hr : (tv_rf.getD ci []).getD j false = false) : (tv_ob b ci N I P k)[j]? = some (.int (I k j)) := by
  unfold tv_ob
  rw [List.getElem?_map, List.getElem?_range hj]
  simp only [Option.map_some, hr]
  rfl
theorem tv_ob_r {j N : Nat} (hj : j < N) (hr : (tv_rf.getD ci []).getD j false = true) : (tv_ob b ci N I P k)[j]? = some (tv_re b (P k j)) := by
  unfold tv_ob
  rw [List.getElem?_map, List.getElem?_range hj]
  simp only [Option.map_some, hr]
  rfl
theorem tv_ob_set {j N : Nat} {x : Int32} (hj : j < N) (hr : (tv_rf.getD ci []).getD j false = false) (h1 : ∀ i, i ≠ j → I' k i = I k i) (h2 : I' k j = x) : tv_ob b ci N I' P k = (tv_ob b ci N I P k).set j (.int x) := by
  apply List.ext_getElem?
  intro i
  by_cases hi : i < N
  · by_cases hij : i = j
    · subst hij
      rw [List.getElem?_set_self (by simp [tv_ob]; exact hi), tv_ob_i hi hr, h2]
    · rw [List.getElem?_set_ne (Ne.symm hij)]
      unfold tv_ob
      rw [List.getElem?_map, List.getElem?_map, List.getElem?_range hi]
      simp only [Option.map_some, h1 i hij]
  · rw [List.getElem?_eq_none (by simp [tv_ob]; omega), List.getElem?_eq_none (by simp [tv_ob]; omega)]
end TVW
theorem tv_w_ne {M : tv_M} {k j : Nat} {x : Int32} : ∀ a, a ≠ k → (tv_w M k j x).1 a = M.1 a ∧ (tv_w M k j x).2 a = M.2 a ∧ tv_P0 a = tv_P0 a := fun a h => ⟨funext fun i => by simp [tv_w, h], rfl, rfl⟩
theorem tv_w_row {M : tv_M} {k j : Nat} {x : Int32} : (tv_w M k j x).1 k = upd (M.1 k) j x := funext fun i => by simp [tv_w, upd]
theorem tv_wc_ne {M : tv_M} {k : Nat} {f : Nat → Int32} : ∀ a, a ≠ k → (tv_wc M k f).1 a = M.1 a ∧ (tv_wc M k f).2 a = M.2 a ∧ tv_P0 a = tv_P0 a := fun a h => ⟨funext fun i => by simp [tv_wc, h], rfl, rfl⟩
theorem tv_wc_row {M : tv_M} {k : Nat} {f : Nat → Int32} : (tv_wc M k f).1 k = f := funext fun i => by simp [tv_wc]
theorem tv_wl_ne {M : tv_M} {k j : Nat} {x : Int64} : ∀ a, a ≠ k → (tv_wl M k j x).1 a = M.1 a ∧ (tv_wl M k j x).2 a = M.2 a ∧ tv_P0 a = tv_P0 a := fun a h => ⟨rfl, funext fun i => by simp [tv_wl, h], rfl⟩
theorem tv_wl_row {M : tv_M} {k j : Nat} {x : Int64} : (tv_wl M k j x).2 k = vp_updL (M.2 k) j x := funext fun i => by simp [tv_wl, vp_updL]
/-! THE LOCALS, place by place -/
def tv_lo (sl : Array Slot) (nL : Nat) (ls : List (Option Value)) : Prop := sl.size = nL ∧ lv_wf sl ∧ ∀ (i : Nat) (v : Value), ls[i]? = some (some v) → sl[i]? = some (.val v)
def tv_as : Nat → List (Option Value) → List (Nat × Value)
  | _, [] => []
  | i, none :: r => tv_as (i + 1) r
  | i, some v :: r => (i, v) :: tv_as (i + 1) r
theorem tv_as_mem : ∀ (ls : List (Option Value)) (n : Nat) (q : Nat × Value), q ∈ tv_as n ls ↔ ∃ i, ls[i]? = some (some q.2) ∧ q.1 = n + i := by
  intro ls
  induction ls with
  | nil => intro n q; simp [tv_as]
  | cons a r ih =>
    intro n q
    cases a with
    | none =>
      rw [tv_as, ih (n + 1) q]
      constructor
      · rintro ⟨i, h1, h2⟩
        exact ⟨i + 1, by simpa using h1, by omega⟩
      · rintro ⟨i, h1, h2⟩
        cases i with
        | zero => simp at h1
        | succ i => exact ⟨i, by simpa using h1, by omega⟩
    | some v =>
      rw [tv_as, List.mem_cons, ih (n + 1) q]
      constructor
      · rintro (h | ⟨i, h1, h2⟩)
        · subst h
          exact ⟨0, by simp, by simp⟩
        · exact ⟨i + 1, by simpa using h1, by omega⟩
      · rintro ⟨i, h1, h2⟩
        cases i with
        | zero =>
          left
          simp at h1
          obtain ⟨a, w⟩ := q
          simp at h1 h2
          rw [h1, h2]
        | succ i => exact Or.inr ⟨i, by simpa using h1, by omega⟩
theorem tv_lo_has {sl : Array Slot} {nL : Nat} {ls : List (Option Value)} : tv_lo sl nL ls ↔ lv_has sl nL (tv_as 0 ls) := by
  constructor
  · rintro ⟨h1, h2, h3⟩
    refine ⟨h1, h2, fun q hq => ?_⟩
    obtain ⟨i, h4, h5⟩ := (tv_as_mem ls 0 q).mp hq
    rw [show q.1 = i by omega]
    exact h3 i q.2 h4
  · rintro ⟨h1, h2, h3⟩
    refine ⟨h1, h2, fun i v h => ?_⟩
    exact h3 (i, v) ((tv_as_mem ls 0 (i, v)).mpr ⟨i, h, by simp⟩)
def tv_clr (a : Option Value) : Option Value := match a with
  | some w => if w.category = 2 then none else some w
  | none => none
def tv_sto : List (Option Value) → Nat → Value → List (Option Value)
  | [], _, _ => []
  | _ :: r, 0, v => some v :: r
  | a :: r, 1, v => tv_clr a :: tv_sto r 0 v
  | a :: r, i + 2, v => a :: tv_sto r (i + 1) v
theorem tv_sto_at (v w : Value) : ∀ (ls : List (Option Value)) (i j : Nat), (tv_sto ls i v)[j]? = some (some w) → (j = i ∧ w = v) ∨ (j ≠ i ∧ ¬ (j + 1 = i ∧ w.category = 2) ∧ ls[j]? = some (some w))
  | [], i, j, h => by simp [tv_sto] at h
  | a :: r, 0, 0, h => by simp [tv_sto] at h; exact Or.inl ⟨rfl, h.symm⟩
  | a :: r, 0, j + 1, h => by simp [tv_sto] at h; exact Or.inr ⟨by omega, by omega, by simpa using h⟩
  | a :: r, 1, 0, h => by
    rw [tv_sto] at h
    simp only [List.getElem?_cons_zero, Option.some.injEq] at h
    refine Or.inr ⟨by omega, fun hc => ?_, ?_⟩
    · cases a with
      | none => simp [tv_clr] at h
      | some u =>
        by_cases hu : u.category = 2
        · simp [tv_clr, hu] at h
        · simp [tv_clr, hu] at h
          exact hu (h ▸ hc.2)
    · cases a with
      | none => simp [tv_clr] at h
      | some u =>
        by_cases hu : u.category = 2
        · simp [tv_clr, hu] at h
        · simp [tv_clr, hu] at h
          simp [h]
  | a :: r, 1, j + 1, h => by
    rw [tv_sto] at h
    rcases tv_sto_at v w r 0 j (by simpa using h) with ⟨h1, h2⟩ | ⟨h1, h2, h3⟩
    · exact Or.inl ⟨by omega, h2⟩
    · exact Or.inr ⟨by omega, by omega, by simpa using h3⟩
  | a :: r, i + 2, 0, h => by
    rw [tv_sto] at h
    exact Or.inr ⟨by omega, by omega, by simpa using h⟩
  | a :: r, i + 2, j + 1, h => by
    rw [tv_sto] at h
    rcases tv_sto_at v w r (i + 1) j (by simpa using h) with ⟨h1, h2⟩ | ⟨h1, h2, h3⟩
    · exact Or.inl ⟨by omega, h2⟩
    · exact Or.inr ⟨by omega, fun hc => h2 ⟨by omega, hc.2⟩, by simpa using h3⟩
theorem tv_store1 {sl : Array Slot} {nL : Nat} {ls : List (Option Value)} {i : Nat} {v : Value} (h : tv_lo sl nL ls) (hi : i < nL) (hc : v.category = 1) : ∃ sl', storeLocals sl i v = some sl' ∧ tv_lo sl' nL (tv_sto ls i v) := by
  obtain ⟨sl', h1, h2, h3, h4⟩ := lv_store1 (tv_lo_has.mp h) hi hc
  refine ⟨sl', h1, h2, h3, fun j w hw => ?_⟩
  rcases tv_sto_at v w ls i j hw with ⟨g1, g2⟩ | ⟨g1, g2, g3⟩
  · subst g1; subst g2
    exact h4 (j, w) List.mem_cons_self
  · refine h4 (j, w) (List.mem_cons_of_mem _ (List.mem_filter.mpr ⟨(tv_as_mem ls 0 (j, w)).mpr ⟨j, g3, by simp⟩, ?_⟩))
    simp only [Bool.and_eq_true, Bool.not_eq_true', beq_eq_false_iff_ne, Bool.and_eq_false_iff]
    refine ⟨g1, ?_⟩
    by_cases hj : j + 1 = i
    · right
      exact fun hc => g2 ⟨hj, hc⟩
    · left
      exact hj
/-- a long: its second half goes too -/
def tv_sto2 (ls : List (Option Value)) (i : Nat) (v : Value) : List (Option Value) := (tv_sto ls i v).set (i + 1) none
theorem tv_store2 {sl : Array Slot} {nL : Nat} {ls : List (Option Value)} {i : Nat} {v : Value} (h : tv_lo sl nL ls) (hi : i + 1 < nL) (hc : v.category = 2) : ∃ sl', storeLocals sl i v = some sl' ∧ tv_lo sl' nL (tv_sto2 ls i v) := by
  obtain ⟨sl', h1, h2, h3, h4⟩ := lv_store2 (tv_lo_has.mp h) hi hc
  refine ⟨sl', h1, h2, h3, fun j w hw => ?_⟩
  unfold tv_sto2 at hw
  have hj1 : j ≠ i + 1 := by
    intro e
    subst e
    rw [List.getElem?_set] at hw
    simp at hw
  rw [List.getElem?_set_ne (Ne.symm hj1)] at hw
  rcases tv_sto_at v w ls i j hw with ⟨g1, g2⟩ | ⟨g1, g2, g3⟩
  · subst g1; subst g2
    exact h4 (j, w) List.mem_cons_self
  · refine h4 (j, w) (List.mem_cons_of_mem _ (List.mem_filter.mpr ⟨(tv_as_mem ls 0 (j, w)).mpr ⟨j, g3, by simp⟩, ?_⟩))
    simp only [Bool.and_eq_true, Bool.not_eq_true', beq_eq_false_iff_ne, Bool.and_eq_false_iff]
    refine ⟨g1, hj1, ?_⟩
    by_cases hj : j + 1 = i
    · right
      exact fun hc => g2 ⟨hj, hc⟩
    · left
      exact hj
/-- fewer known locals -/
def tv_mask : List Bool → List (Option Value) → List (Option Value)
  | [], _ => []
  | _, [] => []
  | true :: m, a :: r => a :: tv_mask m r
  | false :: m, _ :: r => none :: tv_mask m r
theorem tv_mask_at (w : Value) : ∀ (m : List Bool) (ls : List (Option Value)) (j : Nat), (tv_mask m ls)[j]? = some (some w) → ls[j]? = some (some w)
  | [], ls, j, h => by simp [tv_mask] at h
  | true :: m, [], j, h => by simp [tv_mask] at h
  | false :: m, [], j, h => by simp [tv_mask] at h
  | true :: m, a :: r, 0, h => by simpa [tv_mask] using h
  | false :: m, a :: r, 0, h => by simp [tv_mask] at h
  | true :: m, a :: r, j + 1, h => by simpa using tv_mask_at w m r j (by simpa [tv_mask] using h)
  | false :: m, a :: r, j + 1, h => by simpa using tv_mask_at w m r j (by simpa [tv_mask] using h)
theorem tv_lo_mask {sl : Array Slot} {nL : Nat} {ls : List (Option Value)} (m : List Bool) (h : tv_lo sl nL ls) : tv_lo sl nL (tv_mask m ls) := ⟨h.1, h.2.1, fun i v hv => h.2.2 i v (tv_mask_at v m ls i hv)⟩
