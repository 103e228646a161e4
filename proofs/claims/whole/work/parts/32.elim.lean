/-! STEPS, as they are meant: rows, who leads, the leader of each column (n: none) -/
def el_findF (ok : Nat → Bool) : Nat → Nat → Nat
  | 0, l => l
  | m + 1, l => if ok l then l else el_findF ok m (l + 1)
def el_find (n : Nat) (ok : Nat → Bool) : Nat := el_findF ok n 0
theorem el_findF_P (ok : Nat → Bool) : ∀ m l, l ≤ el_findF ok m l ∧ el_findF ok m l ≤ l + m ∧ (∀ k, l ≤ k → k < el_findF ok m l → ok k = false) ∧ (el_findF ok m l < l + m → ok (el_findF ok m l) = true) := by
  intro m
  induction m with
  | zero =>
    intro l
    refine ⟨Nat.le_refl _, Nat.le_refl _, fun k h1 h2 => ?_, fun h => ?_⟩
    · have : k < l := h2
      omega
    · have : l < l + 0 := h
      omega
  | succ m ih =>
    intro l
    rw [el_findF]
    by_cases h : ok l = true
    · rw [if_pos h]
      exact ⟨Nat.le_refl _, by omega, fun k h1 h2 => by omega, fun _ => h⟩
    · rw [if_neg h]
      obtain ⟨h1, h2, h3, h4⟩ := ih (l + 1)
      refine ⟨by omega, by omega, fun k k1 k2 => ?_, fun q => h4 (by omega)⟩
      by_cases e : k = l
      · subst e; exact Bool.eq_false_iff.mpr h
      · exact h3 k (by omega) k2
theorem el_find_P (n : Nat) (ok : Nat → Bool) : el_find n ok ≤ n ∧ (∀ k, k < el_find n ok → ok k = false) ∧ (el_find n ok < n → ok (el_find n ok) = true) := by
  obtain ⟨h1, h2, h3, h4⟩ := el_findF_P ok n 0
  refine ⟨by unfold el_find; omega, fun k hk => h3 k (by omega) hk, fun h => h4 (by unfold el_find at h; omega)⟩
theorem el_find_at {n j : Nat} {ok : Nat → Bool} (h : ∀ k, k < j → ok k = false) (hj : j < n) (ho : ok j = true) : el_find n ok = j := by
  obtain ⟨h1, h2, h3⟩ := el_find_P n ok
  rcases Nat.lt_trichotomy (el_find n ok) j with q | q | q
  · have := h3 (by omega)
    rw [h _ q] at this
    exact Bool.noConfusion this
  · exact q
  · have := h2 j q
    rw [ho] at this
    exact Bool.noConfusion this
theorem el_find_no {n : Nat} {ok : Nat → Bool} (h : ∀ k, k < n → ok k = false) : el_find n ok = n := by
  obtain ⟨h1, h2, h3⟩ := el_find_P n ok
  rcases Nat.lt_or_ge (el_find n ok) n with q | q
  · have := h3 q
    rw [h _ q] at this
    exact Bool.noConfusion this
  · omega
theorem el_find_cg {n : Nat} {ok ok' : Nat → Bool} (h : ∀ k, k < n → ok k = ok' k) : el_find n ok = el_find n ok' := by
  obtain ⟨h1, h2, h3⟩ := el_find_P n ok'
  rcases Nat.lt_or_ge (el_find n ok') n with q | q
  · exact el_find_at (fun k hk => (h k (by omega)).trans (h2 k hk)) q ((h _ q).trans (h3 q))
  · have : el_find n ok' = n := by omega
    rw [this]
    exact el_find_no (fun k hk => (h k hk).trans (h2 k (by omega)))
abbrev el_S : Type := (Nat → Nat → Nat) × (Nat → Bool) × (Nat → Nat)
def el_ok (s : el_S) (c l : Nat) : Bool := !s.2.1 l && decide (s.1 l c ≠ 0)
def el_ld (n : Nat) (s : el_S) (c : Nat) : Nat := el_find n (el_ok s c)
def el_q (p : Nat) (R : Nat → Nat → Nat) (l c x : Nat) : Nat := R l x * tp_inv p (R l c) % p
def el_R (p : Nat) (R : Nat → Nat → Nat) (l c : Nat) : Nat → Nat → Nat := fun l' x => if l' = l then el_q p R l c x else (R l' x + (p - R l' c) * el_q p R l c x) % p
def el_step (p n c : Nat) (s : el_S) : el_S := if el_ld n s c < n then (el_R p s.1 (el_ld n s c) c, fun l => if l = el_ld n s c then true else s.2.1 l, fun c' => if c' = c then el_ld n s c else s.2.2 c') else (s.1, s.2.1, fun c' => if c' = c then n else s.2.2 c')
def el_run (p n : Nat) (A : Nat → Nat → Nat) : Nat → el_S
  | 0 => (A, fun _ => false, fun _ => n)
  | c + 1 => el_step p n c (el_run p n A c)
/-- how many of the columns below c are led -/
def el_rk (n : Nat) (ld : Nat → Nat) : Nat → Nat
  | 0 => 0
  | c + 1 => el_rk n ld c + if ld c < n then 1 else 0
theorem el_rk_le (n : Nat) (ld : Nat → Nat) : ∀ c, el_rk n ld c ≤ c := by
  intro c
  induction c with
  | zero => exact Nat.le_refl _
  | succ c ih =>
    rw [el_rk]
    by_cases h : ld c < n
    · rw [if_pos h]; omega
    · rw [if_neg h]; omega
theorem el_rk_mono (n : Nat) (ld : Nat → Nat) {a : Nat} : ∀ b, a ≤ b → el_rk n ld a ≤ el_rk n ld b ∧ el_rk n ld b - el_rk n ld a ≤ b - a := by
  intro b
  induction b with
  | zero =>
    intro h
    have : a = 0 := by omega
    subst this
    exact ⟨Nat.le_refl _, by omega⟩
  | succ b ih =>
    intro h
    by_cases e : a = b + 1
    · subst e; exact ⟨Nat.le_refl _, by omega⟩
    · obtain ⟨h1, h2⟩ := ih (by omega)
      rw [el_rk]
      by_cases q : ld b < n
      · rw [if_pos q]; omega
      · rw [if_neg q]; omega
theorem el_rk_cg {n : Nat} {ld ld' : Nat → Nat} : ∀ c, (∀ k, k < c → ld k = ld' k) → el_rk n ld c = el_rk n ld' c := by
  intro c
  induction c with
  | zero => intro _; rfl
  | succ c ih =>
    intro h
    rw [el_rk, el_rk, ih (fun k hk => h k (by omega)), h c (by omega)]
/-- the lines below n lie below p -/
def el_lt (p n : Nat) (R : Nat → Nat → Nat) : Prop := ∀ l x, l < n → R l x < p
theorem el_lt_q {p n l c : Nat} {R : Nat → Nat → Nat} (hp : 0 < p) (x : Nat) : el_q p R l c x < p := Nat.mod_lt _ hp
theorem el_lt_R {p n l c : Nat} {R : Nat → Nat → Nat} (hp : 0 < p) : el_lt p n (el_R p R l c) := fun l' x _ => by
  unfold el_R
  by_cases e : l' = l
  · rw [if_pos e]; exact Nat.mod_lt _ hp
  · rw [if_neg e]; exact Nat.mod_lt _ hp
theorem el_lt_step {p n c : Nat} {s : el_S} (hp : 0 < p) (h : el_lt p n s.1) : el_lt p n (el_step p n c s).1 := by
  unfold el_step
  by_cases q : el_ld n s c < n
  · rw [if_pos q]; exact el_lt_R hp
  · rw [if_neg q]; exact h
theorem el_lt_run {p n : Nat} {A : Nat → Nat → Nat} (hp : 0 < p) (h : el_lt p n A) : ∀ c, el_lt p n (el_run p n A c).1 := by
  intro c
  induction c with
  | zero => exact h
  | succ c ih => exact el_lt_step hp ih
/-- the columns of which the steps take notice alike, and one column more -/
theorem el_run_cg {p n C : Nat} {A B : Nat → Nat → Nat} (h : ∀ l x, l < n → x < C → A l x = B l x) : ∀ c, c ≤ C → (∀ l x, l < n → x < C → (el_run p n A c).1 l x = (el_run p n B c).1 l x) ∧ (∀ l, l < n → (el_run p n A c).2.1 l = (el_run p n B c).2.1 l) ∧ (∀ k, (el_run p n A c).2.2 k = (el_run p n B c).2.2 k) ∧ ∀ x y, (∀ l, l < n → A l x = B l y) → ∀ l, l < n → (el_run p n A c).1 l x = (el_run p n B c).1 l y := by
  intro c
  induction c with
  | zero => intro _; exact ⟨h, fun _ _ => rfl, fun _ => rfl, fun x y hx => hx⟩
  | succ c ih =>
    intro hc
    obtain ⟨h1, h2, h3, h4⟩ := ih (by omega)
    rw [el_run, el_run]
    generalize el_run p n A c = s at h1 h2 h3 h4
    generalize el_run p n B c = t at h1 h2 h3 h4
    have e : el_ld n s c = el_ld n t c := el_find_cg (fun k hk => by unfold el_ok; rw [h2 k hk, h1 k c hk (by omega)])
    unfold el_step
    rw [← e]
    by_cases q : el_ld n s c < n
    · rw [if_pos q, if_pos q]
      have g : ∀ x y, (∀ l, l < n → s.1 l x = t.1 l y) → ∀ l, l < n → el_R p s.1 (el_ld n s c) c l x = el_R p t.1 (el_ld n s c) c l y := fun x y hx l hl => by
        unfold el_R el_q
        rw [hx l hl, hx _ q, h1 l c hl (by omega), h1 _ c q (by omega)]
      refine ⟨fun l x hl hx => g x x (fun l hl => h1 l x hl hx) l hl, fun l hl => ?_, fun k => ?_, fun x y hx => g x y (h4 x y hx)⟩
      · show (if _ then _ else _) = (if _ then _ else _)
        rw [h2 l hl]
      · show (if _ then _ else _) = (if _ then _ else _)
        rw [h3 k]
    · rw [if_neg q, if_neg q]
      refine ⟨h1, h2, fun k => ?_, h4⟩
      show (if _ then _ else _) = (if _ then _ else _)
      rw [h3 k]
/-- what stands for a column does not change later -/
theorem el_run_ld {p n : Nat} {A : Nat → Nat → Nat} (k : Nat) : ∀ m, (el_run p n A (k + 1 + m)).2.2 k = (el_run p n A (k + 1)).2.2 k := by
  intro m
  induction m with
  | zero => rfl
  | succ m ih =>
    rw [← ih, show k + 1 + (m + 1) = (k + 1 + m) + 1 from rfl, el_run]
    generalize el_run p n A (k + 1 + m) = s
    unfold el_step
    by_cases q : el_ld n s (k + 1 + m) < n
    · rw [if_pos q]; exact if_neg (by omega)
    · rw [if_neg q]; exact if_neg (by omega)
theorem el_run_lde {p n c : Nat} {A : Nat → Nat → Nat} (k : Nat) (h : k < c) : (el_run p n A c).2.2 k = (el_run p n A (k + 1)).2.2 k := by
  have := el_run_ld (p := p) (n := n) (A := A) k (c - (k + 1))
  rwa [show k + 1 + (c - (k + 1)) = c by omega] at this
theorem el_run_ldn {p n : Nat} {A : Nat → Nat → Nat} (c k : Nat) : (el_run p n A c).2.2 k ≤ n := by
  induction c with
  | zero => exact Nat.le_refl _
  | succ c ih =>
    rw [el_run]
    generalize el_run p n A c = s at ih
    have := (el_find_P n (el_ok s c)).1
    unfold el_step
    by_cases q : el_ld n s c < n
    · rw [if_pos q]
      show (if k = c then el_ld n s c else s.2.2 k) ≤ n
      by_cases e : k = c
      · rw [if_pos e]; exact this
      · rw [if_neg e]; exact ih
    · rw [if_neg q]
      show (if k = c then n else s.2.2 k) ≤ n
      by_cases e : k = c
      · rw [if_pos e]; exact Nat.le_refl _
      · rw [if_neg e]; exact ih
