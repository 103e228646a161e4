/-! SUMS OVER A ROW -/
def lam (w r : Nat → Nat) : Nat → Nat
  | 0 => 0
  | x + 1 => lam w r x + r x * w x
theorem lam_cg {w w' r r' : Nat → Nat} : ∀ X, (∀ x, x < X → r x * w x = r' x * w' x) → lam w r X = lam w' r' X := by
  intro X
  induction X with
  | zero => intro _; rfl
  | succ X ih => intro h; rw [lam, lam, ih (fun x hx => h x (by omega)), h X (by omega)]
theorem md1 (p a b : Nat) : (a % p * b) % p = a * b % p := by rw [Nat.mul_mod, Nat.mod_mod, ← Nat.mul_mod]
theorem md2 (p a b : Nat) : (a * (b % p)) % p = a * b % p := by rw [Nat.mul_comm, md1, Nat.mul_comm]
theorem ma (p a b c d : Nat) (h1 : a % p = c % p) (h2 : b % p = d % p) : (a + b) % p = (c + d) % p := by rw [Nat.add_mod, h1, h2, ← Nat.add_mod]
theorem mm (p a b c d : Nat) (h1 : a % p = c % p) (h2 : b % p = d % p) : (a * b) % p = (c * d) % p := by rw [Nat.mul_mod, h1, h2, ← Nat.mul_mod]
theorem lam_lin {w a b : Nat → Nat} {p t : Nat} : ∀ X, lam w (fun x => (a x + t * b x) % p) X % p = (lam w a X + t * lam w b X) % p := by
  intro X
  induction X with
  | zero => rfl
  | succ X ih =>
    rw [lam, lam, lam]
    have h1 : ((a X + t * b X) % p * w X) % p = ((a X + t * b X) * w X) % p := md1 _ _ _
    rw [ma p _ _ _ _ ih h1]
    congr 1
    rw [Nat.add_mul, Nat.mul_add, Nat.mul_assoc]
    omega
theorem lam_sc {w a : Nat → Nat} {p t : Nat} : ∀ X, lam w (fun x => a x * t % p) X % p = (t * lam w a X) % p := by
  intro X
  induction X with
  | zero => rfl
  | succ X ih =>
    rw [lam, lam]
    have h1 : (a X * t % p * w X) % p = (a X * t * w X) % p := md1 _ _ _
    rw [ma p _ _ _ _ ih h1, Nat.mul_add]
    congr 2
    rw [Nat.mul_comm (a X) t, Nat.mul_assoc]
/-- an equation that all lines keep is kept by the steps -/
theorem el_fun_step {p n c X : Nat} {s : el_S} {w : Nat → Nat} (h : ∀ l, l < n → lam w (s.1 l) X % p = 0) : ∀ l, l < n → lam w ((el_step p n c s).1 l) X % p = 0 := by
  intro l hl
  unfold el_step
  by_cases q : el_ld n s c < n
  · rw [if_pos q]
    show lam w (el_R p s.1 (el_ld n s c) c l) X % p = 0
    have hq : lam w (el_q p s.1 (el_ld n s c) c) X % p = 0 := by
      show lam w (fun x => s.1 (el_ld n s c) x * tp_inv p (s.1 (el_ld n s c) c) % p) X % p = 0
      rw [lam_sc, Nat.mul_mod, h _ q, Nat.mul_zero, Nat.zero_mod]
    by_cases e : l = el_ld n s c
    · have : el_R p s.1 (el_ld n s c) c l = el_q p s.1 (el_ld n s c) c := by funext x; unfold el_R; rw [if_pos e]
      rw [this]; exact hq
    · have : el_R p s.1 (el_ld n s c) c l = fun x => (s.1 l x + (p - s.1 l c) * el_q p s.1 (el_ld n s c) c x) % p := by funext x; unfold el_R; rw [if_neg e]
      rw [this, lam_lin, Nat.add_mod, h l hl, Nat.mul_mod, hq, Nat.mul_zero, Nat.zero_mod]; exact Nat.zero_mod p
  · rw [if_neg q]; exact h l hl
theorem el_fun {p n X : Nat} {A : Nat → Nat → Nat} {w : Nat → Nat} (h : ∀ l, l < n → lam w (A l) X % p = 0) : ∀ c, ∀ l, l < n → lam w ((el_run p n A c).1 l) X % p = 0 := by
  intro c
  induction c with
  | zero => exact h
  | succ c ih => exact el_fun_step ih
/-! ASKS ON LINES -/
def mtA (p : Nat) (T : Nat → Nat → Nat) (q : Nat → Nat) (l x : Nat) : Nat := if x = 24 then q l else if x = 25 + l then 1 else ly p T 99 (tK T) l x
def mtr (p : Nat) (T : Nat → Nat → Nat) (q : Nat → Nat) : el_S := el_run p (tL T) (mtA p T q) (tC T)
/-- the weights: the asks at what a line is made of, less the want -/
def mtw (p : Nat) (q : Nat → Nat) (x : Nat) : Nat := if x < 24 then 0 else if x = 24 then p - 1 else q (x - 25)
theorem lam_mt {p : Nat} {q r : Nat → Nat} : ∀ m, lam (mtw p q) r (25 + m) = r 24 * (p - 1) + lam q (fun k => r (25 + k)) m := by
  intro m
  induction m with
  | zero =>
    have h24 : ∀ X, X ≤ 24 → lam (mtw p q) r X = 0 := by
      intro X
      induction X with
      | zero => intro _; rfl
      | succ X ih => intro hX; rw [lam, ih (by omega)]; unfold mtw; rw [if_pos (by omega), Nat.mul_zero]
    show lam (mtw p q) r 24 + r 24 * mtw p q 24 = _
    rw [h24 24 (Nat.le_refl _)]
    unfold mtw
    rw [if_neg (by omega), if_pos rfl, Nat.zero_add]; rfl
  | succ m ih =>
    rw [← Nat.add_assoc, lam, ih, lam, Nat.add_assoc]
    congr 2
    unfold mtw
    rw [if_neg (by omega), if_neg (by omega), Nat.add_sub_cancel_left]
section MET
variable {F p : Nat} {a b c : Int32} {M N : tv_M} {T R S0 : Nat → Nat → Nat} {S1 : Nat → Nat → Int32} {Z q : Nat → Nat}
theorem mt_lt (hp : 2 ≤ p) (hT : gT p T) (hq : ∀ l, l < tL T → q l < p) : el_lt p (tL T) (mtA p T q) := fun l x hl => by
  unfold mtA
  by_cases h1 : x = 24
  · rw [if_pos h1]; exact hq l hl
  · rw [if_neg h1]
    by_cases h2 : x = 25 + l
    · rw [if_pos h2]; omega
    · rw [if_neg h2]; exact ly_lt (by omega) hT _ (Nat.le_refl _) l x
theorem mt_cg (hT : gT p T) : (∀ l x, l < tL T → x < tC T → (el_run p (tL T) (agA p T) (tC T)).1 l x = (mtr p T q).1 l x) ∧ (∀ l, l < tL T → (el_run p (tL T) (agA p T) (tC T)).2.1 l = (mtr p T q).2.1 l) ∧ ∀ l k, l < tL T → (el_run p (tL T) (agA p T) (tC T)).1 l (tC T + k) = (mtr p T q).1 l (25 + k) := by
  have hC := hT.C
  obtain ⟨h1, h2, h3, h4⟩ := el_run_cg (p := p) (n := tL T) (C := tC T) (A := agA p T) (B := mtA p T q) (fun l x _ hx => by unfold agA mtA; rw [if_pos hx, if_neg (by omega), if_neg (by omega)]) (tC T) (Nat.le_refl _)
  refine ⟨h1, h2, fun l k hl => h4 (tC T + k) (25 + k) (fun l _ => ?_) l hl⟩
  unfold agA mtA
  rw [if_neg (show ¬ tC T + k < tC T by omega), if_neg (show ¬ 25 + k = 24 by omega)]
  by_cases e : k = l
  · rw [if_pos (by omega), if_pos (by omega)]
  · rw [if_neg (by omega), if_neg (by omega), ly_hi hT (by omega) _ (Nat.le_refl _)]
theorem mt_want (hp : tp_pr p) (hT : gT p T) (hq : ∀ l, l < tL T → q l < p) {l : Nat} (hl : l < tL T) : lam q (fun k => (mtr p T q).1 l (25 + k)) (tL T) % p = (mtr p T q).1 l 24 := by
  have hp7 := hp.lt
  have hC := hT.C
  have hinit : ∀ l, l < tL T → lam (mtw p q) (mtA p T q l) (25 + tL T) % p = 0 := fun l hl => by
    rw [lam_mt]
    have e1 : mtA p T q l 24 = q l := by unfold mtA; rw [if_pos rfl]
    have e2 : ∀ m, lam q (fun k => mtA p T q l (25 + k)) m = if l < m then q l else 0 := by
      intro m
      induction m with
      | zero => rw [if_neg (Nat.not_lt_zero l)]; rfl
      | succ m ih =>
        rw [lam, ih]
        have e3 : mtA p T q l (25 + m) = if m = l then 1 else 0 := by
          unfold mtA
          rw [if_neg (by omega)]
          by_cases e : m = l
          · rw [if_pos (by omega), if_pos e]
          · rw [if_neg (by omega), if_neg e, ly_hi hT (by omega) _ (Nat.le_refl _)]
        rw [e3]
        by_cases e : m = l
        · rw [if_pos e, if_neg (by omega), if_pos (by omega), Nat.one_mul, e, Nat.zero_add]
        · rw [if_neg e, Nat.zero_mul, Nat.add_zero]
          by_cases w : l < m
          · rw [if_pos w, if_pos (by omega)]
          · rw [if_neg w, if_neg (by omega)]
    rw [e1, e2, if_pos hl]
    have : q l * (p - 1) + q l = p * q l := by
      rw [show q l * (p - 1) + q l = q l * (p - 1 + 1) from (Nat.mul_succ _ _).symm, Nat.sub_add_cancel (by omega), Nat.mul_comm]
    rw [this, Nat.mul_mod_right]
  have h := el_fun (p := p) (n := tL T) (X := 25 + tL T) hinit (tC T) l hl
  rw [lam_mt] at h
  have hlt : (mtr p T q).1 l 24 < p := el_lt_run (by omega) (mt_lt (by omega) hT hq) _ l 24 hl
  have h : ((mtr p T q).1 l 24 * (p - 1) + lam q (fun k => (mtr p T q).1 l (25 + k)) (tL T)) % p = 0 := h
  generalize (mtr p T q).1 l 24 = x at h hlt
  generalize lam q (fun k => (mtr p T q).1 l (25 + k)) (tL T) = y at h
  rcases hp with rfl | rfl | rfl | rfl <;> omega
/-- the class finds the proof's line -/
theorem ag_want {s i l : Nat} (hF : 60 < F) (hp : tp_pr p) (hT : gT p T) (cc : cT M p T) (ca : cA M p T) (hs : s < 8) (hi : i + tL T ≤ 40) (hM : ∀ k, k < tL T → M.1 (3 + 2 * s) (i + k) = nI (q k)) (hq : ∀ l, l < tL T → q l < p) (hl : l < tL T) : Ag_wantOf F (nI l) (2 + 2 * s) (nI i) M = some (nI ((mtr p T q).1 l 24), M) := by
  have hp7 := hp.lt
  have hC := hT.C
  have hL := hT.L
  obtain ⟨-, s2, s3, s4⟩ := tp_shP s hs
  obtain ⟨c1, c2, c3⟩ := mt_cg (q := q) hT
  have hlt : ∀ k, (mtr p T q).1 l (25 + k) < p := fun k => el_lt_run (by omega) (mt_lt (by omega) hT hq) _ l _ hl
  have hlam : ∀ m, m ≤ tL T → lam q (fun k => (mtr p T q).1 l (25 + k)) m ≤ 49 * m := by
    intro m
    induction m with
    | zero => intro _; exact Nat.le_refl _
    | succ m ih =>
      intro hm
      have h1 := ih (by omega)
      have h2 : (mtr p T q).1 l (25 + m) * q m ≤ 7 * 7 := Nat.mul_le_mul (by have := hlt m; omega) (by have := hq m (by omega); omega)
      rw [lam]; omega
  have hlm := hlam (tL T) (Nat.le_refl _)
  have hh : ∀ d k nn, k + d = tL T → d < nn → Ag_wantOf_L6 F nn (nI l) (2 + 2 * s) (nI i) (nI (lam q (fun k => (mtr p T q).1 l (25 + k)) k)) (nI k) M = some (nI ((mtr p T q).1 l 24), M) := by
    intro d
    induction d with
    | zero =>
      intro k nn e1 e2
      obtain ⟨nn, rfl⟩ : ∃ n', nn = n' + 1 := ⟨nn - 1, by omega⟩
      rw [show k = tL T by omega, Ag_wantOf_L6, tp_gl s3, cc.2.2.2.2.2.1, if_pos (nI_le (Nat.le_refl _) (by omega)), cc.1, tp_cb (xx_rest hp (by omega)), mt_want hp hT hq hl]
    | succ d ih =>
      intro k nn e1 e2
      obtain ⟨nn, rfl⟩ : ∃ n', nn = n' + 1 := ⟨nn - 1, by omega⟩
      have e4 := sb_extAt (F := F) (l := l) (x := k) (Or.inl rfl) hL (show tC T + tL T ≤ 54 by omega) ca.1 hl (by omega)
      rw [c3 l k hl] at e4
      rw [Ag_wantOf_L6, tp_gl s3, cc.2.2.2.2.2.1, if_neg (nI_ge (by omega) (by omega)), tp_cb e4, tp_nn s2, tp_gn s4, nI_add, tp_rd (by omega) (by decide), hM k (by omega), nI_mul, nI_add, nI_1]
      exact ih (k + 1) nn (by omega) (by omega)
  unfold Ag_wantOf
  rw [tp_gl s3]
  exact hh (tL T) 0 F (by omega) (by omega)
theorem ag_proof {s i len : Nat} (hF : 60 < F) (hp : tp_pr p) (hT : gT p T) (cc : cT M p T) (ca : cA M p T) (hs : s < 8) (hlen : M.1 (2 + 2 * s) 1 = nI len) (h40 : len ≤ 40) (hi : i + tL T ≤ len) (hM : ∀ k, k < tL T → M.1 (3 + 2 * s) (i + k) = nI (q k)) (hq : ∀ l, l < tL T → q l < p) : ∃ v, Ag_proofLine F (2 + 2 * s) (nI i) M = some (v, M) ∧ ((v = -1 ∧ fi (tL T) (mtr p T q) = true) ∨ ∃ l, l < tL T ∧ v = nI l ∧ fi (tL T) (mtr p T q) = false ∧ (mtr p T q).2.1 l = false ∧ (mtr p T q).1 l 24 ≠ 0 ∧ ∀ k, k < l → ((mtr p T q).2.1 k || decide ((mtr p T q).1 k 24 = 0)) = true) := by
  have hp7 := hp.lt
  have hC := hT.C
  have hL := hT.L
  obtain ⟨-, s2, s3, s4⟩ := tp_shP s hs
  obtain ⟨c1, c2, c3⟩ := mt_cg (q := q) hT
  have exr := xs_reaches (F := F) (a := nI i) (b := nI (tL T)) (M := M) hs hlen h40
  rw [nI_toInt (by omega), nI_toInt (by omega), if_pos (by omega)] at exr
  have hh : ∀ d l nn, l + d = tL T → d < nn → (∀ k, k < l → ((mtr p T q).2.1 k || decide ((mtr p T q).1 k 24 = 0)) = true) → ∃ v, Ag_proofLine_L19 F nn (2 + 2 * s) (nI i) (nI l) M = some (v, M) ∧ ((v = -1 ∧ fi (tL T) (mtr p T q) = true) ∨ ∃ l, l < tL T ∧ v = nI l ∧ fi (tL T) (mtr p T q) = false ∧ (mtr p T q).2.1 l = false ∧ (mtr p T q).1 l 24 ≠ 0 ∧ ∀ k, k < l → ((mtr p T q).2.1 k || decide ((mtr p T q).1 k 24 = 0)) = true) := by
    intro d
    induction d with
    | zero =>
      intro l nn e1 e2 hk
      obtain ⟨nn, rfl⟩ : ∃ n', nn = n' + 1 := ⟨nn - 1, by omega⟩
      rw [Ag_proofLine_L19, tp_gl s3, cc.2.2.2.2.2.1, if_pos (nI_le (by omega) (by omega))]
      exact ⟨_, rfl, Or.inl ⟨rfl, (an_iff _ _).mpr (fun k hk' => hk k (by omega))⟩⟩
    | succ d ih =>
      intro l nn e1 e2 hk
      obtain ⟨nn, rfl⟩ : ∃ n', nn = n' + 1 := ⟨nn - 1, by omega⟩
      have hl : l < tL T := by omega
      have hlt : (mtr p T q).1 l 24 < p := el_lt_run (by omega) (mt_lt (by omega) hT hq) _ l 24 hl
      have hgo : ((mtr p T q).2.1 l || decide ((mtr p T q).1 l 24 = 0)) = true → _ := fun z => ih (l + 1) nn (by omega) (by omega) (fun k q => by
        by_cases w : k = l
        · rw [w]; exact z
        · exact hk k (by omega))
      have e3 := sb_isL (F := F) (Or.inl rfl) hL ca.1 hl
      rw [c2 l hl] at e3
      rw [Ag_proofLine_L19, tp_gl s3, cc.2.2.2.2.2.1, if_neg (nI_ge hl (by omega)), tp_cb e3, tp_cb (ag_want hF hp hT cc ca hs (by omega) hM hq hl), nI_1]
      by_cases z : (mtr p T q).2.1 l = true
      · rw [if_pos z, if_neg (show ¬ (1 : Int32) = 0 by decide)]
        exact hgo (by rw [z, Bool.true_or])
      · have z := Bool.eq_false_iff.mpr z
        rw [z, if_neg Bool.false_ne_true, if_pos rfl]
        by_cases v : (mtr p T q).1 l 24 = 0
        · rw [if_pos ((nI_z (by omega)).mpr v)]
          exact hgo (by rw [decide_eq_true v, Bool.or_true])
        · rw [if_neg (fun u => v ((nI_z (by omega)).mp u))]
          refine ⟨_, rfl, Or.inr ⟨l, hl, rfl, ?_, z, v, hk⟩⟩
          rw [Bool.eq_false_iff]
          intro u
          have u := (an_iff _ _).mp u l hl
          rw [z, decide_eq_false v] at u
          exact Bool.noConfusion u
  unfold Ag_proofLine
  rw [tp_gl s3, cc.2.2.2.2.2.1, tp_cb exr, if_neg (show ¬ (1 : Int32) = 0 by decide)]
  exact hh (tL T) 0 F (by omega) (by omega) (fun k hk => absurd hk (Nat.not_lt_zero k))
def fMm (N N' : tv_M) : Prop := ∀ a i, ¬ (a = 249 ∧ (i = 0 ∨ i = 1 ∨ i = 37)) → (a < 267 ∨ 270 ≤ a) → N'.1 a i = N.1 a i
theorem op_met (hF : 60 < F) (hp : tp_pr p) (hT : gT p T) (hg : gS S0) (hZ : Z 0 ≤ 5) (cc : cT M p T) (ca : cA M p T) (cs : cS M S0 S1) (cz : cZ M p Z) (mc : mT N p T) (ms : mS N S0 S1) (mz : mZ N Z) : ∃ (r : Int32) (Z' : Nat → Nat), Z' 0 ≤ 5 ∧ Z' 1 = Z 1 ∧ tq (Xx_met F a b c M) (fun q M' => q = r ∧ cZ M' p Z' ∧ fo 0 1 M M') ∧ tq (Md_met F a b c N) (fun q N' => q = r ∧ mZ N' Z' ∧ fMm N N') := by
  have hp7 := hp.lt
  have hC := hT.C
  have hL := hT.L
  obtain ⟨u, N1, x1, x2, x3, x4⟩ := md_lay (F := F) (M := tv_w N 249 0 0) hF hp hT mc.w0 mdb
  rw [hT.n99] at x2 x3
  have mc1 : mT N1 p T := mc.w0.f37 x4
  have f1 : fMm N N1 := fun a i q1 q2 => by rw [x4 a i (by omega) (by omega), tp_w, if_neg (by omega)]
  have ms1 : mS N1 S0 S1 := ms.cg (fun a i q1 q2 => f1 a i (by omega) (by omega))
  have mz1 : mZ N1 Z := ⟨by rw [x4 _ _ (by omega) (by omega), tp_wj (by omega)]; exact mz.1, by rw [x4 _ _ (by omega) (by omega), tp_wj (by omega)]; exact mz.2⟩
  have hsame : ∀ r : Int32, Xx_met F a b c M = some (r, M) → Md_met F a b c N = some (r, N1) → ∃ (r : Int32) (Z' : Nat → Nat), Z' 0 ≤ 5 ∧ Z' 1 = Z 1 ∧ tq (Xx_met F a b c M) (fun q M' => q = r ∧ cZ M' p Z' ∧ fo 0 1 M M') ∧ tq (Md_met F a b c N) (fun q N' => q = r ∧ mZ N' Z' ∧ fMm N N') := fun r h1 h2 => ⟨r, Z, hZ, rfl, tq_eq h1 ⟨rfl, cz, fo.rf⟩, tq_eq h2 ⟨rfl, mz1, f1⟩⟩
  have hset : ∀ (r : Int32) (k : Nat) (N2 : tv_M), k ≤ 5 → Xx_met F a b c M = some (r, tv_w M 0 9 (nI k)) → Md_met F a b c N = some (r, N2) → N2.1 249 1 = nI k → (∀ a i, ¬ (a = 249 ∧ (i = 1 ∨ i = 37)) → (a < 267 ∨ 270 ≤ a) → N2.1 a i = N1.1 a i) → ∃ (r : Int32) (Z' : Nat → Nat), Z' 0 ≤ 5 ∧ Z' 1 = Z 1 ∧ tq (Xx_met F a b c M) (fun q M' => q = r ∧ cZ M' p Z' ∧ fo 0 1 M M') ∧ tq (Md_met F a b c N) (fun q N' => q = r ∧ mZ N' Z' ∧ fMm N N') := fun r k N2 hk h1 h2 h3 h4 => ⟨r, rS1 Z k, hk, rfl, tq_eq h1 ⟨rfl, ⟨by rw [tp_wj (by omega)]; exact cz.1, rfl⟩, fo.rf.w (by omega) (by omega)⟩, tq_eq h2 ⟨rfl, ⟨h3, by rw [h4 _ _ (by omega) (by omega)]; exact mz1.2⟩, fun a i q1 q2 => by rw [h4 a i (by omega) q2]; exact f1 a i q1 q2⟩⟩
  have eyp : ∀ s, s < 8 → a = nI s → Md_met F a b c N = if -1 ≤ c ∧ c ≤ nI (tL T) - 1 then tv_cb (Md_lookRests F a b (nI (tL T)) N1) (fun r8 M9 => if 0 ≤ r8 then Md_met_L62 F F a b c 0 M9 else some (r8, M9)) else some (-1000001, N1) := fun s hs e => by
    subst e
    unfold Md_met
    rw [tp_pf, tp_cb x1, tp_cb (md_sh hs), if_neg (show ¬ (1 : Int32) = 0 by decide), x2, tp_cb (tp_in (lo := -1) (b := -1) (c := nI (tL T) - 1) (by decide) rfl)]
    by_cases q : -1 ≤ c ∧ c ≤ nI (tL T) - 1
    · rw [if_pos q, if_neg (show ¬ (1 : Int32) = 0 by decide), if_pos q, x2]
    · rw [if_neg q, if_pos rfl, if_neg q]
  rcases tp_ix a (n := 8) (by decide) with h | ⟨s, hs, rfl⟩
  · refine hsame (-1000001) ?_ ?_
    · unfold Xx_met; rw [tp_cb (xs_at_out h), tp_nln]
    · unfold Md_met; rw [tp_pf, tp_cb x1, tp_cb (md_sh_out h), if_pos rfl]
  have eyp := eyp s hs rfl
  obtain ⟨-, s2, s3, s4⟩ := tp_shP s hs
  obtain ⟨g1, g2⟩ := hg s hs
  obtain ⟨k1, k2⟩ := cs s hs
  have exp : Xx_met F (nI s) b c M = if -1 ≤ c ∧ c ≤ nI (tL T) - 1 then tv_cb (Sh_isMissing F (2 + 2 * s) M) (fun r5 M6 => if r5 = 0 then tv_cb (Sh_reaches F (2 + 2 * s) b (M6.1 18 8) M6) (fun r7 M8 => if r7 = 0 then tv_cb (Xx_found F 2 M8) (fun r23 M24 => some (r23, M24)) else tv_cb (Sh_holdsRests F (2 + 2 * s) b (M8.1 18 8) (M8.1 0 0) M8) (fun r9 M10 => if r9 = 0 then some ((-1000001), M10) else tv_cb (Ag_proofLine F (2 + 2 * s) b M10) (fun r11 M12 => if c = (-1) then if 0 ≤ r11 then tv_cb (Xx_passed F 0 M12) (fun r19 M20 => some (r19, M20)) else tv_cb (Xx_passed F 1 M12) (fun r21 M22 => some (r21, M22)) else if 0 ≤ r11 then tv_cb (Ag_madeOf F r11 c M12) (fun r13 M14 => tv_cb (Xx_passed F r13 M14) (fun r15 M16 => some (r15, M16))) else tv_cb (Xx_passed F (-1000000) M12) (fun r17 M18 => some (r17, M18))))) else tv_cb (Xx_found F 1 M6) (fun r25 M26 => some (r25, M26))) else some ((-1000001), M) := by
    have hsub : (nI (tL T) - 1 : Int32).toInt = tL T - 1 := by
      rw [tp_sub _ _ (by rw [nI_toInt (by omega), show (1 : Int32).toInt = 1 from rfl]; omega) (by rw [nI_toInt (by omega), show (1 : Int32).toInt = 1 from rfl]; omega), nI_toInt (by omega), show (1 : Int32).toInt = 1 from rfl]
    unfold Xx_met
    rw [tp_cb (xs_at hs), tp_nls, tp_gl s3, cc.2.2.2.2.2.1]
    by_cases w1 : c < -1
    · rw [if_pos w1, if_neg (fun z => Int32.not_le.mpr w1 z.1)]
    · rw [if_neg w1]
      by_cases w2 : c < nI (tL T)
      · rw [if_pos w2, if_pos ⟨Int32.not_lt.mp w1, by rw [tp_le, hsub]; have := (tp_lt _ _).mp w2; rw [nI_toInt (by omega)] at this; omega⟩]
      · rw [if_neg w2, if_neg (fun z => w2 (by rw [tp_lt, nI_toInt (by omega)]; have := (tp_le _ _).mp z.2; rw [hsub] at this; omega))]
  by_cases qc : -1 ≤ c ∧ c ≤ nI (tL T) - 1
  rotate_left
  · rw [if_neg qc] at exp eyp
    exact hsame _ exp eyp
  rw [if_pos qc] at exp eyp
  have hlook := md_rests (F := F) (b := b) (n := tL T) hF hp hs hg ms1 mc1.1 (by omega)
  have exm := xs_missing (F := F) (M := M) hs
  rw [k1] at exm
  by_cases q0 : S0 0 s = 0
  · rw [if_pos q0] at hlook
    rw [if_pos ((i_ln_m g1).mpr q0)] at exm
    refine hset (-1000010 - 1) 1 (tv_w N1 249 1 1) (by omega) ?_ ?_ tp_ws (fun a i q1 q2 => by rw [tp_w, if_neg (by omega)])
    · rw [exp, tp_cb exm, if_neg (show ¬ (1 : Int32) = 0 by decide)]; rfl
    · rw [eyp, tp_cb hlook, if_neg (by decide)]
  rw [if_neg q0] at hlook
  rw [if_neg (fun w => q0 ((i_ln_m g1).mp w))] at exm
  obtain ⟨k2, k3⟩ := k2 q0
  have exr := xs_reaches (F := F) (a := b) (b := nI (tL T)) (M := M) hs k2 g2
  rw [nI_toInt (by omega)] at exr
  by_cases q1 : 0 ≤ b.toInt ∧ b.toInt + tL T ≤ S0 1 s
  rotate_left
  · rw [if_neg q1] at hlook
    rw [if_neg (fun w => q1 ⟨w.1, w.2.2⟩)] at exr
    refine hset (-1000010 - 2) 2 (tv_w N1 249 1 2) (by omega) ?_ ?_ tp_ws (fun a i q1 q2 => by rw [tp_w, if_neg (by omega)])
    · rw [exp, tp_cb exm, if_pos rfl, cc.2.2.2.2.2.1, tp_cb exr, if_pos rfl]; rfl
    · rw [eyp, tp_cb hlook, if_neg (by decide)]
  rw [if_pos q1] at hlook
  rw [if_pos ⟨q1.1, by omega, q1.2⟩] at exr
  have hbk : b = nI b.toInt.toNat := tp_of b q1.1
  have hbi : b.toInt.toNat + tL T ≤ S0 1 s := by omega
  generalize b.toInt.toNat = i at hbk hbi hlook
  subst hbk
  have exh := xs_rests (F := F) (s := s) (i := i) (n := tL T) (p := p) (M := M) hs hF k2 g2 hbi (by omega)
  have heq : (∀ k, k < tL T → 0 ≤ (M.1 (3 + 2 * s) (i + k)).toInt ∧ (M.1 (3 + 2 * s) (i + k)).toInt < p) ↔ (∀ k, k < tL T → 0 ≤ (S1 s (i + k)).toInt ∧ (S1 s (i + k)).toInt < p) := ⟨fun w k hk => by have := w k hk; rw [k3 _ (by omega)] at this; exact this, fun w k hk => by rw [k3 _ (by omega)]; exact w k hk⟩
  by_cases q2 : ∀ k, k < tL T → 0 ≤ (S1 s (i + k)).toInt ∧ (S1 s (i + k)).toInt < p
  rotate_left
  · rw [if_neg q2] at hlook
    rw [if_neg (fun w => q2 (heq.mp w))] at exh
    refine hsame (-1000001) ?_ ?_
    · rw [exp, tp_cb exm, if_pos rfl, cc.2.2.2.2.2.1, tp_cb exr, if_neg (show ¬ (1 : Int32) = 0 by decide), cc.2.2.2.2.2.1, cz.1, tp_cb exh, if_pos rfl]
    · rw [eyp, tp_cb hlook, if_neg (by decide)]
  rw [if_pos q2] at hlook
  rw [if_pos (heq.mpr q2)] at exh
  have hval : ∀ k, k < tL T → S1 s (i + k) = nI (S1 s (i + k)).toInt.toNat := fun k hk => tp_of _ (q2 k hk).1
  have hvp : ∀ k, k < tL T → (S1 s (i + k)).toInt.toNat < p := fun k hk => by have := q2 k hk; omega
  have hqd : ∀ k, (fun k => (S1 s (i + k)).toInt.toNat) k = (S1 s (i + k)).toInt.toNat := fun _ => rfl
  generalize (fun k => (S1 s (i + k)).toInt.toNat) = q at hqd
  have hq : ∀ l, l < tL T → q l < p := fun l hl => by rw [hqd]; exact hvp l hl
  obtain ⟨v, p1, p2⟩ := ag_proof (F := F) (q := q) hF hp hT cc ca hs k2 g2 hbi (fun k hk => by rw [k3 _ (by omega), hqd]; exact hval k hk) hq
  -- the reference
  have hL62 : ∀ d l nn N2, l + d = tL T → d < nn → N2.1 249 37 = nI (tL T) → (∀ l' x, l' < tL T → x < 55 → N2.1 267 (55 * l' + x) = nI (if l' < l then mtA p T q l' x else ly p T 99 (tK T) l' x)) → (∀ a j, a ≠ 267 → N2.1 a j = (tv_w N1 249 1 0).1 a j) → ∃ N3 w, Md_met_L62 F nn (nI s) (nI i) c (nI l) N2 = (if c = (-1) then if w = (-1000000) then some (1, N3) else some (0, N3) else if w = (-1000000) then some ((-1000000), N3) else tv_rd N3 267 2970 (((55 * w) + 25) + c) (fun x14 => some (x14, N3))) ∧ md_st N3 (tL T) (tC T) p (mtr p T q) (tC T) ∧ ((w = -1000000 ∧ fi (tL T) (mtr p T q) = true) ∨ ∃ l, l < tL T ∧ w = nI l ∧ fi (tL T) (mtr p T q) = false ∧ (mtr p T q).2.1 l = false ∧ (mtr p T q).1 l 24 ≠ 0 ∧ ∀ k, k < l → ((mtr p T q).2.1 k || decide ((mtr p T q).1 k 24 = 0)) = true) ∧ ∀ a j, (a < 267 ∨ 270 ≤ a) → N3.1 a j = (tv_w N1 249 1 0).1 a j := by
    intro d
    induction d with
    | zero =>
      intro l nn N2 e1 e2 f1 f2 f3
      obtain ⟨nn, rfl⟩ : ∃ n', nn = n' + 1 := ⟨nn - 1, by omega⟩
      have mc2 : mT N2 p T := mc1.cg (fun a j q => by rw [f3 a j (by rcases q with q | q <;> omega), tp_w, if_neg (by rcases q with q | q <;> omega)])
      obtain ⟨u2, N3, y1, y2, y3⟩ := md_put (F := F) (C := tC T) (M := N2) hF (show tL T ≤ 54 by omega) hC hp (mt_lt (by omega) hT hq) f1 mc2.2.2.1 mc2.1 (fun l' x h1 h2 => by rw [f2 l' x h1 h2, if_pos (by omega)])
      have hltr : el_lt p (tL T) (mtr p T q).1 := el_lt_run (by omega) (mt_lt (by omega) hT hq) _
      obtain ⟨w, z1, z2⟩ := md_vain (F := F) hF (show tL T ≤ 54 by omega) (show p ≤ 7 by omega) y2 hltr
      rw [Md_met_L62, f1, if_pos (nI_le (by omega) (by omega)), tp_cb y1, tp_cb z1]
      exact ⟨N3, w, rfl, y2, z2, fun a j h => by rw [y3 a j (by omega)]; exact f3 a j (by omega)⟩
    | succ d ih =>
      intro l nn N2 e1 e2 f1 f2 f3
      obtain ⟨nn, rfl⟩ : ∃ n', nn = n' + 1 := ⟨nn - 1, by omega⟩
      have hsl : N2.1 252 (40 * s + (i + l)) = nI (q l) := by rw [f3 _ _ (by omega), tp_wk (by omega), ((ms1 s hs).2 q0).2 (i + l) (by omega), hqd]; exact hval l (by omega)
      rw [Md_met_L62, f1, if_neg (nI_ge (by omega) (by omega)), show (40 * nI s + nI i + nI l : Int32) = nI (40 * s + (i + l)) from by rw [← Nat.add_assoc, ← nI_add, ← nI_add, ← nI_mul]; rfl, tp_rd (by omega) (by decide), hsl, show (55 * nI l + 24 : Int32) = nI (55 * l + 24) from by rw [← nI_add, ← nI_mul]; rfl, tp_wr (by omega) (by decide), show (55 * nI l + 25 + nI l : Int32) = nI (55 * l + 25 + l) from by rw [← nI_add, ← nI_add, ← nI_mul]; rfl, tp_wr (by omega) (by decide), nI_1]
      refine ih (l + 1) nn _ (by omega) (by omega) (by rw [tp_wk (by omega), tp_wk (by omega)]; exact f1) (fun l' x h1 h2 => ?_) (fun a j h => by rw [tp_wk h, tp_wk h]; exact f3 a j h)
      rw [tp_w, tp_w]
      by_cases w : l' = l
      · subst w
        rw [if_pos (show l' < l' + 1 by omega)]
        unfold mtA
        by_cases w1 : x = 25 + l'
        · rw [if_pos ⟨rfl, by omega⟩, if_neg (by omega), if_pos w1]; rfl
        · rw [if_neg (by omega)]
          by_cases w2 : x = 24
          · rw [if_pos ⟨rfl, by omega⟩, if_pos w2]
          · rw [if_neg (by omega), if_neg w2, if_neg w1, f2 l' x h1 h2, if_neg (Nat.lt_irrefl _)]
      · rw [if_neg (by omega), if_neg (by omega), f2 l' x h1 h2]
        by_cases w3 : l' < l
        · rw [if_pos w3, if_pos (by omega)]
        · rw [if_neg w3, if_neg (by omega)]
  obtain ⟨N3, w, y1, y2, y3, y4⟩ := hL62 (tL T) 0 F (tv_w N1 249 1 0) (by omega) (by omega) (by rw [tp_wj (by omega)]; exact x2) (fun l' x h1 h2 => by rw [if_neg (Nat.not_lt_zero _), tp_wk (by omega)]; exact x3 l' x h1 h2) (fun _ _ _ => rfl)
  have y1 : Md_met_L62 F F (nI s) (nI i) c 0 (tv_w N1 249 1 0) = _ := y1
  have ey : Md_met F (nI s) (nI i) c N = Md_met_L62 F F (nI s) (nI i) c 0 (tv_w N1 249 1 0) := by rw [eyp, tp_cb hlook, if_pos (show (0 : Int32) ≤ 0 from Int32.le_refl _)]
  rw [y1] at ey
  have hN3 : N3.1 249 1 = nI 0 := by rw [y4 _ _ (by omega), tp_ws]; rfl
  have hN3' : ∀ a i, ¬ (a = 249 ∧ (i = 1 ∨ i = 37)) → (a < 267 ∨ 270 ≤ a) → N3.1 a i = N1.1 a i := fun a i h1 h2 => by rw [y4 a i (by omega), tp_w, if_neg (by omega)]
  rw [tp_cb exm, if_pos rfl, cc.2.2.2.2.2.1, tp_cb exr, if_neg (show ¬ (1 : Int32) = 0 by decide), cc.2.2.2.2.2.1, cz.1, tp_cb exh, if_neg (show ¬ (1 : Int32) = 0 by decide), tp_cb p1] at exp
  rcases p2 with ⟨rfl, pf⟩ | ⟨l, hl, rfl, pf, pl1, pl2, pl3⟩
  · rcases y3 with ⟨rfl, -⟩ | ⟨l', -, -, yf, -⟩
    · by_cases ec : c = -1
      · rw [if_pos ec, if_neg (by decide)] at exp
        rw [if_pos ec, if_pos rfl] at ey
        exact hset 1 0 N3 (by omega) exp ey hN3 hN3'
      · rw [if_neg ec, if_neg (by decide)] at exp
        rw [if_neg ec, if_pos rfl] at ey
        exact hset (-1000000) 0 N3 (by omega) exp ey hN3 hN3'
    · rw [pf] at yf; exact Bool.noConfusion yf
  · rcases y3 with ⟨-, yf⟩ | ⟨l', hl', rfl, -, yl1, yl2, yl3⟩
    · rw [pf] at yf; exact Bool.noConfusion yf
    · have ell : l' = l := by
        rcases Nat.lt_trichotomy l' l with h | h | h
        · have := pl3 l' h
          rw [yl1, decide_eq_false yl2] at this
          exact Bool.noConfusion this
        · exact h
        · have := yl3 l h
          rw [pl1, decide_eq_false pl2] at this
          exact Bool.noConfusion this
      subst ell
      by_cases ec : c = -1
      · rw [if_pos ec, if_pos (nI_pos' (by omega))] at exp
        rw [if_pos ec, if_neg (nI_none (by omega))] at ey
        exact hset 0 0 N3 (by omega) exp ey hN3 hN3'
      · have hc0 : 0 ≤ c.toInt := by
          have h1 := (tp_le _ _).mp qc.1
          rw [tp_m1T] at h1
          have h2 : c.toInt ≠ -1 := fun z => ec ((tp_ei _ _).mpr (by rw [z]; rfl))
          omega
        have hcl : c.toInt.toNat < tL T := by
          have h1 := (tp_le _ _).mp qc.2
          rw [tp_sub _ _ (by rw [nI_toInt (by omega), show (1 : Int32).toInt = 1 from rfl]; omega) (by rw [nI_toInt (by omega), show (1 : Int32).toInt = 1 from rfl]; omega), nI_toInt (by omega), show (1 : Int32).toInt = 1 from rfl] at h1
          omega
        have hck : c = nI c.toInt.toNat := tp_of c hc0
        generalize c.toInt.toNat = k at hck hcl
        subst hck
        obtain ⟨c1, c2, c3⟩ := mt_cg (q := q) hT
        have e4 := sb_extAt (F := F) (l := l') (x := k) (Or.inl rfl) hL (show tC T + tL T ≤ 54 by omega) ca.1 hl (by omega)
        rw [c3 l' k hl] at e4
        have emade : Ag_madeOf F (nI l') (nI k) M = some (nI ((mtr p T q).1 l' (25 + k)), M) := by unfold Ag_madeOf; rw [tp_cb e4]
        rw [if_neg ec, if_pos (nI_pos' (by omega)), tp_cb emade] at exp
        rw [if_neg ec, if_neg (nI_none (by omega)), show (55 * nI l' + 25 + nI k : Int32) = nI (55 * l' + (25 + k)) from by rw [← Nat.add_assoc, ← nI_add, ← nI_add, ← nI_mul]; rfl, tp_rd (by omega) (by decide), y2.2.2.2.1 l' (25 + k) hl (by omega)] at ey
        exact hset _ 0 N3 (by omega) exp ey hN3 hN3'
end MET
