/-! THE SEARCH FOR THE FEWEST -/
theorem bh_1 : ∀ e, e < 8 → ∀ off, off < 256 → off.testBit e = decide (2 ^ e ≤ off % 2 ^ (e + 1)) := by decide +kernel
theorem bh_2 : ∀ x, x < 9 → ∀ off, off < 256 → ∀ k, k < 8 → x ≤ k → off.testBit k = (off - off % 2 ^ x).testBit k := by decide +kernel
theorem bh_3 : ∀ x, x < 9 → ∀ off, off < 256 → pc (off - off % 2 ^ x) ≤ pc off := by decide +kernel
theorem bh_4 : ∀ d, d < 256 → ∀ k, k < 8 → d.testBit k = false → (nI d ||| (1 <<< (nI k &&& 31)) : Int32) = nI (d + 2 ^ k) := by decide +kernel
theorem bh_5 : ∀ d, d < 256 → pc d ≤ 8 := by decide +kernel
theorem bh_md {e d : Nat} (he : e < 8) (h : d % 2 ^ (e + 1) = 0) : d % 2 ^ e = 0 ∧ (d + 2 ^ e) % 2 ^ e = 0 ∧ (∀ off, d ≤ off → off < d + 2 ^ e → off % 2 ^ (e + 1) < 2 ^ e) ∧ (∀ off, d + 2 ^ e ≤ off → off < d + 2 ^ (e + 1) → 2 ^ e ≤ off % 2 ^ (e + 1)) := by
  have : e = 0 ∨ e = 1 ∨ e = 2 ∨ e = 3 ∨ e = 4 ∨ e = 5 ∨ e = 6 ∨ e = 7 := by omega
  rcases this with rfl | rfl | rfl | rfl | rfl | rfl | rfl | rfl <;> simp only [Nat.reducePow, Nat.reduceAdd] at h ⊢ <;> refine ⟨by omega, by omega, fun off h1 h2 => by omega, fun off h1 h2 => by omega⟩
theorem bh_sub {x d off : Nat} (hd : d % 2 ^ x = 0) (h1 : d ≤ off) (h2 : off < d + 2 ^ x) : off - off % 2 ^ x = d := by
  have : off % 2 ^ x = off - d := by
    rw [show off = d + (off - d) by omega, Nat.add_mod, hd, Nat.zero_add, Nat.mod_mod, Nat.mod_eq_of_lt (by omega)]
    omega
  omega
section SEARCH
variable {F p m : Nat} {M N : tv_M} {T R E : Nat → Nat → Nat} {led : Nat → Nat}
theorem dr_read {e : Nat} {P : (Nat → Nat) → Prop} (hF : 60 < F) (hp : tp_pr p) (hT : gT p T) (hR : gR p T R) (cc : cT M p T) (ca : cA M p T) (cr : cR M T R) (hm : m + tsz T e ≤ 24) (hs : eqS M m (kk p T) E led) (hg : gE p (kk p T) m E led) (hP : ∀ u, sE p (kk p T) m E u ↔ P u) (he : e < tE T) (hr : R 0 e = 1) : ∃ (res : Int32) (M' : tv_M), Dr_addReading F (22 + 2 * e) M = some (res, M') ∧ fD m M M' ∧ ((res = 1 ∧ ∃ m' E' led', m ≤ m' ∧ m' ≤ m + tsz T e ∧ eqS M' m' (kk p T) E' led' ∧ gE p (kk p T) m' E' led' ∧ ∀ u, sE p (kk p T) m' E' u ↔ (P u ∧ ∀ k, k < tsz T e → vu p T u (tco T e + k) % p = R 1 (tco T e + k))) ∨ (res = 0 ∧ ∀ u, P u → ¬ ∀ k, k < tsz T e → vu p T u (tco T e + k) % p = R 1 (tco T e + k))) := by
  have h8 := hT.1
  have hC := hT.C
  have hes : tso T e ≠ 3 := fun w => by have := (hR.1 e he).2 w; omega
  obtain ⟨c1, c2, c3⟩ := hT.col he hes
  obtain ⟨p1, p2, p3, p4⟩ := tp_eyP e (by omega)
  have hh : ∀ d k nn (M' : tv_M) m' E' led', k + d = tsz T e → d < nn → fD m M M' → m ≤ m' → m' ≤ m + k → eqS M' m' (kk p T) E' led' → gE p (kk p T) m' E' led' → (∀ u, sE p (kk p T) m' E' u ↔ (P u ∧ ∀ j, j < k → vu p T u (tco T e + j) % p = R 1 (tco T e + j))) → ∃ (res : Int32) (M'' : tv_M), Dr_addReading_L2 F nn (22 + 2 * e) (nI k) M' = some (res, M'') ∧ fD m M M'' ∧ ((res = 1 ∧ ∃ m' E' led', m ≤ m' ∧ m' ≤ m + tsz T e ∧ eqS M'' m' (kk p T) E' led' ∧ gE p (kk p T) m' E' led' ∧ ∀ u, sE p (kk p T) m' E' u ↔ (P u ∧ ∀ k, k < tsz T e → vu p T u (tco T e + k) % p = R 1 (tco T e + k))) ∨ (res = 0 ∧ ∀ u, P u → ¬ ∀ k, k < tsz T e → vu p T u (tco T e + k) % p = R 1 (tco T e + k))) := by
    intro d
    induction d with
    | zero =>
      intro k nn M' m' E' led' e1 e2 f1 k1 k2 k3 k4 k5
      obtain ⟨nn, rfl⟩ : ∃ n', nn = n' + 1 := ⟨nn - 1, by omega⟩
      have ek : k = tsz T e := by omega
      subst ek
      rw [Dr_addReading_L2, tp_gl p3, f1 _ _ (by omega) (by omega) (by omega), (cc.2.2.2.2.2.2.2.1 e he).2.1, if_pos (nI_le (Nat.le_refl _) (by omega))]
      exact ⟨1, M', rfl, f1, Or.inl ⟨rfl, m', E', led', k1, k2, k3, k4, k5⟩⟩
    | succ d ih =>
      intro k nn M' m' E' led' e1 e2 f1 k1 k2 k3 k4 k5
      obtain ⟨nn, rfl⟩ : ∃ n', nn = n' + 1 := ⟨nn - 1, by omega⟩
      have cc' : cT M' p T := cc.cg hT (fun a i q => f1 a i (by have := q.2.1; omega) (by have := q.2.1; omega) (by have := q.2.1; omega))
      have ca' : cA M' p T := ca.cg hT (fun a i z1 z2 => f1 a i (by omega) (by omega) (by omega)) (f1 _ _ (by omega) (by omega) (by omega)) (f1 _ _ (by omega) (by omega) (by omega))
      obtain ⟨res, M2, y1, y2, y3⟩ := dr_add (F := F) (M := M') (c := tco T e + k) (w := R 1 (tco T e + k)) hF hp hT cc' ca' (by omega) k3 k4 (by omega) (hR.2 _)
      rw [Dr_addReading_L2, tp_gl p3, f1 _ _ (by omega) (by omega) (by omega), (cc.2.2.2.2.2.2.2.1 e he).2.1, if_neg (nI_ge (by omega) (by omega)), tp_nn p2, tp_gn p4, tp_rd (by omega) (by decide), f1 (23 + 2 * e) k (by omega) (by omega) (by omega), (cr e he).2 hr k (by omega), (cc'.2.2.2.2.2.2.2.1 e he).2.2, nI_add, tp_cb y1, nI_1]
      have f2 : fD m M M2 := fun a i z1 z2 z3 => (y2 a i (by omega) (by omega) z3).trans (f1 a i z1 z2 z3)
      rcases y3 with ⟨rfl, m2, E2, led2, j1, j2, j3, j4, j5⟩ | ⟨rfl, y3⟩
      · rw [if_neg (show ¬ (1 : Int32) = 0 by decide)]
        refine ih (k + 1) nn M2 m2 E2 led2 (by omega) (by omega) f2 (by omega) (by omega) j3 j4 (fun u => ?_)
        rw [j5 u, k5 u]
        constructor
        · rintro ⟨⟨h1, h2⟩, h3⟩
          refine ⟨h1, fun j hj => ?_⟩
          by_cases z : j = k
          · rw [z]; exact h3
          · exact h2 j (by omega)
        · rintro ⟨h1, h2⟩
          exact ⟨⟨h1, fun j hj => h2 j (by omega)⟩, h2 k (by omega)⟩
      · rw [if_pos rfl]
        exact ⟨0, M2, rfl, f2, Or.inr ⟨rfl, fun u hu hall => y3 u ((k5 u).mpr ⟨hu, fun j hj => hall j (by omega)⟩) (hall k (by omega))⟩⟩
  unfold Dr_addReading
  rw [tp_gl p3]
  exact hh (tsz T e) 0 F M m E led (by omega) (by omega) (fun _ _ _ _ _ => rfl) (Nat.le_refl _) (Nat.le_refl _) hs hg (fun u => by rw [hP u]; exact ⟨fun h => ⟨h, fun j hj => absurd hj (Nat.not_lt_zero j)⟩, fun h => h.1⟩)
/-- a set of eyes that may be dropped -/
def ofit (p : Nat) (T R : Nat → Nat → Nat) (off : Nat) : Prop := sub8 off (al_s T R) = true ∧ ft p T R (so R off) = true
def OptB (p : Nat) (T R : Nat → Nat → Nat) (X b cnt : Nat) : Prop := (cnt = 9 ∧ ∀ off, off < X → ¬ ofit p T R off) ∨ (b < X ∧ ofit p T R b ∧ cnt = pc b ∧ ∀ off, off < X → ofit p T R off → cnt < pc off ∨ (cnt = pc off ∧ b ≤ off))
theorem OptB.ext {X Y b cnt : Nat} (h : OptB p T R X b cnt) (hXY : X ≤ Y) (hn : ∀ off, X ≤ off → off < Y → ¬ ofit p T R off) : OptB p T R Y b cnt := by
  rcases h with ⟨h1, h2⟩ | ⟨h1, h2, h3, h4⟩
  · refine Or.inl ⟨h1, fun off hoff => ?_⟩
    by_cases q : off < X
    · exact h2 off q
    · exact hn off (by omega) hoff
  · refine Or.inr ⟨by omega, h2, h3, fun off hoff ho => ?_⟩
    by_cases q : off < X
    · exact h4 off q ho
    · exact absurd ho (hn off (by omega) hoff)
theorem sub8_iff {x y : Nat} : sub8 x y = true ↔ ∀ k, k < 8 → x.testBit k = true → y.testBit k = true := by
  unfold sub8
  rw [an_iff]
  refine ⟨fun h k hk hx => ?_, fun h k hk => ?_⟩
  · have := h k hk
    rw [hx] at this
    exact this
  · by_cases w : x.testBit k = true
    · rw [w, h k hk w]; rfl
    · rw [Bool.eq_false_iff.mpr w]; rfl
theorem al_bit {k : Nat} : (al_s T R).testBit k = (decide (k < tE T) && hs R k) := rs_bit _ _ _
theorem so_lin (hR : gR p T R) {off : Nat} : ∀ e, e < tE T → so R off e = true → tso T e ≠ 3 := fun e he h => by
  unfold so at h
  rw [Bool.and_eq_true] at h
  exact hs_lin hR e he h.1
/-- the kept eyes from x on hold -/
def PP (p : Nat) (T R : Nat → Nat → Nat) (x d : Nat) (u : Nat → Nat) : Prop := ∀ g, x ≤ g → g < tE T → so R d g = true → ∀ k, k < tsz T g → vu p T u (tco T g + k) % p = R 1 (tco T g + k)
def fSr (m : Nat) (M M' : tv_M) : Prop := ∀ a i, ¬ (167 + m ≤ a ∧ a < 192) → ¬ (a = 192 ∧ m ≤ i) → ¬ (a = 165 ∧ (i = 4 ∨ i = 6 ∨ i = 7)) → M'.1 a i = M.1 a i
theorem fSr.tr {M M' M'' : tv_M} (h : fSr m M M') (g : fSr m M' M'') : fSr m M M'' := fun a i q1 q2 q3 => (g a i q1 q2 q3).trans (h a i q1 q2 q3)
theorem fSr.su {m m' : Nat} {M M' : tv_M} (h : fSr m' M M') (hm : m ≤ m') : fSr m M M' := fun a i q1 q2 q3 => h a i (by omega) (by omega) q3
theorem fSr.cT {M M' : tv_M} (hT : gT p T) (hf : fSr m M M') (h : cT M p T) : cT M' p T := h.cg hT (fun a i q => hf a i (by have := q.2.1; omega) (by have := q.2.1; omega) (by have := q.2.1; omega))
theorem fSr.cA {M M' : tv_M} (hT : gT p T) (hf : fSr m M M') (h : cA M p T) : cA M' p T := h.cg hT (fun a i z1 z2 => hf a i (by omega) (by omega) (by omega)) (hf _ _ (by omega) (by omega) (by omega)) (hf _ _ (by omega) (by omega) (by omega))
theorem fSr.cR {M M' : tv_M} (hT : gT p T) (hf : fSr m M M') (h : cR M T R) : cR M' T R := h.cg hT (fun a i q1 q2 _ => hf a i (by omega) (by omega) (by omega))
theorem eqS.fSr {M M' : tv_M} {K : Nat} (h : eqS M m K E led) (hf : fSr m M M') (hm2 : m ≤ 25) (h4 : M'.1 165 4 = nI m) : eqS M' m K E led := ⟨h4, by rw [hf _ _ (by omega) (by omega) (by omega)]; exact h.2.1, fun i hi => ⟨fun k hk => by rw [hf _ _ (by omega) (by omega) (by omega)]; exact (h.2.2 i hi).1 k hk, by rw [hf _ _ (by omega) (by omega) (by omega)]; exact (h.2.2 i hi).2⟩⟩
theorem dr_search (hF : 60 < F) (hp : tp_pr p) (hT : gT p T) (hR : gR p T R) : ∀ x d nn m E led b cnt (M : tv_M), x ≤ tE T → x < nn → d % 2 ^ x = 0 → d + 2 ^ x ≤ 256 → sub8 d (al_s T R) = true → m + tcs T x ≤ tC T → cT M p T → cA M p T → cR M T R → eqS M m (kk p T) E led → gE p (kk p T) m E led → (∀ u, sE p (kk p T) m E u ↔ PP p T R x d u) → M.1 165 6 = nI b → M.1 165 7 = nI cnt → cnt ≤ 9 → OptB p T R d b cnt → ∃ M' b' cnt', Dr_searchFrom F nn (nI x - 1) (nI d) M = some ((), M') ∧ fSr m M M' ∧ M'.1 165 6 = nI b' ∧ M'.1 165 7 = nI cnt' ∧ cnt' ≤ 9 ∧ OptB p T R (d + 2 ^ x) b' cnt' := by
  have h8 := hT.1
  have hC := hT.C
  intro x
  induction x with
  | zero =>
    intro d nn m E led b cnt M hx hnn hd hd2 hsub hm cc ca cr hS hg hP h6 h7 hc9 hopt
    obtain ⟨nn, rfl⟩ : ∃ n', nn = n' + 1 := ⟨nn - 1, by omega⟩
    have hd2 : d + 1 ≤ 256 := hd2
    have hpc := bh_5 d (by omega)
    rw [Dr_searchFrom, tp_cb (jv_bits (by omega)), h7]
    by_cases q : pc d < cnt
    · rw [if_pos (nI_lt q (by omega)), tp_cb (to_eye_out cc (Or.inl (by decide))), tp_nln, tp_pf, tp_pf]
      refine ⟨_, d, pc d, rfl, fun a i q1 q2 q3 => by rw [tp_w, if_neg (by omega), tp_w, if_neg (by omega)], by rw [tp_wj (by omega), tp_ws], tp_ws, by omega, Or.inr ⟨by show d < d + 1; omega, ⟨hsub, ?_⟩, rfl, fun off hoff ho => ?_⟩⟩
      · obtain ⟨u, hu⟩ := eq_solv hp hg
        have hu := (hP u).mp hu
        exact (ft_u hp hT hR (so_lin hR)).mpr ⟨u, fun e he hse k hk => hu e (by omega) he hse k hk⟩
      · have hoff : off < d + 1 := hoff
        by_cases e : off = d
        · rw [e]; exact Or.inr ⟨rfl, Nat.le_refl _⟩
        · rcases hopt with ⟨h1, h2⟩ | ⟨h1, h2, h3, h4⟩
          · exact absurd ho (h2 off (by omega))
          · rcases h4 off (by omega) ho with w | w
            · exact Or.inl (by omega)
            · exact Or.inl (by omega)
    · rw [if_neg (nI_nlt (by omega) (by omega))]
      refine ⟨M, b, cnt, rfl, fun _ _ _ _ _ => rfl, h6, h7, hc9, ?_⟩
      rcases hopt with ⟨h1, h2⟩ | ⟨h1, h2, h3, h4⟩
      · omega
      · refine Or.inr ⟨by omega, h2, h3, fun off hoff ho => ?_⟩
        have hoff : off < d + 1 := hoff
        by_cases e : off = d
        · rw [e]; by_cases w : cnt = pc d
          · exact Or.inr ⟨w, by omega⟩
          · exact Or.inl (by omega)
        · exact h4 off (by omega) ho
  | succ e ih =>
    intro d nn m E led b cnt M hx hnn hd hd2 hsub hm cc ca cr hS hg hP h6 h7 hc9 hopt
    obtain ⟨nn, rfl⟩ : ∃ n', nn = n' + 1 := ⟨nn - 1, by omega⟩
    have he : e < tE T := by omega
    obtain ⟨m1, m2, m3, m4⟩ := bh_md (show e < 8 by omega) hd
    have hpow : 2 ^ (e + 1) = 2 ^ e * 2 := Nat.pow_succ ..
    have hpos : 0 < 2 ^ e := Nat.pow_pos (by omega)
    have hpc := bh_5 d (by omega)
    obtain ⟨p1, p2, p3, p4⟩ := tp_eyP e (by omega)
    have hsz := (hT.2.2.2.2.2.1 e he).2.2.1
    -- the bits of what lies from d on
    have hhi : ∀ off, d ≤ off → off < d + 2 ^ (e + 1) → ∀ k, e + 1 ≤ k → k < 8 → off.testBit k = d.testBit k := fun off o1 o2 k k1 k2 => by
      rw [bh_2 (e + 1) (by omega) off (by omega) k k2 k1, bh_sub hd o1 o2]
    have hlo : ∀ off, d ≤ off → off < d + 2 ^ e → off.testBit e = false := fun off o1 o2 => by
      rw [bh_1 e (by omega) off (by omega)]; exact decide_eq_false (by have := m3 off o1 o2; omega)
    have hup : ∀ off, d + 2 ^ e ≤ off → off < d + 2 ^ (e + 1) → off.testBit e = true := fun off o1 o2 => by
      rw [bh_1 e (by omega) off (by omega)]; exact decide_eq_true (m4 off o1 o2)
    have hdb : d.testBit e = false := hlo d (Nat.le_refl _) (by omega)
    rw [Dr_searchFrom, tp_cb (jv_bits (by omega)), h7, nI_pm]
    by_cases q : pc d < cnt
    · rw [if_pos (nI_lt q (by omega)), tp_cb (to_eye hT cc he), tp_nls, tp_gl p3, (cr e he).1]
      have hr01 : R 0 e = 0 ∨ R 0 e = 1 := by have := (hR.1 e he).1; omega
      rcases hr01 with hr | hr
      · -- no reading
        have hse : ∀ off, so R off e = false := fun off => by unfold so hs; rw [hr]; rfl
        rw [hr, if_pos (show nI 0 = 0 from rfl)]
        have htc : tcs T e ≤ tcs T (e + 1) := tcs_mono T _ (by omega)
        obtain ⟨M1, b1, c1, y1, y2, y3, y4, y5, y6⟩ := ih d nn m E led b cnt M (by omega) (by omega) m1 (by omega) hsub (by omega) cc ca cr hS hg (fun u => by
          rw [hP u]
          constructor
          · intro h g g1 g2 g3
            by_cases z : g = e
            · rw [z, hse] at g3; exact Bool.noConfusion g3
            · exact h g (by omega) g2 g3
          · intro h g g1 g2 g3
            exact h g (by omega) g2 g3) h6 h7 hc9 hopt
        rw [tp_cb y1]
        unfold Dr_searchFrom_L71
        rw [tp_gl p3, tp_pf, tp_wk (by omega), y2 _ _ (by omega) (by omega) (by omega), (cr e he).1, hr, if_pos (show nI 0 = 0 from rfl)]
        refine ⟨_, b1, c1, rfl, fun a i q1 q2 q3 => by rw [tp_w, if_neg (by omega)]; exact y2 a i q1 q2 q3, by rw [tp_wj (by omega)]; exact y3, by rw [tp_wj (by omega)]; exact y4, y5, y6.ext (by omega) (fun off o1 o2 ho => ?_)⟩
        have hb := sub8_iff.mp ho.1 e (by omega) (hup off o1 o2)
        rw [al_bit, decide_eq_true he, Bool.true_and] at hb
        unfold hs at hb
        rw [hr] at hb
        exact absurd hb (by decide)
      · -- a reading
        have hes : tso T e ≠ 3 := fun w => by have := (hR.1 e he).2 w; omega
        have hhs : hs R e = true := by unfold hs; rw [hr]; rfl
        rw [hr, if_neg (show ¬ nI 1 = 0 by decide), hS.1]
        have htc : tcs T (e + 1) = tcs T e + tsz T e := by rw [tcs, if_neg hes]
        obtain ⟨res, M1, y1, y2, y3⟩ := dr_read (F := F) hF hp hT hR cc ca cr (by omega) hS hg hP he hr
        have f1 : fSr m M M1 := fun a i q1 q2 q3 => y2 a i q1 q2 (by omega)
        rw [tp_cb y1]
        -- behind the first half
        have hsecond : ∀ (M2 : tv_M) b2 c2, fSr m M M2 → M2.1 165 6 = nI b2 → M2.1 165 7 = nI c2 → c2 ≤ 9 → OptB p T R (d + 2 ^ e) b2 c2 → ∃ M' b' cnt', Dr_searchFrom_L71 F (Dr_searchFrom F nn) (nI e) (nI d) (22 + 2 * e) (nI m) M2 = some ((), M') ∧ fSr m M M' ∧ M'.1 165 6 = nI b' ∧ M'.1 165 7 = nI cnt' ∧ cnt' ≤ 9 ∧ OptB p T R (d + 2 ^ (e + 1)) b' cnt' := by
          intro M2 b2 c2 f2 g6 g7 g9 gopt
          unfold Dr_searchFrom_L71
          have f3 : fSr m M (tv_w M2 165 4 (nI m)) := fun a i q1 q2 q3 => by rw [tp_w, if_neg (by omega)]; exact f2 a i q1 q2 q3
          rw [tp_gl p3, tp_pf, ((f3.cR hT cr) e he).1, hr, if_neg (show ¬ nI 1 = 0 by decide), bh_4 d (by omega) e (by omega) hdb]
          obtain ⟨M3, b3, c3, z1, z2, z3, z4, z5, z6⟩ := ih (d + 2 ^ e) nn m E led b2 c2 (tv_w M2 165 4 (nI m)) (by omega) (by omega) m2 (by omega) (sub8_iff.mpr (fun k hk hb => by
            by_cases w : k = e
            · rw [w, al_bit, decide_eq_true he, hhs]; rfl
            · by_cases w2 : e + 1 ≤ k
              · rw [hhi _ (by omega) (by omega) k w2 hk] at hb
                exact sub8_iff.mp hsub k hk hb
              · have hz : (d + 2 ^ e).testBit k = false := by
                  have hm0 : (d + 2 ^ e) % 2 ^ (k + 1) = 0 := by
                    obtain ⟨j, hj⟩ : ∃ j, e = k + 1 + j := ⟨e - (k + 1), by omega⟩
                    have hdv : 2 ^ (k + 1) ∣ d + 2 ^ e := by
                      refine Nat.dvd_trans ?_ (Nat.dvd_of_mod_eq_zero m2)
                      rw [hj, Nat.pow_add 2 (k + 1) j]; exact Nat.dvd_mul_right _ _
                    exact Nat.mod_eq_zero_of_dvd hdv
                  rw [bh_1 k hk _ (by omega), hm0]
                  exact decide_eq_false (by have : 0 < 2 ^ k := Nat.pow_pos (by omega)
                                            omega)
                rw [hz] at hb; exact Bool.noConfusion hb)) (by omega) (f3.cT hT cc) (f3.cA hT ca) (f3.cR hT cr) (hS.fSr f3 (by omega) tp_ws) hg (fun u => by
            rw [hP u]
            have hsd : ∀ g, e + 1 ≤ g → g < tE T → so R (d + 2 ^ e) g = so R d g := fun g g1 g2 => by unfold so; rw [hhi _ (by omega) (by omega) g g1 (by omega)]
            have hse : so R (d + 2 ^ e) e = false := by unfold so; rw [hup _ (Nat.le_refl _) (by omega), hhs]; rfl
            constructor
            · intro h g g1 g2 g3
              by_cases z : g = e
              · rw [z, hse] at g3; exact Bool.noConfusion g3
              · rw [hsd g (by omega) g2] at g3; exact h g (by omega) g2 g3
            · intro h g g1 g2 g3
              exact h g (by omega) g2 (by rw [hsd g g1 g2]; exact g3)) (by rw [tp_wj (by omega)]; exact g6) (by rw [tp_wj (by omega)]; exact g7) g9 gopt
          rw [tp_cb z1]
          refine ⟨M3, b3, c3, rfl, f3.tr z2, z3, z4, z5, ?_⟩
          rw [show d + 2 ^ (e + 1) = d + 2 ^ e + 2 ^ e by omega]; exact z6
        rcases y3 with ⟨rfl, m', E', led', j1, j2, j3, j4, j5⟩ | ⟨rfl, y3⟩
        · rw [if_neg (show ¬ (1 : Int32) = 0 by decide)]
          obtain ⟨M2, b2, c2, z1, z2, z3, z4, z5, z6⟩ := ih d nn m' E' led' b cnt M1 (by omega) (by omega) m1 (by omega) hsub (by omega) (f1.cT hT cc) (f1.cA hT ca) (f1.cR hT cr) j3 j4 (fun u => by
            rw [j5 u]
            have hse : so R d e = true := by unfold so; rw [hhs, hdb]; rfl
            constructor
            · rintro ⟨h1, h2⟩ g g1 g2 g3
              by_cases z : g = e
              · rw [z]; exact h2
              · exact h1 g (by omega) g2 g3
            · intro h
              exact ⟨fun g g1 g2 g3 => h g (by omega) g2 g3, h e (Nat.le_refl _) he hse⟩) (by rw [y2 _ _ (by omega) (by omega) (by omega)]; exact h6) (by rw [y2 _ _ (by omega) (by omega) (by omega)]; exact h7) hc9 hopt
          rw [tp_cb z1]
          exact hsecond M2 b2 c2 (f1.tr (z2.su j1)) z3 z4 z5 z6
        · rw [if_pos rfl]
          refine hsecond M1 b cnt f1 (by rw [y2 _ _ (by omega) (by omega) (by omega)]; exact h6) (by rw [y2 _ _ (by omega) (by omega) (by omega)]; exact h7) hc9 (hopt.ext (by omega) (fun off o1 o2 ho => ?_))
          obtain ⟨u, hu⟩ := (ft_u hp hT hR (so_lin hR)).mp ho.2
          refine y3 u (fun g g1 g2 g3 => hu g g2 ?_) (hu e he ?_)
          · have : so R off g = so R d g := by unfold so; rw [hhi off o1 (by omega) g g1 (by omega)]
            rw [this]; exact g3
          · unfold so; rw [hhs, hlo off o1 o2]; rfl
    · rw [if_neg (nI_nlt (by omega) (by omega))]
      refine ⟨M, b, cnt, rfl, fun _ _ _ _ _ => rfl, h6, h7, hc9, ?_⟩
      rcases hopt with ⟨h1, h2⟩ | ⟨h1, h2, h3, h4⟩
      · omega
      · refine Or.inr ⟨by omega, h2, h3, fun off hoff ho => ?_⟩
        by_cases w : off < d
        · exact h4 off w ho
        · have := bh_3 (e + 1) (by omega) off (by omega)
          rw [bh_sub hd (by omega) hoff] at this
          by_cases w2 : cnt = pc off
          · exact Or.inr ⟨w2, by omega⟩
          · exact Or.inl (by omega)
end SEARCH
