/-! BITS AND COUNTS -/
/-- the bits of a number below 256 -/
def pc (x : Nat) : Nat := cn (fun k => x.testBit k) 8
def jbc (a : Int32) : Int32 :=
  (fun x1 : Int32 => (fun x2 : Int32 => (fun x3 : Int32 => (fun x4 : Int32 => (fun x5 : Int32 => x5 &&& 63) (x4 + (((x4).toUInt32 >>> ((16).toUInt32 &&& Int32.toUInt32 31)).toInt32))) (x3 + (((x3).toUInt32 >>> ((8).toUInt32 &&& Int32.toUInt32 31)).toInt32))) ((x2 + (((x2).toUInt32 >>> ((4).toUInt32 &&& Int32.toUInt32 31)).toInt32)) &&& 252645135)) ((x1 &&& 858993459) + ((((x1).toUInt32 >>> ((2).toUInt32 &&& Int32.toUInt32 31)).toInt32) &&& 858993459))) (a - ((((a).toUInt32 >>> ((1).toUInt32 &&& Int32.toUInt32 31)).toInt32) &&& 1431655765))
theorem jbc_P : ∀ x, x < 256 → jbc (nI x) = nI (pc x) := by decide +kernel
theorem jv_bits {F x : Nat} {M : tv_M} (h : x < 256) : Jv_bitCount F (nI x) M = some (nI (pc x), M) := by
  rw [← jbc_P x h]; rfl
theorem bit_P : ∀ x, x < 256 → ∀ k, k < 8 → ((nI x >>> (nI k &&& 31)) &&& 1 : Int32) = if x.testBit k then 1 else 0 := by decide +kernel
theorem bit_1 {x k : Nat} (hx : x < 256) (hk : k < 8) : ((nI x >>> (nI k &&& 31)) &&& 1 : Int32) = 1 ↔ x.testBit k = true := by
  rw [bit_P x hx k hk]
  by_cases h : x.testBit k = true
  · rw [if_pos h]; exact ⟨fun _ => h, fun _ => rfl⟩
  · rw [if_neg h]; exact ⟨fun w => absurd w (by decide), fun w => absurd w h⟩
theorem bit_or : ∀ k, k < 8 → ∀ x, x < 2 ^ k → (nI x ||| (1 <<< (nI k &&& 31)) : Int32) = nI (x + 2 ^ k) := by decide +kernel
theorem bit_sh : ∀ k, k < 9 → ((1 : Int32) <<< (nI k &&& 31)) = nI (2 ^ k) := by decide +kernel
theorem bit_cl : ∀ x, x < 256 → ∀ k, k < 8 → (nI x &&& ((1 <<< (nI k &&& 31)) ^^^ (-1)) : Int32) = nI (if x.testBit k then x - 2 ^ k else x) := by decide +kernel
theorem bit_ful : ∀ k, k < 5 → ((1 : Int32) <<< (nI k &&& 31)) - 1 = nI (2 ^ k - 1) := by decide +kernel
theorem md_bits {F x : Nat} {N : tv_M} (hF : 60 < F) (hx : x < 256) : Md_bits F (nI x) N = some (nI (pc x), N) := by
  have hh : ∀ m j nn, j + m = 8 → m < nn → Md_bits_L4 F nn (nI x) (nI (cn (fun k => x.testBit k) j)) (nI j) N = some (nI (pc x), N) := by
    intro m
    induction m with
    | zero =>
      intro j nn e1 e2
      obtain ⟨nn, rfl⟩ : ∃ n', nn = n' + 1 := ⟨nn - 1, by omega⟩
      rw [show j = 8 by omega, Md_bits_L4, if_pos (show (8 : Int32) ≤ nI 8 by decide)]; rfl
    | succ m ih =>
      intro j nn e1 e2
      obtain ⟨nn, rfl⟩ : ∃ n', nn = n' + 1 := ⟨nn - 1, by omega⟩
      have hi := ih (j + 1) nn (by omega) (by omega)
      rw [Md_bits_L4, if_neg (show ¬ (8 : Int32) ≤ nI j from nI_ge (b := 8) (by omega) (by omega)), bit_P x hx j (by omega), nI_1]
      rw [cn] at hi
      show Md_bits_L4 F nn (nI x) (nI (cn (fun k => x.testBit k) j) + (if x.testBit j then 1 else 0)) (nI (j + 1)) N = _
      by_cases q : x.testBit j = true
      · rw [if_pos q, nI_1]
        rw [if_pos q] at hi
        exact hi
      · rw [if_neg q, show ∀ z : Int32, z + 0 = z from Int32.add_zero]
        rw [if_neg q, Nat.add_zero] at hi
        exact hi
  exact hh 8 0 F (by omega) (by omega)
/-- the set of the eyes below n that have a reading -/
def rs (f : Nat → Bool) : Nat → Nat
  | 0 => 0
  | n + 1 => rs f n + if f n then 2 ^ n else 0
theorem rs_lt (f : Nat → Bool) : ∀ n, rs f n < 2 ^ n := by
  intro n
  induction n with
  | zero => exact Nat.one_pos
  | succ n ih =>
    rw [rs, Nat.pow_succ]
    by_cases h : f n = true
    · rw [if_pos h]; omega
    · rw [if_neg h]; omega
theorem rs_bit (f : Nat → Bool) : ∀ n k, (rs f n).testBit k = (decide (k < n) && f k) := by
  intro n
  induction n with
  | zero => intro k; simp [rs]
  | succ n ih =>
    intro k
    rw [rs]
    have hlt := rs_lt f n
    by_cases h : f n = true
    · rw [if_pos h, Nat.add_comm]
      rcases Nat.lt_trichotomy k n with q | q | q
      · rw [Nat.testBit_two_pow_add_gt q, ih k, decide_eq_true q, decide_eq_true (show k < n + 1 by omega)]
      · subst q
        rw [Nat.testBit_two_pow_add_eq, Nat.testBit_lt_two_pow hlt, decide_eq_true (show k < k + 1 by omega), h]; rfl
      · rw [decide_eq_false (show ¬ k < n + 1 by omega), Bool.false_and]
        apply Nat.testBit_lt_two_pow
        have : 2 ^ (n + 1) ≤ 2 ^ k := Nat.pow_le_pow_right (by omega) (by omega)
        rw [Nat.pow_succ] at this
        omega
    · rw [if_neg h, Nat.add_zero, ih k]
      rcases Nat.lt_trichotomy k n with q | q | q
      · rw [decide_eq_true q, decide_eq_true (show k < n + 1 by omega)]
      · subst q
        rw [Bool.eq_false_iff.mpr h, Bool.and_false, Bool.and_false]
      · rw [decide_eq_false (show ¬ k < n by omega), decide_eq_false (show ¬ k < n + 1 by omega)]
theorem cn_ext {f : Nat → Bool} {n : Nat} : ∀ m, n ≤ m → cn (fun k => decide (k < n) && f k) m = cn f n := by
  intro m
  induction m with
  | zero => intro h; rw [show n = 0 by omega]; rfl
  | succ m ih =>
    intro h
    by_cases e : n = m + 1
    · subst e
      exact cn_cg _ (fun k hk => by rw [decide_eq_true hk, Bool.true_and])
    · rw [cn, ih (by omega), decide_eq_false (show ¬ m < n by omega), Bool.false_and, if_neg Bool.false_ne_true]; rfl
theorem rs_pc {f : Nat → Bool} {n : Nat} (h : n ≤ 8) : pc (rs f n) = cn f n := by
  unfold pc
  rw [cn_cg 8 (fun k _ => rs_bit f n k)]
  exact cn_ext 8 h
theorem rs_256 {f : Nat → Bool} {n : Nat} (h : n ≤ 8) : rs f n < 256 := Nat.lt_of_lt_of_le (rs_lt f n) (Nat.pow_le_pow_right (n := 2) (by omega) h)
/-- hasReading -/
def hs (R : Nat → Nat → Nat) (e : Nat) : Bool := decide (R 0 e = 1)
theorem md_rset {F p : Nat} {T R : Nat → Nat → Nat} {N : tv_M} (hF : 60 < F) (hT : gT p T) (hR : gR p T R) (mc : mT N p T) (mr : mR N T R) : Md_readingSet F N = some (nI (rs (hs R) (tE T)), N) := by
  have h8 := hT.1
  have hh : ∀ m j nn, j + m = tE T → m < nn → Md_readingSet_L4 F nn (nI (rs (hs R) j)) (nI j) N = some (nI (rs (hs R) (tE T)), N) := by
    intro m
    induction m with
    | zero =>
      intro j nn e1 e2
      obtain ⟨nn, rfl⟩ : ∃ n', nn = n' + 1 := ⟨nn - 1, by omega⟩
      rw [Md_readingSet_L4, mc.2.1, if_pos (nI_le (by omega) (by omega)), show j = tE T by omega]
    | succ m ih =>
      intro j nn e1 e2
      obtain ⟨nn, rfl⟩ : ∃ n', nn = n' + 1 := ⟨nn - 1, by omega⟩
      have hi := ih (j + 1) nn (by omega) (by omega)
      have hr := (hR.1 j (by omega)).1
      rw [Md_readingSet_L4, mc.2.1, if_neg (nI_ge (by omega) (by omega)), tp_rd (by omega) (by decide), (mr j (by omega)).1, bit_or j (by omega) _ (rs_lt _ j), nI_1]
      rw [rs] at hi
      by_cases q : R 0 j = 1
      · rw [if_neg (fun w => by have := (nI_z (by omega)).mp w; omega)]
        rw [show hs R j = true from decide_eq_true q, if_pos rfl] at hi
        exact hi
      · rw [if_pos ((nI_z (by omega)).mpr (by omega)), Int32.or_zero]
        rw [show hs R j = false from decide_eq_false q, if_neg Bool.false_ne_true, Nat.add_zero] at hi
        exact hi
  exact hh (tE T) 0 F (by omega) (by omega)
/-- hearsay -/
def gH (p : Nat) (T H : Nat → Nat → Nat) : Prop := H 3 0 ≤ 16 ∧ (∀ e, tE T ≤ e → H 0 e = 0) ∧ (∀ e, e < tE T → H 0 e ≠ 0 → tso T e ≠ 3 ∧ H 0 e - 1 < tK T ∧ H 1 e < tE T ∧ tso T (H 1 e) ≠ 3 ∧ (to1 T (H 0 e - 1) = H 1 e ∨ to2 T (H 0 e - 1) = H 1 e) ∧ trw T (H 0 e - 1) = tsz T e) ∧ ∀ c, H 2 c < p ∧ (tC T ≤ c → H 2 c = 0)
def cH (M : tv_M) (H : Nat → Nat → Nat) : Prop := M.1 193 3 = nI (H 3 0) ∧ (∀ e, e < 8 → M.1 195 e = if H 0 e = 0 then -1 else nI (H 0 e - 1)) ∧ (∀ e, e < 8 → H 0 e ≠ 0 → M.1 194 e = nI (H 1 e)) ∧ ∀ c, c < 24 → M.1 196 c = nI (H 2 c)
def mH (N : tv_M) (T H : Nat → Nat → Nat) : Prop := N.1 249 43 = nI (H 3 0) ∧ (∀ e, e < tE T → N.1 272 e = if H 0 e = 0 then -1000000 else nI (H 0 e - 1)) ∧ (∀ e, e < tE T → H 0 e ≠ 0 → N.1 273 e = nI (H 1 e)) ∧ ∀ c, c < tC T → N.1 274 c = nI (H 2 c)
theorem cH.cg {M M' : tv_M} {H : Nat → Nat → Nat} (h : cH M H) (hk : ∀ a i, (a = 193 ∧ i = 3) ∨ (194 ≤ a ∧ a < 197) → M'.1 a i = M.1 a i) : cH M' H := ⟨by rw [hk _ _ (by omega)]; exact h.1, fun e he => by rw [hk _ _ (by omega)]; exact h.2.1 e he, fun e he q => by rw [hk _ _ (by omega)]; exact h.2.2.1 e he q, fun c hc => by rw [hk _ _ (by omega)]; exact h.2.2.2 c hc⟩
theorem mH.cg {N N' : tv_M} {T H : Nat → Nat → Nat} (h : mH N T H) (hk : ∀ a i, (a = 249 ∧ i = 43) ∨ (272 ≤ a ∧ a < 275) → N'.1 a i = N.1 a i) : mH N' T H := ⟨by rw [hk _ _ (by omega)]; exact h.1, fun e he => by rw [hk _ _ (by omega)]; exact h.2.1 e he, fun e he q => by rw [hk _ _ (by omega)]; exact h.2.2.1 e he q, fun c hc => by rw [hk _ _ (by omega)]; exact h.2.2.2 c hc⟩
section COUNT
variable {F p : Nat} {a b c : Int32} {M N : tv_M} {T R H Tp S0 : Nat → Nat → Nat} {S1 : Nat → Nat → Int32} {Q : Nat → Nat} {Z : Nat → Nat}
theorem xx_there (hF : 60 < F) (hg : gS S0) (hc : cS M S0 S1) : Xx_sheetsThere F M = some (nI (cn (fun s => decide (S0 0 s ≠ 0)) 8), M) := by
  have hh : ∀ m j nn, j + m = 8 → m < nn → Xx_sheetsThere_L4 F nn (nI (cn (fun s => decide (S0 0 s ≠ 0)) j)) (nI j) M = some (nI (cn (fun s => decide (S0 0 s ≠ 0)) 8), M) := by
    intro m
    induction m with
    | zero =>
      intro j nn e1 e2
      obtain ⟨nn, rfl⟩ : ∃ n', nn = n' + 1 := ⟨nn - 1, by omega⟩
      rw [show j = 8 by omega, Xx_sheetsThere_L4, if_pos (show (8 : Int32) ≤ nI 8 by decide)]
    | succ m ih =>
      intro j nn e1 e2
      obtain ⟨nn, rfl⟩ : ∃ n', nn = n' + 1 := ⟨nn - 1, by omega⟩
      obtain ⟨p1, p2, p3, p4⟩ := tp_shP j (by omega)
      have hi := ih (j + 1) nn (by omega) (by omega)
      have hg1 := (hg j (by omega)).1
      rw [Xx_sheetsThere_L4, if_neg (show ¬ (8 : Int32) ≤ nI j from nI_ge (b := 8) (by omega) (by omega)), tp_ap (by omega) (by decide) p1, tp_gl p3, tp_cb (xs_missing (by omega)), (hc j (by omega)).1, nI_1, nI_1]
      rw [cn] at hi
      by_cases q : S0 0 j = 0
      · rw [if_pos ((i_ln_m hg1).mpr q), if_neg (show ¬ (1 : Int32) = 0 by decide)]
        rw [decide_eq_false (fun w => w q : ¬ S0 0 j ≠ 0), if_neg Bool.false_ne_true, Nat.add_zero] at hi
        exact hi
      · rw [if_neg (fun w => q ((i_ln_m hg1).mp w)), if_pos rfl]
        rw [decide_eq_true (q : S0 0 j ≠ 0), if_pos rfl] at hi
        exact hi
  exact hh 8 0 F (by omega) (by omega)
theorem md_there (hF : 60 < F) (hg : gS S0) (hc : mS N S0 S1) : Md_count_L62 F F 0 0 N = some (nI (cn (fun s => decide (S0 0 s ≠ 0)) 8), N) := by
  have hh : ∀ m j nn, j + m = 8 → m < nn → Md_count_L62 F nn (nI (cn (fun s => decide (S0 0 s ≠ 0)) j)) (nI j) N = some (nI (cn (fun s => decide (S0 0 s ≠ 0)) 8), N) := by
    intro m
    induction m with
    | zero =>
      intro j nn e1 e2
      obtain ⟨nn, rfl⟩ : ∃ n', nn = n' + 1 := ⟨nn - 1, by omega⟩
      rw [show j = 8 by omega, Md_count_L62, if_pos (show (8 : Int32) ≤ nI 8 by decide)]
    | succ m ih =>
      intro j nn e1 e2
      obtain ⟨nn, rfl⟩ : ∃ n', nn = n' + 1 := ⟨nn - 1, by omega⟩
      have hi := ih (j + 1) nn (by omega) (by omega)
      have hg1 := (hg j (by omega)).1
      rw [Md_count_L62, if_neg (show ¬ (8 : Int32) ≤ nI j from nI_ge (b := 8) (by omega) (by omega)), tp_rd (by omega) (by decide), (hc j (by omega)).1, nI_1, nI_1]
      rw [cn] at hi
      by_cases q : S0 0 j = 0
      · rw [if_pos ((i_ln_l hg1).mpr q), show ∀ z : Int32, z + 0 = z from Int32.add_zero]
        rw [decide_eq_false (fun w => w q : ¬ S0 0 j ≠ 0), if_neg Bool.false_ne_true, Nat.add_zero] at hi
        exact hi
      · rw [if_neg (fun w => q ((i_ln_l hg1).mp w))]
        rw [decide_eq_true (q : S0 0 j ≠ 0), if_pos rfl] at hi
        exact hi
  exact hh 8 0 F (by omega) (by omega)
theorem to_reads (hF : 60 < F) (hT : gT p T) (hR : gR p T R) (cc : cT M p T) (cr : cR M T R) : To_readings F M = some (nI (cn (hs R) (tE T)), M) := by
  have h8 := hT.1
  have hh : ∀ m j nn, j + m = tE T → m < nn → To_readings_L4 F nn (nI (cn (hs R) j)) (nI j) M = some (nI (cn (hs R) (tE T)), M) := by
    intro m
    induction m with
    | zero =>
      intro j nn e1 e2
      obtain ⟨nn, rfl⟩ : ∃ n', nn = n' + 1 := ⟨nn - 1, by omega⟩
      rw [To_readings_L4, cc.2.1, if_pos (nI_le (by omega) (by omega)), show j = tE T by omega]
    | succ m ih =>
      intro j nn e1 e2
      obtain ⟨nn, rfl⟩ : ∃ n', nn = n' + 1 := ⟨nn - 1, by omega⟩
      obtain ⟨p1, p2, p3, p4⟩ := tp_eyP j (by omega)
      have hi := ih (j + 1) nn (by omega) (by omega)
      have hr := (hR.1 j (by omega)).1
      rw [To_readings_L4, cc.2.1, if_neg (nI_ge (by omega) (by omega)), tp_ap (by omega) (by decide) p1, tp_gl p3, (cr j (by omega)).1, nI_1, nI_1]
      rw [cn] at hi
      by_cases q : R 0 j = 1
      · rw [if_neg (fun w => by have := (nI_z (by omega)).mp w; omega)]
        rw [show hs R j = true from decide_eq_true q, if_pos rfl] at hi
        exact hi
      · rw [if_pos ((nI_z (by omega)).mpr (by omega))]
        rw [show hs R j = false from decide_eq_false q, if_neg Bool.false_ne_true, Nat.add_zero] at hi
        exact hi
  exact hh (tE T) 0 F (by omega) (by omega)
theorem to_chos (hF : 60 < F) (hT : gT p T) (cc : cT M p T) : To_choiceCount F M = some (nI (cn (fun e => decide (tso T e = 3)) (tE T)), M) := by
  have h8 := hT.1
  have hh : ∀ m j nn, j + m = tE T → m < nn → To_choiceCount_L4 F nn (nI (cn (fun e => decide (tso T e = 3)) j)) (nI j) M = some (nI (cn (fun e => decide (tso T e = 3)) (tE T)), M) := by
    intro m
    induction m with
    | zero =>
      intro j nn e1 e2
      obtain ⟨nn, rfl⟩ : ∃ n', nn = n' + 1 := ⟨nn - 1, by omega⟩
      rw [To_choiceCount_L4, cc.2.1, if_pos (nI_le (by omega) (by omega)), show j = tE T by omega]
    | succ m ih =>
      intro j nn e1 e2
      obtain ⟨nn, rfl⟩ : ∃ n', nn = n' + 1 := ⟨nn - 1, by omega⟩
      obtain ⟨p1, p2, p3, p4⟩ := tp_eyP j (by omega)
      have hi := ih (j + 1) nn (by omega) (by omega)
      rw [To_choiceCount_L4, cc.2.1, if_neg (nI_ge (by omega) (by omega)), tp_ap (by omega) (by decide) p1, tp_gl p3, tp_cb (ey_choice hT cc (by omega)), nI_1, nI_1]
      rw [cn] at hi
      by_cases q : tso T j = 3
      · rw [if_pos q, if_neg (show ¬ (1 : Int32) = 0 by decide)]
        rw [decide_eq_true q, if_pos rfl] at hi
        exact hi
      · rw [if_neg q, if_pos rfl]
        rw [decide_eq_false q, if_neg Bool.false_ne_true, Nat.add_zero] at hi
        exact hi
  exact hh (tE T) 0 F (by omega) (by omega)
theorem md_chos (hF : 60 < F) (hT : gT p T) (mc : mT N p T) : Md_count_L123 F F 0 0 N = some (nI (cn (fun e => decide (tso T e = 3)) (tE T)), N) := by
  have h8 := hT.1
  have hh : ∀ m j nn, j + m = tE T → m < nn → Md_count_L123 F nn (nI (cn (fun e => decide (tso T e = 3)) j)) (nI j) N = some (nI (cn (fun e => decide (tso T e = 3)) (tE T)), N) := by
    intro m
    induction m with
    | zero =>
      intro j nn e1 e2
      obtain ⟨nn, rfl⟩ : ∃ n', nn = n' + 1 := ⟨nn - 1, by omega⟩
      rw [Md_count_L123, mc.2.1, if_pos (nI_le (by omega) (by omega)), show j = tE T by omega]
    | succ m ih =>
      intro j nn e1 e2
      obtain ⟨nn, rfl⟩ : ∃ n', nn = n' + 1 := ⟨nn - 1, by omega⟩
      have hi := ih (j + 1) nn (by omega) (by omega)
      have g1 := (hT.2.2.2.2.2.1 j (by omega)).1
      rw [Md_count_L123, mc.2.1, if_neg (nI_ge (by omega) (by omega)), tp_rd (by omega) (by decide), (mc.2.2.2.2.2.1 j (by omega)).1, nI_1, nI_1]
      rw [cn] at hi
      by_cases q : tso T j = 3
      · rw [if_pos ((nI_e3 (by omega)).mpr q)]
        rw [decide_eq_true q, if_pos rfl] at hi
        exact hi
      · rw [if_neg (fun w => q ((nI_e3 (by omega)).mp w)), show ∀ z : Int32, z + 0 = z from Int32.add_zero]
        rw [decide_eq_false q, if_neg Bool.false_ne_true, Nat.add_zero] at hi
        exact hi
  exact hh (tE T) 0 F (by omega) (by omega)
theorem op_count (hF : 60 < F) (hT : gT p T) (hR : gR p T R) (hg : gS S0) (cc : cT M p T) (cr : cR M T R) (cs : cS M S0 S1) (cz : cZ M p Z) (ch : cH M H) (ct : cTp M Tp) (mc : mT N p T) (mr : mR N T R) (ms : mS N S0 S1) (mh : mH N T H) (mt : mTp N Tp) : ∃ r, Xx_count F a M = some (r, M) ∧ Md_count F a N = some (r, tv_w N 249 0 0) := by
  have h8 := hT.1
  have mc' := mc.w0
  have mr' := mr.w0
  have ms' : mS (tv_w N 249 0 0) S0 S1 := ms.cg (fun a i _ _ => tp_wk (by omega))
  have mh' : mH (tv_w N 249 0 0) T H := mh.cg (fun a i q => by rw [tp_w, if_neg (by omega)])
  have mt' : (tv_w N 249 0 0).1 249 24 = nI (Tp 0 0) := by rw [tp_wj (by omega)]; exact mt.1
  unfold Xx_count Md_count
  rw [tp_pf]
  generalize tv_w N 249 0 0 = N' at mc' mr' ms' mh' mt' ⊢
  rw [tp_cb (xx_there hF hg cs), tp_cb (to_reads hF hT hR cc cr), tp_cb (to_chos hF hT cc), md_there hF hg ms', md_chos hF hT mc', tp_cb (md_rset hF hT hR mc' mr'), tp_cb (md_bits hF (rs_256 h8)), rs_pc h8, cc.2.1, cc.2.2.1, cc.2.2.2.1, ch.1, ct.1, cz.1, mc'.2.1, mc'.2.2.2.1, mc'.2.2.2.2.1, mh'.1, mt', mc'.1]
  by_cases q0 : a = 0
  · rw [if_pos q0, if_pos q0]; exact ⟨_, rfl, rfl⟩
  rw [if_neg q0, if_neg q0]
  by_cases q1 : a = 1
  · rw [if_pos q1, if_pos q1]; exact ⟨_, rfl, rfl⟩
  rw [if_neg q1, if_neg q1]
  by_cases q2 : a = 2
  · rw [if_pos q2, if_pos q2]; exact ⟨_, rfl, rfl⟩
  rw [if_neg q2, if_neg q2]
  by_cases q3 : a = 3
  · rw [if_pos q3, if_pos q3]; exact ⟨_, rfl, rfl⟩
  rw [if_neg q3, if_neg q3]
  by_cases q4 : a = 4
  · rw [if_pos q4, if_pos q4]; exact ⟨_, rfl, rfl⟩
  rw [if_neg q4, if_neg q4]
  by_cases q5 : a = 5
  · rw [if_pos q5, if_pos q5]; exact ⟨_, rfl, rfl⟩
  rw [if_neg q5, if_neg q5]
  by_cases q6 : a = 6
  · rw [if_pos q6, if_pos q6]; exact ⟨_, rfl, rfl⟩
  rw [if_neg q6, if_neg q6]
  by_cases q7 : a = 7
  · rw [if_pos q7, if_pos q7]; exact ⟨_, rfl, rfl⟩
  rw [if_neg q7, if_neg q7]
  by_cases q8 : a = 8
  · rw [if_pos q8, if_pos q8]; exact ⟨_, rfl, rfl⟩
  rw [if_neg q8, if_neg q8]
  exact ⟨_, rfl, rfl⟩
end COUNT
