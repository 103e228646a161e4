/-! the reference fills -/
def ci (T : Nat → Nat → Nat) (e : Nat) : Nat := cn (fun x => decide (tso T x = 3)) e
theorem ci_y {T : Nat → Nat → Nat} {e : Nat} (h : tso T e = 3) : ci T (e + 1) = ci T e + 1 := by unfold ci; rw [cn, decide_eq_true h, if_pos rfl]
theorem ci_n {T : Nat → Nat → Nat} {e : Nat} (h : ¬ tso T e = 3) : ci T (e + 1) = ci T e := by unfold ci; rw [cn, decide_eq_false h, if_neg Bool.false_ne_true, Nat.add_zero]
theorem ci_le (T : Nat → Nat → Nat) (e : Nat) : ci T e ≤ e := cn_le _ e
theorem ci_mono (T : Nat → Nat → Nat) {a : Nat} : ∀ b, a ≤ b → ci T a ≤ ci T b := by
  intro b
  induction b with
  | zero => intro h; rw [show a = 0 by omega]; exact Nat.le_refl _
  | succ b ih =>
    intro h
    by_cases e : a = b + 1
    · rw [e]; exact Nat.le_refl _
    · have h1 := ih (by omega)
      by_cases q : tso T b = 3
      · rw [ci_y q]; omega
      · rw [ci_n q]; exact h1
theorem ci_lt {T : Nat → Nat → Nat} {a b : Nat} (h : tso T a = 3) (hab : a < b) : ci T a < ci T b := by
  have := ci_mono T (a := a + 1) b (by omega)
  rw [ci_y h] at this
  omega
theorem ci_inj {T : Nat → Nat → Nat} {a b : Nat} (ha : tso T a = 3) (hb : tso T b = 3) (h : ci T a = ci T b) : a = b := by
  rcases Nat.lt_trichotomy a b with q | q | q
  · have := ci_lt ha q; omega
  · exact q
  · have := ci_lt hb q; omega
theorem an_cg {f g : Nat → Bool} : ∀ n, (∀ k, k < n → f k = g k) → an f n = an g n := by
  intro n
  induction n with
  | zero => intro _; rfl
  | succ n ih => intro h; rw [an, an, ih (fun k hk => h k (by omega)), h n (by omega)]
def mw (N : tv_M) (T : Nat → Nat → Nat) : Prop := N.1 249 49 = nI (ci T (tE T)) ∧ ∀ e, e < tE T → tso T e = 3 → N.1 277 (ci T e) = nI e
/-- what is given to the eyes below e -/
def mgv (N : tv_M) (T : Nat → Nat → Nat) (e : Nat) (g : Nat → Nat) : Prop := ∀ k, k < e → tso T k = 3 → N.1 278 (ci T k) = nI (g k) ∧ g k < 4
def nbr (T : Nat → Nat → Nat) (g : Nat → Nat) (i y k : Nat) : Bool := decide (tso T k ≠ 3) || !br T k (g k) i y
def hO (T : Nat → Nat → Nat) (Q O : Nat → Nat) (e : Nat) (g : Nat → Nat) : Prop := ∀ i y, e ≤ i → i < tE T → tso T i = 3 → y < 4 → (O i).testBit y = ((Q i).testBit y && an (nbr T g i y) e)
def fY (j : Nat) (N N' : tv_M) : Prop := ∀ a i, a ≠ 279 → ¬ (a = 278 ∧ j ≤ i) → N'.1 a i = N.1 a i
theorem fY.rf {j : Nat} {N : tv_M} : fY j N N := fun _ _ _ _ => rfl
theorem fY.tr {j : Nat} {N N' N'' : tv_M} (h : fY j N N') (g : fY j N' N'') : fY j N N'' := fun a i q1 q2 => (g a i q1 q2).trans (h a i q1 q2)
theorem fY.su {j j' : Nat} {N N' : tv_M} (h : fY j N N') (hj : j' ≤ j) : fY j' N N' := fun a i q1 q2 => h a i q1 (by omega)
theorem fY.mT {j p : Nat} {N N' : tv_M} {T : Nat → Nat → Nat} (h : fY j N N') (hm : mT N p T) : mT N' p T := hm.cg (fun a i q => h a i (by rcases q with q | q <;> omega) (by rcases q with q | q <;> omega))
theorem fY.mG {j : Nat} {N N' : tv_M} {T : Nat → Nat → Nat} (h : fY j N N') (hm : mG N T) : mG N' T := hm.cg (fun i => h 264 i (by omega) (by omega))
theorem fY.mQ {j : Nat} {N N' : tv_M} {T : Nat → Nat → Nat} {Q : Nat → Nat} (h : fY j N N') (hm : mQ N T Q) : mQ N' T Q := hm.cg (fun i => h 265 i (by omega) (by omega))
theorem fY.mw {j : Nat} {N N' : tv_M} {T : Nat → Nat → Nat} (h : fY j N N') (hm : mw N T) : mw N' T := ⟨by rw [h _ _ (by omega) (by omega)]; exact hm.1, fun e he hs => by rw [h _ _ (by omega) (by omega)]; exact hm.2 e he hs⟩
theorem fY.mgv {j e : Nat} {N N' : tv_M} {T : Nat → Nat → Nat} {g : Nat → Nat} (h : fY j N N') (hj : ci T e ≤ j) (hm : mgv N T e g) : mgv N' T e g := fun k hk hs => by
  have := ci_lt hs hk
  rw [h _ _ (by omega) (by omega)]; exact hm k hk hs
def wcost : Nat → Nat
  | 0 => 0
  | m + 1 => 5 + 4 * wcost m
section MFILLS
variable {F p : Nat} {a : Int32} {M N : tv_M} {T R : Nat → Nat → Nat} {Q : Nat → Nat}
theorem md_may {e v : Nat} {g O : Nat → Nat} (hF : 60 < F) (hT : gT p T) (hQ : gQ T Q) (mq : mQ N T Q) (mg : mG N T) (hw : mw N T) (hg : mgv N T e g) (ho : hO T Q O e g) (he : e < tE T) (hs : tso T e = 3) (hv : v < 4) (hN : N.1 278 (ci T e) = nI v) : Md_mayStand F (nI (ci T e)) N = some (if (O e).testBit v then 1 else 0, N) := by
  have h8 := hT.1
  have hce := ci_le T e
  have hq := hQ.lt hT he hs
  have hh : ∀ d x nn, x + d = e → d < nn → Md_mayStand_L32 F nn (nI (ci T e)) (if ((Q e).testBit v && an (nbr T g e v) x) then 1 else 0) (nI (ci T x)) N = some (if (O e).testBit v then 1 else 0, N) := by
    intro d
    induction d with
    | zero =>
      intro x nn e1 e2
      obtain ⟨nn, rfl⟩ : ∃ n', nn = n' + 1 := ⟨nn - 1, by omega⟩
      rw [show x = e by omega, Md_mayStand_L32, if_pos (nI_le (Nat.le_refl _) (by omega)), ← ho e v (Nat.le_refl _) he hs hv, tp_zo]
      by_cases q : (O e).testBit v = true
      · rw [if_pos q]; exact Or.inr rfl
      · rw [if_neg q]; exact Or.inl rfl
    | succ d ih =>
      intro x nn e1 e2
      have hi := ih (x + 1)
      rw [an] at hi
      by_cases hx : tso T x = 3
      · obtain ⟨nn, rfl⟩ : ∃ n', nn = n' + 1 := ⟨nn - 1, by omega⟩
        have hcx := ci_lt hx (show x < e by omega)
        have hi := hi nn (by omega) (by omega)
        rw [ci_y hx] at hi
        rw [Md_mayStand_L32, if_neg (nI_ge hcx (by omega)), nI_1, tp_rd (by omega) (by decide), hw.2 x (by omega) hx, tp_rd (by omega) (by decide), (hg x (by omega) hx).1, tp_rd (by omega) (by decide), hw.2 e he hs, tp_rd (by omega) (by decide), hN, tp_cb (md_bar mg (by omega) (hg x (by omega) hx).2 (by omega) hv)]
        have hn : nbr T g e v x = !br T x (g x) e v := by unfold nbr; rw [decide_eq_false (fun w => w hx), Bool.false_or]
        rw [hn] at hi
        generalize ((Q e).testBit v) = b1 at hi ⊢
        generalize (an (nbr T g e v) x) = b2 at hi ⊢
        generalize (br T x (g x) e v) = b3 at hi ⊢
        cases b1 <;> cases b2 <;> cases b3 <;> exact hi
      · have hi := hi nn (by omega) (by omega)
        have hn : nbr T g e v x = true := by unfold nbr; rw [decide_eq_true hx, Bool.true_or]
        rw [ci_n hx, hn, Bool.and_true] at hi
        exact hi
  unfold Md_mayStand
  rw [tp_rd (by omega) (by decide), hw.2 e he hs, tp_rd (by omega) (by decide), mq e he hs, tp_rd (by omega) (by decide), hN]
  have h0 := hh e 0 F (by omega) (by omega)
  rw [show an (nbr T g e v) 0 = true from rfl, Bool.and_true] at h0
  by_cases q : (Q e).testBit v = true
  · rw [if_pos ((bit_1 (by omega) (by omega)).mpr q)]
    rw [if_pos q] at h0
    exact h0
  · rw [if_neg (fun w => q ((bit_1 (by omega) (by omega)).mp w))]
    rw [if_neg q] at h0
    exact h0
/-- a whole way is found -/
theorem md_leaf {n : Nat} {l2 : Int32} {g : Nat → Nat} (hF : 60 < F) (hT : gT p T) (hw : mw N T) (hg : mgv N T (tE T) g) (hn : n < 2 ^ 31) : ∃ N', (∀ k71 : Int32 → Int32 → tv_M → Option (Int32 × tv_M), Md_ways_L134 F k71 F (nI n) l2 0 N = k71 (nI (n + 1)) l2 N') ∧ (∀ a i, a ≠ 279 → N'.1 a i = N.1 a i) ∧ (n ≠ 0 → N' = N) ∧ (n = 0 → ∀ k, k < tE T → tso T k = 3 → N'.1 279 (ci T k) = nI (g k)) := by
  have h8 := hT.1
  have hce := ci_le T (tE T)
  by_cases q : n = 0
  · subst q
    have hh : ∀ d x nn N', x + d = tE T → d < nn → (∀ a i, a ≠ 279 → N'.1 a i = N.1 a i) → (∀ k, k < x → tso T k = 3 → N'.1 279 (ci T k) = nI (g k)) → ∃ N'', (∀ k71 : Int32 → Int32 → tv_M → Option (Int32 × tv_M), Md_ways_L134 F k71 nn (nI 0) l2 (nI (ci T x)) N' = k71 (nI (0 + 1)) l2 N'') ∧ (∀ a i, a ≠ 279 → N''.1 a i = N.1 a i) ∧ ∀ k, k < tE T → tso T k = 3 → N''.1 279 (ci T k) = nI (g k) := by
      intro d
      induction d with
      | zero =>
        intro x nn N' e1 e2 f1 c1
        obtain ⟨nn, rfl⟩ : ∃ n', nn = n' + 1 := ⟨nn - 1, by omega⟩
        refine ⟨N', fun k71 => ?_, f1, fun k hk => c1 k (by omega)⟩
        rw [Md_ways_L134, f1 249 49 (by omega), hw.1, if_pos (nI_le (by rw [show x = tE T by omega]; exact Nat.le_refl _) (by have := ci_le T x; omega)), nI_1]
      | succ d ih =>
        intro x nn N' e1 e2 f1 c1
        by_cases hx : tso T x = 3
        · obtain ⟨nn, rfl⟩ : ∃ n', nn = n' + 1 := ⟨nn - 1, by omega⟩
          have hcx := ci_lt hx (show x < tE T by omega)
          obtain ⟨N2, y1, y2, y3⟩ := ih (x + 1) nn (tv_w N' 279 (ci T x) (nI (g x))) (by omega) (by omega) (fun a i w => by rw [tp_wk w]; exact f1 a i w) (fun k hk hs => by
            rw [tp_w]
            by_cases w : k = x
            · rw [w, if_pos ⟨rfl, rfl⟩]
            · rw [if_neg (fun z => w (ci_inj hs hx z.2))]; exact c1 k (by omega) hs)
          refine ⟨N2, fun k71 => ?_, y2, y3⟩
          rw [Md_ways_L134, f1 249 49 (by omega), hw.1, if_neg (nI_ge hcx (by omega)), if_pos (show nI 0 = 0 from rfl), tp_rd (by omega) (by decide), f1 278 _ (by omega), (hg x (by omega) hx).1, tp_wr (by omega) (by decide), nI_1 (ci T x), ← ci_y hx]
          exact y1 k71
        · rw [← ci_n hx]
          exact ih (x + 1) nn N' (by omega) (by omega) f1 (fun k hk hs => c1 k (by
            have : k ≠ x := fun w => hx (by rw [← w]; exact hs)
            omega) hs)
    obtain ⟨N', x1, x2, x3⟩ := hh (tE T) 0 F N (by omega) (by omega) (fun _ _ _ => rfl) (fun k hk => absurd hk (Nat.not_lt_zero k))
    exact ⟨N', x1, x2, fun w => absurd rfl w, fun _ => x3⟩
  · obtain ⟨F', hF'⟩ : ∃ n', F = n' + 1 := ⟨F - 1, by omega⟩
    have : ∀ G (k71 : Int32 → Int32 → tv_M → Option (Int32 × tv_M)), Md_ways_L134 G k71 (F' + 1) (nI n) l2 0 N = k71 (nI (n + 1)) l2 N := fun G k71 => by
      rw [Md_ways_L134, if_neg (show ¬ nI n = 0 from fun w => q ((nI_z hn).mp w)), nI_1]
      by_cases w : N.1 249 49 ≤ 0
      · rw [if_pos w]
      · rw [if_neg w]
    have h := this F
    rw [← hF'] at h
    exact ⟨N, h, fun _ _ _ => rfl, fun _ => rfl, fun w => absurd w q⟩
/-- the step to the next choice -/
def mw_ent (F nn : Nat) (n l2 : Int32) (N : tv_M) : Option (Int32 × tv_M) := if (N.1 249 49) ≤ (l2 + 1) then Md_ways_L134 F (Md_ways_L71 F nn) F n l2 0 N else tv_wr N 278 8 (l2 + 1) (-1) (fun N11 => Md_ways_L71 F nn n (l2 + 1) N11)
theorem nI_m1 (j : Nat) : nI j - 1 + 1 = nI j := Int32.sub_add_cancel _ _
theorem nI_pm (j : Nat) : nI (j + 1) - 1 = nI j := by rw [← nI_1]; exact Int32.add_sub_cancel _ _
/-- what stands in first behind it all -/
def mfi (T : Nat → Nat → Nat) (N N' : tv_M) (n w : Nat) (f : Nat → Nat) : Prop := ((n ≠ 0 ∨ w = 0) → ∀ i, N'.1 279 i = N.1 279 i) ∧ (n = 0 → w ≠ 0 → ∀ k, k < tE T → tso T k = 3 → N'.1 279 (ci T k) = nI (f k))
theorem md_ent (hF : 60 < F) (hT : gT p T) (hQ : gQ T Q) : ∀ m e (g O : Nat → Nat) n (N : tv_M), e + m = tE T → mT N p T → mQ N T Q → mG N T → mw N T → mgv N T e g → hO T Q O e g → gQ T O → n + wo T m e O < 2 ^ 31 → ∃ c N', c ≤ wcost m ∧ (∀ nn, mw_ent F (nn + c) (nI n) (nI (ci T e) - 1) N = Md_ways_L71 F nn (nI (n + wo T m e O)) (nI (ci T e) - 1) N') ∧ fY (ci T e) N N' ∧ mfi T N N' n (wo T m e O) (fun k => if k < e then g k else fo1 T m e O k) := by
  have h8 := hT.1
  intro m
  induction m with
  | zero =>
    intro e g O n N e1 mt mq mg hw hg ho hgo hn
    have e0 : e = tE T := by omega
    rw [e0] at hg ⊢
    have hce := ci_le T (tE T)
    have hn : n + 1 < 2 ^ 31 := hn
    obtain ⟨N', y1, y2, y3, y4⟩ := md_leaf (F := F) (l2 := nI (ci T (tE T)) - 1) hF hT hw hg (show n < 2 ^ 31 by omega)
    refine ⟨0, N', Nat.le_refl _, fun nn => ?_, fun a i q1 q2 => y2 a i q1, ⟨fun w i => ?_, fun w _ k hk hs => ?_⟩⟩
    · unfold mw_ent
      rw [nI_m1, hw.1, if_pos (nI_le (Nat.le_refl _) (by omega))]
      exact y1 _
    · rcases w with w | w
      · rw [y3 w]
      · exact absurd w Nat.one_ne_zero
    · dsimp only
      rw [if_pos hk]; exact y4 w k hk hs
  | succ m ih =>
    intro e g O n N e1 mt mq mg hw hg ho hgo hn
    have he : e < tE T := by omega
    have hce := ci_le T e
    by_cases hs : tso T e = 3
    · have hci := ci_lt hs he
      have hci2 := ci_le T (tE T)
      rw [wsum_4 hs] at hn ⊢
      have hmono : ∀ v, v ≤ 4 → wsum T m e O v ≤ wsum T m e O 4 := fun v hv => by
        have : v = 0 ∨ v = 1 ∨ v = 2 ∨ v = 3 ∨ v = 4 := by omega
        show _ ≤ wsum T m e O 0 + wv T m e O 0 + wv T m e O 1 + wv T m e O 2 + wv T m e O 3
        rcases this with rfl | rfl | rfl | rfl | rfl
        · omega
        · show wsum T m e O 0 + wv T m e O 0 ≤ _; omega
        · show wsum T m e O 0 + wv T m e O 0 + wv T m e O 1 ≤ _; omega
        · show wsum T m e O 0 + wv T m e O 0 + wv T m e O 1 + wv T m e O 2 ≤ _; omega
        · exact Nat.le_refl _
      have hh : ∀ d v N', v + d = 4 → N'.1 278 (ci T e) = nI v - 1 → fY (ci T e) N N' → mfi T N N' n (wsum T m e O v) (fun k => if k < e then g k else fo1 T (m + 1) e O k) → ∃ c N'', c ≤ 1 + d * (1 + wcost m) ∧ (∀ nn, Md_ways_L71 F (nn + c) (nI (n + wsum T m e O v)) (nI (ci T e)) N' = Md_ways_L71 F nn (nI (n + wsum T m e O 4)) (nI (ci T e) - 1) N'') ∧ fY (ci T e) N N'' ∧ mfi T N N'' n (wsum T m e O 4) (fun k => if k < e then g k else fo1 T (m + 1) e O k) := by
        intro d
        induction d with
        | zero =>
          intro v N' k1 k2 f1 i1
          have ev : v = 4 := by omega
          subst ev
          refine ⟨1, tv_w N' 278 (ci T e) (nI 4), by omega, fun nn => ?_, fun a i q1 q2 => by rw [tp_w, if_neg (by omega)]; exact f1 a i q1 q2, ⟨fun w i => by rw [tp_wk (by omega)]; exact i1.1 w i, fun w1 w2 k hk hks => by rw [tp_wk (by omega)]; exact i1.2 w1 w2 k hk hks⟩⟩
          rw [Md_ways_L71, if_neg (nI_pos (by omega)), tp_rd (by omega) (by decide), k2, nI_m1, tp_wr (by omega) (by decide), tp_rd (by omega) (by decide), tp_ws, if_pos (show nI 4 = 4 from rfl), show (nI (ci T e) - 1 : Int32) = nI (ci T e) + (-1) from Int32.sub_eq_add_neg ..]
        | succ d ihd =>
          intro v N' k1 k2 f1 i1
          have f2 : fY (ci T e) N (tv_w N' 278 (ci T e) (nI v)) := fun a i q1 q2 => by rw [tp_w, if_neg (by omega)]; exact f1 a i q1 q2
          have i2 : mfi T N (tv_w N' 278 (ci T e) (nI v)) n (wsum T m e O v) (fun k => if k < e then g k else fo1 T (m + 1) e O k) := ⟨fun w i => by rw [tp_wk (by omega)]; exact i1.1 w i, fun w1 w2 k hk hks => by rw [tp_wk (by omega)]; exact i1.2 w1 w2 k hk hks⟩
          have hstep : ∀ nn, Md_ways_L71 F (nn + 1) (nI (n + wsum T m e O v)) (nI (ci T e)) N' = tv_cb (Md_mayStand F (nI (ci T e)) (tv_w N' 278 (ci T e) (nI v))) (fun r9 M10 => if r9 = 0 then Md_ways_L71 F nn (nI (n + wsum T m e O v)) (nI (ci T e)) M10 else mw_ent F nn (nI (n + wsum T m e O v)) (nI (ci T e)) M10) := fun nn => by
            rw [Md_ways_L71, if_neg (nI_pos (by omega)), tp_rd (by omega) (by decide), k2, nI_m1, tp_wr (by omega) (by decide), tp_rd (by omega) (by decide), tp_ws, if_neg (show ¬ nI v = 4 from fun w => absurd ((nI_e4 (by omega)).mp w) (by omega))]
            rfl
          have hN2 : (tv_w N' 278 (ci T e) (nI v)).1 278 (ci T e) = nI v := tp_ws
          generalize tv_w N' 278 (ci T e) (nI v) = N2 at f2 i2 hstep hN2
          have hg2 : mgv N2 T e g := f2.mgv (Nat.le_refl _) hg
          have hmay := md_may (F := F) hF hT hQ (f2.mQ mq) (f2.mG mg) (f2.mw hw) hg2 ho he hs (show v < 4 by omega) hN2
          have hb := hmono (v + 1) (by omega)
          rw [wsum] at hb
          by_cases b1 : (O e).testBit v = true
          · have hwv : wv T m e O v = wo T m (e + 1) (fun i => O i &&& gw T e v i) := if_pos b1
            have hg3 : mgv N2 T (e + 1) (fun k => if k = e then v else g k) := fun k hk hks => by
              dsimp only
              by_cases w : k = e
              · rw [if_pos w, w]; exact ⟨hN2, by omega⟩
              · rw [if_neg w]; exact hg2 k (by omega) hks
            have ho3 : hO T Q (fun i => O i &&& gw T e v i) (e + 1) (fun k => if k = e then v else g k) := fun i y h1 h2 h3 h4 => by
              dsimp only
              rw [Nat.testBit_and, ho i y (by omega) h2 h3 h4, gw_bit _ _ _ _ h4, an, Bool.and_assoc]
              congr 2
              · exact an_cg e (fun k hk => by unfold nbr; dsimp only; rw [if_neg (show ¬ k = e by omega)])
              · unfold nbr; dsimp only; rw [if_pos rfl, decide_eq_false (fun w => w hs), Bool.false_or]
            obtain ⟨c, N3, x1, x2, x3, x4⟩ := ih (e + 1) _ _ (n + wsum T m e O v) N2 (by omega) (f2.mT mt) (f2.mQ mq) (f2.mG mg) (f2.mw hw) hg3 ho3 (hgo.an e v) (by rw [← hwv]; omega)
            rw [ci_y hs, nI_pm, ← hwv] at x2
            rw [← hwv] at x4
            rw [ci_y hs] at x3
            have f3 : fY (ci T e) N N3 := f2.tr (x3.su (by omega))
            have hN3 : N3.1 278 (ci T e) = nI (v + 1) - 1 := by rw [x3 _ _ (by omega) (by omega), hN2, nI_pm]
            have i3 : mfi T N N3 n (wsum T m e O (v + 1)) (fun k => if k < e then g k else fo1 T (m + 1) e O k) := by
              rw [wsum]
              refine ⟨fun w i => ?_, fun w1 w2 k hk hks => ?_⟩
              · rw [x4.1 (by omega) i]
                exact i2.1 (by omega) i
              · by_cases w3 : wsum T m e O v = 0
                · rw [x4.2 (by omega) (by omega) k hk hks]
                  dsimp only
                  by_cases w : k < e
                  · rw [if_pos (show k < e + 1 by omega), if_neg (show ¬ k = e by omega), if_pos w]
                  · rw [if_neg w, fo1_at hs (show v < 4 by omega) (fun u hu => by
                      have hz : ∀ a b, a ≤ b → wsum T m e O a ≤ wsum T m e O b := fun a b hab => by
                        induction b with
                        | zero => rw [show a = 0 by omega]; exact Nat.le_refl _
                        | succ b ihb =>
                          by_cases z : a = b + 1
                          · rw [z]; exact Nat.le_refl _
                          · have := ihb (by omega); rw [wsum]; omega
                      have := hz (u + 1) v (by omega)
                      rw [wsum] at this
                      omega) (by omega)]
                    by_cases w2 : k = e
                    · rw [if_pos (show k < e + 1 by omega), if_pos w2, if_pos w2]
                    · rw [if_neg (show ¬ k < e + 1 by omega), if_neg w2]
                · rw [x4.1 (by omega) (ci T k)]
                  exact i2.2 w1 w3 k hk hks
            obtain ⟨c2, N4, y1, y2, y3, y4⟩ := ihd (v + 1) N3 (by omega) hN3 f3 i3
            refine ⟨c2 + c + 1, N4, by
              rw [Nat.add_mul, Nat.one_mul]; omega, fun nn => ?_, y3, y4⟩
            rw [show nn + (c2 + c + 1) = (nn + c2 + c) + 1 by omega, hstep, tp_cb hmay, if_pos b1, if_neg (show ¬ (1 : Int32) = 0 by decide), x2]
            have := y2 nn
            rw [wsum, ← Nat.add_assoc] at this
            exact this
          · have hwv : wv T m e O v = 0 := if_neg b1
            have hws : wsum T m e O (v + 1) = wsum T m e O v := by rw [wsum, hwv, Nat.add_zero]
            obtain ⟨c2, N4, y1, y2, y3, y4⟩ := ihd (v + 1) N2 (by omega) (by rw [hN2, nI_pm]) f2 (by rw [hws]; exact i2)
            refine ⟨c2 + 1, N4, by
              rw [Nat.add_mul, Nat.one_mul]; omega, fun nn => ?_, y3, y4⟩
            rw [show nn + (c2 + 1) = (nn + c2) + 1 by omega, hstep, tp_cb hmay, if_neg b1, if_pos rfl]
            have := y2 nn
            rw [hws] at this
            exact this
      obtain ⟨c, N', x1, x2, x3, x4⟩ := hh 4 0 (tv_w N 278 (ci T e) (-1)) (by omega) (by rw [tp_ws]; rfl) (fun a i q1 q2 => by rw [tp_w, if_neg (by omega)]) ⟨fun _ i => by rw [tp_wk (by omega)], fun _ w => absurd rfl w⟩
      refine ⟨c, N', by rw [wcost]; omega, fun nn => ?_, x3, x4⟩
      unfold mw_ent
      rw [nI_m1, hw.1, if_neg (nI_ge hci (by omega)), tp_wr (by omega) (by decide)]
      exact x2 nn
    · obtain ⟨c, N', x1, x2, x3, x4⟩ := ih (e + 1) g O n N (by omega) mt mq mg hw (fun k hk hks => hg k (by
          have : k ≠ e := fun w => hs (by rw [← w]; exact hks)
          omega) hks) (fun i y h1 h2 h3 h4 => by
          rw [ho i y (by omega) h2 h3 h4, an, show nbr T g i y e = true from by unfold nbr; rw [decide_eq_true hs, Bool.true_or], Bool.and_true]) hgo (by rw [wo_n hs] at hn; exact hn)
      rw [ci_n hs] at x2 x3
      refine ⟨c, N', by rw [wcost]; omega, ?_, x3, ?_⟩
      · rw [wo_n hs]; exact x2
      · rw [wo_n hs]
        refine ⟨x4.1, fun w1 w2 k hk hks => ?_⟩
        have h := x4.2 w1 w2 k hk hks
        have hne : k ≠ e := fun w => hs (by rw [← w]; exact hks)
        dsimp only at h ⊢
        rw [h, fo1_n hs]
        by_cases w : k < e
        · rw [if_pos w, if_pos (show k < e + 1 by omega)]
        · rw [if_neg w, if_neg (show ¬ k < e + 1 by omega)]
theorem wcost_8 : wcost 8 = 109225 := by decide
theorem wcost_le {m : Nat} (h : m ≤ 8) : wcost m ≤ 109225 := by
  rw [← wcost_8]
  have : ∀ k, wcost m ≤ wcost (m + k) := fun k => by
    induction k with
    | zero => exact Nat.le_refl _
    | succ k ih => rw [← Nat.add_assoc, wcost]; omega
  have h2 := this (8 - m)
  rwa [show m + (8 - m) = 8 by omega] at h2
/-- how the reference counts -/
theorem md_ways (hF : 200000 < F) (hT : gT p T) (hQ : gQ T Q) (mc : mT N p T) (mq : mQ N T Q) (mg : mG N T) : ∃ N', Md_ways F N = some (nI (wo T (tE T) 0 Q), N') ∧ mw N' T ∧ (wo T (tE T) 0 Q ≠ 0 → ∀ k, k < tE T → tso T k = 3 → N'.1 279 (ci T k) = nI (fo1 T (tE T) 0 Q k)) ∧ ∀ a i, ¬ (a = 249 ∧ i = 49) → (a < 277 ∨ 280 ≤ a) → N'.1 a i = N.1 a i := by
  have h8 := hT.1
  have hh : ∀ d x nn N', x + d = tE T → d < nn → N'.1 249 49 = nI (ci T x) → (∀ e, e < x → tso T e = 3 → N'.1 277 (ci T e) = nI e) → (∀ a i, ¬ (a = 249 ∧ i = 49) → a ≠ 277 → N'.1 a i = N.1 a i) → ∃ N'', Md_ways_L7 F nn (nI x) N' = (if ci T (tE T) = 0 then some (1, N'') else mw_ent F F (nI 0) (nI 0 - 1) N'') ∧ mw N'' T ∧ ∀ a i, ¬ (a = 249 ∧ i = 49) → a ≠ 277 → N''.1 a i = N.1 a i := by
    intro d
    induction d with
    | zero =>
      intro x nn N' e1 e2 k1 k2 f1
      obtain ⟨nn, rfl⟩ : ∃ n', nn = n' + 1 := ⟨nn - 1, by omega⟩
      have ex : x = tE T := by omega
      subst ex
      have hci2 := ci_le T (tE T)
      rw [Md_ways_L7, f1 249 6 (by omega) (by omega), mc.2.1, if_pos (nI_le (Nat.le_refl _) (by omega)), k1]
      refine ⟨N', ?_, ⟨k1, k2⟩, f1⟩
      by_cases q : ci T (tE T) = 0
      · rw [if_pos q, if_pos (by rw [q]; rfl)]
      · rw [if_neg q, if_neg (fun w => q ((nI_z (by omega)).mp w))]
        unfold mw_ent
        rw [nI_m1, k1, if_neg (nI_ge (by omega) (by omega))]
        rfl
    | succ d ih =>
      intro x nn N' e1 e2 k1 k2 f1
      obtain ⟨nn, rfl⟩ : ∃ n', nn = n' + 1 := ⟨nn - 1, by omega⟩
      have hcx := ci_le T x
      have hso := (hT.2.2.2.2.2.1 x (by omega)).1
      rw [Md_ways_L7, f1 249 6 (by omega) (by omega), mc.2.1, if_neg (nI_ge (by omega) (by omega)), tp_rd (by omega) (by decide), f1 253 x (by omega) (by omega), (mc.2.2.2.2.2.1 x (by omega)).1, k1, nI_1]
      by_cases hs : tso T x = 3
      · rw [if_pos ((nI_e3 (by omega)).mpr hs), tp_wr (by omega) (by decide), tp_pf, tp_wk (by omega), k1, nI_1]
        refine ih (x + 1) nn _ (by omega) (by omega) (by rw [tp_ws, ci_y hs]) (fun e he hes => ?_) (fun a i w1 w2 => by rw [tp_w, if_neg w1, tp_wk w2]; exact f1 a i w1 w2)
        rw [tp_wk (by omega), tp_w]
        by_cases w : e = x
        · rw [w, if_pos ⟨rfl, rfl⟩]
        · rw [if_neg (fun z => w (ci_inj hes hs z.2))]; exact k2 e (by omega) hes
      · rw [if_neg (fun w => hs ((nI_e3 (by omega)).mp w))]
        exact ih (x + 1) nn N' (by omega) (by omega) (by rw [ci_n hs]; exact k1) (fun e he hes => k2 e (by
          have : e ≠ x := fun w => hs (by rw [← w]; exact hes)
          omega) hes) f1
  obtain ⟨N1, x1, x2, x3⟩ := hh (tE T) 0 F (tv_w N 249 49 0) (by omega) (by omega) tp_ws (fun e he => absurd he (Nat.not_lt_zero e)) (fun a i w1 _ => by rw [tp_w, if_neg w1])
  have x1 : Md_ways F N = _ := x1
  have mc1 : mT N1 p T := mc.cg (fun a i q => x3 a i (by rcases q with q | q <;> omega) (by rcases q with q | q <;> omega))
  have mq1 : mQ N1 T Q := mq.cg (fun i => x3 265 i (by omega) (by omega))
  have mg1 : mG N1 T := mg.cg (fun i => x3 264 i (by omega) (by omega))
  have hwl : wo T (tE T) 0 Q < 2 ^ 31 := wo_lt h8
  by_cases q : ci T (tE T) = 0
  · have hz : ∀ e, e < tE T → tso T e ≠ 3 := fun e he hs => by have := ci_lt hs he; omega
    have hw1 : ∀ m e, e + m = tE T → wo T m e Q = 1 := by
      intro m
      induction m with
      | zero => intro e _; rfl
      | succ m ih => intro e he; rw [wo_n (hz e (by omega))]; exact ih (e + 1) (by omega)
    rw [if_pos q] at x1
    rw [hw1 (tE T) 0 (by omega)]
    exact ⟨N1, x1, x2, fun _ k hk hs => absurd hs (hz k hk), fun a i w1 w2 => x3 a i w1 (by omega)⟩
  · rw [if_neg q] at x1
    obtain ⟨c, N2, y1, y2, y3, y4⟩ := md_ent (F := F) (by omega) hT hQ (tE T) 0 (fun _ => 0) Q 0 N1 (by omega) mc1 mq1 mg1 x2 (fun k hk => absurd hk (Nat.not_lt_zero k)) (fun i y _ _ _ _ => (Bool.and_true _).symm) hQ (by rw [Nat.zero_add]; exact hwl)
    have hcl := wcost_le h8
    have y2 := y2 (F - c)
    rw [show F - c + c = F by omega, show ci T 0 = 0 from rfl] at y2
    rw [y2] at x1
    obtain ⟨k, hk⟩ : ∃ k, F - c = k + 1 := ⟨F - c - 1, by omega⟩
    rw [hk, Md_ways_L71, if_pos (show nI 0 - 1 < 0 by decide), Nat.zero_add] at x1
    refine ⟨N2, x1, y3.mw x2, fun w k hk hs => ?_, fun a i w1 w2 => ?_⟩
    · have := y4.2 rfl w k hk hs
      dsimp only at this
      rw [if_neg (Nat.not_lt_zero k)] at this
      exact this
    · rw [y3 a i (by omega) (by omega)]; exact x3 a i w1 (by omega)
theorem md_fillL {e n : Nat} (hT : gT p T) (hw : mw N T) (he : e < tE T) (hs : tso T e = 3) : ∀ d x nn, x + d = e → d < nn → Md_fills_L35 F nn (nI e) (nI n) (nI (ci T x)) N = (if nI n = 0 then some (-1000000, N) else some (N.1 279 (ci T e), N)) := by
  have h8 := hT.1
  intro d
  induction d with
  | zero =>
    intro x nn e1 e2
    obtain ⟨nn, rfl⟩ : ∃ n', nn = n' + 1 := ⟨nn - 1, by omega⟩
    have hcx := ci_le T e
    rw [show x = e by omega, Md_fills_L35, tp_rd (by omega) (by decide), hw.2 e he hs, if_pos rfl, tp_rd (by omega) (by decide)]
  | succ d ih =>
    intro x nn e1 e2
    by_cases hx : tso T x = 3
    · obtain ⟨nn, rfl⟩ : ∃ n', nn = n' + 1 := ⟨nn - 1, by omega⟩
      have hcx := ci_le T x
      rw [Md_fills_L35, tp_rd (by omega) (by decide), hw.2 x (by omega) hx, if_neg (fun w => absurd (nI_inj (by omega) (by omega) w) (by omega)), nI_1, ← ci_y hx]
      exact ih (x + 1) nn (by omega) (by omega)
    · rw [← ci_n hx]; exact ih (x + 1) nn (by omega) (by omega)
theorem op_fills (hF : 200000 < F) (hT : gT p T) (hQ : gQ T Q) (cc : cT M p T) (cq : cQ M T Q) (cg : cG M T) (ck : cK M T Q) (mc : mT N p T) (mq : mQ N T Q) (mg : mG N T) : ∃ r : Int32, tq (Xx_fills F a M) (fun q M' => q = r ∧ cQ M' T Q ∧ cK M' T Q ∧ fQ M M') ∧ tq (Md_fills F a N) (fun q N' => q = r ∧ mQ N' T Q ∧ fQm N N') := by
  have h8 := hT.1
  have mc' := mc.w0
  have mq' := mq.w0
  have mg' : mG (tv_w N 249 0 0) T := mg.cg (fun i => by rw [tp_wk (by omega)])
  have hwl : wo T (tE T) 0 Q < 2 ^ 31 := wo_lt h8
  obtain ⟨M', x1, x2, x3, x4, x5⟩ := ch_all_ways (F := F) (by omega) hT hQ cc cq cg ck
  obtain ⟨N', y1, y2, y3, y4⟩ := md_ways (F := F) hF hT hQ mc' mq' mg'
  have z1 : mQ N' T Q := mq'.cg (fun i => y4 265 i (by omega) (by omega))
  have z2 : fQm N N' := fun a i q1 q2 q3 => by rw [y4 a i (by omega) q3, tp_w, if_neg (by omega)]
  have z3 : fQm N (tv_w N 249 0 0) := fun a i q1 q2 q3 => by rw [tp_w, if_neg (by omega)]
  unfold Xx_fills Md_fills
  rw [tp_pf]
  by_cases ha : a = -1
  · rw [if_pos ha, if_pos ha, tp_cb x1, tp_cb y1, if_pos ha]
    exact ⟨_, tq_some ⟨rfl, x4, x2, x5⟩, tq_some ⟨rfl, z1, z2⟩⟩
  · rw [if_neg ha, if_neg ha]
    rcases tp_ix a (n := tE T) (by omega) with h | ⟨e, he, rfl⟩
    · rw [tp_cb (to_cho_out cc h), tp_nln, tp_cb (md_cho_out hT mc' h), if_pos rfl]
      exact ⟨_, tq_some ⟨rfl, cq, ck, fQ.rf⟩, tq_some ⟨rfl, mq', z3⟩⟩
    · rw [tp_cb (to_cho hT cc he), tp_cb (md_cho hT mc' he)]
      by_cases hs : tso T e = 3
      · obtain ⟨p1, p2, p3, p4⟩ := tp_eyP e (by omega)
        rw [if_pos hs, if_pos hs, tp_nls, tp_gl p3, if_neg (show ¬ (1 : Int32) = 0 by decide), tp_cb x1, tp_cb y1, if_neg ha]
        have hL := md_fillL (F := F) (n := wo T (tE T) 0 Q) hT y2 he hs e 0 F (by omega) (by omega)
        have hL : Md_fills_L35 F F (nI e) (nI (wo T (tE T) 0 Q)) 0 N' = _ := hL
        rw [hL]
        by_cases q : wo T (tE T) 0 Q = 0
        · rw [if_pos ((nI_z hwl).mpr q), if_pos ((nI_z hwl).mpr q)]
          exact ⟨_, tq_some ⟨rfl, x4, x2, x5⟩, tq_some ⟨rfl, z1, z2⟩⟩
        · rw [if_neg (fun w => q ((nI_z hwl).mp w)), if_neg (fun w => q ((nI_z hwl).mp w)), y3 q e he hs]
          have hfv : Ch_firstValue F (nI e) M' = some (nI (fo1 T (tE T) 0 Q e), M') := by
            unfold Ch_firstValue
            rw [if_neg (nI_pos (by omega)), if_pos (show nI e < 8 from nI_lt (b := 8) (by omega) (by omega)), tp_rd (by omega) (by decide)]
            rcases x2 with x2 | x2
            · rw [x3] at x2; exact absurd x2 (by decide)
            · rw [x2.2.2 q e he hs]
          rw [tp_cb hfv]
          exact ⟨_, tq_some ⟨rfl, x4, x2, x5⟩, tq_some ⟨rfl, z1, z2⟩⟩
      · rw [if_neg hs, if_neg hs, tp_nln, if_pos rfl]
        exact ⟨_, tq_some ⟨rfl, cq, ck, fQ.rf⟩, tq_some ⟨rfl, mq', z3⟩⟩
end MFILLS
