/-! ONE SENTENCE, AND ALL OF THEM -/
section ONE
variable {F p : Nat} {M N : tv_M} {Tp T : Nat → Nat → Nat} {q : Nat × Nat × Nat}
theorem md_170f {f b : Nat} {l1 : Int64} {s0 : Int32} {k64 : tv_M → Option (Int32 × tv_M)} (h : FL M N f b) : Md_read_L170 F k64 l1 s0 N = k64 N := by
  have hne : ¬ nI f = 0 := fun w => absurd ((nI_z (by have := h.2.2.2.2.2.1; omega)).mp w) (by have := h.2.2.2.2.1; omega)
  unfold Md_read_L170 Md_read_L195
  rw [tp_cb (md_mustf h.2.2.1 h.2.2.2.2.1 h.2.2.2.2.2.1), h.2.2.1, if_neg hne, if_neg hne, if_neg hne]
  exact md_228f h
theorem md_140f {f b : Nat} {l1 : Int64} {k64 : tv_M → Option (Int32 × tv_M)} (h : FL M N f b) : Md_read_L140 F k64 l1 N = k64 N := by
  unfold Md_read_L140
  rw [md_170f h, md_170f h, ite_self, ite_self, ite_self]
theorem WQ.lt (h : WQ Tp q) (hk : q.2.2 ≠ 0) : q.1 < (lx Tp q.2.1).1 := by
  have := (lx_P h.2.1).1
  have := h.2.2.2.1 hk
  omega
/-- a good sentence moves on -/
def OK1 (p : Nat) (Tp T : Nat → Nat → Nat) (q : Nat × Nat × Nat) (M N M' N' : tv_M) : Prop := ∃ T' q', gT p T' ∧ Ext T T' ∧ cT M' p T' ∧ mT1 N' p T' ∧ SY M' N' Tp q' ∧ q.1 < q'.1 ∧ NE M' T T' ∧ CF T M M' ∧ JF T N N'
theorem s_one (hF : 600 < F) (hp : tp_pr p) (hg : gTp Tp) (hT : gT p T) (cc : cT M p T) (mc : mT1 N p T) (h : SY M N Tp q) (hk : q.2.2 ≠ 0) : ∃ (r : Int32) (M' N' : tv_M), Re_takeSentence F M = some (r, M') ∧ (∀ nn, Md_read_L64 F (nn + 1) N = Md_read_L64 F nn N') ∧ ((r = 1 ∧ OK1 p Tp T q M N M' N') ∨ (r = 0 ∧ FLS p T M N M' N')) := by
  have hS := h
  obtain ⟨h1, h2, h3, h4, h5, h6⟩ := h
  have h8 := hT.1
  have h10 := hT.2.1
  have h30 := hT.2.2.1
  have hwd : ∀ w, w < 9 → Re_isWord F w M = some (if isW Tp q w then 1 else 0, M) := fun w hw => re_word hF hg h1.1 h2 hw h6.1 h6.2.1 h6.2.2.2.2.2.2.2.2
  have i0 := pr_wi (w := 0) (C := 6650213) hg hS (by omega) (by decide)
  have i5 := pr_wi (w := 5) (C := 7629157) hg hS (by omega) (by decide)
  have i8 := pr_wi (w := 8) (C := 6447474) hg hS (by omega) (by decide)
  have n05 : isW Tp q 0 = true → ¬ isW Tp q 5 = true := fun a b => absurd (isW_ne (w := 0) (w' := 5) (by omega) (by omega) a b) (by decide)
  have n08 : isW Tp q 0 = true → ¬ isW Tp q 8 = true := fun a b => absurd (isW_ne (w := 0) (w' := 8) (by omega) (by omega) a b) (by decide)
  have n58 : isW Tp q 5 = true → ¬ isW Tp q 8 = true := fun a b => absurd (isW_ne (w := 5) (w' := 8) (by omega) (by omega) a b) (by decide)
  have m28 : ¬ N.1 249 28 = 1 := by
    rw [h4.2.2.2]; exact fun v => hk ((mk_e h6.2.2.2.2.2.2.2.2).2.2.1.mp v)
  have m33 := mc.2.1
  have m35 := mc.2.2.2.1
  have m36 := mc.2.2.2.2.1
  -- the third fault
  have hbad : ∃ N', Md_bad F 3 N = some ((), N') ∧ FL (tv_w M 68 3 (nI 3)) N' 3 q.1 ∧ f32 N N' := by
    obtain ⟨N', x1, x2, x3, x4⟩ := md_badf (F := F) (f := 3) (fI := 3) rfl hS
    exact ⟨N', x1, FL_mk hg hS (by omega) (by omega) x2 x3, fun a i w => x4 a i (by omega)⟩
  obtain ⟨Nb, b1, b2, b3⟩ := hbad
  have hflb : FLS p T M N (tv_w M 68 3 (nI 3)) Nb := ⟨3, _, b2, f68_3.cT hT cc, f68_3.c, b3.j⟩
  obtain ⟨M1, N1, y1, y2, y3, y4, y5⟩ := pr_go (F := F) hF hg hS
  obtain ⟨N1', z1, z2⟩ := md_must1 (F := F) hF hg hS
  have : N1' = N1 := by rw [y2] at z2; exact (Prod.mk.inj (Option.some.inj z2)).2.symm
  subst this
  have cc1 : cT M1 p T := f68.cT hT (fun a i w => y4 a i (by omega)) cc
  have mc1 : mT1 N1' p T := mc.f32 y5.f
  have hcf : CF T M M1 := f68.c (fun a i w => y4 a i (by omega))
  have hjf : JF T N N1' := y5.f.j
  have hlt := h6.lt hk
  have hend : ∀ (r : Int32) (M' N' : tv_M), ((r = 1 ∧ OKS p Tp T (lx Tp q.2.1) M1 N1' M' N') ∨ (r = 0 ∧ FLS p T M1 N1' M' N')) → ((r = 1 ∧ OK1 p Tp T q M N M' N') ∨ (r = 0 ∧ FLS p T M N M' N')) := fun r M' N' w => by
    rcases w with ⟨e, T', q', w1, w2, w3, w4, w5, w6, w7, w8, w9⟩ | ⟨e, f, b, w1, w2, w3, w4⟩
    · exact Or.inl ⟨e, T', q', w1, w2, w3, w4, w5, by omega, w7, hcf.tr w8, hjf.tr w9⟩
    · exact Or.inr ⟨e, f, b, w1, w2, hcf.tr w3, hjf.tr w4⟩
  have hr01 : ∀ (r : Int32) (M' N' : tv_M), ((r = 1 ∧ OKS p Tp T (lx Tp q.2.1) M1 N1' M' N') ∨ (r = 0 ∧ FLS p T M1 N1' M' N')) → r = 0 ∨ r = 1 := fun r M' N' w => by
    rcases w with ⟨e, _⟩ | ⟨e, _⟩
    · exact Or.inr e
    · exact Or.inl e
  unfold Re_takeSentence
  have hL : ∀ nn, Md_read_L64 F (nn + 1) N = (if (lg_cmp (Int64.ofNat (wv8 Tp q)) 6650213) = 0 then if (N.1 249 33) = 8 then tv_cb (Md_bad F 3 N) (fun r14 M15 => Md_read_L140 F (Md_read_L64 F nn) (Int64.ofNat (wv8 Tp q)) M15) else Md_read_L101 F (Md_read_L64 F nn) (Int64.ofNat (wv8 Tp q)) N else Md_read_L101 F (Md_read_L64 F nn) (Int64.ofNat (wv8 Tp q)) N) := fun nn => by
    rw [Md_read_L64, if_pos h5, if_neg m28, tp_cb (pr_wd hF hg hS)]
  rw [tp_cb (hwd 0 (by omega))]
  by_cases c0 : isW Tp q 0 = true
  · rw [if_pos c0, if_neg (show ¬ (1 : Int32) = 0 by decide)]
    unfold Re_takeEyeSentence
    rw [cc.2.1]
    by_cases k : tE T < 8
    · rw [if_pos (show nI (tE T) < 8 from nI_lt (b := 8) k (by omega))]
      obtain ⟨r, M2, N2, x1, x2, x3⟩ := s_eye (F := F) hF hp hg hT cc1 mc1 y3 k
      refine ⟨r, M2, N2, ?_, fun nn => ?_, hend r M2 N2 x3⟩
      · rw [tp_cb y1, tp_cb x1, tp_zo (hr01 r M2 N2 x3)]
      · rw [hL, if_pos (i0.mpr c0), m33, if_neg (show ¬ nI (tE T) = 8 from fun v => absurd (nI_inj (b := 8) (by omega) (by omega) v) (by omega))]
        unfold Md_read_L101
        rw [if_neg (fun v => n05 c0 (i5.mp v))]
        unfold Md_read_L118
        rw [if_neg (fun v => n08 c0 (i8.mp v))]
        unfold Md_read_L140
        rw [if_pos (i0.mpr c0)]
        unfold Md_read_L170
        rw [tp_cb z1, y3.2.2.2.2.1, if_pos rfl, if_pos (i0.mpr c0)]
        exact x2 _
    · rw [if_neg (show ¬ nI (tE T) < 8 from nI_nlt (a := tE T) (b := 8) (by omega) (by omega)), tp_cb (re_fl (f := 3) (fI := 3) rfl), tp_zo (Or.inl rfl)]
      refine ⟨0, _, Nb, by rw [tp_cb (c := some (0, tv_w M 68 3 (nI 3))) rfl, tp_zo (Or.inl rfl)], fun nn => ?_, Or.inr ⟨rfl, hflb⟩⟩
      rw [hL, if_pos (i0.mpr c0), m33, if_pos (show nI (tE T) = 8 by rw [show tE T = 8 by omega]; rfl), tp_cb b1, md_140f b2]
  · rw [if_neg c0, if_pos rfl, tp_cb (hwd 5 (by omega))]
    have hL1 : ∀ nn, Md_read_L64 F (nn + 1) N = Md_read_L101 F (Md_read_L64 F nn) (Int64.ofNat (wv8 Tp q)) N := fun nn => by rw [hL, if_neg (fun v => c0 (i0.mp v))]
    by_cases c5 : isW Tp q 5 = true
    · rw [if_pos c5, if_neg (show ¬ (1 : Int32) = 0 by decide)]
      unfold Re_takeTieSentence
      by_cases k : tK T < 10
      · obtain ⟨p1, p2, p3, p4, p5, p6⟩ := tp_tiP (tK T) k
        have hnt : To_nextTie F M = some (some (38 + 3 * tK T), M) := by
          unfold To_nextTie
          rw [cc.2.2.1, if_pos (show nI (tK T) < 10 from nI_lt (b := 10) k (by omega)), tp_ap k (by decide) p1, tp_gl p4]
        obtain ⟨r, M2, N2, x1, x2, x3⟩ := s_tie (F := F) hF hp hg hT cc1 mc1 y3 k
        refine ⟨r, M2, N2, ?_, fun nn => ?_, hend r M2 N2 x3⟩
        · rw [tp_cb hnt, tp_nls, tp_gl p4, tp_cb y1, tp_cb x1, tp_zo (hr01 r M2 N2 x3)]
        · rw [hL1]
          unfold Md_read_L101
          rw [if_pos (i5.mpr c5), m35, if_neg (show ¬ nI (tK T) = 10 from fun v => absurd (nI_inj (b := 10) (by omega) (by omega) v) (by omega))]
          unfold Md_read_L118
          rw [if_neg (fun v => n58 c5 (i8.mp v))]
          unfold Md_read_L140
          rw [if_neg (fun v => c0 (i0.mp v)), if_pos (i5.mpr c5)]
          unfold Md_read_L170
          rw [tp_cb z1, y3.2.2.2.2.1, if_pos rfl, if_neg (fun v => c0 (i0.mp v))]
          unfold Md_read_L195
          rw [y3.2.2.2.2.1, if_pos rfl, if_pos (i5.mpr c5)]
          exact x2 _
      · have hnt : To_nextTie F M = some (none, M) := by
          unfold To_nextTie
          rw [cc.2.2.1, if_neg (show ¬ nI (tK T) < 10 from nI_nlt (a := tK T) (b := 10) (by omega) (by omega))]
        refine ⟨0, _, Nb, by rw [tp_cb hnt, tp_nln, tp_cb (re_fl (f := 3) (fI := 3) rfl), tp_zo (Or.inl rfl), tp_cb (c := some (0, tv_w M 68 3 (nI 3))) rfl, tp_zo (Or.inl rfl)], fun nn => ?_, Or.inr ⟨rfl, hflb⟩⟩
        rw [hL1]
        unfold Md_read_L101
        rw [if_pos (i5.mpr c5), m35, if_pos (show nI (tK T) = 10 by rw [show tK T = 10 by omega]; rfl), tp_cb b1, md_140f b2]
    · rw [if_neg c5, if_pos rfl, tp_cb (hwd 8 (by omega))]
      have hL2 : ∀ nn, Md_read_L64 F (nn + 1) N = Md_read_L118 F (Md_read_L64 F nn) (Int64.ofNat (wv8 Tp q)) N := fun nn => by
        rw [hL1]
        unfold Md_read_L101
        rw [if_neg (fun v => c5 (i5.mp v))]
      by_cases c8 : isW Tp q 8 = true
      · rw [if_pos c8, if_neg (show ¬ (1 : Int32) = 0 by decide)]
        unfold Re_takeBarSentence
        rw [cc.2.2.2.1]
        by_cases k : tB T < 30
        · rw [if_pos (show nI (tB T) < 30 from nI_lt (b := 30) k (by omega))]
          obtain ⟨r, M2, N2, x1, x2, x3⟩ := s_bar (F := F) hF hp hg hT cc1 mc1 y3 k
          refine ⟨r, M2, N2, ?_, fun nn => ?_, hend r M2 N2 x3⟩
          · rw [tp_cb y1, tp_cb x1, tp_zo (hr01 r M2 N2 x3)]
          · rw [hL2]
            unfold Md_read_L118
            rw [if_pos (i8.mpr c8), m36, if_neg (show ¬ nI (tB T) = 30 from fun v => absurd (nI_inj (b := 30) (by omega) (by omega) v) (by omega))]
            unfold Md_read_L140
            rw [if_neg (fun v => c0 (i0.mp v)), if_neg (fun v => c5 (i5.mp v)), if_pos (i8.mpr c8)]
            unfold Md_read_L170
            rw [tp_cb z1, y3.2.2.2.2.1, if_pos rfl, if_neg (fun v => c0 (i0.mp v))]
            unfold Md_read_L195
            rw [y3.2.2.2.2.1, if_pos rfl, if_neg (fun v => c5 (i5.mp v)), if_pos rfl]
            exact x2 _
        · rw [if_neg (show ¬ nI (tB T) < 30 from nI_nlt (a := tB T) (b := 30) (by omega) (by omega)), tp_cb (re_fl (f := 3) (fI := 3) rfl), tp_zo (Or.inl rfl)]
          refine ⟨0, _, Nb, by rw [tp_cb (c := some (0, tv_w M 68 3 (nI 3))) rfl, tp_zo (Or.inl rfl)], fun nn => ?_, Or.inr ⟨rfl, hflb⟩⟩
          rw [hL2]
          unfold Md_read_L118
          rw [if_pos (i8.mpr c8), m36, if_pos (show nI (tB T) = 30 by rw [show tB T = 30 by omega]; rfl), tp_cb b1, md_140f b2]
      · rw [if_neg c8, if_pos rfl, tp_cb (re_fl (f := 1) (fI := 1) rfl), tp_zo (Or.inl rfl)]
        obtain ⟨N', x1, x2, x3, x4⟩ := md_must0 (F := F) hS
        have hfl : FL (tv_w M 68 3 (nI 1)) N' 1 q.1 := FL_mk hg hS (by omega) (by omega) x2 x3
        refine ⟨0, _, N', rfl, fun nn => ?_, Or.inr ⟨rfl, 1, _, hfl, f68_3.cT hT cc, f68_3.c, x4.j⟩⟩
        rw [hL2]
        unfold Md_read_L118
        rw [if_neg (fun v => c8 (i8.mp v))]
        unfold Md_read_L140
        rw [if_neg (fun v => c0 (i0.mp v)), if_neg (fun v => c5 (i5.mp v)), if_neg (fun v => c8 (i8.mp v))]
        unfold Md_read_L170
        rw [tp_cb x1, x2, if_neg (show ¬ nI 1 = 0 by decide)]
        unfold Md_read_L195
        rw [x2, if_neg (show ¬ nI 1 = 0 by decide), if_neg (show ¬ nI 1 = 0 by decide)]
        exact md_228f hfl
end ONE
