theorem d_Xx_primeOr7_0 : decode prog_1_method_33_code 0 = .ok (.iload_n 0, 1) := by decide +kernel
theorem d_Xx_primeOr7_1 : decode prog_1_method_33_code 1 = .ok (.iconst 2, 1) := by decide +kernel
theorem d_Xx_primeOr7_2 : decode prog_1_method_33_code 2 = .ok (.if_icmp .eq 13, 3) := by decide +kernel
theorem d_Xx_primeOr7_5 : decode prog_1_method_33_code 5 = .ok (.iload_n 0, 1) := by decide +kernel
theorem d_Xx_primeOr7_6 : decode prog_1_method_33_code 6 = .ok (.iconst 3, 1) := by decide +kernel
theorem d_Xx_primeOr7_7 : decode prog_1_method_33_code 7 = .ok (.if_icmp .eq 8, 3) := by decide +kernel
theorem d_Xx_primeOr7_10 : decode prog_1_method_33_code 10 = .ok (.iload_n 0, 1) := by decide +kernel
theorem d_Xx_primeOr7_11 : decode prog_1_method_33_code 11 = .ok (.iconst 5, 1) := by decide +kernel
theorem d_Xx_primeOr7_12 : decode prog_1_method_33_code 12 = .ok (.if_icmp .ne 7, 3) := by decide +kernel
theorem d_Xx_primeOr7_15 : decode prog_1_method_33_code 15 = .ok (.iload_n 0, 1) := by decide +kernel
theorem d_Xx_primeOr7_16 : decode prog_1_method_33_code 16 = .ok (.goto 5, 3) := by decide +kernel
theorem d_Xx_primeOr7_19 : decode prog_1_method_33_code 19 = .ok (.bipush 7, 2) := by decide +kernel
theorem d_Xx_primeOr7_21 : decode prog_1_method_33_code 21 = .ok (.ireturn, 1) := by decide +kernel
set_option maxHeartbeats 2000000 in
theorem Xx_primeOr7_c {l : Launch} {θ : tv_Th} (F : Nat) (a0 : Int32) (M : tv_M) : tv_Ct l θ ⟨"TiedViews", "primeOr7", "(I)I"⟩ prog_1_method_33_code 1 (some .int) 0 tv_ei [.int a0] M (Xx_primeOr7 F a0 M) := by
  refine tv_ofG [some (.int a0)] rfl rfl (tv_ent 0 rfl) ?_
  intro κ hl ht hC hR
  subst hl; subst ht
  unfold Xx_primeOr7
  refine g_iload_n hC d_Xx_primeOr7_0 rfl ?_
  refine g_iconst hC d_Xx_primeOr7_1 k_i2 ?_
  refine g_icmp_eq (tgt := 15) hC d_Xx_primeOr7_2 (by decide) (fun _ => ?_) (fun _ => ?_)
  · refine g_iload_n hC d_Xx_primeOr7_15 rfl ?_
    refine g_goto (tgt := 21) hC d_Xx_primeOr7_16 (by decide) ?_
    exact g_iret hC hR d_Xx_primeOr7_21
  · refine g_iload_n hC d_Xx_primeOr7_5 rfl ?_
    refine g_iconst hC d_Xx_primeOr7_6 k_i3 ?_
    refine g_icmp_eq (tgt := 15) hC d_Xx_primeOr7_7 (by decide) (fun _ => ?_) (fun _ => ?_)
    · refine g_iload_n hC d_Xx_primeOr7_15 rfl ?_
      refine g_goto (tgt := 21) hC d_Xx_primeOr7_16 (by decide) ?_
      exact g_iret hC hR d_Xx_primeOr7_21
    · refine g_iload_n hC d_Xx_primeOr7_10 rfl ?_
      refine g_iconst hC d_Xx_primeOr7_11 k_i5 ?_
      refine g_icmp_ne (tgt := 19) hC d_Xx_primeOr7_12 (by decide) (fun _ => ?_) (fun _ => ?_)
      · refine g_bipush hC d_Xx_primeOr7_19 k_b7 ?_
        exact g_iret hC hR d_Xx_primeOr7_21
      · refine g_iload_n hC d_Xx_primeOr7_15 rfl ?_
        refine g_goto (tgt := 21) hC d_Xx_primeOr7_16 (by decide) ?_
        exact g_iret hC hR d_Xx_primeOr7_21
theorem d_Jv_fill_0 : decode prog_21_method_103_code 0 = .ok (.iconst 0, 1) := by decide +kernel
theorem d_Jv_fill_1 : decode prog_21_method_103_code 1 = .ok (.istore_n 2, 1) := by decide +kernel
theorem d_Jv_fill_2 : decode prog_21_method_103_code 2 = .ok (.aload_n 0, 1) := by decide +kernel
theorem d_Jv_fill_3 : decode prog_21_method_103_code 3 = .ok (.arraylength, 1) := by decide +kernel
theorem d_Jv_fill_4 : decode prog_21_method_103_code 4 = .ok (.istore_n 3, 1) := by decide +kernel
theorem d_Jv_fill_5 : decode prog_21_method_103_code 5 = .ok (.iload_n 2, 1) := by decide +kernel
theorem d_Jv_fill_6 : decode prog_21_method_103_code 6 = .ok (.iload_n 3, 1) := by decide +kernel
theorem d_Jv_fill_7 : decode prog_21_method_103_code 7 = .ok (.if_icmp .ge 13, 3) := by decide +kernel
theorem d_Jv_fill_10 : decode prog_21_method_103_code 10 = .ok (.aload_n 0, 1) := by decide +kernel
theorem d_Jv_fill_11 : decode prog_21_method_103_code 11 = .ok (.iload_n 2, 1) := by decide +kernel
theorem d_Jv_fill_12 : decode prog_21_method_103_code 12 = .ok (.iload_n 1, 1) := by decide +kernel
theorem d_Jv_fill_13 : decode prog_21_method_103_code 13 = .ok (.iastore, 1) := by decide +kernel
theorem d_Jv_fill_14 : decode prog_21_method_103_code 14 = .ok (.iinc 2 1, 3) := by decide +kernel
theorem d_Jv_fill_17 : decode prog_21_method_103_code 17 = .ok (.goto (-12), 3) := by decide +kernel
theorem d_Jv_fill_20 : decode prog_21_method_103_code 20 = .ok (.return_, 1) := by decide +kernel
set_option maxHeartbeats 2000000 in
theorem Jv_fill_L5_g {κ : tv_Kt} (hC : tv_Cx κ "java/util/Arrays" prog_21_method_103_code 4 0) (hR : tv_Re κ none) (F : Nat) : ∀ (n : Nat) (l0 : Nat) (l1 : Int32) (l2 : Int32) (l3 : Int32) (M : tv_M), tv_G κ 4 (tv_Qm κ tv_ev) 5 [some (.ref (κ.b + l0)), some (.int l1), some (.int l2), some (.int l3)] [] M (Jv_fill_L5 F n l0 l1 l2 l3 M) := by
  intro n
  induction n with
  | zero => intro _ _ _ _ _; exact g_none
  | succ nn ih =>
    intro l0 l1 l2 l3 M
    rw [Jv_fill_L5]
    refine g_gn (fun n4 h3 => ?_)
    refine g_iload_n hC d_Jv_fill_5 rfl ?_
    refine g_iload_n hC d_Jv_fill_6 rfl ?_
    refine g_icmp_ge (tgt := 20) hC d_Jv_fill_7 (by decide) (fun _ => ?_) (fun _ => ?_)
    · exact g_vret hC hR d_Jv_fill_20
    · refine g_aload_n hC d_Jv_fill_10 rfl ?_
      refine g_iload_n hC d_Jv_fill_11 rfl ?_
      refine g_iload_n hC d_Jv_fill_12 rfl ?_
      refine gv_iast hC h3 d_Jv_fill_13 (fun M5 => ?_)
      refine g_iinc (ls' := [some (.ref (κ.b + l0)), some (.int l1), some (.int (l2 + 1)), some (.int l3)]) hC d_Jv_fill_14 rfl k_i1 rfl rfl ?_
      refine g_goto (tgt := 5) hC d_Jv_fill_17 (by decide) ?_
      exact ih l0 l1 (l2 + 1) l3 M5
set_option maxHeartbeats 2000000 in
theorem Jv_fill_c {l : Launch} {θ : tv_Th} (F : Nat) (a0 : Nat) (a1 : Int32) (M : tv_M) : tv_Ct l θ ⟨"java/util/Arrays", "fill", "([II)V"⟩ prog_21_method_103_code 4 none 0 tv_ev [.ref (θ.1 + a0), .int a1] M (Jv_fill F a0 a1 M) := by
  refine tv_ofG [some (.ref (θ.1 + a0)), some (.int a1), none, none] rfl rfl (tv_ent 2 rfl) ?_
  intro κ hl ht hC hR
  subst hl; subst ht
  unfold Jv_fill
  refine g_gn (fun n2 h1 => ?_)
  refine g_iconst hC d_Jv_fill_0 k_i0 ?_
  refine g_istore_n (ls' := [some (.ref (κ.b + a0)), some (.int a1), some (.int 0), none]) hC d_Jv_fill_1 rfl rfl ?_
  refine g_aload_n hC d_Jv_fill_2 rfl ?_
  refine g_alen hC 20 h1 (by decide) d_Jv_fill_3 rfl ?_
  refine g_istore_n (ls' := [some (.ref (κ.b + a0)), some (.int a1), some (.int 0), some (.int (Int32.ofNat n2))]) hC d_Jv_fill_4 rfl rfl ?_
  exact Jv_fill_L5_g hC hR F F a0 a1 0 (Int32.ofNat n2) M
theorem d_Xx_sheetAt_0 : decode prog_1_method_34_code 0 = .ok (.iload_n 1, 1) := by decide +kernel
theorem d_Xx_sheetAt_1 : decode prog_1_method_34_code 1 = .ok (.ifCond .lt 9, 3) := by decide +kernel
theorem d_Xx_sheetAt_4 : decode prog_1_method_34_code 4 = .ok (.iload_n 1, 1) := by decide +kernel
theorem d_Xx_sheetAt_5 : decode prog_1_method_34_code 5 = .ok (.bipush 8, 2) := by decide +kernel
theorem d_Xx_sheetAt_7 : decode prog_1_method_34_code 7 = .ok (.if_icmp .lt 7, 3) := by decide +kernel
theorem d_Xx_sheetAt_10 : decode prog_1_method_34_code 10 = .ok (.aconst_null, 1) := by decide +kernel
theorem d_Xx_sheetAt_11 : decode prog_1_method_34_code 11 = .ok (.goto 9, 3) := by decide +kernel
theorem d_Xx_sheetAt_14 : decode prog_1_method_34_code 14 = .ok (.aload_n 0, 1) := by decide +kernel
theorem d_Xx_sheetAt_15 : decode prog_1_method_34_code 15 = .ok (.getfield 11, 3) := by decide +kernel
theorem d_Xx_sheetAt_18 : decode prog_1_method_34_code 18 = .ok (.iload_n 1, 1) := by decide +kernel
theorem d_Xx_sheetAt_19 : decode prog_1_method_34_code 19 = .ok (.aaload, 1) := by decide +kernel
theorem d_Xx_sheetAt_20 : decode prog_1_method_34_code 20 = .ok (.areturn, 1) := by decide +kernel
set_option maxHeartbeats 2000000 in
theorem Xx_sheetAt_c {l : Launch} {θ : tv_Th} (F : Nat) (a1 : Int32) (M : tv_M) : tv_Ct l θ ⟨"TiedViews", "sheetAt", "(I)LTiedViews$Sheet;"⟩ prog_1_method_34_code 2 (some (.object "TiedViews$Sheet")) 0 (tv_er θ.1) [.ref (θ.1 + 0), .int a1] M (Xx_sheetAt F a1 M) := by
  refine tv_ofG [some (.ref (θ.1 + 0)), some (.int a1)] rfl rfl (tv_ent 0 rfl) ?_
  intro κ hl ht hC hR
  subst hl; subst ht
  unfold Xx_sheetAt
  refine g_iload_n hC d_Xx_sheetAt_0 rfl ?_
  refine g_if_lt (tgt := 10) hC d_Xx_sheetAt_1 (by decide) (fun _ => ?_) (fun _ => ?_)
  · refine g_null hC d_Xx_sheetAt_10 ?_
    refine g_goto (tgt := 20) hC d_Xx_sheetAt_11 (by decide) ?_
    exact g_aret hC hR (Or.inl ⟨_, rfl⟩) (none) d_Xx_sheetAt_20
  · refine g_iload_n hC d_Xx_sheetAt_4 rfl ?_
    refine g_bipush hC d_Xx_sheetAt_5 k_b8 ?_
    refine g_icmp_lt (tgt := 14) hC d_Xx_sheetAt_7 (by decide) (fun _ => ?_) (fun _ => ?_)
    · refine g_aload_n hC d_Xx_sheetAt_14 rfl ?_
      refine fg_Xx_11 hC lc_0 d_Xx_sheetAt_15 p0_0_1 ?_
      refine g_iload_n hC d_Xx_sheetAt_18 rfl ?_
      refine gv_aald hC 0 ly_1 rfl d_Xx_sheetAt_19 (fun p1 => ?_)
      refine g_gl (fun h2 => ?_)
      exact g_aret hC hR (Or.inl ⟨_, rfl⟩) (some p1) d_Xx_sheetAt_20
    · refine g_null hC d_Xx_sheetAt_10 ?_
      refine g_goto (tgt := 20) hC d_Xx_sheetAt_11 (by decide) ?_
      exact g_aret hC hR (Or.inl ⟨_, rfl⟩) (none) d_Xx_sheetAt_20
theorem d_Xx_found_0 : decode prog_1_method_36_code 0 = .ok (.aload_n 0, 1) := by decide +kernel
theorem d_Xx_found_1 : decode prog_1_method_36_code 1 = .ok (.iload_n 1, 1) := by decide +kernel
theorem d_Xx_found_2 : decode prog_1_method_36_code 2 = .ok (.putfield 321, 3) := by decide +kernel
theorem d_Xx_found_5 : decode prog_1_method_36_code 5 = .ok (.ldc_w 324, 3) := by decide +kernel
theorem d_Xx_found_8 : decode prog_1_method_36_code 8 = .ok (.iload_n 1, 1) := by decide +kernel
theorem d_Xx_found_9 : decode prog_1_method_36_code 9 = .ok (.isub, 1) := by decide +kernel
theorem d_Xx_found_10 : decode prog_1_method_36_code 10 = .ok (.ireturn, 1) := by decide +kernel
set_option maxHeartbeats 2000000 in
theorem Xx_found_c {l : Launch} {θ : tv_Th} (F : Nat) (a1 : Int32) (M : tv_M) : tv_Ct l θ ⟨"TiedViews", "found", "(I)I"⟩ prog_1_method_36_code 2 (some .int) 0 tv_ei [.ref (θ.1 + 0), .int a1] M (Xx_found F a1 M) := by
  refine tv_ofG [some (.ref (θ.1 + 0)), some (.int a1)] rfl rfl (tv_ent 0 rfl) ?_
  intro κ hl ht hC hR
  subst hl; subst ht
  unfold Xx_found
  refine g_aload_n hC d_Xx_found_0 rfl ?_
  refine g_iload_n hC d_Xx_found_1 rfl ?_
  refine fp_Xx_321 hC lc_0 d_Xx_found_2 (fun M1 => ?_)
  refine g_ldcw hC d_Xx_found_5 wk_Xx_324 ?_
  refine g_iload_n hC d_Xx_found_8 rfl ?_
  refine g_isub hC d_Xx_found_9 ?_
  exact g_iret hC hR d_Xx_found_10
theorem d_Sh_begin_0 : decode prog_9_method_2_code 0 = .ok (.aload_n 0, 1) := by decide +kernel
theorem d_Sh_begin_1 : decode prog_9_method_2_code 1 = .ok (.iload_n 1, 1) := by decide +kernel
theorem d_Sh_begin_2 : decode prog_9_method_2_code 2 = .ok (.putfield 11, 3) := by decide +kernel
theorem d_Sh_begin_5 : decode prog_9_method_2_code 5 = .ok (.aload_n 0, 1) := by decide +kernel
theorem d_Sh_begin_6 : decode prog_9_method_2_code 6 = .ok (.iload_n 2, 1) := by decide +kernel
theorem d_Sh_begin_7 : decode prog_9_method_2_code 7 = .ok (.putfield 19, 3) := by decide +kernel
theorem d_Sh_begin_10 : decode prog_9_method_2_code 10 = .ok (.aload_n 0, 1) := by decide +kernel
theorem d_Sh_begin_11 : decode prog_9_method_2_code 11 = .ok (.getfield 15, 3) := by decide +kernel
theorem d_Sh_begin_14 : decode prog_9_method_2_code 14 = .ok (.iconst 0, 1) := by decide +kernel
theorem d_Sh_begin_15 : decode prog_9_method_2_code 15 = .ok (.invokestatic 22, 3) := by decide +kernel
theorem d_Sh_begin_18 : decode prog_9_method_2_code 18 = .ok (.return_, 1) := by decide +kernel
set_option maxHeartbeats 2000000 in
theorem Sh_begin_c {l : Launch} {θ : tv_Th} (F : Nat) (t : Nat) (a1 : Int32) (a2 : Int32) (M : tv_M) : tv_Ct l θ ⟨"TiedViews$Sheet", "begin", "(II)V"⟩ prog_9_method_2_code 3 none 1 tv_ev [.ref (θ.1 + t), .int a1, .int a2] M (Sh_begin F t a1 a2 M) := by
  refine tv_ofG [some (.ref (θ.1 + t)), some (.int a1), some (.int a2)] rfl rfl (tv_ent 0 rfl) ?_
  intro κ hl ht hC hR
  subst hl; subst ht
  unfold Sh_begin
  refine g_gl (fun h1 => ?_)
  refine g_aload_n hC d_Sh_begin_0 rfl ?_
  refine g_iload_n hC d_Sh_begin_1 rfl ?_
  refine fp_Sh_11 hC h1 d_Sh_begin_2 (fun M2 => ?_)
  refine g_aload_n hC d_Sh_begin_5 rfl ?_
  refine g_iload_n hC d_Sh_begin_6 rfl ?_
  refine fp_Sh_19 hC h1 d_Sh_begin_7 (fun M3 => ?_)
  refine g_aload_n hC d_Sh_begin_10 rfl ?_
  refine g_nn (fun p4 e9 => ?_)
  refine fg_Sh_15 hC h1 d_Sh_begin_11 e9 ?_
  refine g_gn (fun n6 h5 => ?_)
  refine g_iconst hC d_Sh_begin_14 k_i0 ?_
  refine gv_callSv hC [.ref (κ.b + p4), .int 0] cw_Sh_22 (Jv_fill_c F p4 0 M3) rfl rfl rfl rfl rfl d_Sh_begin_15 (fun r7 M8 => ?_)
  exact g_vret hC hR d_Sh_begin_18
theorem d_Xx_passed_0 : decode prog_1_method_37_code 0 = .ok (.aload_n 0, 1) := by decide +kernel
theorem d_Xx_passed_1 : decode prog_1_method_37_code 1 = .ok (.iconst 0, 1) := by decide +kernel
theorem d_Xx_passed_2 : decode prog_1_method_37_code 2 = .ok (.putfield 321, 3) := by decide +kernel
theorem d_Xx_passed_5 : decode prog_1_method_37_code 5 = .ok (.iload_n 1, 1) := by decide +kernel
theorem d_Xx_passed_6 : decode prog_1_method_37_code 6 = .ok (.ireturn, 1) := by decide +kernel
set_option maxHeartbeats 2000000 in
theorem Xx_passed_c {l : Launch} {θ : tv_Th} (F : Nat) (a1 : Int32) (M : tv_M) : tv_Ct l θ ⟨"TiedViews", "passed", "(I)I"⟩ prog_1_method_37_code 2 (some .int) 0 tv_ei [.ref (θ.1 + 0), .int a1] M (Xx_passed F a1 M) := by
  refine tv_ofG [some (.ref (θ.1 + 0)), some (.int a1)] rfl rfl (tv_ent 0 rfl) ?_
  intro κ hl ht hC hR
  subst hl; subst ht
  unfold Xx_passed
  refine g_aload_n hC d_Xx_passed_0 rfl ?_
  refine g_iconst hC d_Xx_passed_1 k_i0 ?_
  refine fp_Xx_321 hC lc_0 d_Xx_passed_2 (fun M1 => ?_)
  refine g_iload_n hC d_Xx_passed_5 rfl ?_
  exact g_iret hC hR d_Xx_passed_6
theorem d_Xx_sheet_0 : decode prog_1_method_2_code 0 = .ok (.aload_n 0, 1) := by decide +kernel
theorem d_Xx_sheet_1 : decode prog_1_method_2_code 1 = .ok (.iload_n 1, 1) := by decide +kernel
theorem d_Xx_sheet_2 : decode prog_1_method_2_code 2 = .ok (.invokevirtual 79, 3) := by decide +kernel
theorem d_Xx_sheet_5 : decode prog_1_method_2_code 5 = .ok (.astore 4, 2) := by decide +kernel
theorem d_Xx_sheet_7 : decode prog_1_method_2_code 7 = .ok (.aload 4, 2) := by decide +kernel
theorem d_Xx_sheet_9 : decode prog_1_method_2_code 9 = .ok (.ifnull 18, 3) := by decide +kernel
theorem d_Xx_sheet_12 : decode prog_1_method_2_code 12 = .ok (.iload_n 2, 1) := by decide +kernel
theorem d_Xx_sheet_13 : decode prog_1_method_2_code 13 = .ok (.ifCond .lt 14, 3) := by decide +kernel
theorem d_Xx_sheet_16 : decode prog_1_method_2_code 16 = .ok (.iload_n 2, 1) := by decide +kernel
theorem d_Xx_sheet_17 : decode prog_1_method_2_code 17 = .ok (.iconst 2, 1) := by decide +kernel
theorem d_Xx_sheet_18 : decode prog_1_method_2_code 18 = .ok (.if_icmp .gt 9, 3) := by decide +kernel
theorem d_Xx_sheet_21 : decode prog_1_method_2_code 21 = .ok (.iload_n 3, 1) := by decide +kernel
theorem d_Xx_sheet_22 : decode prog_1_method_2_code 22 = .ok (.bipush 40, 2) := by decide +kernel
theorem d_Xx_sheet_24 : decode prog_1_method_2_code 24 = .ok (.if_icmp .le 6, 3) := by decide +kernel
theorem d_Xx_sheet_27 : decode prog_1_method_2_code 27 = .ok (.ldc 83, 2) := by decide +kernel
theorem d_Xx_sheet_29 : decode prog_1_method_2_code 29 = .ok (.ireturn, 1) := by decide +kernel
theorem d_Xx_sheet_30 : decode prog_1_method_2_code 30 = .ok (.iload_n 3, 1) := by decide +kernel
theorem d_Xx_sheet_31 : decode prog_1_method_2_code 31 = .ok (.ifCond .ge 9, 3) := by decide +kernel
theorem d_Xx_sheet_34 : decode prog_1_method_2_code 34 = .ok (.aload_n 0, 1) := by decide +kernel
theorem d_Xx_sheet_35 : decode prog_1_method_2_code 35 = .ok (.iconst 4, 1) := by decide +kernel
theorem d_Xx_sheet_36 : decode prog_1_method_2_code 36 = .ok (.invokevirtual 84, 3) := by decide +kernel
theorem d_Xx_sheet_39 : decode prog_1_method_2_code 39 = .ok (.ireturn, 1) := by decide +kernel
theorem d_Xx_sheet_40 : decode prog_1_method_2_code 40 = .ok (.aload 4, 2) := by decide +kernel
theorem d_Xx_sheet_42 : decode prog_1_method_2_code 42 = .ok (.iload_n 2, 1) := by decide +kernel
theorem d_Xx_sheet_43 : decode prog_1_method_2_code 43 = .ok (.iload_n 3, 1) := by decide +kernel
theorem d_Xx_sheet_44 : decode prog_1_method_2_code 44 = .ok (.invokevirtual 87, 3) := by decide +kernel
theorem d_Xx_sheet_47 : decode prog_1_method_2_code 47 = .ok (.aload_n 0, 1) := by decide +kernel
theorem d_Xx_sheet_48 : decode prog_1_method_2_code 48 = .ok (.iload_n 3, 1) := by decide +kernel
theorem d_Xx_sheet_49 : decode prog_1_method_2_code 49 = .ok (.invokevirtual 91, 3) := by decide +kernel
theorem d_Xx_sheet_52 : decode prog_1_method_2_code 52 = .ok (.ireturn, 1) := by decide +kernel
set_option maxHeartbeats 2000000 in
theorem Xx_sheet_c {l : Launch} {θ : tv_Th} (F : Nat) (a1 : Int32) (a2 : Int32) (a3 : Int32) (M : tv_M) : tv_Ct l θ ⟨"TiedViews", "sheet", "(III)I"⟩ prog_1_method_2_code 5 (some .int) 2 tv_ei [.ref (θ.1 + 0), .int a1, .int a2, .int a3] M (Xx_sheet F a1 a2 a3 M) := by
  refine tv_ofG [some (.ref (θ.1 + 0)), some (.int a1), some (.int a2), some (.int a3), none] rfl rfl (tv_ent 1 rfl) ?_
  intro κ hl ht hC hR
  subst hl; subst ht
  unfold Xx_sheet
  refine g_aload_n hC d_Xx_sheet_0 rfl ?_
  refine g_iload_n hC d_Xx_sheet_1 rfl ?_
  refine gv_callVr hC [.int a1] cw_Xx_79 (Xx_sheetAt_c F a1 M) lc_0 rfl rfl rfl rfl rfl rfl rfl d_Xx_sheet_2 (fun r1 M2 => ?_)
  refine g_astoreQ (ls' := [some (.ref (κ.b + 0)), some (.int a1), some (.int a2), some (.int a3), some (tv_re κ.b r1)]) hC d_Xx_sheet_5 rfl rfl ?_
  refine g_aloadQ hC d_Xx_sheet_7 rfl ?_
  rcases r1 with _ | p3
  · refine g_nlN ?_
    refine g_ifnullN (tgt := 27) hC d_Xx_sheet_9 (by decide) ?_
    refine g_ldc hC d_Xx_sheet_27 wk_Xx_83 ?_
    exact g_iret hC hR d_Xx_sheet_29
  · refine g_nlS ?_
    refine g_ifnullR hC d_Xx_sheet_9 ?_
    refine g_gl (fun h4 => ?_)
    refine g_iload_n hC d_Xx_sheet_12 rfl ?_
    refine g_if_lt (tgt := 27) hC d_Xx_sheet_13 (by decide) (fun _ => ?_) (fun _ => ?_)
    · refine g_ldc hC d_Xx_sheet_27 wk_Xx_83 ?_
      exact g_iret hC hR d_Xx_sheet_29
    · refine g_iload_n hC d_Xx_sheet_16 rfl ?_
      refine g_iconst hC d_Xx_sheet_17 k_i2 ?_
      refine g_icmp_gt (tgt := 27) hC d_Xx_sheet_18 (by decide) (fun _ => ?_) (fun _ => ?_)
      · refine g_ldc hC d_Xx_sheet_27 wk_Xx_83 ?_
        exact g_iret hC hR d_Xx_sheet_29
      · refine g_iload_n hC d_Xx_sheet_21 rfl ?_
        refine g_bipush hC d_Xx_sheet_22 k_b40 ?_
        refine g_icmp_le (tgt := 30) hC d_Xx_sheet_24 (by decide) (fun _ => ?_) (fun _ => ?_)
        · refine g_iload_n hC d_Xx_sheet_30 rfl ?_
          refine g_if_ge (tgt := 40) hC d_Xx_sheet_31 (by decide) (fun _ => ?_) (fun _ => ?_)
          · refine g_aload hC d_Xx_sheet_40 rfl ?_
            refine g_iload_n hC d_Xx_sheet_42 rfl ?_
            refine g_iload_n hC d_Xx_sheet_43 rfl ?_
            refine gv_callVv hC [.int a2, .int a3] cw_Xx_87 (Sh_begin_c F p3 a2 a3 M2) h4 rfl rfl rfl rfl rfl rfl rfl d_Xx_sheet_44 (fun r5 M6 => ?_)
            refine g_aload_n hC d_Xx_sheet_47 rfl ?_
            refine g_iload_n hC d_Xx_sheet_48 rfl ?_
            refine gv_callVi hC [.int a3] cw_Xx_91 (Xx_passed_c F a3 M6) lc_0 rfl rfl rfl rfl rfl rfl rfl d_Xx_sheet_49 (fun r7 M8 => ?_)
            exact g_iret hC hR d_Xx_sheet_52
          · refine g_aload_n hC d_Xx_sheet_34 rfl ?_
            refine g_iconst hC d_Xx_sheet_35 k_i4 ?_
            refine gv_callVi hC [.int 4] cw_Xx_84 (Xx_found_c F 4 M2) lc_0 rfl rfl rfl rfl rfl rfl rfl d_Xx_sheet_36 (fun r9 M10 => ?_)
            exact g_iret hC hR d_Xx_sheet_39
        · refine g_ldc hC d_Xx_sheet_27 wk_Xx_83 ?_
          exact g_iret hC hR d_Xx_sheet_29
theorem d_Sh_isMissing_0 : decode prog_9_method_3_code 0 = .ok (.aload_n 0, 1) := by decide +kernel
theorem d_Sh_isMissing_1 : decode prog_9_method_3_code 1 = .ok (.getfield 11, 3) := by decide +kernel
theorem d_Sh_isMissing_4 : decode prog_9_method_3_code 4 = .ok (.iconst (-1), 1) := by decide +kernel
theorem d_Sh_isMissing_5 : decode prog_9_method_3_code 5 = .ok (.if_icmp .ne 7, 3) := by decide +kernel
theorem d_Sh_isMissing_8 : decode prog_9_method_3_code 8 = .ok (.iconst 1, 1) := by decide +kernel
theorem d_Sh_isMissing_9 : decode prog_9_method_3_code 9 = .ok (.goto 4, 3) := by decide +kernel
theorem d_Sh_isMissing_12 : decode prog_9_method_3_code 12 = .ok (.iconst 0, 1) := by decide +kernel
theorem d_Sh_isMissing_13 : decode prog_9_method_3_code 13 = .ok (.ireturn, 1) := by decide +kernel
set_option maxHeartbeats 2000000 in
theorem Sh_isMissing_c {l : Launch} {θ : tv_Th} (F : Nat) (t : Nat) (M : tv_M) : tv_Ct l θ ⟨"TiedViews$Sheet", "isMissing", "()Z"⟩ prog_9_method_3_code 1 (some .boolean) 0 tv_ei [.ref (θ.1 + t)] M (Sh_isMissing F t M) := by
  refine tv_ofG [some (.ref (θ.1 + t))] rfl rfl (tv_ent 0 rfl) ?_
  intro κ hl ht hC hR
  subst hl; subst ht
  unfold Sh_isMissing
  refine g_gl (fun h1 => ?_)
  refine g_aload_n hC d_Sh_isMissing_0 rfl ?_
  refine fg_Sh_11 hC h1 d_Sh_isMissing_1 ?_
  refine g_iconst hC d_Sh_isMissing_4 k_im1 ?_
  refine g_icmp_ne (tgt := 12) hC d_Sh_isMissing_5 (by decide) (fun _ => ?_) (fun _ => ?_)
  · refine g_iconst hC d_Sh_isMissing_12 k_i0 ?_
    exact g_zret hC hR tv_z0 d_Sh_isMissing_13
  · refine g_iconst hC d_Sh_isMissing_8 k_i1 ?_
    refine g_goto (tgt := 13) hC d_Sh_isMissing_9 (by decide) ?_
    exact g_zret hC hR tv_z1 d_Sh_isMissing_13
theorem d_Sh_reaches_0 : decode prog_9_method_4_code 0 = .ok (.iload_n 1, 1) := by decide +kernel
theorem d_Sh_reaches_1 : decode prog_9_method_4_code 1 = .ok (.ifCond .lt 29, 3) := by decide +kernel
theorem d_Sh_reaches_4 : decode prog_9_method_4_code 4 = .ok (.iload_n 2, 1) := by decide +kernel
theorem d_Sh_reaches_5 : decode prog_9_method_4_code 5 = .ok (.ifCond .lt 25, 3) := by decide +kernel
theorem d_Sh_reaches_8 : decode prog_9_method_4_code 8 = .ok (.iload_n 1, 1) := by decide +kernel
theorem d_Sh_reaches_9 : decode prog_9_method_4_code 9 = .ok (.aload_n 0, 1) := by decide +kernel
theorem d_Sh_reaches_10 : decode prog_9_method_4_code 10 = .ok (.getfield 19, 3) := by decide +kernel
theorem d_Sh_reaches_13 : decode prog_9_method_4_code 13 = .ok (.if_icmp .gt 17, 3) := by decide +kernel
theorem d_Sh_reaches_16 : decode prog_9_method_4_code 16 = .ok (.iload_n 2, 1) := by decide +kernel
theorem d_Sh_reaches_17 : decode prog_9_method_4_code 17 = .ok (.aload_n 0, 1) := by decide +kernel
theorem d_Sh_reaches_18 : decode prog_9_method_4_code 18 = .ok (.getfield 19, 3) := by decide +kernel
theorem d_Sh_reaches_21 : decode prog_9_method_4_code 21 = .ok (.iload_n 1, 1) := by decide +kernel
theorem d_Sh_reaches_22 : decode prog_9_method_4_code 22 = .ok (.isub, 1) := by decide +kernel
theorem d_Sh_reaches_23 : decode prog_9_method_4_code 23 = .ok (.if_icmp .gt 7, 3) := by decide +kernel
theorem d_Sh_reaches_26 : decode prog_9_method_4_code 26 = .ok (.iconst 1, 1) := by decide +kernel
theorem d_Sh_reaches_27 : decode prog_9_method_4_code 27 = .ok (.goto 4, 3) := by decide +kernel
theorem d_Sh_reaches_30 : decode prog_9_method_4_code 30 = .ok (.iconst 0, 1) := by decide +kernel
theorem d_Sh_reaches_31 : decode prog_9_method_4_code 31 = .ok (.ireturn, 1) := by decide +kernel
set_option maxHeartbeats 2000000 in
theorem Sh_reaches_c {l : Launch} {θ : tv_Th} (F : Nat) (t : Nat) (a1 : Int32) (a2 : Int32) (M : tv_M) : tv_Ct l θ ⟨"TiedViews$Sheet", "reaches", "(II)Z"⟩ prog_9_method_4_code 3 (some .boolean) 0 tv_ei [.ref (θ.1 + t), .int a1, .int a2] M (Sh_reaches F t a1 a2 M) := by
  refine tv_ofG [some (.ref (θ.1 + t)), some (.int a1), some (.int a2)] rfl rfl (tv_ent 0 rfl) ?_
  intro κ hl ht hC hR
  subst hl; subst ht
  unfold Sh_reaches
  refine g_gl (fun h1 => ?_)
  refine g_iload_n hC d_Sh_reaches_0 rfl ?_
  refine g_if_lt (tgt := 30) hC d_Sh_reaches_1 (by decide) (fun _ => ?_) (fun _ => ?_)
  · refine g_iconst hC d_Sh_reaches_30 k_i0 ?_
    exact g_zret hC hR tv_z0 d_Sh_reaches_31
  · refine g_iload_n hC d_Sh_reaches_4 rfl ?_
    refine g_if_lt (tgt := 30) hC d_Sh_reaches_5 (by decide) (fun _ => ?_) (fun _ => ?_)
    · refine g_iconst hC d_Sh_reaches_30 k_i0 ?_
      exact g_zret hC hR tv_z0 d_Sh_reaches_31
    · refine g_iload_n hC d_Sh_reaches_8 rfl ?_
      refine g_aload_n hC d_Sh_reaches_9 rfl ?_
      refine fg_Sh_19 hC h1 d_Sh_reaches_10 ?_
      refine g_icmp_gt (tgt := 30) hC d_Sh_reaches_13 (by decide) (fun _ => ?_) (fun _ => ?_)
      · refine g_iconst hC d_Sh_reaches_30 k_i0 ?_
        exact g_zret hC hR tv_z0 d_Sh_reaches_31
      · refine g_iload_n hC d_Sh_reaches_16 rfl ?_
        refine g_aload_n hC d_Sh_reaches_17 rfl ?_
        refine fg_Sh_19 hC h1 d_Sh_reaches_18 ?_
        refine g_iload_n hC d_Sh_reaches_21 rfl ?_
        refine g_isub hC d_Sh_reaches_22 ?_
        refine g_icmp_gt (tgt := 30) hC d_Sh_reaches_23 (by decide) (fun _ => ?_) (fun _ => ?_)
        · refine g_iconst hC d_Sh_reaches_30 k_i0 ?_
          exact g_zret hC hR tv_z0 d_Sh_reaches_31
        · refine g_iconst hC d_Sh_reaches_26 k_i1 ?_
          refine g_goto (tgt := 31) hC d_Sh_reaches_27 (by decide) ?_
          exact g_zret hC hR tv_z1 d_Sh_reaches_31
theorem d_Sh_cut_0 : decode prog_9_method_6_code 0 = .ok (.aload_n 0, 1) := by decide +kernel
theorem d_Sh_cut_1 : decode prog_9_method_6_code 1 = .ok (.getfield 11, 3) := by decide +kernel
theorem d_Sh_cut_4 : decode prog_9_method_6_code 4 = .ok (.ifCond .ne 6, 3) := by decide +kernel
theorem d_Sh_cut_7 : decode prog_9_method_6_code 7 = .ok (.iload_n 1, 1) := by decide +kernel
theorem d_Sh_cut_8 : decode prog_9_method_6_code 8 = .ok (.i2b, 1) := by decide +kernel
theorem d_Sh_cut_9 : decode prog_9_method_6_code 9 = .ok (.ireturn, 1) := by decide +kernel
theorem d_Sh_cut_10 : decode prog_9_method_6_code 10 = .ok (.aload_n 0, 1) := by decide +kernel
theorem d_Sh_cut_11 : decode prog_9_method_6_code 11 = .ok (.getfield 11, 3) := by decide +kernel
theorem d_Sh_cut_14 : decode prog_9_method_6_code 14 = .ok (.iconst 1, 1) := by decide +kernel
theorem d_Sh_cut_15 : decode prog_9_method_6_code 15 = .ok (.if_icmp .ne 8, 3) := by decide +kernel
theorem d_Sh_cut_18 : decode prog_9_method_6_code 18 = .ok (.iload_n 1, 1) := by decide +kernel
theorem d_Sh_cut_19 : decode prog_9_method_6_code 19 = .ok (.i2s, 1) := by decide +kernel
theorem d_Sh_cut_20 : decode prog_9_method_6_code 20 = .ok (.goto 4, 3) := by decide +kernel
theorem d_Sh_cut_23 : decode prog_9_method_6_code 23 = .ok (.iload_n 1, 1) := by decide +kernel
theorem d_Sh_cut_24 : decode prog_9_method_6_code 24 = .ok (.ireturn, 1) := by decide +kernel
set_option maxHeartbeats 2000000 in
theorem Sh_cut_c {l : Launch} {θ : tv_Th} (F : Nat) (t : Nat) (a1 : Int32) (M : tv_M) : tv_Ct l θ ⟨"TiedViews$Sheet", "cut", "(I)I"⟩ prog_9_method_6_code 2 (some .int) 0 tv_ei [.ref (θ.1 + t), .int a1] M (Sh_cut F t a1 M) := by
  refine tv_ofG [some (.ref (θ.1 + t)), some (.int a1)] rfl rfl (tv_ent 0 rfl) ?_
  intro κ hl ht hC hR
  subst hl; subst ht
  unfold Sh_cut
  refine g_gl (fun h1 => ?_)
  refine g_aload_n hC d_Sh_cut_0 rfl ?_
  refine fg_Sh_11 hC h1 d_Sh_cut_1 ?_
  refine g_if_ne (tgt := 10) hC d_Sh_cut_4 (by decide) (fun _ => ?_) (fun _ => ?_)
  · refine g_aload_n hC d_Sh_cut_10 rfl ?_
    refine fg_Sh_11 hC h1 d_Sh_cut_11 ?_
    refine g_iconst hC d_Sh_cut_14 k_i1 ?_
    refine g_icmp_ne (tgt := 23) hC d_Sh_cut_15 (by decide) (fun _ => ?_) (fun _ => ?_)
    · refine g_iload_n hC d_Sh_cut_23 rfl ?_
      exact g_iret hC hR d_Sh_cut_24
    · refine g_iload_n hC d_Sh_cut_18 rfl ?_
      refine g_i2s hC d_Sh_cut_19 ?_
      refine g_goto (tgt := 24) hC d_Sh_cut_20 (by decide) ?_
      exact g_iret hC hR d_Sh_cut_24
  · refine g_iload_n hC d_Sh_cut_7 rfl ?_
    refine g_i2b hC d_Sh_cut_8 ?_
    exact g_iret hC hR d_Sh_cut_9
theorem d_Sh_put_0 : decode prog_9_method_5_code 0 = .ok (.aload_n 0, 1) := by decide +kernel
theorem d_Sh_put_1 : decode prog_9_method_5_code 1 = .ok (.iload_n 1, 1) := by decide +kernel
theorem d_Sh_put_2 : decode prog_9_method_5_code 2 = .ok (.iconst 1, 1) := by decide +kernel
theorem d_Sh_put_3 : decode prog_9_method_5_code 3 = .ok (.invokevirtual 28, 3) := by decide +kernel
theorem d_Sh_put_6 : decode prog_9_method_5_code 6 = .ok (.ifCond .ne 6, 3) := by decide +kernel
theorem d_Sh_put_9 : decode prog_9_method_5_code 9 = .ok (.ldc 32, 2) := by decide +kernel
theorem d_Sh_put_11 : decode prog_9_method_5_code 11 = .ok (.ireturn, 1) := by decide +kernel
theorem d_Sh_put_12 : decode prog_9_method_5_code 12 = .ok (.aload_n 0, 1) := by decide +kernel
theorem d_Sh_put_13 : decode prog_9_method_5_code 13 = .ok (.getfield 15, 3) := by decide +kernel
theorem d_Sh_put_16 : decode prog_9_method_5_code 16 = .ok (.iload_n 1, 1) := by decide +kernel
theorem d_Sh_put_17 : decode prog_9_method_5_code 17 = .ok (.aload_n 0, 1) := by decide +kernel
theorem d_Sh_put_18 : decode prog_9_method_5_code 18 = .ok (.iload_n 2, 1) := by decide +kernel
theorem d_Sh_put_19 : decode prog_9_method_5_code 19 = .ok (.invokevirtual 33, 3) := by decide +kernel
theorem d_Sh_put_22 : decode prog_9_method_5_code 22 = .ok (.iastore, 1) := by decide +kernel
theorem d_Sh_put_23 : decode prog_9_method_5_code 23 = .ok (.aload_n 0, 1) := by decide +kernel
theorem d_Sh_put_24 : decode prog_9_method_5_code 24 = .ok (.getfield 15, 3) := by decide +kernel
theorem d_Sh_put_27 : decode prog_9_method_5_code 27 = .ok (.iload_n 1, 1) := by decide +kernel
theorem d_Sh_put_28 : decode prog_9_method_5_code 28 = .ok (.iaload, 1) := by decide +kernel
theorem d_Sh_put_29 : decode prog_9_method_5_code 29 = .ok (.ireturn, 1) := by decide +kernel
set_option maxHeartbeats 2000000 in
theorem Sh_put_c {l : Launch} {θ : tv_Th} (F : Nat) (t : Nat) (a1 : Int32) (a2 : Int32) (M : tv_M) : tv_Ct l θ ⟨"TiedViews$Sheet", "put", "(II)I"⟩ prog_9_method_5_code 3 (some .int) 1 tv_ei [.ref (θ.1 + t), .int a1, .int a2] M (Sh_put F t a1 a2 M) := by
  refine tv_ofG [some (.ref (θ.1 + t)), some (.int a1), some (.int a2)] rfl rfl (tv_ent 0 rfl) ?_
  intro κ hl ht hC hR
  subst hl; subst ht
  unfold Sh_put
  refine g_gl (fun h1 => ?_)
  refine g_aload_n hC d_Sh_put_0 rfl ?_
  refine g_iload_n hC d_Sh_put_1 rfl ?_
  refine g_iconst hC d_Sh_put_2 k_i1 ?_
  refine gv_callVi hC [.int a1, .int 1] cw_Sh_28 (Sh_reaches_c F t a1 1 M) h1 rfl rfl rfl rfl rfl rfl rfl d_Sh_put_3 (fun r2 M3 => ?_)
  refine g_if_ne (tgt := 12) hC d_Sh_put_6 (by decide) (fun _ => ?_) (fun _ => ?_)
  · refine g_aload_n hC d_Sh_put_12 rfl ?_
    refine g_nn (fun p4 e15 => ?_)
    refine fg_Sh_15 hC h1 d_Sh_put_13 e15 ?_
    refine g_gn (fun n6 h5 => ?_)
    refine g_iload_n hC d_Sh_put_16 rfl ?_
    refine g_aload_n hC d_Sh_put_17 rfl ?_
    refine g_iload_n hC d_Sh_put_18 rfl ?_
    refine gv_callVi hC [.int a2] cw_Sh_33 (Sh_cut_c F t a2 M3) h1 rfl rfl rfl rfl rfl rfl rfl d_Sh_put_19 (fun r7 M8 => ?_)
    refine gv_iast hC h5 d_Sh_put_22 (fun M9 => ?_)
    refine g_aload_n hC d_Sh_put_23 rfl ?_
    refine g_nn (fun p10 e14 => ?_)
    refine fg_Sh_15 hC h1 d_Sh_put_24 e14 ?_
    refine g_gn (fun n12 h11 => ?_)
    refine g_iload_n hC d_Sh_put_27 rfl ?_
    refine gv_iald hC h11 d_Sh_put_28 (fun x13 => ?_)
    exact g_iret hC hR d_Sh_put_29
  · refine g_ldc hC d_Sh_put_9 wk_Sh_32 ?_
    exact g_iret hC hR d_Sh_put_11
theorem d_Xx_set_0 : decode prog_1_method_3_code 0 = .ok (.aload_n 0, 1) := by decide +kernel
theorem d_Xx_set_1 : decode prog_1_method_3_code 1 = .ok (.iload_n 1, 1) := by decide +kernel
theorem d_Xx_set_2 : decode prog_1_method_3_code 2 = .ok (.invokevirtual 79, 3) := by decide +kernel
theorem d_Xx_set_5 : decode prog_1_method_3_code 5 = .ok (.astore 4, 2) := by decide +kernel
theorem d_Xx_set_7 : decode prog_1_method_3_code 7 = .ok (.aload 4, 2) := by decide +kernel
theorem d_Xx_set_9 : decode prog_1_method_3_code 9 = .ok (.ifnonnull 6, 3) := by decide +kernel
theorem d_Xx_set_12 : decode prog_1_method_3_code 12 = .ok (.ldc 83, 2) := by decide +kernel
theorem d_Xx_set_14 : decode prog_1_method_3_code 14 = .ok (.ireturn, 1) := by decide +kernel
theorem d_Xx_set_15 : decode prog_1_method_3_code 15 = .ok (.aload 4, 2) := by decide +kernel
theorem d_Xx_set_17 : decode prog_1_method_3_code 17 = .ok (.invokevirtual 94, 3) := by decide +kernel
theorem d_Xx_set_20 : decode prog_1_method_3_code 20 = .ok (.ifCond .eq 9, 3) := by decide +kernel
theorem d_Xx_set_23 : decode prog_1_method_3_code 23 = .ok (.aload_n 0, 1) := by decide +kernel
theorem d_Xx_set_24 : decode prog_1_method_3_code 24 = .ok (.iconst 1, 1) := by decide +kernel
theorem d_Xx_set_25 : decode prog_1_method_3_code 25 = .ok (.invokevirtual 84, 3) := by decide +kernel
theorem d_Xx_set_28 : decode prog_1_method_3_code 28 = .ok (.ireturn, 1) := by decide +kernel
theorem d_Xx_set_29 : decode prog_1_method_3_code 29 = .ok (.aload 4, 2) := by decide +kernel
theorem d_Xx_set_31 : decode prog_1_method_3_code 31 = .ok (.iload_n 2, 1) := by decide +kernel
theorem d_Xx_set_32 : decode prog_1_method_3_code 32 = .ok (.iconst 1, 1) := by decide +kernel
theorem d_Xx_set_33 : decode prog_1_method_3_code 33 = .ok (.invokevirtual 98, 3) := by decide +kernel
theorem d_Xx_set_36 : decode prog_1_method_3_code 36 = .ok (.ifCond .ne 9, 3) := by decide +kernel
theorem d_Xx_set_39 : decode prog_1_method_3_code 39 = .ok (.aload_n 0, 1) := by decide +kernel
theorem d_Xx_set_40 : decode prog_1_method_3_code 40 = .ok (.iconst 2, 1) := by decide +kernel
theorem d_Xx_set_41 : decode prog_1_method_3_code 41 = .ok (.invokevirtual 84, 3) := by decide +kernel
theorem d_Xx_set_44 : decode prog_1_method_3_code 44 = .ok (.ireturn, 1) := by decide +kernel
theorem d_Xx_set_45 : decode prog_1_method_3_code 45 = .ok (.aload_n 0, 1) := by decide +kernel
theorem d_Xx_set_46 : decode prog_1_method_3_code 46 = .ok (.aload 4, 2) := by decide +kernel
theorem d_Xx_set_48 : decode prog_1_method_3_code 48 = .ok (.iload_n 2, 1) := by decide +kernel
theorem d_Xx_set_49 : decode prog_1_method_3_code 49 = .ok (.iload_n 3, 1) := by decide +kernel
theorem d_Xx_set_50 : decode prog_1_method_3_code 50 = .ok (.invokevirtual 102, 3) := by decide +kernel
theorem d_Xx_set_53 : decode prog_1_method_3_code 53 = .ok (.invokevirtual 91, 3) := by decide +kernel
theorem d_Xx_set_56 : decode prog_1_method_3_code 56 = .ok (.ireturn, 1) := by decide +kernel
set_option maxHeartbeats 2000000 in
theorem Xx_set_c {l : Launch} {θ : tv_Th} (F : Nat) (a1 : Int32) (a2 : Int32) (a3 : Int32) (M : tv_M) : tv_Ct l θ ⟨"TiedViews", "set", "(III)I"⟩ prog_1_method_3_code 5 (some .int) 2 tv_ei [.ref (θ.1 + 0), .int a1, .int a2, .int a3] M (Xx_set F a1 a2 a3 M) := by
  refine tv_ofG [some (.ref (θ.1 + 0)), some (.int a1), some (.int a2), some (.int a3), none] rfl rfl (tv_ent 1 rfl) ?_
  intro κ hl ht hC hR
  subst hl; subst ht
  unfold Xx_set
  refine g_aload_n hC d_Xx_set_0 rfl ?_
  refine g_iload_n hC d_Xx_set_1 rfl ?_
  refine gv_callVr hC [.int a1] cw_Xx_79 (Xx_sheetAt_c F a1 M) lc_0 rfl rfl rfl rfl rfl rfl rfl d_Xx_set_2 (fun r1 M2 => ?_)
  refine g_astoreQ (ls' := [some (.ref (κ.b + 0)), some (.int a1), some (.int a2), some (.int a3), some (tv_re κ.b r1)]) hC d_Xx_set_5 rfl rfl ?_
  refine g_aloadQ hC d_Xx_set_7 rfl ?_
  rcases r1 with _ | p3
  · refine g_nlN ?_
    refine g_ifnonnullN hC d_Xx_set_9 ?_
    refine g_ldc hC d_Xx_set_12 wk_Xx_83 ?_
    exact g_iret hC hR d_Xx_set_14
  · refine g_nlS ?_
    refine g_ifnonnullR (tgt := 15) hC d_Xx_set_9 (by decide) ?_
    refine g_gl (fun h4 => ?_)
    refine g_aload hC d_Xx_set_15 rfl ?_
    refine gv_callVi hC [] cw_Xx_94 (Sh_isMissing_c F p3 M2) h4 rfl rfl rfl rfl rfl rfl rfl d_Xx_set_17 (fun r5 M6 => ?_)
    refine g_if_eq (tgt := 29) hC d_Xx_set_20 (by decide) (fun _ => ?_) (fun _ => ?_)
    · refine g_aload hC d_Xx_set_29 rfl ?_
      refine g_iload_n hC d_Xx_set_31 rfl ?_
      refine g_iconst hC d_Xx_set_32 k_i1 ?_
      refine gv_callVi hC [.int a2, .int 1] cw_Xx_98 (Sh_reaches_c F p3 a2 1 M6) h4 rfl rfl rfl rfl rfl rfl rfl d_Xx_set_33 (fun r7 M8 => ?_)
      refine g_if_ne (tgt := 45) hC d_Xx_set_36 (by decide) (fun _ => ?_) (fun _ => ?_)
      · refine g_aload_n hC d_Xx_set_45 rfl ?_
        refine g_aload hC d_Xx_set_46 rfl ?_
        refine g_iload_n hC d_Xx_set_48 rfl ?_
        refine g_iload_n hC d_Xx_set_49 rfl ?_
        refine gv_callVi hC [.int a2, .int a3] cw_Xx_102 (Sh_put_c F p3 a2 a3 M8) h4 rfl rfl rfl rfl rfl rfl rfl d_Xx_set_50 (fun r9 M10 => ?_)
        refine gv_callVi hC [.int r9] cw_Xx_91 (Xx_passed_c F r9 M10) lc_0 rfl rfl rfl rfl rfl rfl rfl d_Xx_set_53 (fun r11 M12 => ?_)
        exact g_iret hC hR d_Xx_set_56
      · refine g_aload_n hC d_Xx_set_39 rfl ?_
        refine g_iconst hC d_Xx_set_40 k_i2 ?_
        refine gv_callVi hC [.int 2] cw_Xx_84 (Xx_found_c F 2 M8) lc_0 rfl rfl rfl rfl rfl rfl rfl d_Xx_set_41 (fun r13 M14 => ?_)
        exact g_iret hC hR d_Xx_set_44
    · refine g_aload_n hC d_Xx_set_23 rfl ?_
      refine g_iconst hC d_Xx_set_24 k_i1 ?_
      refine gv_callVi hC [.int 1] cw_Xx_84 (Xx_found_c F 1 M6) lc_0 rfl rfl rfl rfl rfl rfl rfl d_Xx_set_25 (fun r15 M16 => ?_)
      exact g_iret hC hR d_Xx_set_28
theorem d_Xx_copy_0 : decode prog_1_method_4_code 0 = .ok (.aload_n 0, 1) := by decide +kernel
theorem d_Xx_copy_1 : decode prog_1_method_4_code 1 = .ok (.iload_n 1, 1) := by decide +kernel
theorem d_Xx_copy_2 : decode prog_1_method_4_code 2 = .ok (.invokevirtual 79, 3) := by decide +kernel
theorem d_Xx_copy_5 : decode prog_1_method_4_code 5 = .ok (.astore 6, 2) := by decide +kernel
theorem d_Xx_copy_7 : decode prog_1_method_4_code 7 = .ok (.aload_n 0, 1) := by decide +kernel
theorem d_Xx_copy_8 : decode prog_1_method_4_code 8 = .ok (.iload_n 3, 1) := by decide +kernel
theorem d_Xx_copy_9 : decode prog_1_method_4_code 9 = .ok (.invokevirtual 79, 3) := by decide +kernel
theorem d_Xx_copy_12 : decode prog_1_method_4_code 12 = .ok (.astore 7, 2) := by decide +kernel
theorem d_Xx_copy_14 : decode prog_1_method_4_code 14 = .ok (.aload 6, 2) := by decide +kernel
theorem d_Xx_copy_16 : decode prog_1_method_4_code 16 = .ok (.ifnull 8, 3) := by decide +kernel
theorem d_Xx_copy_19 : decode prog_1_method_4_code 19 = .ok (.aload 7, 2) := by decide +kernel
theorem d_Xx_copy_21 : decode prog_1_method_4_code 21 = .ok (.ifnonnull 6, 3) := by decide +kernel
theorem d_Xx_copy_24 : decode prog_1_method_4_code 24 = .ok (.ldc 83, 2) := by decide +kernel
theorem d_Xx_copy_26 : decode prog_1_method_4_code 26 = .ok (.ireturn, 1) := by decide +kernel
theorem d_Xx_copy_27 : decode prog_1_method_4_code 27 = .ok (.aload 6, 2) := by decide +kernel
theorem d_Xx_copy_29 : decode prog_1_method_4_code 29 = .ok (.invokevirtual 94, 3) := by decide +kernel
theorem d_Xx_copy_32 : decode prog_1_method_4_code 32 = .ok (.ifCond .ne 11, 3) := by decide +kernel
theorem d_Xx_copy_35 : decode prog_1_method_4_code 35 = .ok (.aload 7, 2) := by decide +kernel
theorem d_Xx_copy_37 : decode prog_1_method_4_code 37 = .ok (.invokevirtual 94, 3) := by decide +kernel
theorem d_Xx_copy_40 : decode prog_1_method_4_code 40 = .ok (.ifCond .eq 9, 3) := by decide +kernel
theorem d_Xx_copy_43 : decode prog_1_method_4_code 43 = .ok (.aload_n 0, 1) := by decide +kernel
theorem d_Xx_copy_44 : decode prog_1_method_4_code 44 = .ok (.iconst 1, 1) := by decide +kernel
theorem d_Xx_copy_45 : decode prog_1_method_4_code 45 = .ok (.invokevirtual 84, 3) := by decide +kernel
theorem d_Xx_copy_48 : decode prog_1_method_4_code 48 = .ok (.ireturn, 1) := by decide +kernel
theorem d_Xx_copy_49 : decode prog_1_method_4_code 49 = .ok (.aload 6, 2) := by decide +kernel
theorem d_Xx_copy_51 : decode prog_1_method_4_code 51 = .ok (.getfield 106, 3) := by decide +kernel
theorem d_Xx_copy_54 : decode prog_1_method_4_code 54 = .ok (.aload 7, 2) := by decide +kernel
theorem d_Xx_copy_56 : decode prog_1_method_4_code 56 = .ok (.getfield 106, 3) := by decide +kernel
theorem d_Xx_copy_59 : decode prog_1_method_4_code 59 = .ok (.if_icmp .eq 9, 3) := by decide +kernel
theorem d_Xx_copy_62 : decode prog_1_method_4_code 62 = .ok (.aload_n 0, 1) := by decide +kernel
theorem d_Xx_copy_63 : decode prog_1_method_4_code 63 = .ok (.iconst 5, 1) := by decide +kernel
theorem d_Xx_copy_64 : decode prog_1_method_4_code 64 = .ok (.invokevirtual 84, 3) := by decide +kernel
theorem d_Xx_copy_67 : decode prog_1_method_4_code 67 = .ok (.ireturn, 1) := by decide +kernel
theorem d_Xx_copy_68 : decode prog_1_method_4_code 68 = .ok (.aload 6, 2) := by decide +kernel
theorem d_Xx_copy_70 : decode prog_1_method_4_code 70 = .ok (.iload_n 2, 1) := by decide +kernel
theorem d_Xx_copy_71 : decode prog_1_method_4_code 71 = .ok (.iload 5, 2) := by decide +kernel
theorem d_Xx_copy_73 : decode prog_1_method_4_code 73 = .ok (.invokevirtual 98, 3) := by decide +kernel
theorem d_Xx_copy_76 : decode prog_1_method_4_code 76 = .ok (.ifCond .eq 15, 3) := by decide +kernel
theorem d_Xx_copy_79 : decode prog_1_method_4_code 79 = .ok (.aload 7, 2) := by decide +kernel
theorem d_Xx_copy_81 : decode prog_1_method_4_code 81 = .ok (.iload 4, 2) := by decide +kernel
theorem d_Xx_copy_83 : decode prog_1_method_4_code 83 = .ok (.iload 5, 2) := by decide +kernel
theorem d_Xx_copy_85 : decode prog_1_method_4_code 85 = .ok (.invokevirtual 98, 3) := by decide +kernel
theorem d_Xx_copy_88 : decode prog_1_method_4_code 88 = .ok (.ifCond .ne 9, 3) := by decide +kernel
theorem d_Xx_copy_91 : decode prog_1_method_4_code 91 = .ok (.aload_n 0, 1) := by decide +kernel
theorem d_Xx_copy_92 : decode prog_1_method_4_code 92 = .ok (.iconst 2, 1) := by decide +kernel
theorem d_Xx_copy_93 : decode prog_1_method_4_code 93 = .ok (.invokevirtual 84, 3) := by decide +kernel
theorem d_Xx_copy_96 : decode prog_1_method_4_code 96 = .ok (.ireturn, 1) := by decide +kernel
theorem d_Xx_copy_97 : decode prog_1_method_4_code 97 = .ok (.aload 6, 2) := by decide +kernel
theorem d_Xx_copy_99 : decode prog_1_method_4_code 99 = .ok (.getfield 109, 3) := by decide +kernel
theorem d_Xx_copy_102 : decode prog_1_method_4_code 102 = .ok (.iload_n 2, 1) := by decide +kernel
theorem d_Xx_copy_103 : decode prog_1_method_4_code 103 = .ok (.aload 7, 2) := by decide +kernel
theorem d_Xx_copy_105 : decode prog_1_method_4_code 105 = .ok (.getfield 109, 3) := by decide +kernel
theorem d_Xx_copy_108 : decode prog_1_method_4_code 108 = .ok (.iload 4, 2) := by decide +kernel
theorem d_Xx_copy_110 : decode prog_1_method_4_code 110 = .ok (.iload 5, 2) := by decide +kernel
theorem d_Xx_copy_112 : decode prog_1_method_4_code 112 = .ok (.invokestatic 113, 3) := by decide +kernel
theorem d_Xx_copy_115 : decode prog_1_method_4_code 115 = .ok (.aload_n 0, 1) := by decide +kernel
theorem d_Xx_copy_116 : decode prog_1_method_4_code 116 = .ok (.iload 5, 2) := by decide +kernel
theorem d_Xx_copy_118 : decode prog_1_method_4_code 118 = .ok (.invokevirtual 91, 3) := by decide +kernel
theorem d_Xx_copy_121 : decode prog_1_method_4_code 121 = .ok (.ireturn, 1) := by decide +kernel
set_option maxHeartbeats 2000000 in
theorem Xx_copy_c {l : Launch} {θ : tv_Th} (F : Nat) (a1 : Int32) (a2 : Int32) (a3 : Int32) (a4 : Int32) (a5 : Int32) (M : tv_M) : tv_Ct l θ ⟨"TiedViews", "copy", "(IIIII)I"⟩ prog_1_method_4_code 8 (some .int) 1 tv_ei [.ref (θ.1 + 0), .int a1, .int a2, .int a3, .int a4, .int a5] M (Xx_copy F a1 a2 a3 a4 a5 M) := by
  refine tv_ofG [some (.ref (θ.1 + 0)), some (.int a1), some (.int a2), some (.int a3), some (.int a4), some (.int a5), none, none] rfl rfl (tv_ent 2 rfl) ?_
  intro κ hl ht hC hR
  subst hl; subst ht
  unfold Xx_copy
  refine g_aload_n hC d_Xx_copy_0 rfl ?_
  refine g_iload_n hC d_Xx_copy_1 rfl ?_
  refine gv_callVr hC [.int a1] cw_Xx_79 (Xx_sheetAt_c F a1 M) lc_0 rfl rfl rfl rfl rfl rfl rfl d_Xx_copy_2 (fun r1 M2 => ?_)
  refine g_astoreQ (ls' := [some (.ref (κ.b + 0)), some (.int a1), some (.int a2), some (.int a3), some (.int a4), some (.int a5), some (tv_re κ.b r1), none]) hC d_Xx_copy_5 rfl rfl ?_
  refine g_aload_n hC d_Xx_copy_7 rfl ?_
  refine g_iload_n hC d_Xx_copy_8 rfl ?_
  refine gv_callVr hC [.int a3] cw_Xx_79 (Xx_sheetAt_c F a3 M2) lc_0 rfl rfl rfl rfl rfl rfl rfl d_Xx_copy_9 (fun r3 M4 => ?_)
  refine g_astoreQ (ls' := [some (.ref (κ.b + 0)), some (.int a1), some (.int a2), some (.int a3), some (.int a4), some (.int a5), some (tv_re κ.b r1), some (tv_re κ.b r3)]) hC d_Xx_copy_12 (by simp [tv_sto, tv_sto2, tv_clr, tv_re_cat]) rfl ?_
  refine g_aloadQ hC d_Xx_copy_14 rfl ?_
  rcases r1 with _ | p5
  · refine g_nlN ?_
    refine g_ifnullN (tgt := 24) hC d_Xx_copy_16 (by decide) ?_
    refine g_ldc hC d_Xx_copy_24 wk_Xx_83 ?_
    exact g_iret hC hR d_Xx_copy_26
  · refine g_nlS ?_
    refine g_ifnullR hC d_Xx_copy_16 ?_
    refine g_gl (fun h6 => ?_)
    refine g_aloadQ hC d_Xx_copy_19 rfl ?_
    rcases r3 with _ | p7
    · refine g_nlN ?_
      refine g_ifnonnullN hC d_Xx_copy_21 ?_
      refine g_ldc hC d_Xx_copy_24 wk_Xx_83 ?_
      exact g_iret hC hR d_Xx_copy_26
    · refine g_nlS ?_
      refine g_ifnonnullR (tgt := 27) hC d_Xx_copy_21 (by decide) ?_
      refine g_gl (fun h8 => ?_)
      refine g_aload hC d_Xx_copy_27 rfl ?_
      refine gv_callVi hC [] cw_Xx_94 (Sh_isMissing_c F p5 M4) h6 rfl rfl rfl rfl rfl rfl rfl d_Xx_copy_29 (fun r9 M10 => ?_)
      refine g_if_ne (tgt := 43) hC d_Xx_copy_32 (by decide) (fun _ => ?_) (fun _ => ?_)
      · refine g_aload_n hC d_Xx_copy_43 rfl ?_
        refine g_iconst hC d_Xx_copy_44 k_i1 ?_
        refine gv_callVi hC [.int 1] cw_Xx_84 (Xx_found_c F 1 M10) lc_0 rfl rfl rfl rfl rfl rfl rfl d_Xx_copy_45 (fun r11 M12 => ?_)
        exact g_iret hC hR d_Xx_copy_48
      · refine g_aload hC d_Xx_copy_35 rfl ?_
        refine gv_callVi hC [] cw_Xx_94 (Sh_isMissing_c F p7 M10) h8 rfl rfl rfl rfl rfl rfl rfl d_Xx_copy_37 (fun r13 M14 => ?_)
        refine g_if_eq (tgt := 49) hC d_Xx_copy_40 (by decide) (fun _ => ?_) (fun _ => ?_)
        · refine g_aload hC d_Xx_copy_49 rfl ?_
          refine fg_Xx_106 hC h6 d_Xx_copy_51 ?_
          refine g_aload hC d_Xx_copy_54 rfl ?_
          refine fg_Xx_106 hC h8 d_Xx_copy_56 ?_
          refine g_icmp_eq (tgt := 68) hC d_Xx_copy_59 (by decide) (fun _ => ?_) (fun _ => ?_)
          · refine g_aload hC d_Xx_copy_68 rfl ?_
            refine g_iload_n hC d_Xx_copy_70 rfl ?_
            refine g_iload hC d_Xx_copy_71 rfl ?_
            refine gv_callVi hC [.int a2, .int a5] cw_Xx_98 (Sh_reaches_c F p5 a2 a5 M14) h6 rfl rfl rfl rfl rfl rfl rfl d_Xx_copy_73 (fun r15 M16 => ?_)
            refine g_if_eq (tgt := 91) hC d_Xx_copy_76 (by decide) (fun _ => ?_) (fun _ => ?_)
            · refine g_aload_n hC d_Xx_copy_91 rfl ?_
              refine g_iconst hC d_Xx_copy_92 k_i2 ?_
              refine gv_callVi hC [.int 2] cw_Xx_84 (Xx_found_c F 2 M16) lc_0 rfl rfl rfl rfl rfl rfl rfl d_Xx_copy_93 (fun r17 M18 => ?_)
              exact g_iret hC hR d_Xx_copy_96
            · refine g_aload hC d_Xx_copy_79 rfl ?_
              refine g_iload hC d_Xx_copy_81 rfl ?_
              refine g_iload hC d_Xx_copy_83 rfl ?_
              refine gv_callVi hC [.int a4, .int a5] cw_Xx_98 (Sh_reaches_c F p7 a4 a5 M16) h8 rfl rfl rfl rfl rfl rfl rfl d_Xx_copy_85 (fun r19 M20 => ?_)
              refine g_if_ne (tgt := 97) hC d_Xx_copy_88 (by decide) (fun _ => ?_) (fun _ => ?_)
              · refine g_aload hC d_Xx_copy_97 rfl ?_
                refine g_nn (fun p21 e31 => ?_)
                refine fg_Xx_109 hC h6 d_Xx_copy_99 e31 ?_
                refine g_gn (fun n23 h22 => ?_)
                refine g_iload_n hC d_Xx_copy_102 rfl ?_
                refine g_aload hC d_Xx_copy_103 rfl ?_
                refine g_nn (fun p24 e30 => ?_)
                refine fg_Xx_109 hC h8 d_Xx_copy_105 e30 ?_
                refine g_gn (fun n26 h25 => ?_)
                refine g_iload hC d_Xx_copy_108 rfl ?_
                refine g_iload hC d_Xx_copy_110 rfl ?_
                refine gv_copy hC h22 h25 wc_Xx_113 rfl rfl d_Xx_copy_112 (fun M27 => ?_)
                refine g_aload_n hC d_Xx_copy_115 rfl ?_
                refine g_iload hC d_Xx_copy_116 rfl ?_
                refine gv_callVi hC [.int a5] cw_Xx_91 (Xx_passed_c F a5 M27) lc_0 rfl rfl rfl rfl rfl rfl rfl d_Xx_copy_118 (fun r28 M29 => ?_)
                exact g_iret hC hR d_Xx_copy_121
              · refine g_aload_n hC d_Xx_copy_91 rfl ?_
                refine g_iconst hC d_Xx_copy_92 k_i2 ?_
                refine gv_callVi hC [.int 2] cw_Xx_84 (Xx_found_c F 2 M20) lc_0 rfl rfl rfl rfl rfl rfl rfl d_Xx_copy_93 (fun r32 M33 => ?_)
                exact g_iret hC hR d_Xx_copy_96
          · refine g_aload_n hC d_Xx_copy_62 rfl ?_
            refine g_iconst hC d_Xx_copy_63 k_i5 ?_
            refine gv_callVi hC [.int 5] cw_Xx_84 (Xx_found_c F 5 M14) lc_0 rfl rfl rfl rfl rfl rfl rfl d_Xx_copy_64 (fun r34 M35 => ?_)
            exact g_iret hC hR d_Xx_copy_67
        · refine g_aload_n hC d_Xx_copy_43 rfl ?_
          refine g_iconst hC d_Xx_copy_44 k_i1 ?_
          refine gv_callVi hC [.int 1] cw_Xx_84 (Xx_found_c F 1 M14) lc_0 rfl rfl rfl rfl rfl rfl rfl d_Xx_copy_45 (fun r36 M37 => ?_)
          exact g_iret hC hR d_Xx_copy_48
theorem d_Xx_drop_0 : decode prog_1_method_5_code 0 = .ok (.aload_n 0, 1) := by decide +kernel
theorem d_Xx_drop_1 : decode prog_1_method_5_code 1 = .ok (.iload_n 1, 1) := by decide +kernel
theorem d_Xx_drop_2 : decode prog_1_method_5_code 2 = .ok (.invokevirtual 79, 3) := by decide +kernel
theorem d_Xx_drop_5 : decode prog_1_method_5_code 5 = .ok (.astore_n 2, 1) := by decide +kernel
theorem d_Xx_drop_6 : decode prog_1_method_5_code 6 = .ok (.aload_n 2, 1) := by decide +kernel
theorem d_Xx_drop_7 : decode prog_1_method_5_code 7 = .ok (.ifnonnull 6, 3) := by decide +kernel
theorem d_Xx_drop_10 : decode prog_1_method_5_code 10 = .ok (.ldc 83, 2) := by decide +kernel
theorem d_Xx_drop_12 : decode prog_1_method_5_code 12 = .ok (.ireturn, 1) := by decide +kernel
theorem d_Xx_drop_13 : decode prog_1_method_5_code 13 = .ok (.aload_n 2, 1) := by decide +kernel
theorem d_Xx_drop_14 : decode prog_1_method_5_code 14 = .ok (.invokevirtual 94, 3) := by decide +kernel
theorem d_Xx_drop_17 : decode prog_1_method_5_code 17 = .ok (.ifCond .eq 9, 3) := by decide +kernel
theorem d_Xx_drop_20 : decode prog_1_method_5_code 20 = .ok (.aload_n 0, 1) := by decide +kernel
theorem d_Xx_drop_21 : decode prog_1_method_5_code 21 = .ok (.iconst 1, 1) := by decide +kernel
theorem d_Xx_drop_22 : decode prog_1_method_5_code 22 = .ok (.invokevirtual 84, 3) := by decide +kernel
theorem d_Xx_drop_25 : decode prog_1_method_5_code 25 = .ok (.ireturn, 1) := by decide +kernel
theorem d_Xx_drop_26 : decode prog_1_method_5_code 26 = .ok (.aload_n 2, 1) := by decide +kernel
theorem d_Xx_drop_27 : decode prog_1_method_5_code 27 = .ok (.getfield 119, 3) := by decide +kernel
theorem d_Xx_drop_30 : decode prog_1_method_5_code 30 = .ok (.istore_n 3, 1) := by decide +kernel
theorem d_Xx_drop_31 : decode prog_1_method_5_code 31 = .ok (.aload_n 2, 1) := by decide +kernel
theorem d_Xx_drop_32 : decode prog_1_method_5_code 32 = .ok (.iconst (-1), 1) := by decide +kernel
theorem d_Xx_drop_33 : decode prog_1_method_5_code 33 = .ok (.iconst 0, 1) := by decide +kernel
theorem d_Xx_drop_34 : decode prog_1_method_5_code 34 = .ok (.invokevirtual 87, 3) := by decide +kernel
theorem d_Xx_drop_37 : decode prog_1_method_5_code 37 = .ok (.aload_n 0, 1) := by decide +kernel
theorem d_Xx_drop_38 : decode prog_1_method_5_code 38 = .ok (.iload_n 3, 1) := by decide +kernel
theorem d_Xx_drop_39 : decode prog_1_method_5_code 39 = .ok (.invokevirtual 91, 3) := by decide +kernel
theorem d_Xx_drop_42 : decode prog_1_method_5_code 42 = .ok (.ireturn, 1) := by decide +kernel
set_option maxHeartbeats 2000000 in
theorem Xx_drop_c {l : Launch} {θ : tv_Th} (F : Nat) (a1 : Int32) (M : tv_M) : tv_Ct l θ ⟨"TiedViews", "drop", "(I)I"⟩ prog_1_method_5_code 4 (some .int) 2 tv_ei [.ref (θ.1 + 0), .int a1] M (Xx_drop F a1 M) := by
  refine tv_ofG [some (.ref (θ.1 + 0)), some (.int a1), none, none] rfl rfl (tv_ent 2 rfl) ?_
  intro κ hl ht hC hR
  subst hl; subst ht
  unfold Xx_drop
  refine g_aload_n hC d_Xx_drop_0 rfl ?_
  refine g_iload_n hC d_Xx_drop_1 rfl ?_
  refine gv_callVr hC [.int a1] cw_Xx_79 (Xx_sheetAt_c F a1 M) lc_0 rfl rfl rfl rfl rfl rfl rfl d_Xx_drop_2 (fun r1 M2 => ?_)
  refine g_astore_nQ (ls' := [some (.ref (κ.b + 0)), some (.int a1), some (tv_re κ.b r1), none]) hC d_Xx_drop_5 rfl rfl ?_
  refine g_aload_nQ hC d_Xx_drop_6 rfl ?_
  rcases r1 with _ | p3
  · refine g_nlN ?_
    refine g_ifnonnullN hC d_Xx_drop_7 ?_
    refine g_ldc hC d_Xx_drop_10 wk_Xx_83 ?_
    exact g_iret hC hR d_Xx_drop_12
  · refine g_nlS ?_
    refine g_ifnonnullR (tgt := 13) hC d_Xx_drop_7 (by decide) ?_
    refine g_gl (fun h4 => ?_)
    refine g_aload_n hC d_Xx_drop_13 rfl ?_
    refine gv_callVi hC [] cw_Xx_94 (Sh_isMissing_c F p3 M2) h4 rfl rfl rfl rfl rfl rfl rfl d_Xx_drop_14 (fun r5 M6 => ?_)
    refine g_if_eq (tgt := 26) hC d_Xx_drop_17 (by decide) (fun _ => ?_) (fun _ => ?_)
    · refine g_aload_n hC d_Xx_drop_26 rfl ?_
      refine fg_Xx_119 hC h4 d_Xx_drop_27 ?_
      refine g_istore_n (ls' := [some (.ref (κ.b + 0)), some (.int a1), some (.ref (κ.b + p3)), some (.int (M6.1 p3 1))]) hC d_Xx_drop_30 rfl rfl ?_
      refine g_aload_n hC d_Xx_drop_31 rfl ?_
      refine g_iconst hC d_Xx_drop_32 k_im1 ?_
      refine g_iconst hC d_Xx_drop_33 k_i0 ?_
      refine gv_callVv hC [.int (-1), .int 0] cw_Xx_87 (Sh_begin_c F p3 (-1) 0 M6) h4 rfl rfl rfl rfl rfl rfl rfl d_Xx_drop_34 (fun r7 M8 => ?_)
      refine g_aload_n hC d_Xx_drop_37 rfl ?_
      refine g_iload_n hC d_Xx_drop_38 rfl ?_
      refine gv_callVi hC [.int (M6.1 p3 1)] cw_Xx_91 (Xx_passed_c F (M6.1 p3 1) M8) lc_0 rfl rfl rfl rfl rfl rfl rfl d_Xx_drop_39 (fun r9 M10 => ?_)
      exact g_iret hC hR d_Xx_drop_42
    · refine g_aload_n hC d_Xx_drop_20 rfl ?_
      refine g_iconst hC d_Xx_drop_21 k_i1 ?_
      refine gv_callVi hC [.int 1] cw_Xx_84 (Xx_found_c F 1 M6) lc_0 rfl rfl rfl rfl rfl rfl rfl d_Xx_drop_22 (fun r11 M12 => ?_)
      exact g_iret hC hR d_Xx_drop_25
theorem d_Re_hasRoomFor_0 : decode prog_8_method_2_code 0 = .ok (.iload_n 1, 1) := by decide +kernel
theorem d_Re_hasRoomFor_1 : decode prog_8_method_2_code 1 = .ok (.sipush 500, 3) := by decide +kernel
theorem d_Re_hasRoomFor_4 : decode prog_8_method_2_code 4 = .ok (.aload_n 0, 1) := by decide +kernel
theorem d_Re_hasRoomFor_5 : decode prog_8_method_2_code 5 = .ok (.getfield 19, 3) := by decide +kernel
theorem d_Re_hasRoomFor_8 : decode prog_8_method_2_code 8 = .ok (.isub, 1) := by decide +kernel
theorem d_Re_hasRoomFor_9 : decode prog_8_method_2_code 9 = .ok (.if_icmp .gt 7, 3) := by decide +kernel
theorem d_Re_hasRoomFor_12 : decode prog_8_method_2_code 12 = .ok (.iconst 1, 1) := by decide +kernel
theorem d_Re_hasRoomFor_13 : decode prog_8_method_2_code 13 = .ok (.goto 4, 3) := by decide +kernel
theorem d_Re_hasRoomFor_16 : decode prog_8_method_2_code 16 = .ok (.iconst 0, 1) := by decide +kernel
theorem d_Re_hasRoomFor_17 : decode prog_8_method_2_code 17 = .ok (.ireturn, 1) := by decide +kernel
set_option maxHeartbeats 2000000 in
theorem Re_hasRoomFor_c {l : Launch} {θ : tv_Th} (F : Nat) (a1 : Int32) (M : tv_M) : tv_Ct l θ ⟨"TiedViews$Reader", "hasRoomFor", "(I)Z"⟩ prog_8_method_2_code 2 (some .boolean) 0 tv_ei [.ref (θ.1 + 68), .int a1] M (Re_hasRoomFor F a1 M) := by
  refine tv_ofG [some (.ref (θ.1 + 68)), some (.int a1)] rfl rfl (tv_ent 0 rfl) ?_
  intro κ hl ht hC hR
  subst hl; subst ht
  unfold Re_hasRoomFor
  refine g_iload_n hC d_Re_hasRoomFor_0 rfl ?_
  refine g_sipush hC d_Re_hasRoomFor_1 k_s500 ?_
  refine g_aload_n hC d_Re_hasRoomFor_4 rfl ?_
  refine fg_Re_19 hC lc_68 d_Re_hasRoomFor_5 ?_
  refine g_isub hC d_Re_hasRoomFor_8 ?_
  refine g_icmp_gt (tgt := 16) hC d_Re_hasRoomFor_9 (by decide) (fun _ => ?_) (fun _ => ?_)
  · refine g_iconst hC d_Re_hasRoomFor_16 k_i0 ?_
    exact g_zret hC hR tv_z0 d_Re_hasRoomFor_17
  · refine g_iconst hC d_Re_hasRoomFor_12 k_i1 ?_
    refine g_goto (tgt := 17) hC d_Re_hasRoomFor_13 (by decide) ?_
    exact g_zret hC hR tv_z1 d_Re_hasRoomFor_17
theorem d_Re_append_0 : decode prog_8_method_3_code 0 = .ok (.iload_n 3, 1) := by decide +kernel
theorem d_Re_append_1 : decode prog_8_method_3_code 1 = .ok (.iconst 1, 1) := by decide +kernel
theorem d_Re_append_2 : decode prog_8_method_3_code 2 = .ok (.isub, 1) := by decide +kernel
theorem d_Re_append_3 : decode prog_8_method_3_code 3 = .ok (.istore 4, 2) := by decide +kernel
theorem d_Re_append_5 : decode prog_8_method_3_code 5 = .ok (.iload 4, 2) := by decide +kernel
theorem d_Re_append_7 : decode prog_8_method_3_code 7 = .ok (.ifCond .lt 47, 3) := by decide +kernel
theorem d_Re_append_10 : decode prog_8_method_3_code 10 = .ok (.aload_n 0, 1) := by decide +kernel
theorem d_Re_append_11 : decode prog_8_method_3_code 11 = .ok (.getfield 19, 3) := by decide +kernel
theorem d_Re_append_14 : decode prog_8_method_3_code 14 = .ok (.sipush 500, 3) := by decide +kernel
theorem d_Re_append_17 : decode prog_8_method_3_code 17 = .ok (.if_icmp .ge 37, 3) := by decide +kernel
theorem d_Re_append_20 : decode prog_8_method_3_code 20 = .ok (.aload_n 0, 1) := by decide +kernel
theorem d_Re_append_21 : decode prog_8_method_3_code 21 = .ok (.getfield 9, 3) := by decide +kernel
theorem d_Re_append_24 : decode prog_8_method_3_code 24 = .ok (.aload_n 0, 1) := by decide +kernel
theorem d_Re_append_25 : decode prog_8_method_3_code 25 = .ok (.getfield 19, 3) := by decide +kernel
theorem d_Re_append_28 : decode prog_8_method_3_code 28 = .ok (.lload_n 1, 1) := by decide +kernel
theorem d_Re_append_29 : decode prog_8_method_3_code 29 = .ok (.bipush 8, 2) := by decide +kernel
theorem d_Re_append_31 : decode prog_8_method_3_code 31 = .ok (.iload 4, 2) := by decide +kernel
theorem d_Re_append_33 : decode prog_8_method_3_code 33 = .ok (.imul, 1) := by decide +kernel
theorem d_Re_append_34 : decode prog_8_method_3_code 34 = .ok (.lshr, 1) := by decide +kernel
theorem d_Re_append_35 : decode prog_8_method_3_code 35 = .ok (.l2i, 1) := by decide +kernel
theorem d_Re_append_36 : decode prog_8_method_3_code 36 = .ok (.i2b, 1) := by decide +kernel
theorem d_Re_append_37 : decode prog_8_method_3_code 37 = .ok (.bastore, 1) := by decide +kernel
theorem d_Re_append_38 : decode prog_8_method_3_code 38 = .ok (.aload_n 0, 1) := by decide +kernel
theorem d_Re_append_39 : decode prog_8_method_3_code 39 = .ok (.dup, 1) := by decide +kernel
theorem d_Re_append_40 : decode prog_8_method_3_code 40 = .ok (.getfield 19, 3) := by decide +kernel
theorem d_Re_append_43 : decode prog_8_method_3_code 43 = .ok (.iconst 1, 1) := by decide +kernel
theorem d_Re_append_44 : decode prog_8_method_3_code 44 = .ok (.iadd, 1) := by decide +kernel
theorem d_Re_append_45 : decode prog_8_method_3_code 45 = .ok (.putfield 19, 3) := by decide +kernel
theorem d_Re_append_48 : decode prog_8_method_3_code 48 = .ok (.iinc 4 (-1), 3) := by decide +kernel
theorem d_Re_append_51 : decode prog_8_method_3_code 51 = .ok (.goto (-46), 3) := by decide +kernel
theorem d_Re_append_54 : decode prog_8_method_3_code 54 = .ok (.aload_n 0, 1) := by decide +kernel
theorem d_Re_append_55 : decode prog_8_method_3_code 55 = .ok (.getfield 19, 3) := by decide +kernel
theorem d_Re_append_58 : decode prog_8_method_3_code 58 = .ok (.ireturn, 1) := by decide +kernel
set_option maxHeartbeats 2000000 in
theorem Re_append_L5_g {κ : tv_Kt} (hC : tv_Cx κ "TiedViews$Reader" prog_8_method_3_code 5 0) (hR : tv_Re κ (some .int)) (F : Nat) : ∀ (n : Nat) (l1 : Int64) (l4 : Int32) (M : tv_M), tv_G κ 5 (tv_Qm κ tv_ei) 5 [some (.ref (κ.b + 68)), some (.long l1), none, none, some (.int l4)] [] M (Re_append_L5 F n l1 l4 M) := by
  intro n
  induction n with
  | zero => intro _ _ _; exact g_none
  | succ nn ih =>
    intro l1 l4 M
    rw [Re_append_L5]
    refine g_iload hC d_Re_append_5 rfl ?_
    refine g_if_lt (tgt := 54) hC d_Re_append_7 (by decide) (fun _ => ?_) (fun _ => ?_)
    · refine g_aload_n hC d_Re_append_54 rfl ?_
      refine fg_Re_19 hC lc_68 d_Re_append_55 ?_
      exact g_iret hC hR d_Re_append_58
    · refine g_aload_n hC d_Re_append_10 rfl ?_
      refine fg_Re_19 hC lc_68 d_Re_append_11 ?_
      refine g_sipush hC d_Re_append_14 k_s500 ?_
      refine g_icmp_ge (tgt := 54) hC d_Re_append_17 (by decide) (fun _ => ?_) (fun _ => ?_)
      · refine g_aload_n hC d_Re_append_54 rfl ?_
        refine fg_Re_19 hC lc_68 d_Re_append_55 ?_
        exact g_iret hC hR d_Re_append_58
      · refine g_aload_n hC d_Re_append_20 rfl ?_
        refine fg_Re_9 hC lc_68 d_Re_append_21 p0_68_1 ?_
        refine g_aload_n hC d_Re_append_24 rfl ?_
        refine fg_Re_19 hC lc_68 d_Re_append_25 ?_
        refine g_lload_n hC d_Re_append_28 rfl ?_
        refine g_bipush hC d_Re_append_29 k_b8 ?_
        refine g_iload hC d_Re_append_31 rfl ?_
        refine g_imul hC d_Re_append_33 ?_
        refine g_lshr hC d_Re_append_34 ?_
        refine g_l2i hC d_Re_append_35 ?_
        refine g_i2b hC d_Re_append_36 ?_
        refine gv_bast hC ly_69 d_Re_append_37 (fun M1 => ?_)
        refine g_aload_n hC d_Re_append_38 rfl ?_
        refine g_dup hC d_Re_append_39 rfl ?_
        refine fg_Re_19 hC lc_68 d_Re_append_40 ?_
        refine g_iconst hC d_Re_append_43 k_i1 ?_
        refine g_iadd hC d_Re_append_44 ?_
        refine fp_Re_19 hC lc_68 d_Re_append_45 (fun M2 => ?_)
        refine g_iinc (ls' := [some (.ref (κ.b + 68)), some (.long l1), none, none, some (.int (l4 + (-1)))]) hC d_Re_append_48 rfl k_im1 rfl rfl ?_
        refine g_goto (tgt := 5) hC d_Re_append_51 (by decide) ?_
        exact ih l1 (l4 + (-1)) M2
set_option maxHeartbeats 2000000 in
theorem Re_append_c {l : Launch} {θ : tv_Th} (F : Nat) (a1 : Int64) (a3 : Int32) (M : tv_M) : tv_Ct l θ ⟨"TiedViews$Reader", "append", "(JI)I"⟩ prog_8_method_3_code 5 (some .int) 0 tv_ei [.ref (θ.1 + 68), .long a1, .int a3] M (Re_append F a1 a3 M) := by
  refine tv_ofG [some (.ref (θ.1 + 68)), some (.long a1), none, some (.int a3), none] rfl rfl (tv_ent 1 rfl) ?_
  intro κ hl ht hC hR
  subst hl; subst ht
  unfold Re_append
  refine g_iload_n hC d_Re_append_0 rfl ?_
  refine g_iconst hC d_Re_append_1 k_i1 ?_
  refine g_isub hC d_Re_append_2 ?_
  refine g_istore (ls' := [some (.ref (κ.b + 68)), some (.long a1), none, some (.int a3), some (.int (a3 - 1))]) hC d_Re_append_3 rfl rfl ?_
  refine g_mask [true, true, false, false, true] (ls' := [some (.ref (κ.b + 68)), some (.long a1), none, none, some (.int (a3 - 1))]) rfl ?_
  exact Re_append_L5_g hC hR F F a1 (a3 - 1) M
theorem d_Xx_feed_0 : decode prog_1_method_6_code 0 = .ok (.iload_n 3, 1) := by decide +kernel
theorem d_Xx_feed_1 : decode prog_1_method_6_code 1 = .ok (.iconst 1, 1) := by decide +kernel
theorem d_Xx_feed_2 : decode prog_1_method_6_code 2 = .ok (.if_icmp .lt 9, 3) := by decide +kernel
theorem d_Xx_feed_5 : decode prog_1_method_6_code 5 = .ok (.iload_n 3, 1) := by decide +kernel
theorem d_Xx_feed_6 : decode prog_1_method_6_code 6 = .ok (.bipush 8, 2) := by decide +kernel
theorem d_Xx_feed_8 : decode prog_1_method_6_code 8 = .ok (.if_icmp .le 6, 3) := by decide +kernel
theorem d_Xx_feed_11 : decode prog_1_method_6_code 11 = .ok (.ldc 83, 2) := by decide +kernel
theorem d_Xx_feed_13 : decode prog_1_method_6_code 13 = .ok (.ireturn, 1) := by decide +kernel
theorem d_Xx_feed_14 : decode prog_1_method_6_code 14 = .ok (.aload_n 0, 1) := by decide +kernel
theorem d_Xx_feed_15 : decode prog_1_method_6_code 15 = .ok (.getfield 38, 3) := by decide +kernel
theorem d_Xx_feed_18 : decode prog_1_method_6_code 18 = .ok (.iload_n 3, 1) := by decide +kernel
theorem d_Xx_feed_19 : decode prog_1_method_6_code 19 = .ok (.invokevirtual 122, 3) := by decide +kernel
theorem d_Xx_feed_22 : decode prog_1_method_6_code 22 = .ok (.ifCond .ne 6, 3) := by decide +kernel
theorem d_Xx_feed_25 : decode prog_1_method_6_code 25 = .ok (.ldc 126, 2) := by decide +kernel
theorem d_Xx_feed_27 : decode prog_1_method_6_code 27 = .ok (.ireturn, 1) := by decide +kernel
theorem d_Xx_feed_28 : decode prog_1_method_6_code 28 = .ok (.aload_n 0, 1) := by decide +kernel
theorem d_Xx_feed_29 : decode prog_1_method_6_code 29 = .ok (.getfield 38, 3) := by decide +kernel
theorem d_Xx_feed_32 : decode prog_1_method_6_code 32 = .ok (.lload_n 1, 1) := by decide +kernel
theorem d_Xx_feed_33 : decode prog_1_method_6_code 33 = .ok (.iload_n 3, 1) := by decide +kernel
theorem d_Xx_feed_34 : decode prog_1_method_6_code 34 = .ok (.invokevirtual 127, 3) := by decide +kernel
theorem d_Xx_feed_37 : decode prog_1_method_6_code 37 = .ok (.ireturn, 1) := by decide +kernel
set_option maxHeartbeats 2000000 in
theorem Xx_feed_c {l : Launch} {θ : tv_Th} (F : Nat) (a1 : Int64) (a3 : Int32) (M : tv_M) : tv_Ct l θ ⟨"TiedViews", "feed", "(JI)I"⟩ prog_1_method_6_code 4 (some .int) 1 tv_ei [.ref (θ.1 + 0), .long a1, .int a3] M (Xx_feed F a1 a3 M) := by
  refine tv_ofG [some (.ref (θ.1 + 0)), some (.long a1), none, some (.int a3)] rfl rfl (tv_ent 0 rfl) ?_
  intro κ hl ht hC hR
  subst hl; subst ht
  unfold Xx_feed
  refine g_iload_n hC d_Xx_feed_0 rfl ?_
  refine g_iconst hC d_Xx_feed_1 k_i1 ?_
  refine g_icmp_lt (tgt := 11) hC d_Xx_feed_2 (by decide) (fun _ => ?_) (fun _ => ?_)
  · refine g_ldc hC d_Xx_feed_11 wk_Xx_83 ?_
    exact g_iret hC hR d_Xx_feed_13
  · refine g_iload_n hC d_Xx_feed_5 rfl ?_
    refine g_bipush hC d_Xx_feed_6 k_b8 ?_
    refine g_icmp_le (tgt := 14) hC d_Xx_feed_8 (by decide) (fun _ => ?_) (fun _ => ?_)
    · refine g_aload_n hC d_Xx_feed_14 rfl ?_
      refine fg_Xx_38 hC lc_0 d_Xx_feed_15 p0_0_3 ?_
      refine g_iload_n hC d_Xx_feed_18 rfl ?_
      refine gv_callVi hC [.int a3] cw_Xx_122 (Re_hasRoomFor_c F a3 M) lc_68 rfl rfl rfl rfl rfl rfl rfl d_Xx_feed_19 (fun r1 M2 => ?_)
      refine g_if_ne (tgt := 28) hC d_Xx_feed_22 (by decide) (fun _ => ?_) (fun _ => ?_)
      · refine g_aload_n hC d_Xx_feed_28 rfl ?_
        refine fg_Xx_38 hC lc_0 d_Xx_feed_29 p0_0_3 ?_
        refine g_lload_n hC d_Xx_feed_32 rfl ?_
        refine g_iload_n hC d_Xx_feed_33 rfl ?_
        refine gv_callVi hC [.long a1, .int a3] cw_Xx_127 (Re_append_c F a1 a3 M2) lc_68 rfl rfl rfl rfl rfl rfl rfl d_Xx_feed_34 (fun r3 M4 => ?_)
        exact g_iret hC hR d_Xx_feed_37
      · refine g_ldc hC d_Xx_feed_25 wk_Xx_126 ?_
        exact g_iret hC hR d_Xx_feed_27
    · refine g_ldc hC d_Xx_feed_11 wk_Xx_83 ?_
      exact g_iret hC hR d_Xx_feed_13
theorem d_To_keep_0 : decode prog_12_method_2_code 0 = .ok (.aload_n 0, 1) := by decide +kernel
theorem d_To_keep_1 : decode prog_12_method_2_code 1 = .ok (.aload_n 0, 1) := by decide +kernel
theorem d_To_keep_2 : decode prog_12_method_2_code 2 = .ok (.getfield 35, 3) := by decide +kernel
theorem d_To_keep_5 : decode prog_12_method_2_code 5 = .ok (.putfield 38, 3) := by decide +kernel
theorem d_To_keep_8 : decode prog_12_method_2_code 8 = .ok (.aload_n 0, 1) := by decide +kernel
theorem d_To_keep_9 : decode prog_12_method_2_code 9 = .ok (.aload_n 0, 1) := by decide +kernel
theorem d_To_keep_10 : decode prog_12_method_2_code 10 = .ok (.getfield 41, 3) := by decide +kernel
theorem d_To_keep_13 : decode prog_12_method_2_code 13 = .ok (.putfield 44, 3) := by decide +kernel
theorem d_To_keep_16 : decode prog_12_method_2_code 16 = .ok (.aload_n 0, 1) := by decide +kernel
theorem d_To_keep_17 : decode prog_12_method_2_code 17 = .ok (.aload_n 0, 1) := by decide +kernel
theorem d_To_keep_18 : decode prog_12_method_2_code 18 = .ok (.getfield 47, 3) := by decide +kernel
theorem d_To_keep_21 : decode prog_12_method_2_code 21 = .ok (.putfield 50, 3) := by decide +kernel
theorem d_To_keep_24 : decode prog_12_method_2_code 24 = .ok (.aload_n 0, 1) := by decide +kernel
theorem d_To_keep_25 : decode prog_12_method_2_code 25 = .ok (.aload_n 0, 1) := by decide +kernel
theorem d_To_keep_26 : decode prog_12_method_2_code 26 = .ok (.getfield 53, 3) := by decide +kernel
theorem d_To_keep_29 : decode prog_12_method_2_code 29 = .ok (.putfield 56, 3) := by decide +kernel
theorem d_To_keep_32 : decode prog_12_method_2_code 32 = .ok (.aload_n 0, 1) := by decide +kernel
theorem d_To_keep_33 : decode prog_12_method_2_code 33 = .ok (.aload_n 0, 1) := by decide +kernel
theorem d_To_keep_34 : decode prog_12_method_2_code 34 = .ok (.getfield 59, 3) := by decide +kernel
theorem d_To_keep_37 : decode prog_12_method_2_code 37 = .ok (.putfield 62, 3) := by decide +kernel
theorem d_To_keep_40 : decode prog_12_method_2_code 40 = .ok (.return_, 1) := by decide +kernel
set_option maxHeartbeats 2000000 in
theorem To_keep_c {l : Launch} {θ : tv_Th} (F : Nat) (M : tv_M) : tv_Ct l θ ⟨"TiedViews$Told", "keep", "()V"⟩ prog_12_method_2_code 1 none 0 tv_ev [.ref (θ.1 + 18)] M (To_keep F M) := by
  refine tv_ofG [some (.ref (θ.1 + 18))] rfl rfl (tv_ent 0 rfl) ?_
  intro κ hl ht hC hR
  subst hl; subst ht
  unfold To_keep
  refine g_aload_n hC d_To_keep_0 rfl ?_
  refine g_aload_n hC d_To_keep_1 rfl ?_
  refine fg_To_35 hC lc_18 d_To_keep_2 ?_
  refine fp_To_38 hC lc_18 d_To_keep_5 (fun M1 => ?_)
  refine g_aload_n hC d_To_keep_8 rfl ?_
  refine g_aload_n hC d_To_keep_9 rfl ?_
  refine fg_To_41 hC lc_18 d_To_keep_10 ?_
  refine fp_To_44 hC lc_18 d_To_keep_13 (fun M2 => ?_)
  refine g_aload_n hC d_To_keep_16 rfl ?_
  refine g_aload_n hC d_To_keep_17 rfl ?_
  refine fg_To_47 hC lc_18 d_To_keep_18 ?_
  refine fp_To_50 hC lc_18 d_To_keep_21 (fun M3 => ?_)
  refine g_aload_n hC d_To_keep_24 rfl ?_
  refine g_aload_n hC d_To_keep_25 rfl ?_
  refine fg_To_53 hC lc_18 d_To_keep_26 ?_
  refine fp_To_56 hC lc_18 d_To_keep_29 (fun M4 => ?_)
  refine g_aload_n hC d_To_keep_32 rfl ?_
  refine g_aload_n hC d_To_keep_33 rfl ?_
  refine fg_To_59 hC lc_18 d_To_keep_34 ?_
  refine fp_To_62 hC lc_18 d_To_keep_37 (fun M5 => ?_)
  exact g_vret hC hR d_To_keep_40
theorem d_Re_passRun_0 : decode prog_8_method_7_code 0 = .ok (.aload_n 0, 1) := by decide +kernel
theorem d_Re_passRun_1 : decode prog_8_method_7_code 1 = .ok (.getfield 28, 3) := by decide +kernel
theorem d_Re_passRun_4 : decode prog_8_method_7_code 4 = .ok (.aload_n 0, 1) := by decide +kernel
theorem d_Re_passRun_5 : decode prog_8_method_7_code 5 = .ok (.getfield 19, 3) := by decide +kernel
theorem d_Re_passRun_8 : decode prog_8_method_7_code 8 = .ok (.if_icmp .ge 42, 3) := by decide +kernel
theorem d_Re_passRun_11 : decode prog_8_method_7_code 11 = .ok (.aload_n 0, 1) := by decide +kernel
theorem d_Re_passRun_12 : decode prog_8_method_7_code 12 = .ok (.getfield 9, 3) := by decide +kernel
theorem d_Re_passRun_15 : decode prog_8_method_7_code 15 = .ok (.aload_n 0, 1) := by decide +kernel
theorem d_Re_passRun_16 : decode prog_8_method_7_code 16 = .ok (.getfield 28, 3) := by decide +kernel
theorem d_Re_passRun_19 : decode prog_8_method_7_code 19 = .ok (.baload, 1) := by decide +kernel
theorem d_Re_passRun_20 : decode prog_8_method_7_code 20 = .ok (.iload_n 1, 1) := by decide +kernel
theorem d_Re_passRun_21 : decode prog_8_method_7_code 21 = .ok (.if_icmp .lt 29, 3) := by decide +kernel
theorem d_Re_passRun_24 : decode prog_8_method_7_code 24 = .ok (.aload_n 0, 1) := by decide +kernel
theorem d_Re_passRun_25 : decode prog_8_method_7_code 25 = .ok (.getfield 9, 3) := by decide +kernel
theorem d_Re_passRun_28 : decode prog_8_method_7_code 28 = .ok (.aload_n 0, 1) := by decide +kernel
theorem d_Re_passRun_29 : decode prog_8_method_7_code 29 = .ok (.getfield 28, 3) := by decide +kernel
theorem d_Re_passRun_32 : decode prog_8_method_7_code 32 = .ok (.baload, 1) := by decide +kernel
theorem d_Re_passRun_33 : decode prog_8_method_7_code 33 = .ok (.iload_n 2, 1) := by decide +kernel
theorem d_Re_passRun_34 : decode prog_8_method_7_code 34 = .ok (.if_icmp .gt 16, 3) := by decide +kernel
theorem d_Re_passRun_37 : decode prog_8_method_7_code 37 = .ok (.aload_n 0, 1) := by decide +kernel
theorem d_Re_passRun_38 : decode prog_8_method_7_code 38 = .ok (.dup, 1) := by decide +kernel
theorem d_Re_passRun_39 : decode prog_8_method_7_code 39 = .ok (.getfield 28, 3) := by decide +kernel
theorem d_Re_passRun_42 : decode prog_8_method_7_code 42 = .ok (.iconst 1, 1) := by decide +kernel
theorem d_Re_passRun_43 : decode prog_8_method_7_code 43 = .ok (.iadd, 1) := by decide +kernel
theorem d_Re_passRun_44 : decode prog_8_method_7_code 44 = .ok (.putfield 28, 3) := by decide +kernel
theorem d_Re_passRun_47 : decode prog_8_method_7_code 47 = .ok (.goto (-47), 3) := by decide +kernel
theorem d_Re_passRun_50 : decode prog_8_method_7_code 50 = .ok (.aload_n 0, 1) := by decide +kernel
theorem d_Re_passRun_51 : decode prog_8_method_7_code 51 = .ok (.getfield 28, 3) := by decide +kernel
theorem d_Re_passRun_54 : decode prog_8_method_7_code 54 = .ok (.aload_n 0, 1) := by decide +kernel
theorem d_Re_passRun_55 : decode prog_8_method_7_code 55 = .ok (.getfield 44, 3) := by decide +kernel
theorem d_Re_passRun_58 : decode prog_8_method_7_code 58 = .ok (.if_icmp .le 7, 3) := by decide +kernel
theorem d_Re_passRun_61 : decode prog_8_method_7_code 61 = .ok (.iconst 1, 1) := by decide +kernel
theorem d_Re_passRun_62 : decode prog_8_method_7_code 62 = .ok (.goto 4, 3) := by decide +kernel
theorem d_Re_passRun_65 : decode prog_8_method_7_code 65 = .ok (.iconst 0, 1) := by decide +kernel
theorem d_Re_passRun_66 : decode prog_8_method_7_code 66 = .ok (.ireturn, 1) := by decide +kernel
set_option maxHeartbeats 2000000 in
theorem Re_passRun_L0_g {κ : tv_Kt} (hC : tv_Cx κ "TiedViews$Reader" prog_8_method_7_code 3 0) (hR : tv_Re κ (some .boolean)) (F : Nat) : ∀ (n : Nat) (l1 : Int32) (l2 : Int32) (M : tv_M), tv_G κ 3 (tv_Qm κ tv_ei) 0 [some (.ref (κ.b + 68)), some (.int l1), some (.int l2)] [] M (Re_passRun_L0 F n l1 l2 M) := by
  intro n
  induction n with
  | zero => intro _ _ _; exact g_none
  | succ nn ih =>
    intro l1 l2 M
    rw [Re_passRun_L0]
    refine g_aload_n hC d_Re_passRun_0 rfl ?_
    refine fg_Re_28 hC lc_68 d_Re_passRun_1 ?_
    refine g_aload_n hC d_Re_passRun_4 rfl ?_
    refine fg_Re_19 hC lc_68 d_Re_passRun_5 ?_
    refine g_icmp_ge (tgt := 50) hC d_Re_passRun_8 (by decide) (fun _ => ?_) (fun _ => ?_)
    · refine g_aload_n hC d_Re_passRun_50 rfl ?_
      refine fg_Re_28 hC lc_68 d_Re_passRun_51 ?_
      refine g_aload_n hC d_Re_passRun_54 rfl ?_
      refine fg_Re_44 hC lc_68 d_Re_passRun_55 ?_
      refine g_icmp_le (tgt := 65) hC d_Re_passRun_58 (by decide) (fun _ => ?_) (fun _ => ?_)
      · refine g_iconst hC d_Re_passRun_65 k_i0 ?_
        exact g_zret hC hR tv_z0 d_Re_passRun_66
      · refine g_iconst hC d_Re_passRun_61 k_i1 ?_
        refine g_goto (tgt := 66) hC d_Re_passRun_62 (by decide) ?_
        exact g_zret hC hR tv_z1 d_Re_passRun_66
    · refine g_aload_n hC d_Re_passRun_11 rfl ?_
      refine fg_Re_9 hC lc_68 d_Re_passRun_12 p0_68_1 ?_
      refine g_aload_n hC d_Re_passRun_15 rfl ?_
      refine fg_Re_28 hC lc_68 d_Re_passRun_16 ?_
      refine gv_bald hC ly_69 d_Re_passRun_19 (fun x1 => ?_)
      refine g_iload_n hC d_Re_passRun_20 rfl ?_
      refine g_icmp_lt (tgt := 50) hC d_Re_passRun_21 (by decide) (fun _ => ?_) (fun _ => ?_)
      · refine g_aload_n hC d_Re_passRun_50 rfl ?_
        refine fg_Re_28 hC lc_68 d_Re_passRun_51 ?_
        refine g_aload_n hC d_Re_passRun_54 rfl ?_
        refine fg_Re_44 hC lc_68 d_Re_passRun_55 ?_
        refine g_icmp_le (tgt := 65) hC d_Re_passRun_58 (by decide) (fun _ => ?_) (fun _ => ?_)
        · refine g_iconst hC d_Re_passRun_65 k_i0 ?_
          exact g_zret hC hR tv_z0 d_Re_passRun_66
        · refine g_iconst hC d_Re_passRun_61 k_i1 ?_
          refine g_goto (tgt := 66) hC d_Re_passRun_62 (by decide) ?_
          exact g_zret hC hR tv_z1 d_Re_passRun_66
      · refine g_aload_n hC d_Re_passRun_24 rfl ?_
        refine fg_Re_9 hC lc_68 d_Re_passRun_25 p0_68_1 ?_
        refine g_aload_n hC d_Re_passRun_28 rfl ?_
        refine fg_Re_28 hC lc_68 d_Re_passRun_29 ?_
        refine gv_bald hC ly_69 d_Re_passRun_32 (fun x2 => ?_)
        refine g_iload_n hC d_Re_passRun_33 rfl ?_
        refine g_icmp_gt (tgt := 50) hC d_Re_passRun_34 (by decide) (fun _ => ?_) (fun _ => ?_)
        · refine g_aload_n hC d_Re_passRun_50 rfl ?_
          refine fg_Re_28 hC lc_68 d_Re_passRun_51 ?_
          refine g_aload_n hC d_Re_passRun_54 rfl ?_
          refine fg_Re_44 hC lc_68 d_Re_passRun_55 ?_
          refine g_icmp_le (tgt := 65) hC d_Re_passRun_58 (by decide) (fun _ => ?_) (fun _ => ?_)
          · refine g_iconst hC d_Re_passRun_65 k_i0 ?_
            exact g_zret hC hR tv_z0 d_Re_passRun_66
          · refine g_iconst hC d_Re_passRun_61 k_i1 ?_
            refine g_goto (tgt := 66) hC d_Re_passRun_62 (by decide) ?_
            exact g_zret hC hR tv_z1 d_Re_passRun_66
        · refine g_aload_n hC d_Re_passRun_37 rfl ?_
          refine g_dup hC d_Re_passRun_38 rfl ?_
          refine fg_Re_28 hC lc_68 d_Re_passRun_39 ?_
          refine g_iconst hC d_Re_passRun_42 k_i1 ?_
          refine g_iadd hC d_Re_passRun_43 ?_
          refine fp_Re_28 hC lc_68 d_Re_passRun_44 (fun M3 => ?_)
          refine g_goto (tgt := 0) hC d_Re_passRun_47 (by decide) ?_
          exact ih l1 l2 M3
set_option maxHeartbeats 2000000 in
theorem Re_passRun_c {l : Launch} {θ : tv_Th} (F : Nat) (a1 : Int32) (a2 : Int32) (M : tv_M) : tv_Ct l θ ⟨"TiedViews$Reader", "passRun", "(CC)Z"⟩ prog_8_method_7_code 3 (some .boolean) 0 tv_ei [.ref (θ.1 + 68), .int a1, .int a2] M (Re_passRun F a1 a2 M) := by
  refine tv_ofG [some (.ref (θ.1 + 68)), some (.int a1), some (.int a2)] rfl rfl (tv_ent 0 rfl) ?_
  intro κ hl ht hC hR
  subst hl; subst ht
  unfold Re_passRun
  exact Re_passRun_L0_g hC hR F F a1 a2 M
theorem d_Re_figuresValue_0 : decode prog_8_method_8_code 0 = .ok (.iconst 0, 1) := by decide +kernel
theorem d_Re_figuresValue_1 : decode prog_8_method_8_code 1 = .ok (.istore_n 1, 1) := by decide +kernel
theorem d_Re_figuresValue_2 : decode prog_8_method_8_code 2 = .ok (.aload_n 0, 1) := by decide +kernel
theorem d_Re_figuresValue_3 : decode prog_8_method_8_code 3 = .ok (.getfield 44, 3) := by decide +kernel
theorem d_Re_figuresValue_6 : decode prog_8_method_8_code 6 = .ok (.istore_n 2, 1) := by decide +kernel
theorem d_Re_figuresValue_7 : decode prog_8_method_8_code 7 = .ok (.iload_n 2, 1) := by decide +kernel
theorem d_Re_figuresValue_8 : decode prog_8_method_8_code 8 = .ok (.aload_n 0, 1) := by decide +kernel
theorem d_Re_figuresValue_9 : decode prog_8_method_8_code 9 = .ok (.getfield 28, 3) := by decide +kernel
theorem d_Re_figuresValue_12 : decode prog_8_method_8_code 12 = .ok (.if_icmp .ge 34, 3) := by decide +kernel
theorem d_Re_figuresValue_15 : decode prog_8_method_8_code 15 = .ok (.iload_n 2, 1) := by decide +kernel
theorem d_Re_figuresValue_16 : decode prog_8_method_8_code 16 = .ok (.aload_n 0, 1) := by decide +kernel
theorem d_Re_figuresValue_17 : decode prog_8_method_8_code 17 = .ok (.getfield 44, 3) := by decide +kernel
theorem d_Re_figuresValue_20 : decode prog_8_method_8_code 20 = .ok (.iconst 3, 1) := by decide +kernel
theorem d_Re_figuresValue_21 : decode prog_8_method_8_code 21 = .ok (.iadd, 1) := by decide +kernel
theorem d_Re_figuresValue_22 : decode prog_8_method_8_code 22 = .ok (.if_icmp .ge 24, 3) := by decide +kernel
theorem d_Re_figuresValue_25 : decode prog_8_method_8_code 25 = .ok (.iload_n 1, 1) := by decide +kernel
theorem d_Re_figuresValue_26 : decode prog_8_method_8_code 26 = .ok (.bipush 10, 2) := by decide +kernel
theorem d_Re_figuresValue_28 : decode prog_8_method_8_code 28 = .ok (.imul, 1) := by decide +kernel
theorem d_Re_figuresValue_29 : decode prog_8_method_8_code 29 = .ok (.aload_n 0, 1) := by decide +kernel
theorem d_Re_figuresValue_30 : decode prog_8_method_8_code 30 = .ok (.getfield 9, 3) := by decide +kernel
theorem d_Re_figuresValue_33 : decode prog_8_method_8_code 33 = .ok (.iload_n 2, 1) := by decide +kernel
theorem d_Re_figuresValue_34 : decode prog_8_method_8_code 34 = .ok (.baload, 1) := by decide +kernel
theorem d_Re_figuresValue_35 : decode prog_8_method_8_code 35 = .ok (.iadd, 1) := by decide +kernel
theorem d_Re_figuresValue_36 : decode prog_8_method_8_code 36 = .ok (.bipush 48, 2) := by decide +kernel
theorem d_Re_figuresValue_38 : decode prog_8_method_8_code 38 = .ok (.isub, 1) := by decide +kernel
theorem d_Re_figuresValue_39 : decode prog_8_method_8_code 39 = .ok (.istore_n 1, 1) := by decide +kernel
theorem d_Re_figuresValue_40 : decode prog_8_method_8_code 40 = .ok (.iinc 2 1, 3) := by decide +kernel
theorem d_Re_figuresValue_43 : decode prog_8_method_8_code 43 = .ok (.goto (-36), 3) := by decide +kernel
theorem d_Re_figuresValue_46 : decode prog_8_method_8_code 46 = .ok (.iload_n 1, 1) := by decide +kernel
theorem d_Re_figuresValue_47 : decode prog_8_method_8_code 47 = .ok (.ireturn, 1) := by decide +kernel
set_option maxHeartbeats 2000000 in
theorem Re_figuresValue_L7_g {κ : tv_Kt} (hC : tv_Cx κ "TiedViews$Reader" prog_8_method_8_code 3 0) (hR : tv_Re κ (some .int)) (F : Nat) : ∀ (n : Nat) (l1 : Int32) (l2 : Int32) (M : tv_M), tv_G κ 3 (tv_Qm κ tv_ei) 7 [some (.ref (κ.b + 68)), some (.int l1), some (.int l2)] [] M (Re_figuresValue_L7 F n l1 l2 M) := by
  intro n
  induction n with
  | zero => intro _ _ _; exact g_none
  | succ nn ih =>
    intro l1 l2 M
    rw [Re_figuresValue_L7]
    refine g_iload_n hC d_Re_figuresValue_7 rfl ?_
    refine g_aload_n hC d_Re_figuresValue_8 rfl ?_
    refine fg_Re_28 hC lc_68 d_Re_figuresValue_9 ?_
    refine g_icmp_ge (tgt := 46) hC d_Re_figuresValue_12 (by decide) (fun _ => ?_) (fun _ => ?_)
    · refine g_iload_n hC d_Re_figuresValue_46 rfl ?_
      exact g_iret hC hR d_Re_figuresValue_47
    · refine g_iload_n hC d_Re_figuresValue_15 rfl ?_
      refine g_aload_n hC d_Re_figuresValue_16 rfl ?_
      refine fg_Re_44 hC lc_68 d_Re_figuresValue_17 ?_
      refine g_iconst hC d_Re_figuresValue_20 k_i3 ?_
      refine g_iadd hC d_Re_figuresValue_21 ?_
      refine g_icmp_ge (tgt := 46) hC d_Re_figuresValue_22 (by decide) (fun _ => ?_) (fun _ => ?_)
      · refine g_iload_n hC d_Re_figuresValue_46 rfl ?_
        exact g_iret hC hR d_Re_figuresValue_47
      · refine g_iload_n hC d_Re_figuresValue_25 rfl ?_
        refine g_bipush hC d_Re_figuresValue_26 k_b10 ?_
        refine g_imul hC d_Re_figuresValue_28 ?_
        refine g_aload_n hC d_Re_figuresValue_29 rfl ?_
        refine fg_Re_9 hC lc_68 d_Re_figuresValue_30 p0_68_1 ?_
        refine g_iload_n hC d_Re_figuresValue_33 rfl ?_
        refine gv_bald hC ly_69 d_Re_figuresValue_34 (fun x1 => ?_)
        refine g_iadd hC d_Re_figuresValue_35 ?_
        refine g_bipush hC d_Re_figuresValue_36 k_b48 ?_
        refine g_isub hC d_Re_figuresValue_38 ?_
        refine g_istore_n (ls' := [some (.ref (κ.b + 68)), some (.int (((l1 * 10) + x1) - 48)), some (.int l2)]) hC d_Re_figuresValue_39 rfl rfl ?_
        refine g_iinc (ls' := [some (.ref (κ.b + 68)), some (.int (((l1 * 10) + x1) - 48)), some (.int (l2 + 1))]) hC d_Re_figuresValue_40 rfl k_i1 rfl rfl ?_
        refine g_goto (tgt := 7) hC d_Re_figuresValue_43 (by decide) ?_
        exact ih (((l1 * 10) + x1) - 48) (l2 + 1) M
set_option maxHeartbeats 2000000 in
theorem Re_figuresValue_c {l : Launch} {θ : tv_Th} (F : Nat) (M : tv_M) : tv_Ct l θ ⟨"TiedViews$Reader", "figuresValue", "()I"⟩ prog_8_method_8_code 3 (some .int) 0 tv_ei [.ref (θ.1 + 68)] M (Re_figuresValue F M) := by
  refine tv_ofG [some (.ref (θ.1 + 68)), none, none] rfl rfl (tv_ent 2 rfl) ?_
  intro κ hl ht hC hR
  subst hl; subst ht
  unfold Re_figuresValue
  refine g_iconst hC d_Re_figuresValue_0 k_i0 ?_
  refine g_istore_n (ls' := [some (.ref (κ.b + 68)), some (.int 0), none]) hC d_Re_figuresValue_1 rfl rfl ?_
  refine g_aload_n hC d_Re_figuresValue_2 rfl ?_
  refine fg_Re_44 hC lc_68 d_Re_figuresValue_3 ?_
  refine g_istore_n (ls' := [some (.ref (κ.b + 68)), some (.int 0), some (.int (M.1 68 5))]) hC d_Re_figuresValue_6 rfl rfl ?_
  exact Re_figuresValue_L7_g hC hR F F 0 (M.1 68 5) M
theorem d_Re_goOn_0 : decode prog_8_method_6_code 0 = .ok (.aload_n 0, 1) := by decide +kernel
theorem d_Re_goOn_1 : decode prog_8_method_6_code 1 = .ok (.getfield 28, 3) := by decide +kernel
theorem d_Re_goOn_4 : decode prog_8_method_6_code 4 = .ok (.aload_n 0, 1) := by decide +kernel
theorem d_Re_goOn_5 : decode prog_8_method_6_code 5 = .ok (.getfield 19, 3) := by decide +kernel
theorem d_Re_goOn_8 : decode prog_8_method_6_code 8 = .ok (.if_icmp .ge 44, 3) := by decide +kernel
theorem d_Re_goOn_11 : decode prog_8_method_6_code 11 = .ok (.aload_n 0, 1) := by decide +kernel
theorem d_Re_goOn_12 : decode prog_8_method_6_code 12 = .ok (.getfield 9, 3) := by decide +kernel
theorem d_Re_goOn_15 : decode prog_8_method_6_code 15 = .ok (.aload_n 0, 1) := by decide +kernel
theorem d_Re_goOn_16 : decode prog_8_method_6_code 16 = .ok (.getfield 28, 3) := by decide +kernel
theorem d_Re_goOn_19 : decode prog_8_method_6_code 19 = .ok (.baload, 1) := by decide +kernel
theorem d_Re_goOn_20 : decode prog_8_method_6_code 20 = .ok (.bipush 32, 2) := by decide +kernel
theorem d_Re_goOn_22 : decode prog_8_method_6_code 22 = .ok (.if_icmp .eq 17, 3) := by decide +kernel
theorem d_Re_goOn_25 : decode prog_8_method_6_code 25 = .ok (.aload_n 0, 1) := by decide +kernel
theorem d_Re_goOn_26 : decode prog_8_method_6_code 26 = .ok (.getfield 9, 3) := by decide +kernel
theorem d_Re_goOn_29 : decode prog_8_method_6_code 29 = .ok (.aload_n 0, 1) := by decide +kernel
theorem d_Re_goOn_30 : decode prog_8_method_6_code 30 = .ok (.getfield 28, 3) := by decide +kernel
theorem d_Re_goOn_33 : decode prog_8_method_6_code 33 = .ok (.baload, 1) := by decide +kernel
theorem d_Re_goOn_34 : decode prog_8_method_6_code 34 = .ok (.bipush 10, 2) := by decide +kernel
theorem d_Re_goOn_36 : decode prog_8_method_6_code 36 = .ok (.if_icmp .ne 16, 3) := by decide +kernel
theorem d_Re_goOn_39 : decode prog_8_method_6_code 39 = .ok (.aload_n 0, 1) := by decide +kernel
theorem d_Re_goOn_40 : decode prog_8_method_6_code 40 = .ok (.dup, 1) := by decide +kernel
theorem d_Re_goOn_41 : decode prog_8_method_6_code 41 = .ok (.getfield 28, 3) := by decide +kernel
theorem d_Re_goOn_44 : decode prog_8_method_6_code 44 = .ok (.iconst 1, 1) := by decide +kernel
theorem d_Re_goOn_45 : decode prog_8_method_6_code 45 = .ok (.iadd, 1) := by decide +kernel
theorem d_Re_goOn_46 : decode prog_8_method_6_code 46 = .ok (.putfield 28, 3) := by decide +kernel
theorem d_Re_goOn_49 : decode prog_8_method_6_code 49 = .ok (.goto (-49), 3) := by decide +kernel
theorem d_Re_goOn_52 : decode prog_8_method_6_code 52 = .ok (.aload_n 0, 1) := by decide +kernel
theorem d_Re_goOn_53 : decode prog_8_method_6_code 53 = .ok (.aload_n 0, 1) := by decide +kernel
theorem d_Re_goOn_54 : decode prog_8_method_6_code 54 = .ok (.getfield 28, 3) := by decide +kernel
theorem d_Re_goOn_57 : decode prog_8_method_6_code 57 = .ok (.putfield 44, 3) := by decide +kernel
theorem d_Re_goOn_60 : decode prog_8_method_6_code 60 = .ok (.aload_n 0, 1) := by decide +kernel
theorem d_Re_goOn_61 : decode prog_8_method_6_code 61 = .ok (.getfield 44, 3) := by decide +kernel
theorem d_Re_goOn_64 : decode prog_8_method_6_code 64 = .ok (.aload_n 0, 1) := by decide +kernel
theorem d_Re_goOn_65 : decode prog_8_method_6_code 65 = .ok (.getfield 19, 3) := by decide +kernel
theorem d_Re_goOn_68 : decode prog_8_method_6_code 68 = .ok (.if_icmp .lt 11, 3) := by decide +kernel
theorem d_Re_goOn_71 : decode prog_8_method_6_code 71 = .ok (.aload_n 0, 1) := by decide +kernel
theorem d_Re_goOn_72 : decode prog_8_method_6_code 72 = .ok (.iconst 0, 1) := by decide +kernel
theorem d_Re_goOn_73 : decode prog_8_method_6_code 73 = .ok (.putfield 34, 3) := by decide +kernel
theorem d_Re_goOn_76 : decode prog_8_method_6_code 76 = .ok (.goto 121, 3) := by decide +kernel
theorem d_Re_goOn_79 : decode prog_8_method_6_code 79 = .ok (.aload_n 0, 1) := by decide +kernel
theorem d_Re_goOn_80 : decode prog_8_method_6_code 80 = .ok (.bipush 97, 2) := by decide +kernel
theorem d_Re_goOn_82 : decode prog_8_method_6_code 82 = .ok (.bipush 122, 2) := by decide +kernel
theorem d_Re_goOn_84 : decode prog_8_method_6_code 84 = .ok (.invokevirtual 50, 3) := by decide +kernel
theorem d_Re_goOn_87 : decode prog_8_method_6_code 87 = .ok (.ifCond .eq 11, 3) := by decide +kernel
theorem d_Re_goOn_90 : decode prog_8_method_6_code 90 = .ok (.aload_n 0, 1) := by decide +kernel
theorem d_Re_goOn_91 : decode prog_8_method_6_code 91 = .ok (.iconst 1, 1) := by decide +kernel
theorem d_Re_goOn_92 : decode prog_8_method_6_code 92 = .ok (.putfield 34, 3) := by decide +kernel
theorem d_Re_goOn_95 : decode prog_8_method_6_code 95 = .ok (.goto 102, 3) := by decide +kernel
theorem d_Re_goOn_98 : decode prog_8_method_6_code 98 = .ok (.aload_n 0, 1) := by decide +kernel
theorem d_Re_goOn_99 : decode prog_8_method_6_code 99 = .ok (.bipush 48, 2) := by decide +kernel
theorem d_Re_goOn_101 : decode prog_8_method_6_code 101 = .ok (.bipush 57, 2) := by decide +kernel
theorem d_Re_goOn_103 : decode prog_8_method_6_code 103 = .ok (.invokevirtual 50, 3) := by decide +kernel
theorem d_Re_goOn_106 : decode prog_8_method_6_code 106 = .ok (.ifCond .eq 36, 3) := by decide +kernel
theorem d_Re_goOn_109 : decode prog_8_method_6_code 109 = .ok (.aload_n 0, 1) := by decide +kernel
theorem d_Re_goOn_110 : decode prog_8_method_6_code 110 = .ok (.aload_n 0, 1) := by decide +kernel
theorem d_Re_goOn_111 : decode prog_8_method_6_code 111 = .ok (.getfield 28, 3) := by decide +kernel
theorem d_Re_goOn_114 : decode prog_8_method_6_code 114 = .ok (.aload_n 0, 1) := by decide +kernel
theorem d_Re_goOn_115 : decode prog_8_method_6_code 115 = .ok (.getfield 44, 3) := by decide +kernel
theorem d_Re_goOn_118 : decode prog_8_method_6_code 118 = .ok (.isub, 1) := by decide +kernel
theorem d_Re_goOn_119 : decode prog_8_method_6_code 119 = .ok (.iconst 3, 1) := by decide +kernel
theorem d_Re_goOn_120 : decode prog_8_method_6_code 120 = .ok (.if_icmp .le 7, 3) := by decide +kernel
theorem d_Re_goOn_123 : decode prog_8_method_6_code 123 = .ok (.iconst 3, 1) := by decide +kernel
theorem d_Re_goOn_124 : decode prog_8_method_6_code 124 = .ok (.goto 4, 3) := by decide +kernel
theorem d_Re_goOn_127 : decode prog_8_method_6_code 127 = .ok (.iconst 2, 1) := by decide +kernel
theorem d_Re_goOn_128 : decode prog_8_method_6_code 128 = .ok (.putfield 34, 3) := by decide +kernel
theorem d_Re_goOn_131 : decode prog_8_method_6_code 131 = .ok (.aload_n 0, 1) := by decide +kernel
theorem d_Re_goOn_132 : decode prog_8_method_6_code 132 = .ok (.aload_n 0, 1) := by decide +kernel
theorem d_Re_goOn_133 : decode prog_8_method_6_code 133 = .ok (.invokevirtual 54, 3) := by decide +kernel
theorem d_Re_goOn_136 : decode prog_8_method_6_code 136 = .ok (.putfield 58, 3) := by decide +kernel
theorem d_Re_goOn_139 : decode prog_8_method_6_code 139 = .ok (.goto 58, 3) := by decide +kernel
theorem d_Re_goOn_142 : decode prog_8_method_6_code 142 = .ok (.aload_n 0, 1) := by decide +kernel
theorem d_Re_goOn_143 : decode prog_8_method_6_code 143 = .ok (.aload_n 0, 1) := by decide +kernel
theorem d_Re_goOn_144 : decode prog_8_method_6_code 144 = .ok (.getfield 9, 3) := by decide +kernel
theorem d_Re_goOn_147 : decode prog_8_method_6_code 147 = .ok (.aload_n 0, 1) := by decide +kernel
theorem d_Re_goOn_148 : decode prog_8_method_6_code 148 = .ok (.getfield 44, 3) := by decide +kernel
theorem d_Re_goOn_151 : decode prog_8_method_6_code 151 = .ok (.baload, 1) := by decide +kernel
theorem d_Re_goOn_152 : decode prog_8_method_6_code 152 = .ok (.bipush 59, 2) := by decide +kernel
theorem d_Re_goOn_154 : decode prog_8_method_6_code 154 = .ok (.if_icmp .eq 17, 3) := by decide +kernel
theorem d_Re_goOn_157 : decode prog_8_method_6_code 157 = .ok (.aload_n 0, 1) := by decide +kernel
theorem d_Re_goOn_158 : decode prog_8_method_6_code 158 = .ok (.getfield 9, 3) := by decide +kernel
theorem d_Re_goOn_161 : decode prog_8_method_6_code 161 = .ok (.aload_n 0, 1) := by decide +kernel
theorem d_Re_goOn_162 : decode prog_8_method_6_code 162 = .ok (.getfield 44, 3) := by decide +kernel
theorem d_Re_goOn_165 : decode prog_8_method_6_code 165 = .ok (.baload, 1) := by decide +kernel
theorem d_Re_goOn_166 : decode prog_8_method_6_code 166 = .ok (.bipush 44, 2) := by decide +kernel
theorem d_Re_goOn_168 : decode prog_8_method_6_code 168 = .ok (.if_icmp .ne 15, 3) := by decide +kernel
theorem d_Re_goOn_171 : decode prog_8_method_6_code 171 = .ok (.aload_n 0, 1) := by decide +kernel
theorem d_Re_goOn_172 : decode prog_8_method_6_code 172 = .ok (.getfield 9, 3) := by decide +kernel
theorem d_Re_goOn_175 : decode prog_8_method_6_code 175 = .ok (.aload_n 0, 1) := by decide +kernel
theorem d_Re_goOn_176 : decode prog_8_method_6_code 176 = .ok (.getfield 44, 3) := by decide +kernel
theorem d_Re_goOn_179 : decode prog_8_method_6_code 179 = .ok (.baload, 1) := by decide +kernel
theorem d_Re_goOn_180 : decode prog_8_method_6_code 180 = .ok (.goto 4, 3) := by decide +kernel
theorem d_Re_goOn_183 : decode prog_8_method_6_code 183 = .ok (.iconst 3, 1) := by decide +kernel
theorem d_Re_goOn_184 : decode prog_8_method_6_code 184 = .ok (.putfield 34, 3) := by decide +kernel
theorem d_Re_goOn_187 : decode prog_8_method_6_code 187 = .ok (.aload_n 0, 1) := by decide +kernel
theorem d_Re_goOn_188 : decode prog_8_method_6_code 188 = .ok (.aload_n 0, 1) := by decide +kernel
theorem d_Re_goOn_189 : decode prog_8_method_6_code 189 = .ok (.getfield 44, 3) := by decide +kernel
theorem d_Re_goOn_192 : decode prog_8_method_6_code 192 = .ok (.iconst 1, 1) := by decide +kernel
theorem d_Re_goOn_193 : decode prog_8_method_6_code 193 = .ok (.iadd, 1) := by decide +kernel
theorem d_Re_goOn_194 : decode prog_8_method_6_code 194 = .ok (.putfield 28, 3) := by decide +kernel
theorem d_Re_goOn_197 : decode prog_8_method_6_code 197 = .ok (.return_, 1) := by decide +kernel
set_option maxHeartbeats 2000000 in
theorem Re_goOn_L52_g {κ : tv_Kt} (hC : tv_Cx κ "TiedViews$Reader" prog_8_method_6_code 1 1) (hR : tv_Re κ none) (F : Nat) (M : tv_M) : tv_G κ 1 (tv_Qm κ tv_ev) 52 [some (.ref (κ.b + 68))] [] M (Re_goOn_L52 F M) := by
  rw [Re_goOn_L52]
  refine g_aload_n hC d_Re_goOn_52 rfl ?_
  refine g_aload_n hC d_Re_goOn_53 rfl ?_
  refine fg_Re_28 hC lc_68 d_Re_goOn_54 ?_
  refine fp_Re_44 hC lc_68 d_Re_goOn_57 (fun M5 => ?_)
  refine g_aload_n hC d_Re_goOn_60 rfl ?_
  refine fg_Re_44 hC lc_68 d_Re_goOn_61 ?_
  refine g_aload_n hC d_Re_goOn_64 rfl ?_
  refine fg_Re_19 hC lc_68 d_Re_goOn_65 ?_
  refine g_icmp_lt (tgt := 79) hC d_Re_goOn_68 (by decide) (fun _ => ?_) (fun _ => ?_)
  · refine g_aload_n hC d_Re_goOn_79 rfl ?_
    refine g_bipush hC d_Re_goOn_80 k_b97 ?_
    refine g_bipush hC d_Re_goOn_82 k_b122 ?_
    refine gv_callVi hC [.int 97, .int 122] cw_Re_50 (Re_passRun_c F 97 122 M5) lc_68 rfl rfl rfl rfl rfl rfl rfl d_Re_goOn_84 (fun r6 M7 => ?_)
    refine g_if_eq (tgt := 98) hC d_Re_goOn_87 (by decide) (fun _ => ?_) (fun _ => ?_)
    · refine g_aload_n hC d_Re_goOn_98 rfl ?_
      refine g_bipush hC d_Re_goOn_99 k_b48 ?_
      refine g_bipush hC d_Re_goOn_101 k_b57 ?_
      refine gv_callVi hC [.int 48, .int 57] cw_Re_50 (Re_passRun_c F 48 57 M7) lc_68 rfl rfl rfl rfl rfl rfl rfl d_Re_goOn_103 (fun r8 M9 => ?_)
      refine g_if_eq (tgt := 142) hC d_Re_goOn_106 (by decide) (fun _ => ?_) (fun _ => ?_)
      · refine g_aload_n hC d_Re_goOn_142 rfl ?_
        refine g_aload_n hC d_Re_goOn_143 rfl ?_
        refine fg_Re_9 hC lc_68 d_Re_goOn_144 p0_68_1 ?_
        refine g_aload_n hC d_Re_goOn_147 rfl ?_
        refine fg_Re_44 hC lc_68 d_Re_goOn_148 ?_
        refine gv_bald hC ly_69 d_Re_goOn_151 (fun x10 => ?_)
        refine g_bipush hC d_Re_goOn_152 k_b59 ?_
        refine g_icmp_eq (tgt := 171) hC d_Re_goOn_154 (by decide) (fun _ => ?_) (fun _ => ?_)
        · refine g_aload_n hC d_Re_goOn_171 rfl ?_
          refine fg_Re_9 hC lc_68 d_Re_goOn_172 p0_68_1 ?_
          refine g_aload_n hC d_Re_goOn_175 rfl ?_
          refine fg_Re_44 hC lc_68 d_Re_goOn_176 ?_
          refine gv_bald hC ly_69 d_Re_goOn_179 (fun x11 => ?_)
          refine g_goto (tgt := 184) hC d_Re_goOn_180 (by decide) ?_
          refine fp_Re_34 hC lc_68 d_Re_goOn_184 (fun M12 => ?_)
          refine g_aload_n hC d_Re_goOn_187 rfl ?_
          refine g_aload_n hC d_Re_goOn_188 rfl ?_
          refine fg_Re_44 hC lc_68 d_Re_goOn_189 ?_
          refine g_iconst hC d_Re_goOn_192 k_i1 ?_
          refine g_iadd hC d_Re_goOn_193 ?_
          refine fp_Re_28 hC lc_68 d_Re_goOn_194 (fun M13 => ?_)
          exact g_vret hC hR d_Re_goOn_197
        · refine g_aload_n hC d_Re_goOn_157 rfl ?_
          refine fg_Re_9 hC lc_68 d_Re_goOn_158 p0_68_1 ?_
          refine g_aload_n hC d_Re_goOn_161 rfl ?_
          refine fg_Re_44 hC lc_68 d_Re_goOn_162 ?_
          refine gv_bald hC ly_69 d_Re_goOn_165 (fun x14 => ?_)
          refine g_bipush hC d_Re_goOn_166 k_b44 ?_
          refine g_icmp_ne (tgt := 183) hC d_Re_goOn_168 (by decide) (fun _ => ?_) (fun _ => ?_)
          · refine g_iconst hC d_Re_goOn_183 k_i3 ?_
            refine fp_Re_34 hC lc_68 d_Re_goOn_184 (fun M15 => ?_)
            refine g_aload_n hC d_Re_goOn_187 rfl ?_
            refine g_aload_n hC d_Re_goOn_188 rfl ?_
            refine fg_Re_44 hC lc_68 d_Re_goOn_189 ?_
            refine g_iconst hC d_Re_goOn_192 k_i1 ?_
            refine g_iadd hC d_Re_goOn_193 ?_
            refine fp_Re_28 hC lc_68 d_Re_goOn_194 (fun M16 => ?_)
            exact g_vret hC hR d_Re_goOn_197
          · refine g_aload_n hC d_Re_goOn_171 rfl ?_
            refine fg_Re_9 hC lc_68 d_Re_goOn_172 p0_68_1 ?_
            refine g_aload_n hC d_Re_goOn_175 rfl ?_
            refine fg_Re_44 hC lc_68 d_Re_goOn_176 ?_
            refine gv_bald hC ly_69 d_Re_goOn_179 (fun x17 => ?_)
            refine g_goto (tgt := 184) hC d_Re_goOn_180 (by decide) ?_
            refine fp_Re_34 hC lc_68 d_Re_goOn_184 (fun M18 => ?_)
            refine g_aload_n hC d_Re_goOn_187 rfl ?_
            refine g_aload_n hC d_Re_goOn_188 rfl ?_
            refine fg_Re_44 hC lc_68 d_Re_goOn_189 ?_
            refine g_iconst hC d_Re_goOn_192 k_i1 ?_
            refine g_iadd hC d_Re_goOn_193 ?_
            refine fp_Re_28 hC lc_68 d_Re_goOn_194 (fun M19 => ?_)
            exact g_vret hC hR d_Re_goOn_197
      · refine g_aload_n hC d_Re_goOn_109 rfl ?_
        refine g_aload_n hC d_Re_goOn_110 rfl ?_
        refine fg_Re_28 hC lc_68 d_Re_goOn_111 ?_
        refine g_aload_n hC d_Re_goOn_114 rfl ?_
        refine fg_Re_44 hC lc_68 d_Re_goOn_115 ?_
        refine g_isub hC d_Re_goOn_118 ?_
        refine g_iconst hC d_Re_goOn_119 k_i3 ?_
        refine g_icmp_le (tgt := 127) hC d_Re_goOn_120 (by decide) (fun _ => ?_) (fun _ => ?_)
        · refine g_iconst hC d_Re_goOn_127 k_i2 ?_
          refine fp_Re_34 hC lc_68 d_Re_goOn_128 (fun M20 => ?_)
          refine g_aload_n hC d_Re_goOn_131 rfl ?_
          refine g_aload_n hC d_Re_goOn_132 rfl ?_
          refine gv_callVi hC [] cw_Re_54 (Re_figuresValue_c F M20) lc_68 rfl rfl rfl rfl rfl rfl rfl d_Re_goOn_133 (fun r21 M22 => ?_)
          refine fp_Re_58 hC lc_68 d_Re_goOn_136 (fun M23 => ?_)
          refine g_goto (tgt := 197) hC d_Re_goOn_139 (by decide) ?_
          exact g_vret hC hR d_Re_goOn_197
        · refine g_iconst hC d_Re_goOn_123 k_i3 ?_
          refine g_goto (tgt := 128) hC d_Re_goOn_124 (by decide) ?_
          refine fp_Re_34 hC lc_68 d_Re_goOn_128 (fun M24 => ?_)
          refine g_aload_n hC d_Re_goOn_131 rfl ?_
          refine g_aload_n hC d_Re_goOn_132 rfl ?_
          refine gv_callVi hC [] cw_Re_54 (Re_figuresValue_c F M24) lc_68 rfl rfl rfl rfl rfl rfl rfl d_Re_goOn_133 (fun r25 M26 => ?_)
          refine fp_Re_58 hC lc_68 d_Re_goOn_136 (fun M27 => ?_)
          refine g_goto (tgt := 197) hC d_Re_goOn_139 (by decide) ?_
          exact g_vret hC hR d_Re_goOn_197
    · refine g_aload_n hC d_Re_goOn_90 rfl ?_
      refine g_iconst hC d_Re_goOn_91 k_i1 ?_
      refine fp_Re_34 hC lc_68 d_Re_goOn_92 (fun M28 => ?_)
      refine g_goto (tgt := 197) hC d_Re_goOn_95 (by decide) ?_
      exact g_vret hC hR d_Re_goOn_197
  · refine g_aload_n hC d_Re_goOn_71 rfl ?_
    refine g_iconst hC d_Re_goOn_72 k_i0 ?_
    refine fp_Re_34 hC lc_68 d_Re_goOn_73 (fun M29 => ?_)
    refine g_goto (tgt := 197) hC d_Re_goOn_76 (by decide) ?_
    exact g_vret hC hR d_Re_goOn_197
set_option maxHeartbeats 2000000 in
theorem Re_goOn_L0_g {κ : tv_Kt} (hC : tv_Cx κ "TiedViews$Reader" prog_8_method_6_code 1 1) (hR : tv_Re κ none) (F : Nat) : ∀ (n : Nat) (M : tv_M), tv_G κ 1 (tv_Qm κ tv_ev) 0 [some (.ref (κ.b + 68))] [] M (Re_goOn_L0 F n M) := by
  intro n
  induction n with
  | zero => intro _; exact g_none
  | succ nn ih =>
    intro M
    rw [Re_goOn_L0]
    refine g_aload_n hC d_Re_goOn_0 rfl ?_
    refine fg_Re_28 hC lc_68 d_Re_goOn_1 ?_
    refine g_aload_n hC d_Re_goOn_4 rfl ?_
    refine fg_Re_19 hC lc_68 d_Re_goOn_5 ?_
    refine g_icmp_ge (tgt := 52) hC d_Re_goOn_8 (by decide) (fun _ => ?_) (fun _ => ?_)
    · exact Re_goOn_L52_g hC hR F M
    · refine g_aload_n hC d_Re_goOn_11 rfl ?_
      refine fg_Re_9 hC lc_68 d_Re_goOn_12 p0_68_1 ?_
      refine g_aload_n hC d_Re_goOn_15 rfl ?_
      refine fg_Re_28 hC lc_68 d_Re_goOn_16 ?_
      refine gv_bald hC ly_69 d_Re_goOn_19 (fun x1 => ?_)
      refine g_bipush hC d_Re_goOn_20 k_b32 ?_
      refine g_icmp_eq (tgt := 39) hC d_Re_goOn_22 (by decide) (fun _ => ?_) (fun _ => ?_)
      · refine g_aload_n hC d_Re_goOn_39 rfl ?_
        refine g_dup hC d_Re_goOn_40 rfl ?_
        refine fg_Re_28 hC lc_68 d_Re_goOn_41 ?_
        refine g_iconst hC d_Re_goOn_44 k_i1 ?_
        refine g_iadd hC d_Re_goOn_45 ?_
        refine fp_Re_28 hC lc_68 d_Re_goOn_46 (fun M2 => ?_)
        refine g_goto (tgt := 0) hC d_Re_goOn_49 (by decide) ?_
        exact ih M2
      · refine g_aload_n hC d_Re_goOn_25 rfl ?_
        refine fg_Re_9 hC lc_68 d_Re_goOn_26 p0_68_1 ?_
        refine g_aload_n hC d_Re_goOn_29 rfl ?_
        refine fg_Re_28 hC lc_68 d_Re_goOn_30 ?_
        refine gv_bald hC ly_69 d_Re_goOn_33 (fun x3 => ?_)
        refine g_bipush hC d_Re_goOn_34 k_b10 ?_
        refine g_icmp_ne (tgt := 52) hC d_Re_goOn_36 (by decide) (fun _ => ?_) (fun _ => ?_)
        · exact Re_goOn_L52_g hC hR F M
        · refine g_aload_n hC d_Re_goOn_39 rfl ?_
          refine g_dup hC d_Re_goOn_40 rfl ?_
          refine fg_Re_28 hC lc_68 d_Re_goOn_41 ?_
          refine g_iconst hC d_Re_goOn_44 k_i1 ?_
          refine g_iadd hC d_Re_goOn_45 ?_
          refine fp_Re_28 hC lc_68 d_Re_goOn_46 (fun M4 => ?_)
          refine g_goto (tgt := 0) hC d_Re_goOn_49 (by decide) ?_
          exact ih M4
set_option maxHeartbeats 2000000 in
theorem Re_goOn_c {l : Launch} {θ : tv_Th} (F : Nat) (M : tv_M) : tv_Ct l θ ⟨"TiedViews$Reader", "goOn", "()V"⟩ prog_8_method_6_code 1 none 1 tv_ev [.ref (θ.1 + 68)] M (Re_goOn F M) := by
  refine tv_ofG [some (.ref (θ.1 + 68))] rfl rfl (tv_ent 0 rfl) ?_
  intro κ hl ht hC hR
  subst hl; subst ht
  unfold Re_goOn
  exact Re_goOn_L0_g hC hR F F M
theorem d_Re_isWord_0 : decode prog_8_method_9_code 0 = .ok (.aload_n 0, 1) := by decide +kernel
theorem d_Re_isWord_1 : decode prog_8_method_9_code 1 = .ok (.getfield 34, 3) := by decide +kernel
theorem d_Re_isWord_4 : decode prog_8_method_9_code 4 = .ok (.iconst 1, 1) := by decide +kernel
theorem d_Re_isWord_5 : decode prog_8_method_9_code 5 = .ok (.if_icmp .ne 19, 3) := by decide +kernel
theorem d_Re_isWord_8 : decode prog_8_method_9_code 8 = .ok (.aload_n 0, 1) := by decide +kernel
theorem d_Re_isWord_9 : decode prog_8_method_9_code 9 = .ok (.getfield 28, 3) := by decide +kernel
theorem d_Re_isWord_12 : decode prog_8_method_9_code 12 = .ok (.aload_n 0, 1) := by decide +kernel
theorem d_Re_isWord_13 : decode prog_8_method_9_code 13 = .ok (.getfield 44, 3) := by decide +kernel
theorem d_Re_isWord_16 : decode prog_8_method_9_code 16 = .ok (.isub, 1) := by decide +kernel
theorem d_Re_isWord_17 : decode prog_8_method_9_code 17 = .ok (.aload_n 1, 1) := by decide +kernel
theorem d_Re_isWord_18 : decode prog_8_method_9_code 18 = .ok (.invokevirtual 61, 3) := by decide +kernel
theorem d_Re_isWord_21 : decode prog_8_method_9_code 21 = .ok (.if_icmp .eq 5, 3) := by decide +kernel
theorem d_Re_isWord_24 : decode prog_8_method_9_code 24 = .ok (.iconst 0, 1) := by decide +kernel
theorem d_Re_isWord_25 : decode prog_8_method_9_code 25 = .ok (.ireturn, 1) := by decide +kernel
theorem d_Re_isWord_26 : decode prog_8_method_9_code 26 = .ok (.iconst 0, 1) := by decide +kernel
theorem d_Re_isWord_27 : decode prog_8_method_9_code 27 = .ok (.istore_n 2, 1) := by decide +kernel
theorem d_Re_isWord_28 : decode prog_8_method_9_code 28 = .ok (.iload_n 2, 1) := by decide +kernel
theorem d_Re_isWord_29 : decode prog_8_method_9_code 29 = .ok (.aload_n 1, 1) := by decide +kernel
theorem d_Re_isWord_30 : decode prog_8_method_9_code 30 = .ok (.invokevirtual 61, 3) := by decide +kernel
theorem d_Re_isWord_33 : decode prog_8_method_9_code 33 = .ok (.if_icmp .ge 30, 3) := by decide +kernel
theorem d_Re_isWord_36 : decode prog_8_method_9_code 36 = .ok (.aload_n 0, 1) := by decide +kernel
theorem d_Re_isWord_37 : decode prog_8_method_9_code 37 = .ok (.getfield 9, 3) := by decide +kernel
theorem d_Re_isWord_40 : decode prog_8_method_9_code 40 = .ok (.aload_n 0, 1) := by decide +kernel
theorem d_Re_isWord_41 : decode prog_8_method_9_code 41 = .ok (.getfield 44, 3) := by decide +kernel
theorem d_Re_isWord_44 : decode prog_8_method_9_code 44 = .ok (.iload_n 2, 1) := by decide +kernel
theorem d_Re_isWord_45 : decode prog_8_method_9_code 45 = .ok (.iadd, 1) := by decide +kernel
theorem d_Re_isWord_46 : decode prog_8_method_9_code 46 = .ok (.baload, 1) := by decide +kernel
theorem d_Re_isWord_47 : decode prog_8_method_9_code 47 = .ok (.aload_n 1, 1) := by decide +kernel
theorem d_Re_isWord_48 : decode prog_8_method_9_code 48 = .ok (.iload_n 2, 1) := by decide +kernel
theorem d_Re_isWord_49 : decode prog_8_method_9_code 49 = .ok (.invokevirtual 65, 3) := by decide +kernel
theorem d_Re_isWord_52 : decode prog_8_method_9_code 52 = .ok (.if_icmp .eq 5, 3) := by decide +kernel
theorem d_Re_isWord_55 : decode prog_8_method_9_code 55 = .ok (.iconst 0, 1) := by decide +kernel
theorem d_Re_isWord_56 : decode prog_8_method_9_code 56 = .ok (.ireturn, 1) := by decide +kernel
theorem d_Re_isWord_57 : decode prog_8_method_9_code 57 = .ok (.iinc 2 1, 3) := by decide +kernel
theorem d_Re_isWord_60 : decode prog_8_method_9_code 60 = .ok (.goto (-32), 3) := by decide +kernel
theorem d_Re_isWord_63 : decode prog_8_method_9_code 63 = .ok (.iconst 1, 1) := by decide +kernel
theorem d_Re_isWord_64 : decode prog_8_method_9_code 64 = .ok (.ireturn, 1) := by decide +kernel
set_option maxHeartbeats 2000000 in
theorem Re_isWord_L28_g {κ : tv_Kt} (hC : tv_Cx κ "TiedViews$Reader" prog_8_method_9_code 3 4) (hR : tv_Re κ (some .boolean)) (F : Nat) : ∀ (n : Nat) (l1 : Nat) (l2 : Int32) (M : tv_M), tv_G κ 3 (tv_Qm κ tv_ei) 28 [some (.ref (κ.b + 68)), some (.ref (κ.th.2.2.2.1 l1)), some (.int l2)] [] M (Re_isWord_L28 F n l1 l2 M) := by
  intro n
  induction n with
  | zero => intro _ _ _; exact g_none
  | succ nn ih =>
    intro l1 l2 M
    rw [Re_isWord_L28]
    refine g_gs (fun hw => ?_)
    refine g_iload_n hC d_Re_isWord_28 rfl ?_
    refine g_aload_n hC d_Re_isWord_29 rfl ?_
    refine gv_callXi (w := l1) hC [] cw_Re_61 (Js_length_c F l1 M) hw rfl rfl rfl rfl rfl rfl d_Re_isWord_30 (fun r3 M4 => ?_)
    refine g_icmp_ge (tgt := 63) hC d_Re_isWord_33 (by decide) (fun _ => ?_) (fun _ => ?_)
    · refine g_iconst hC d_Re_isWord_63 k_i1 ?_
      exact g_zret hC hR tv_z1 d_Re_isWord_64
    · refine g_aload_n hC d_Re_isWord_36 rfl ?_
      refine fg_Re_9 hC lc_68 d_Re_isWord_37 p0_68_1 ?_
      refine g_aload_n hC d_Re_isWord_40 rfl ?_
      refine fg_Re_44 hC lc_68 d_Re_isWord_41 ?_
      refine g_iload_n hC d_Re_isWord_44 rfl ?_
      refine g_iadd hC d_Re_isWord_45 ?_
      refine gv_bald hC ly_69 d_Re_isWord_46 (fun x5 => ?_)
      refine g_aload_n hC d_Re_isWord_47 rfl ?_
      refine g_iload_n hC d_Re_isWord_48 rfl ?_
      refine gv_callXi (w := l1) hC [.int l2] cw_Re_65 (Js_charAt_c F l1 l2 M4) hw rfl rfl rfl rfl rfl rfl d_Re_isWord_49 (fun r6 M7 => ?_)
      refine g_icmp_eq (tgt := 57) hC d_Re_isWord_52 (by decide) (fun _ => ?_) (fun _ => ?_)
      · refine g_iinc (ls' := [some (.ref (κ.b + 68)), some (.ref (κ.th.2.2.2.1 l1)), some (.int (l2 + 1))]) hC d_Re_isWord_57 rfl k_i1 rfl rfl ?_
        refine g_goto (tgt := 28) hC d_Re_isWord_60 (by decide) ?_
        exact ih l1 (l2 + 1) M7
      · refine g_iconst hC d_Re_isWord_55 k_i0 ?_
        exact g_zret hC hR tv_z0 d_Re_isWord_56
set_option maxHeartbeats 2000000 in
theorem Re_isWord_c {l : Launch} {θ : tv_Th} (F : Nat) (a1 : Nat) (M : tv_M) : tv_Ct l θ ⟨"TiedViews$Reader", "isWord", "(Ljava/lang/String;)Z"⟩ prog_8_method_9_code 3 (some .boolean) 4 tv_ei [.ref (θ.1 + 68), .ref (θ.2.2.2.1 a1)] M (Re_isWord F a1 M) := by
  refine tv_ofG [some (.ref (θ.1 + 68)), some (.ref (θ.2.2.2.1 a1)), none] rfl rfl (tv_ent 1 rfl) ?_
  intro κ hl ht hC hR
  subst hl; subst ht
  unfold Re_isWord
  refine g_gs (fun hw => ?_)
  refine g_aload_n hC d_Re_isWord_0 rfl ?_
  refine fg_Re_34 hC lc_68 d_Re_isWord_1 ?_
  refine g_iconst hC d_Re_isWord_4 k_i1 ?_
  refine g_icmp_ne (tgt := 24) hC d_Re_isWord_5 (by decide) (fun _ => ?_) (fun _ => ?_)
  · refine g_iconst hC d_Re_isWord_24 k_i0 ?_
    exact g_zret hC hR tv_z0 d_Re_isWord_25
  · refine g_aload_n hC d_Re_isWord_8 rfl ?_
    refine fg_Re_28 hC lc_68 d_Re_isWord_9 ?_
    refine g_aload_n hC d_Re_isWord_12 rfl ?_
    refine fg_Re_44 hC lc_68 d_Re_isWord_13 ?_
    refine g_isub hC d_Re_isWord_16 ?_
    refine g_aload_n hC d_Re_isWord_17 rfl ?_
    refine gv_callXi (w := a1) hC [] cw_Re_61 (Js_length_c F a1 M) hw rfl rfl rfl rfl rfl rfl d_Re_isWord_18 (fun r1 M2 => ?_)
    refine g_icmp_eq (tgt := 26) hC d_Re_isWord_21 (by decide) (fun _ => ?_) (fun _ => ?_)
    · refine g_iconst hC d_Re_isWord_26 k_i0 ?_
      refine g_istore_n (ls' := [some (.ref (κ.b + 68)), some (.ref (κ.th.2.2.2.1 a1)), some (.int 0)]) hC d_Re_isWord_27 rfl rfl ?_
      exact Re_isWord_L28_g hC hR F F a1 0 M2
    · refine g_iconst hC d_Re_isWord_24 k_i0 ?_
      exact g_zret hC hR tv_z0 d_Re_isWord_25
theorem d_Re_fails_0 : decode prog_8_method_5_code 0 = .ok (.aload_n 0, 1) := by decide +kernel
theorem d_Re_fails_1 : decode prog_8_method_5_code 1 = .ok (.iload_n 1, 1) := by decide +kernel
theorem d_Re_fails_2 : decode prog_8_method_5_code 2 = .ok (.putfield 47, 3) := by decide +kernel
theorem d_Re_fails_5 : decode prog_8_method_5_code 5 = .ok (.iconst 0, 1) := by decide +kernel
theorem d_Re_fails_6 : decode prog_8_method_5_code 6 = .ok (.ireturn, 1) := by decide +kernel
set_option maxHeartbeats 2000000 in
theorem Re_fails_c {l : Launch} {θ : tv_Th} (F : Nat) (a1 : Int32) (M : tv_M) : tv_Ct l θ ⟨"TiedViews$Reader", "fails", "(I)Z"⟩ prog_8_method_5_code 2 (some .boolean) 0 tv_ei [.ref (θ.1 + 68), .int a1] M (Re_fails F a1 M) := by
  refine tv_ofG [some (.ref (θ.1 + 68)), some (.int a1)] rfl rfl (tv_ent 0 rfl) ?_
  intro κ hl ht hC hR
  subst hl; subst ht
  unfold Re_fails
  refine g_aload_n hC d_Re_fails_0 rfl ?_
  refine g_iload_n hC d_Re_fails_1 rfl ?_
  refine fp_Re_47 hC lc_68 d_Re_fails_2 (fun M1 => ?_)
  refine g_iconst hC d_Re_fails_5 k_i0 ?_
  exact g_zret hC hR tv_z0 d_Re_fails_6
theorem d_Re_takeSort_0 : decode prog_8_method_16_code 0 = .ok (.aload_n 0, 1) := by decide +kernel
theorem d_Re_takeSort_1 : decode prog_8_method_16_code 1 = .ok (.ldc 177, 2) := by decide +kernel
theorem d_Re_takeSort_3 : decode prog_8_method_16_code 3 = .ok (.invokevirtual 71, 3) := by decide +kernel
theorem d_Re_takeSort_6 : decode prog_8_method_16_code 6 = .ok (.ifCond .eq 11, 3) := by decide +kernel
theorem d_Re_takeSort_9 : decode prog_8_method_16_code 9 = .ok (.aload_n 0, 1) := by decide +kernel
theorem d_Re_takeSort_10 : decode prog_8_method_16_code 10 = .ok (.iconst 0, 1) := by decide +kernel
theorem d_Re_takeSort_11 : decode prog_8_method_16_code 11 = .ok (.putfield 98, 3) := by decide +kernel
theorem d_Re_takeSort_14 : decode prog_8_method_16_code 14 = .ok (.goto 60, 3) := by decide +kernel
theorem d_Re_takeSort_17 : decode prog_8_method_16_code 17 = .ok (.aload_n 0, 1) := by decide +kernel
theorem d_Re_takeSort_18 : decode prog_8_method_16_code 18 = .ok (.ldc 179, 2) := by decide +kernel
theorem d_Re_takeSort_20 : decode prog_8_method_16_code 20 = .ok (.invokevirtual 71, 3) := by decide +kernel
theorem d_Re_takeSort_23 : decode prog_8_method_16_code 23 = .ok (.ifCond .eq 11, 3) := by decide +kernel
theorem d_Re_takeSort_26 : decode prog_8_method_16_code 26 = .ok (.aload_n 0, 1) := by decide +kernel
theorem d_Re_takeSort_27 : decode prog_8_method_16_code 27 = .ok (.iconst 1, 1) := by decide +kernel
theorem d_Re_takeSort_28 : decode prog_8_method_16_code 28 = .ok (.putfield 98, 3) := by decide +kernel
theorem d_Re_takeSort_31 : decode prog_8_method_16_code 31 = .ok (.goto 43, 3) := by decide +kernel
theorem d_Re_takeSort_34 : decode prog_8_method_16_code 34 = .ok (.aload_n 0, 1) := by decide +kernel
theorem d_Re_takeSort_35 : decode prog_8_method_16_code 35 = .ok (.ldc 181, 2) := by decide +kernel
theorem d_Re_takeSort_37 : decode prog_8_method_16_code 37 = .ok (.invokevirtual 71, 3) := by decide +kernel
theorem d_Re_takeSort_40 : decode prog_8_method_16_code 40 = .ok (.ifCond .eq 11, 3) := by decide +kernel
theorem d_Re_takeSort_43 : decode prog_8_method_16_code 43 = .ok (.aload_n 0, 1) := by decide +kernel
theorem d_Re_takeSort_44 : decode prog_8_method_16_code 44 = .ok (.iconst 2, 1) := by decide +kernel
theorem d_Re_takeSort_45 : decode prog_8_method_16_code 45 = .ok (.putfield 98, 3) := by decide +kernel
theorem d_Re_takeSort_48 : decode prog_8_method_16_code 48 = .ok (.goto 26, 3) := by decide +kernel
theorem d_Re_takeSort_51 : decode prog_8_method_16_code 51 = .ok (.aload_n 0, 1) := by decide +kernel
theorem d_Re_takeSort_52 : decode prog_8_method_16_code 52 = .ok (.ldc 183, 2) := by decide +kernel
theorem d_Re_takeSort_54 : decode prog_8_method_16_code 54 = .ok (.invokevirtual 71, 3) := by decide +kernel
theorem d_Re_takeSort_57 : decode prog_8_method_16_code 57 = .ok (.ifCond .eq 11, 3) := by decide +kernel
theorem d_Re_takeSort_60 : decode prog_8_method_16_code 60 = .ok (.aload_n 0, 1) := by decide +kernel
theorem d_Re_takeSort_61 : decode prog_8_method_16_code 61 = .ok (.iconst 3, 1) := by decide +kernel
theorem d_Re_takeSort_62 : decode prog_8_method_16_code 62 = .ok (.putfield 98, 3) := by decide +kernel
theorem d_Re_takeSort_65 : decode prog_8_method_16_code 65 = .ok (.goto 9, 3) := by decide +kernel
theorem d_Re_takeSort_68 : decode prog_8_method_16_code 68 = .ok (.aload_n 0, 1) := by decide +kernel
theorem d_Re_takeSort_69 : decode prog_8_method_16_code 69 = .ok (.iconst 1, 1) := by decide +kernel
theorem d_Re_takeSort_70 : decode prog_8_method_16_code 70 = .ok (.invokevirtual 88, 3) := by decide +kernel
theorem d_Re_takeSort_73 : decode prog_8_method_16_code 73 = .ok (.ireturn, 1) := by decide +kernel
theorem d_Re_takeSort_74 : decode prog_8_method_16_code 74 = .ok (.aload_n 0, 1) := by decide +kernel
theorem d_Re_takeSort_75 : decode prog_8_method_16_code 75 = .ok (.invokevirtual 31, 3) := by decide +kernel
theorem d_Re_takeSort_78 : decode prog_8_method_16_code 78 = .ok (.iconst 1, 1) := by decide +kernel
theorem d_Re_takeSort_79 : decode prog_8_method_16_code 79 = .ok (.ireturn, 1) := by decide +kernel
set_option maxHeartbeats 2000000 in
theorem Re_takeSort_c {l : Launch} {θ : tv_Th} (F : Nat) (M : tv_M) : tv_Ct l θ ⟨"TiedViews$Reader", "takeSort", "()Z"⟩ prog_8_method_16_code 1 (some .boolean) 5 tv_ei [.ref (θ.1 + 68)] M (Re_takeSort F M) := by
  refine tv_ofG [some (.ref (θ.1 + 68))] rfl rfl (tv_ent 0 rfl) ?_
  intro κ hl ht hC hR
  subst hl; subst ht
  unfold Re_takeSort
  refine g_aload_n hC d_Re_takeSort_0 rfl ?_
  refine g_lds hC 1 rfl d_Re_takeSort_1 ?_
  refine gv_callVi hC [.ref (κ.th.2.2.2.1 1)] cw_Re_71 (Re_isWord_c F 1 M) lc_68 rfl rfl rfl rfl rfl rfl rfl d_Re_takeSort_3 (fun r1 M2 => ?_)
  refine g_if_eq (tgt := 17) hC d_Re_takeSort_6 (by decide) (fun _ => ?_) (fun _ => ?_)
  · refine g_aload_n hC d_Re_takeSort_17 rfl ?_
    refine g_lds hC 2 rfl d_Re_takeSort_18 ?_
    refine gv_callVi hC [.ref (κ.th.2.2.2.1 2)] cw_Re_71 (Re_isWord_c F 2 M2) lc_68 rfl rfl rfl rfl rfl rfl rfl d_Re_takeSort_20 (fun r3 M4 => ?_)
    refine g_if_eq (tgt := 34) hC d_Re_takeSort_23 (by decide) (fun _ => ?_) (fun _ => ?_)
    · refine g_aload_n hC d_Re_takeSort_34 rfl ?_
      refine g_lds hC 3 rfl d_Re_takeSort_35 ?_
      refine gv_callVi hC [.ref (κ.th.2.2.2.1 3)] cw_Re_71 (Re_isWord_c F 3 M4) lc_68 rfl rfl rfl rfl rfl rfl rfl d_Re_takeSort_37 (fun r5 M6 => ?_)
      refine g_if_eq (tgt := 51) hC d_Re_takeSort_40 (by decide) (fun _ => ?_) (fun _ => ?_)
      · refine g_aload_n hC d_Re_takeSort_51 rfl ?_
        refine g_lds hC 4 rfl d_Re_takeSort_52 ?_
        refine gv_callVi hC [.ref (κ.th.2.2.2.1 4)] cw_Re_71 (Re_isWord_c F 4 M6) lc_68 rfl rfl rfl rfl rfl rfl rfl d_Re_takeSort_54 (fun r7 M8 => ?_)
        refine g_if_eq (tgt := 68) hC d_Re_takeSort_57 (by decide) (fun _ => ?_) (fun _ => ?_)
        · refine g_aload_n hC d_Re_takeSort_68 rfl ?_
          refine g_iconst hC d_Re_takeSort_69 k_i1 ?_
          refine gv_callVi hC [.int 1] cw_Re_88 (Re_fails_c F 1 M8) lc_68 rfl rfl rfl rfl rfl rfl rfl d_Re_takeSort_70 (fun r9 M10 => ?_)
          refine g_zo (fun z11 => ?_)
          exact g_zret hC hR z11 d_Re_takeSort_73
        · refine g_aload_n hC d_Re_takeSort_60 rfl ?_
          refine g_iconst hC d_Re_takeSort_61 k_i3 ?_
          refine fp_Re_98 hC lc_68 d_Re_takeSort_62 (fun M12 => ?_)
          refine g_goto (tgt := 74) hC d_Re_takeSort_65 (by decide) ?_
          refine g_aload_n hC d_Re_takeSort_74 rfl ?_
          refine gv_callVv hC [] cw_Re_31 (Re_goOn_c F M12) lc_68 rfl rfl rfl rfl rfl rfl rfl d_Re_takeSort_75 (fun r13 M14 => ?_)
          refine g_iconst hC d_Re_takeSort_78 k_i1 ?_
          exact g_zret hC hR tv_z1 d_Re_takeSort_79
      · refine g_aload_n hC d_Re_takeSort_43 rfl ?_
        refine g_iconst hC d_Re_takeSort_44 k_i2 ?_
        refine fp_Re_98 hC lc_68 d_Re_takeSort_45 (fun M15 => ?_)
        refine g_goto (tgt := 74) hC d_Re_takeSort_48 (by decide) ?_
        refine g_aload_n hC d_Re_takeSort_74 rfl ?_
        refine gv_callVv hC [] cw_Re_31 (Re_goOn_c F M15) lc_68 rfl rfl rfl rfl rfl rfl rfl d_Re_takeSort_75 (fun r16 M17 => ?_)
        refine g_iconst hC d_Re_takeSort_78 k_i1 ?_
        exact g_zret hC hR tv_z1 d_Re_takeSort_79
    · refine g_aload_n hC d_Re_takeSort_26 rfl ?_
      refine g_iconst hC d_Re_takeSort_27 k_i1 ?_
      refine fp_Re_98 hC lc_68 d_Re_takeSort_28 (fun M18 => ?_)
      refine g_goto (tgt := 74) hC d_Re_takeSort_31 (by decide) ?_
      refine g_aload_n hC d_Re_takeSort_74 rfl ?_
      refine gv_callVv hC [] cw_Re_31 (Re_goOn_c F M18) lc_68 rfl rfl rfl rfl rfl rfl rfl d_Re_takeSort_75 (fun r19 M20 => ?_)
      refine g_iconst hC d_Re_takeSort_78 k_i1 ?_
      exact g_zret hC hR tv_z1 d_Re_takeSort_79
  · refine g_aload_n hC d_Re_takeSort_9 rfl ?_
    refine g_iconst hC d_Re_takeSort_10 k_i0 ?_
    refine fp_Re_98 hC lc_68 d_Re_takeSort_11 (fun M21 => ?_)
    refine g_goto (tgt := 74) hC d_Re_takeSort_14 (by decide) ?_
    refine g_aload_n hC d_Re_takeSort_74 rfl ?_
    refine gv_callVv hC [] cw_Re_31 (Re_goOn_c F M21) lc_68 rfl rfl rfl rfl rfl rfl rfl d_Re_takeSort_75 (fun r22 M23 => ?_)
    refine g_iconst hC d_Re_takeSort_78 k_i1 ?_
    exact g_zret hC hR tv_z1 d_Re_takeSort_79
theorem d_Re_takeNumber_0 : decode prog_8_method_17_code 0 = .ok (.aload_n 0, 1) := by decide +kernel
theorem d_Re_takeNumber_1 : decode prog_8_method_17_code 1 = .ok (.getfield 34, 3) := by decide +kernel
theorem d_Re_takeNumber_4 : decode prog_8_method_17_code 4 = .ok (.iconst 2, 1) := by decide +kernel
theorem d_Re_takeNumber_5 : decode prog_8_method_17_code 5 = .ok (.if_icmp .eq 9, 3) := by decide +kernel
theorem d_Re_takeNumber_8 : decode prog_8_method_17_code 8 = .ok (.aload_n 0, 1) := by decide +kernel
theorem d_Re_takeNumber_9 : decode prog_8_method_17_code 9 = .ok (.iconst 1, 1) := by decide +kernel
theorem d_Re_takeNumber_10 : decode prog_8_method_17_code 10 = .ok (.invokevirtual 88, 3) := by decide +kernel
theorem d_Re_takeNumber_13 : decode prog_8_method_17_code 13 = .ok (.ireturn, 1) := by decide +kernel
theorem d_Re_takeNumber_14 : decode prog_8_method_17_code 14 = .ok (.aload_n 0, 1) := by decide +kernel
theorem d_Re_takeNumber_15 : decode prog_8_method_17_code 15 = .ok (.getfield 58, 3) := by decide +kernel
theorem d_Re_takeNumber_18 : decode prog_8_method_17_code 18 = .ok (.iload_n 1, 1) := by decide +kernel
theorem d_Re_takeNumber_19 : decode prog_8_method_17_code 19 = .ok (.if_icmp .lt 11, 3) := by decide +kernel
theorem d_Re_takeNumber_22 : decode prog_8_method_17_code 22 = .ok (.aload_n 0, 1) := by decide +kernel
theorem d_Re_takeNumber_23 : decode prog_8_method_17_code 23 = .ok (.getfield 58, 3) := by decide +kernel
theorem d_Re_takeNumber_26 : decode prog_8_method_17_code 26 = .ok (.iload_n 2, 1) := by decide +kernel
theorem d_Re_takeNumber_27 : decode prog_8_method_17_code 27 = .ok (.if_icmp .le 9, 3) := by decide +kernel
theorem d_Re_takeNumber_30 : decode prog_8_method_17_code 30 = .ok (.aload_n 0, 1) := by decide +kernel
theorem d_Re_takeNumber_31 : decode prog_8_method_17_code 31 = .ok (.iconst 2, 1) := by decide +kernel
theorem d_Re_takeNumber_32 : decode prog_8_method_17_code 32 = .ok (.invokevirtual 88, 3) := by decide +kernel
theorem d_Re_takeNumber_35 : decode prog_8_method_17_code 35 = .ok (.ireturn, 1) := by decide +kernel
theorem d_Re_takeNumber_36 : decode prog_8_method_17_code 36 = .ok (.aload_n 0, 1) := by decide +kernel
theorem d_Re_takeNumber_37 : decode prog_8_method_17_code 37 = .ok (.aload_n 0, 1) := by decide +kernel
theorem d_Re_takeNumber_38 : decode prog_8_method_17_code 38 = .ok (.getfield 58, 3) := by decide +kernel
theorem d_Re_takeNumber_41 : decode prog_8_method_17_code 41 = .ok (.putfield 98, 3) := by decide +kernel
theorem d_Re_takeNumber_44 : decode prog_8_method_17_code 44 = .ok (.aload_n 0, 1) := by decide +kernel
theorem d_Re_takeNumber_45 : decode prog_8_method_17_code 45 = .ok (.invokevirtual 31, 3) := by decide +kernel
theorem d_Re_takeNumber_48 : decode prog_8_method_17_code 48 = .ok (.iconst 1, 1) := by decide +kernel
theorem d_Re_takeNumber_49 : decode prog_8_method_17_code 49 = .ok (.ireturn, 1) := by decide +kernel
set_option maxHeartbeats 2000000 in
theorem Re_takeNumber_c {l : Launch} {θ : tv_Th} (F : Nat) (a1 : Int32) (a2 : Int32) (M : tv_M) : tv_Ct l θ ⟨"TiedViews$Reader", "takeNumber", "(II)Z"⟩ prog_8_method_17_code 3 (some .boolean) 2 tv_ei [.ref (θ.1 + 68), .int a1, .int a2] M (Re_takeNumber F a1 a2 M) := by
  refine tv_ofG [some (.ref (θ.1 + 68)), some (.int a1), some (.int a2)] rfl rfl (tv_ent 0 rfl) ?_
  intro κ hl ht hC hR
  subst hl; subst ht
  unfold Re_takeNumber
  refine g_aload_n hC d_Re_takeNumber_0 rfl ?_
  refine fg_Re_34 hC lc_68 d_Re_takeNumber_1 ?_
  refine g_iconst hC d_Re_takeNumber_4 k_i2 ?_
  refine g_icmp_eq (tgt := 14) hC d_Re_takeNumber_5 (by decide) (fun _ => ?_) (fun _ => ?_)
  · refine g_aload_n hC d_Re_takeNumber_14 rfl ?_
    refine fg_Re_58 hC lc_68 d_Re_takeNumber_15 ?_
    refine g_iload_n hC d_Re_takeNumber_18 rfl ?_
    refine g_icmp_lt (tgt := 30) hC d_Re_takeNumber_19 (by decide) (fun _ => ?_) (fun _ => ?_)
    · refine g_aload_n hC d_Re_takeNumber_30 rfl ?_
      refine g_iconst hC d_Re_takeNumber_31 k_i2 ?_
      refine gv_callVi hC [.int 2] cw_Re_88 (Re_fails_c F 2 M) lc_68 rfl rfl rfl rfl rfl rfl rfl d_Re_takeNumber_32 (fun r1 M2 => ?_)
      refine g_zo (fun z3 => ?_)
      exact g_zret hC hR z3 d_Re_takeNumber_35
    · refine g_aload_n hC d_Re_takeNumber_22 rfl ?_
      refine fg_Re_58 hC lc_68 d_Re_takeNumber_23 ?_
      refine g_iload_n hC d_Re_takeNumber_26 rfl ?_
      refine g_icmp_le (tgt := 36) hC d_Re_takeNumber_27 (by decide) (fun _ => ?_) (fun _ => ?_)
      · refine g_aload_n hC d_Re_takeNumber_36 rfl ?_
        refine g_aload_n hC d_Re_takeNumber_37 rfl ?_
        refine fg_Re_58 hC lc_68 d_Re_takeNumber_38 ?_
        refine fp_Re_98 hC lc_68 d_Re_takeNumber_41 (fun M4 => ?_)
        refine g_aload_n hC d_Re_takeNumber_44 rfl ?_
        refine gv_callVv hC [] cw_Re_31 (Re_goOn_c F M4) lc_68 rfl rfl rfl rfl rfl rfl rfl d_Re_takeNumber_45 (fun r5 M6 => ?_)
        refine g_iconst hC d_Re_takeNumber_48 k_i1 ?_
        exact g_zret hC hR tv_z1 d_Re_takeNumber_49
      · refine g_aload_n hC d_Re_takeNumber_30 rfl ?_
        refine g_iconst hC d_Re_takeNumber_31 k_i2 ?_
        refine gv_callVi hC [.int 2] cw_Re_88 (Re_fails_c F 2 M) lc_68 rfl rfl rfl rfl rfl rfl rfl d_Re_takeNumber_32 (fun r7 M8 => ?_)
        refine g_zo (fun z9 => ?_)
        exact g_zret hC hR z9 d_Re_takeNumber_35
  · refine g_aload_n hC d_Re_takeNumber_8 rfl ?_
    refine g_iconst hC d_Re_takeNumber_9 k_i1 ?_
    refine gv_callVi hC [.int 1] cw_Re_88 (Re_fails_c F 1 M) lc_68 rfl rfl rfl rfl rfl rfl rfl d_Re_takeNumber_10 (fun r10 M11 => ?_)
    refine g_zo (fun z12 => ?_)
    exact g_zret hC hR z12 d_Re_takeNumber_13
theorem d_Re_takeSign_0 : decode prog_8_method_21_code 0 = .ok (.aload_n 0, 1) := by decide +kernel
theorem d_Re_takeSign_1 : decode prog_8_method_21_code 1 = .ok (.getfield 34, 3) := by decide +kernel
theorem d_Re_takeSign_4 : decode prog_8_method_21_code 4 = .ok (.iload_n 1, 1) := by decide +kernel
theorem d_Re_takeSign_5 : decode prog_8_method_21_code 5 = .ok (.if_icmp .eq 9, 3) := by decide +kernel
theorem d_Re_takeSign_8 : decode prog_8_method_21_code 8 = .ok (.aload_n 0, 1) := by decide +kernel
theorem d_Re_takeSign_9 : decode prog_8_method_21_code 9 = .ok (.iconst 1, 1) := by decide +kernel
theorem d_Re_takeSign_10 : decode prog_8_method_21_code 10 = .ok (.invokevirtual 88, 3) := by decide +kernel
theorem d_Re_takeSign_13 : decode prog_8_method_21_code 13 = .ok (.ireturn, 1) := by decide +kernel
theorem d_Re_takeSign_14 : decode prog_8_method_21_code 14 = .ok (.aload_n 0, 1) := by decide +kernel
theorem d_Re_takeSign_15 : decode prog_8_method_21_code 15 = .ok (.invokevirtual 31, 3) := by decide +kernel
theorem d_Re_takeSign_18 : decode prog_8_method_21_code 18 = .ok (.iconst 1, 1) := by decide +kernel
theorem d_Re_takeSign_19 : decode prog_8_method_21_code 19 = .ok (.ireturn, 1) := by decide +kernel
set_option maxHeartbeats 2000000 in
theorem Re_takeSign_c {l : Launch} {θ : tv_Th} (F : Nat) (a1 : Int32) (M : tv_M) : tv_Ct l θ ⟨"TiedViews$Reader", "takeSign", "(C)Z"⟩ prog_8_method_21_code 2 (some .boolean) 2 tv_ei [.ref (θ.1 + 68), .int a1] M (Re_takeSign F a1 M) := by
  refine tv_ofG [some (.ref (θ.1 + 68)), some (.int a1)] rfl rfl (tv_ent 0 rfl) ?_
  intro κ hl ht hC hR
  subst hl; subst ht
  unfold Re_takeSign
  refine g_aload_n hC d_Re_takeSign_0 rfl ?_
  refine fg_Re_34 hC lc_68 d_Re_takeSign_1 ?_
  refine g_iload_n hC d_Re_takeSign_4 rfl ?_
  refine g_icmp_eq (tgt := 14) hC d_Re_takeSign_5 (by decide) (fun _ => ?_) (fun _ => ?_)
  · refine g_aload_n hC d_Re_takeSign_14 rfl ?_
    refine gv_callVv hC [] cw_Re_31 (Re_goOn_c F M) lc_68 rfl rfl rfl rfl rfl rfl rfl d_Re_takeSign_15 (fun r1 M2 => ?_)
    refine g_iconst hC d_Re_takeSign_18 k_i1 ?_
    exact g_zret hC hR tv_z1 d_Re_takeSign_19
  · refine g_aload_n hC d_Re_takeSign_8 rfl ?_
    refine g_iconst hC d_Re_takeSign_9 k_i1 ?_
    refine gv_callVi hC [.int 1] cw_Re_88 (Re_fails_c F 1 M) lc_68 rfl rfl rfl rfl rfl rfl rfl d_Re_takeSign_10 (fun r3 M4 => ?_)
    refine g_zo (fun z5 => ?_)
    exact g_zret hC hR z5 d_Re_takeSign_13
theorem d_Ey_fullSet_0 : decode prog_6_method_4_code 0 = .ok (.iconst 1, 1) := by decide +kernel
theorem d_Ey_fullSet_1 : decode prog_6_method_4_code 1 = .ok (.aload_n 0, 1) := by decide +kernel
theorem d_Ey_fullSet_2 : decode prog_6_method_4_code 2 = .ok (.getfield 22, 3) := by decide +kernel
theorem d_Ey_fullSet_5 : decode prog_6_method_4_code 5 = .ok (.ishl, 1) := by decide +kernel
theorem d_Ey_fullSet_6 : decode prog_6_method_4_code 6 = .ok (.iconst 1, 1) := by decide +kernel
theorem d_Ey_fullSet_7 : decode prog_6_method_4_code 7 = .ok (.isub, 1) := by decide +kernel
theorem d_Ey_fullSet_8 : decode prog_6_method_4_code 8 = .ok (.ireturn, 1) := by decide +kernel
set_option maxHeartbeats 2000000 in
theorem Ey_fullSet_c {l : Launch} {θ : tv_Th} (F : Nat) (t : Nat) (M : tv_M) : tv_Ct l θ ⟨"TiedViews$Eye", "fullSet", "()I"⟩ prog_6_method_4_code 1 (some .int) 0 tv_ei [.ref (θ.1 + t)] M (Ey_fullSet F t M) := by
  refine tv_ofG [some (.ref (θ.1 + t))] rfl rfl (tv_ent 0 rfl) ?_
  intro κ hl ht hC hR
  subst hl; subst ht
  unfold Ey_fullSet
  refine g_gl (fun h1 => ?_)
  refine g_iconst hC d_Ey_fullSet_0 k_i1 ?_
  refine g_aload_n hC d_Ey_fullSet_1 rfl ?_
  refine fg_Ey_22 hC h1 d_Ey_fullSet_2 ?_
  refine g_ishl hC d_Ey_fullSet_5 ?_
  refine g_iconst hC d_Ey_fullSet_6 k_i1 ?_
  refine g_isub hC d_Ey_fullSet_7 ?_
  exact g_iret hC hR d_Ey_fullSet_8
theorem d_Ey_begin_0 : decode prog_6_method_2_code 0 = .ok (.aload_n 0, 1) := by decide +kernel
theorem d_Ey_begin_1 : decode prog_6_method_2_code 1 = .ok (.iload_n 1, 1) := by decide +kernel
theorem d_Ey_begin_2 : decode prog_6_method_2_code 2 = .ok (.putfield 19, 3) := by decide +kernel
theorem d_Ey_begin_5 : decode prog_6_method_2_code 5 = .ok (.aload_n 0, 1) := by decide +kernel
theorem d_Ey_begin_6 : decode prog_6_method_2_code 6 = .ok (.iload_n 2, 1) := by decide +kernel
theorem d_Ey_begin_7 : decode prog_6_method_2_code 7 = .ok (.putfield 22, 3) := by decide +kernel
theorem d_Ey_begin_10 : decode prog_6_method_2_code 10 = .ok (.aload_n 0, 1) := by decide +kernel
theorem d_Ey_begin_11 : decode prog_6_method_2_code 11 = .ok (.iload_n 3, 1) := by decide +kernel
theorem d_Ey_begin_12 : decode prog_6_method_2_code 12 = .ok (.putfield 25, 3) := by decide +kernel
theorem d_Ey_begin_15 : decode prog_6_method_2_code 15 = .ok (.aload_n 0, 1) := by decide +kernel
theorem d_Ey_begin_16 : decode prog_6_method_2_code 16 = .ok (.aload_n 0, 1) := by decide +kernel
theorem d_Ey_begin_17 : decode prog_6_method_2_code 17 = .ok (.invokevirtual 28, 3) := by decide +kernel
theorem d_Ey_begin_20 : decode prog_6_method_2_code 20 = .ok (.putfield 32, 3) := by decide +kernel
theorem d_Ey_begin_23 : decode prog_6_method_2_code 23 = .ok (.aload_n 0, 1) := by decide +kernel
theorem d_Ey_begin_24 : decode prog_6_method_2_code 24 = .ok (.iconst 0, 1) := by decide +kernel
theorem d_Ey_begin_25 : decode prog_6_method_2_code 25 = .ok (.putfield 35, 3) := by decide +kernel
theorem d_Ey_begin_28 : decode prog_6_method_2_code 28 = .ok (.return_, 1) := by decide +kernel
set_option maxHeartbeats 2000000 in
theorem Ey_begin_c {l : Launch} {θ : tv_Th} (F : Nat) (t : Nat) (a1 : Int32) (a2 : Int32) (a3 : Int32) (M : tv_M) : tv_Ct l θ ⟨"TiedViews$Eye", "begin", "(III)V"⟩ prog_6_method_2_code 4 none 1 tv_ev [.ref (θ.1 + t), .int a1, .int a2, .int a3] M (Ey_begin F t a1 a2 a3 M) := by
  refine tv_ofG [some (.ref (θ.1 + t)), some (.int a1), some (.int a2), some (.int a3)] rfl rfl (tv_ent 0 rfl) ?_
  intro κ hl ht hC hR
  subst hl; subst ht
  unfold Ey_begin
  refine g_gl (fun h1 => ?_)
  refine g_aload_n hC d_Ey_begin_0 rfl ?_
  refine g_iload_n hC d_Ey_begin_1 rfl ?_
  refine fp_Ey_19 hC h1 d_Ey_begin_2 (fun M2 => ?_)
  refine g_aload_n hC d_Ey_begin_5 rfl ?_
  refine g_iload_n hC d_Ey_begin_6 rfl ?_
  refine fp_Ey_22 hC h1 d_Ey_begin_7 (fun M3 => ?_)
  refine g_aload_n hC d_Ey_begin_10 rfl ?_
  refine g_iload_n hC d_Ey_begin_11 rfl ?_
  refine fp_Ey_25 hC h1 d_Ey_begin_12 (fun M4 => ?_)
  refine g_aload_n hC d_Ey_begin_15 rfl ?_
  refine g_aload_n hC d_Ey_begin_16 rfl ?_
  refine gv_callVi hC [] cw_Ey_28 (Ey_fullSet_c F t M4) h1 rfl rfl rfl rfl rfl rfl rfl d_Ey_begin_17 (fun r5 M6 => ?_)
  refine fp_Ey_32 hC h1 d_Ey_begin_20 (fun M7 => ?_)
  refine g_aload_n hC d_Ey_begin_23 rfl ?_
  refine g_iconst hC d_Ey_begin_24 k_i0 ?_
  refine fp_Ey_35 hC h1 tv_z0 d_Ey_begin_25 (fun M8 => ?_)
  exact g_vret hC hR d_Ey_begin_28
theorem d_To_addEye_0 : decode prog_12_method_12_code 0 = .ok (.aload_n 0, 1) := by decide +kernel
theorem d_To_addEye_1 : decode prog_12_method_12_code 1 = .ok (.getfield 35, 3) := by decide +kernel
theorem d_To_addEye_4 : decode prog_12_method_12_code 4 = .ok (.bipush 8, 2) := by decide +kernel
theorem d_To_addEye_6 : decode prog_12_method_12_code 6 = .ok (.if_icmp .lt 4, 3) := by decide +kernel
theorem d_To_addEye_9 : decode prog_12_method_12_code 9 = .ok (.return_, 1) := by decide +kernel
theorem d_To_addEye_10 : decode prog_12_method_12_code 10 = .ok (.aload_n 0, 1) := by decide +kernel
theorem d_To_addEye_11 : decode prog_12_method_12_code 11 = .ok (.getfield 11, 3) := by decide +kernel
theorem d_To_addEye_14 : decode prog_12_method_12_code 14 = .ok (.aload_n 0, 1) := by decide +kernel
theorem d_To_addEye_15 : decode prog_12_method_12_code 15 = .ok (.getfield 35, 3) := by decide +kernel
theorem d_To_addEye_18 : decode prog_12_method_12_code 18 = .ok (.aaload, 1) := by decide +kernel
theorem d_To_addEye_19 : decode prog_12_method_12_code 19 = .ok (.iload_n 1, 1) := by decide +kernel
theorem d_To_addEye_20 : decode prog_12_method_12_code 20 = .ok (.iload_n 2, 1) := by decide +kernel
theorem d_To_addEye_21 : decode prog_12_method_12_code 21 = .ok (.aload_n 0, 1) := by decide +kernel
theorem d_To_addEye_22 : decode prog_12_method_12_code 22 = .ok (.getfield 53, 3) := by decide +kernel
theorem d_To_addEye_25 : decode prog_12_method_12_code 25 = .ok (.invokevirtual 81, 3) := by decide +kernel
theorem d_To_addEye_28 : decode prog_12_method_12_code 28 = .ok (.aload_n 0, 1) := by decide +kernel
theorem d_To_addEye_29 : decode prog_12_method_12_code 29 = .ok (.dup, 1) := by decide +kernel
theorem d_To_addEye_30 : decode prog_12_method_12_code 30 = .ok (.getfield 35, 3) := by decide +kernel
theorem d_To_addEye_33 : decode prog_12_method_12_code 33 = .ok (.iconst 1, 1) := by decide +kernel
theorem d_To_addEye_34 : decode prog_12_method_12_code 34 = .ok (.iadd, 1) := by decide +kernel
theorem d_To_addEye_35 : decode prog_12_method_12_code 35 = .ok (.putfield 35, 3) := by decide +kernel
theorem d_To_addEye_38 : decode prog_12_method_12_code 38 = .ok (.iload_n 1, 1) := by decide +kernel
theorem d_To_addEye_39 : decode prog_12_method_12_code 39 = .ok (.iconst 3, 1) := by decide +kernel
theorem d_To_addEye_40 : decode prog_12_method_12_code 40 = .ok (.if_icmp .eq 13, 3) := by decide +kernel
theorem d_To_addEye_43 : decode prog_12_method_12_code 43 = .ok (.aload_n 0, 1) := by decide +kernel
theorem d_To_addEye_44 : decode prog_12_method_12_code 44 = .ok (.dup, 1) := by decide +kernel
theorem d_To_addEye_45 : decode prog_12_method_12_code 45 = .ok (.getfield 53, 3) := by decide +kernel
theorem d_To_addEye_48 : decode prog_12_method_12_code 48 = .ok (.iload_n 2, 1) := by decide +kernel
theorem d_To_addEye_49 : decode prog_12_method_12_code 49 = .ok (.iadd, 1) := by decide +kernel
theorem d_To_addEye_50 : decode prog_12_method_12_code 50 = .ok (.putfield 53, 3) := by decide +kernel
theorem d_To_addEye_53 : decode prog_12_method_12_code 53 = .ok (.return_, 1) := by decide +kernel
set_option maxHeartbeats 2000000 in
theorem To_addEye_c {l : Launch} {θ : tv_Th} (F : Nat) (a1 : Int32) (a2 : Int32) (M : tv_M) : tv_Ct l θ ⟨"TiedViews$Told", "addEye", "(II)V"⟩ prog_12_method_12_code 3 none 2 tv_ev [.ref (θ.1 + 18), .int a1, .int a2] M (To_addEye F a1 a2 M) := by
  refine tv_ofG [some (.ref (θ.1 + 18)), some (.int a1), some (.int a2)] rfl rfl (tv_ent 0 rfl) ?_
  intro κ hl ht hC hR
  subst hl; subst ht
  unfold To_addEye
  refine g_aload_n hC d_To_addEye_0 rfl ?_
  refine fg_To_35 hC lc_18 d_To_addEye_1 ?_
  refine g_bipush hC d_To_addEye_4 k_b8 ?_
  refine g_icmp_lt (tgt := 10) hC d_To_addEye_6 (by decide) (fun _ => ?_) (fun _ => ?_)
  · refine g_aload_n hC d_To_addEye_10 rfl ?_
    refine fg_To_11 hC lc_18 d_To_addEye_11 p0_18_1 ?_
    refine g_aload_n hC d_To_addEye_14 rfl ?_
    refine fg_To_35 hC lc_18 d_To_addEye_15 ?_
    refine gv_aald hC 1 ly_19 rfl d_To_addEye_18 (fun p1 => ?_)
    refine g_gl (fun h2 => ?_)
    refine g_iload_n hC d_To_addEye_19 rfl ?_
    refine g_iload_n hC d_To_addEye_20 rfl ?_
    refine g_aload_n hC d_To_addEye_21 rfl ?_
    refine fg_To_53 hC lc_18 d_To_addEye_22 ?_
    refine gv_callVv hC [.int a1, .int a2, .int (M.1 18 7)] cw_To_81 (Ey_begin_c F p1 a1 a2 (M.1 18 7) M) h2 rfl rfl rfl rfl rfl rfl rfl d_To_addEye_25 (fun r3 M4 => ?_)
    refine g_aload_n hC d_To_addEye_28 rfl ?_
    refine g_dup hC d_To_addEye_29 rfl ?_
    refine fg_To_35 hC lc_18 d_To_addEye_30 ?_
    refine g_iconst hC d_To_addEye_33 k_i1 ?_
    refine g_iadd hC d_To_addEye_34 ?_
    refine fp_To_35 hC lc_18 d_To_addEye_35 (fun M5 => ?_)
    refine g_iload_n hC d_To_addEye_38 rfl ?_
    refine g_iconst hC d_To_addEye_39 k_i3 ?_
    refine g_icmp_eq (tgt := 53) hC d_To_addEye_40 (by decide) (fun _ => ?_) (fun _ => ?_)
    · exact g_vret hC hR d_To_addEye_53
    · refine g_aload_n hC d_To_addEye_43 rfl ?_
      refine g_dup hC d_To_addEye_44 rfl ?_
      refine fg_To_53 hC lc_18 d_To_addEye_45 ?_
      refine g_iload_n hC d_To_addEye_48 rfl ?_
      refine g_iadd hC d_To_addEye_49 ?_
      refine fp_To_53 hC lc_18 d_To_addEye_50 (fun M6 => ?_)
      exact g_vret hC hR d_To_addEye_53
  · exact g_vret hC hR d_To_addEye_9
theorem d_Re_takeEyeSentence_0 : decode prog_8_method_11_code 0 = .ok (.aload_n 0, 1) := by decide +kernel
theorem d_Re_takeEyeSentence_1 : decode prog_8_method_11_code 1 = .ok (.getfield 15, 3) := by decide +kernel
theorem d_Re_takeEyeSentence_4 : decode prog_8_method_11_code 4 = .ok (.getfield 92, 3) := by decide +kernel
theorem d_Re_takeEyeSentence_7 : decode prog_8_method_11_code 7 = .ok (.bipush 8, 2) := by decide +kernel
theorem d_Re_takeEyeSentence_9 : decode prog_8_method_11_code 9 = .ok (.if_icmp .lt 9, 3) := by decide +kernel
theorem d_Re_takeEyeSentence_12 : decode prog_8_method_11_code 12 = .ok (.aload_n 0, 1) := by decide +kernel
theorem d_Re_takeEyeSentence_13 : decode prog_8_method_11_code 13 = .ok (.iconst 3, 1) := by decide +kernel
theorem d_Re_takeEyeSentence_14 : decode prog_8_method_11_code 14 = .ok (.invokevirtual 88, 3) := by decide +kernel
theorem d_Re_takeEyeSentence_17 : decode prog_8_method_11_code 17 = .ok (.ireturn, 1) := by decide +kernel
theorem d_Re_takeEyeSentence_18 : decode prog_8_method_11_code 18 = .ok (.aload_n 0, 1) := by decide +kernel
theorem d_Re_takeEyeSentence_19 : decode prog_8_method_11_code 19 = .ok (.invokevirtual 31, 3) := by decide +kernel
theorem d_Re_takeEyeSentence_22 : decode prog_8_method_11_code 22 = .ok (.aload_n 0, 1) := by decide +kernel
theorem d_Re_takeEyeSentence_23 : decode prog_8_method_11_code 23 = .ok (.invokevirtual 95, 3) := by decide +kernel
theorem d_Re_takeEyeSentence_26 : decode prog_8_method_11_code 26 = .ok (.ifCond .ne 5, 3) := by decide +kernel
theorem d_Re_takeEyeSentence_29 : decode prog_8_method_11_code 29 = .ok (.iconst 0, 1) := by decide +kernel
theorem d_Re_takeEyeSentence_30 : decode prog_8_method_11_code 30 = .ok (.ireturn, 1) := by decide +kernel
theorem d_Re_takeEyeSentence_31 : decode prog_8_method_11_code 31 = .ok (.aload_n 0, 1) := by decide +kernel
theorem d_Re_takeEyeSentence_32 : decode prog_8_method_11_code 32 = .ok (.getfield 98, 3) := by decide +kernel
theorem d_Re_takeEyeSentence_35 : decode prog_8_method_11_code 35 = .ok (.istore_n 1, 1) := by decide +kernel
theorem d_Re_takeEyeSentence_36 : decode prog_8_method_11_code 36 = .ok (.aload_n 0, 1) := by decide +kernel
theorem d_Re_takeEyeSentence_37 : decode prog_8_method_11_code 37 = .ok (.iconst 1, 1) := by decide +kernel
theorem d_Re_takeEyeSentence_38 : decode prog_8_method_11_code 38 = .ok (.iload_n 1, 1) := by decide +kernel
theorem d_Re_takeEyeSentence_39 : decode prog_8_method_11_code 39 = .ok (.iconst 3, 1) := by decide +kernel
theorem d_Re_takeEyeSentence_40 : decode prog_8_method_11_code 40 = .ok (.if_icmp .ne 7, 3) := by decide +kernel
theorem d_Re_takeEyeSentence_43 : decode prog_8_method_11_code 43 = .ok (.iconst 4, 1) := by decide +kernel
theorem d_Re_takeEyeSentence_44 : decode prog_8_method_11_code 44 = .ok (.goto 4, 3) := by decide +kernel
theorem d_Re_takeEyeSentence_47 : decode prog_8_method_11_code 47 = .ok (.iconst 3, 1) := by decide +kernel
theorem d_Re_takeEyeSentence_48 : decode prog_8_method_11_code 48 = .ok (.invokevirtual 101, 3) := by decide +kernel
theorem d_Re_takeEyeSentence_51 : decode prog_8_method_11_code 51 = .ok (.ifCond .ne 5, 3) := by decide +kernel
theorem d_Re_takeEyeSentence_54 : decode prog_8_method_11_code 54 = .ok (.iconst 0, 1) := by decide +kernel
theorem d_Re_takeEyeSentence_55 : decode prog_8_method_11_code 55 = .ok (.ireturn, 1) := by decide +kernel
theorem d_Re_takeEyeSentence_56 : decode prog_8_method_11_code 56 = .ok (.aload_n 0, 1) := by decide +kernel
theorem d_Re_takeEyeSentence_57 : decode prog_8_method_11_code 57 = .ok (.getfield 98, 3) := by decide +kernel
theorem d_Re_takeEyeSentence_60 : decode prog_8_method_11_code 60 = .ok (.istore_n 2, 1) := by decide +kernel
theorem d_Re_takeEyeSentence_61 : decode prog_8_method_11_code 61 = .ok (.aload_n 0, 1) := by decide +kernel
theorem d_Re_takeEyeSentence_62 : decode prog_8_method_11_code 62 = .ok (.bipush 59, 2) := by decide +kernel
theorem d_Re_takeEyeSentence_64 : decode prog_8_method_11_code 64 = .ok (.invokevirtual 105, 3) := by decide +kernel
theorem d_Re_takeEyeSentence_67 : decode prog_8_method_11_code 67 = .ok (.ifCond .ne 5, 3) := by decide +kernel
theorem d_Re_takeEyeSentence_70 : decode prog_8_method_11_code 70 = .ok (.iconst 0, 1) := by decide +kernel
theorem d_Re_takeEyeSentence_71 : decode prog_8_method_11_code 71 = .ok (.ireturn, 1) := by decide +kernel
theorem d_Re_takeEyeSentence_72 : decode prog_8_method_11_code 72 = .ok (.aload_n 0, 1) := by decide +kernel
theorem d_Re_takeEyeSentence_73 : decode prog_8_method_11_code 73 = .ok (.getfield 15, 3) := by decide +kernel
theorem d_Re_takeEyeSentence_76 : decode prog_8_method_11_code 76 = .ok (.iload_n 1, 1) := by decide +kernel
theorem d_Re_takeEyeSentence_77 : decode prog_8_method_11_code 77 = .ok (.iload_n 2, 1) := by decide +kernel
theorem d_Re_takeEyeSentence_78 : decode prog_8_method_11_code 78 = .ok (.invokevirtual 109, 3) := by decide +kernel
theorem d_Re_takeEyeSentence_81 : decode prog_8_method_11_code 81 = .ok (.iconst 1, 1) := by decide +kernel
theorem d_Re_takeEyeSentence_82 : decode prog_8_method_11_code 82 = .ok (.ireturn, 1) := by decide +kernel
set_option maxHeartbeats 2000000 in
theorem Re_takeEyeSentence_L48_g {κ : tv_Kt} (hC : tv_Cx κ "TiedViews$Reader" prog_8_method_11_code 3 6) (hR : tv_Re κ (some .boolean)) (F : Nat) (l1 : Int32) (s0 : Int32) (s1 : Int32) (M : tv_M) : tv_G κ 3 (tv_Qm κ tv_ei) 48 [some (.ref (κ.b + 68)), some (.int l1), none] [.int s0, .int s1, .ref (κ.b + 68)] M (Re_takeEyeSentence_L48 F l1 s0 s1 M) := by
  rw [Re_takeEyeSentence_L48]
  refine gv_callVi hC [.int s1, .int s0] cw_Re_101 (Re_takeNumber_c F s1 s0 M) lc_68 rfl rfl rfl rfl rfl rfl rfl d_Re_takeEyeSentence_48 (fun r8 M9 => ?_)
  refine g_if_ne (tgt := 56) hC d_Re_takeEyeSentence_51 (by decide) (fun _ => ?_) (fun _ => ?_)
  · refine g_aload_n hC d_Re_takeEyeSentence_56 rfl ?_
    refine fg_Re_98 hC lc_68 d_Re_takeEyeSentence_57 ?_
    refine g_istore_n (ls' := [some (.ref (κ.b + 68)), some (.int l1), some (.int (M9.1 68 8))]) hC d_Re_takeEyeSentence_60 rfl rfl ?_
    refine g_aload_n hC d_Re_takeEyeSentence_61 rfl ?_
    refine g_bipush hC d_Re_takeEyeSentence_62 k_b59 ?_
    refine gv_callVi hC [.int 59] cw_Re_105 (Re_takeSign_c F 59 M9) lc_68 rfl rfl rfl rfl rfl rfl rfl d_Re_takeEyeSentence_64 (fun r10 M11 => ?_)
    refine g_if_ne (tgt := 72) hC d_Re_takeEyeSentence_67 (by decide) (fun _ => ?_) (fun _ => ?_)
    · refine g_aload_n hC d_Re_takeEyeSentence_72 rfl ?_
      refine fg_Re_15 hC lc_68 d_Re_takeEyeSentence_73 p0_68_0 ?_
      refine g_iload_n hC d_Re_takeEyeSentence_76 rfl ?_
      refine g_iload_n hC d_Re_takeEyeSentence_77 rfl ?_
      refine gv_callVv hC [.int l1, .int (M9.1 68 8)] cw_Re_109 (To_addEye_c F l1 (M9.1 68 8) M11) lc_18 rfl rfl rfl rfl rfl rfl rfl d_Re_takeEyeSentence_78 (fun r12 M13 => ?_)
      refine g_iconst hC d_Re_takeEyeSentence_81 k_i1 ?_
      exact g_zret hC hR tv_z1 d_Re_takeEyeSentence_82
    · refine g_iconst hC d_Re_takeEyeSentence_70 k_i0 ?_
      exact g_zret hC hR tv_z0 d_Re_takeEyeSentence_71
  · refine g_iconst hC d_Re_takeEyeSentence_54 k_i0 ?_
    exact g_zret hC hR tv_z0 d_Re_takeEyeSentence_55
set_option maxHeartbeats 2000000 in
theorem Re_takeEyeSentence_c {l : Launch} {θ : tv_Th} (F : Nat) (M : tv_M) : tv_Ct l θ ⟨"TiedViews$Reader", "takeEyeSentence", "()Z"⟩ prog_8_method_11_code 3 (some .boolean) 6 tv_ei [.ref (θ.1 + 68)] M (Re_takeEyeSentence F M) := by
  refine tv_ofG [some (.ref (θ.1 + 68)), none, none] rfl rfl (tv_ent 2 rfl) ?_
  intro κ hl ht hC hR
  subst hl; subst ht
  unfold Re_takeEyeSentence
  refine g_aload_n hC d_Re_takeEyeSentence_0 rfl ?_
  refine fg_Re_15 hC lc_68 d_Re_takeEyeSentence_1 p0_68_0 ?_
  refine fg_Re_92 hC lc_18 d_Re_takeEyeSentence_4 ?_
  refine g_bipush hC d_Re_takeEyeSentence_7 k_b8 ?_
  refine g_icmp_lt (tgt := 18) hC d_Re_takeEyeSentence_9 (by decide) (fun _ => ?_) (fun _ => ?_)
  · refine g_aload_n hC d_Re_takeEyeSentence_18 rfl ?_
    refine gv_callVv hC [] cw_Re_31 (Re_goOn_c F M) lc_68 rfl rfl rfl rfl rfl rfl rfl d_Re_takeEyeSentence_19 (fun r1 M2 => ?_)
    refine g_aload_n hC d_Re_takeEyeSentence_22 rfl ?_
    refine gv_callVi hC [] cw_Re_95 (Re_takeSort_c F M2) lc_68 rfl rfl rfl rfl rfl rfl rfl d_Re_takeEyeSentence_23 (fun r3 M4 => ?_)
    refine g_if_ne (tgt := 31) hC d_Re_takeEyeSentence_26 (by decide) (fun _ => ?_) (fun _ => ?_)
    · refine g_aload_n hC d_Re_takeEyeSentence_31 rfl ?_
      refine fg_Re_98 hC lc_68 d_Re_takeEyeSentence_32 ?_
      refine g_istore_n (ls' := [some (.ref (κ.b + 68)), some (.int (M4.1 68 8)), none]) hC d_Re_takeEyeSentence_35 rfl rfl ?_
      refine g_aload_n hC d_Re_takeEyeSentence_36 rfl ?_
      refine g_iconst hC d_Re_takeEyeSentence_37 k_i1 ?_
      refine g_iload_n hC d_Re_takeEyeSentence_38 rfl ?_
      refine g_iconst hC d_Re_takeEyeSentence_39 k_i3 ?_
      refine g_icmp_ne (tgt := 47) hC d_Re_takeEyeSentence_40 (by decide) (fun _ => ?_) (fun _ => ?_)
      · refine g_iconst hC d_Re_takeEyeSentence_47 k_i3 ?_
        exact Re_takeEyeSentence_L48_g hC hR F (M4.1 68 8) 3 1 M4
      · refine g_iconst hC d_Re_takeEyeSentence_43 k_i4 ?_
        refine g_goto (tgt := 48) hC d_Re_takeEyeSentence_44 (by decide) ?_
        exact Re_takeEyeSentence_L48_g hC hR F (M4.1 68 8) 4 1 M4
    · refine g_iconst hC d_Re_takeEyeSentence_29 k_i0 ?_
      exact g_zret hC hR tv_z0 d_Re_takeEyeSentence_30
  · refine g_aload_n hC d_Re_takeEyeSentence_12 rfl ?_
    refine g_iconst hC d_Re_takeEyeSentence_13 k_i3 ?_
    refine gv_callVi hC [.int 3] cw_Re_88 (Re_fails_c F 3 M) lc_68 rfl rfl rfl rfl rfl rfl rfl d_Re_takeEyeSentence_14 (fun r5 M6 => ?_)
    refine g_zo (fun z7 => ?_)
    exact g_zret hC hR z7 d_Re_takeEyeSentence_17
theorem d_To_nextTie_0 : decode prog_12_method_13_code 0 = .ok (.aload_n 0, 1) := by decide +kernel
theorem d_To_nextTie_1 : decode prog_12_method_13_code 1 = .ok (.getfield 41, 3) := by decide +kernel
theorem d_To_nextTie_4 : decode prog_12_method_13_code 4 = .ok (.bipush 10, 2) := by decide +kernel
theorem d_To_nextTie_6 : decode prog_12_method_13_code 6 = .ok (.if_icmp .lt 7, 3) := by decide +kernel
theorem d_To_nextTie_9 : decode prog_12_method_13_code 9 = .ok (.aconst_null, 1) := by decide +kernel
theorem d_To_nextTie_10 : decode prog_12_method_13_code 10 = .ok (.goto 12, 3) := by decide +kernel
theorem d_To_nextTie_13 : decode prog_12_method_13_code 13 = .ok (.aload_n 0, 1) := by decide +kernel
theorem d_To_nextTie_14 : decode prog_12_method_13_code 14 = .ok (.getfield 19, 3) := by decide +kernel
theorem d_To_nextTie_17 : decode prog_12_method_13_code 17 = .ok (.aload_n 0, 1) := by decide +kernel
theorem d_To_nextTie_18 : decode prog_12_method_13_code 18 = .ok (.getfield 41, 3) := by decide +kernel
theorem d_To_nextTie_21 : decode prog_12_method_13_code 21 = .ok (.aaload, 1) := by decide +kernel
theorem d_To_nextTie_22 : decode prog_12_method_13_code 22 = .ok (.areturn, 1) := by decide +kernel
set_option maxHeartbeats 2000000 in
theorem To_nextTie_c {l : Launch} {θ : tv_Th} (F : Nat) (M : tv_M) : tv_Ct l θ ⟨"TiedViews$Told", "nextTie", "()LTiedViews$Tie;"⟩ prog_12_method_13_code 1 (some (.object "TiedViews$Tie")) 0 (tv_er θ.1) [.ref (θ.1 + 18)] M (To_nextTie F M) := by
  refine tv_ofG [some (.ref (θ.1 + 18))] rfl rfl (tv_ent 0 rfl) ?_
  intro κ hl ht hC hR
  subst hl; subst ht
  unfold To_nextTie
  refine g_aload_n hC d_To_nextTie_0 rfl ?_
  refine fg_To_41 hC lc_18 d_To_nextTie_1 ?_
  refine g_bipush hC d_To_nextTie_4 k_b10 ?_
  refine g_icmp_lt (tgt := 13) hC d_To_nextTie_6 (by decide) (fun _ => ?_) (fun _ => ?_)
  · refine g_aload_n hC d_To_nextTie_13 rfl ?_
    refine fg_To_19 hC lc_18 d_To_nextTie_14 p0_18_2 ?_
    refine g_aload_n hC d_To_nextTie_17 rfl ?_
    refine fg_To_41 hC lc_18 d_To_nextTie_18 ?_
    refine gv_aald hC 2 ly_20 rfl d_To_nextTie_21 (fun p1 => ?_)
    refine g_gl (fun h2 => ?_)
    exact g_aret hC hR (Or.inl ⟨_, rfl⟩) (some p1) d_To_nextTie_22
  · refine g_null hC d_To_nextTie_9 ?_
    refine g_goto (tgt := 22) hC d_To_nextTie_10 (by decide) ?_
    exact g_aret hC hR (Or.inl ⟨_, rfl⟩) (none) d_To_nextTie_22
theorem d_To_eyeAt_0 : decode prog_12_method_4_code 0 = .ok (.iload_n 1, 1) := by decide +kernel
theorem d_To_eyeAt_1 : decode prog_12_method_4_code 1 = .ok (.ifCond .lt 11, 3) := by decide +kernel
theorem d_To_eyeAt_4 : decode prog_12_method_4_code 4 = .ok (.iload_n 1, 1) := by decide +kernel
theorem d_To_eyeAt_5 : decode prog_12_method_4_code 5 = .ok (.aload_n 0, 1) := by decide +kernel
theorem d_To_eyeAt_6 : decode prog_12_method_4_code 6 = .ok (.getfield 35, 3) := by decide +kernel
theorem d_To_eyeAt_9 : decode prog_12_method_4_code 9 = .ok (.if_icmp .lt 7, 3) := by decide +kernel
theorem d_To_eyeAt_12 : decode prog_12_method_4_code 12 = .ok (.aconst_null, 1) := by decide +kernel
theorem d_To_eyeAt_13 : decode prog_12_method_4_code 13 = .ok (.goto 9, 3) := by decide +kernel
theorem d_To_eyeAt_16 : decode prog_12_method_4_code 16 = .ok (.aload_n 0, 1) := by decide +kernel
theorem d_To_eyeAt_17 : decode prog_12_method_4_code 17 = .ok (.getfield 11, 3) := by decide +kernel
theorem d_To_eyeAt_20 : decode prog_12_method_4_code 20 = .ok (.iload_n 1, 1) := by decide +kernel
theorem d_To_eyeAt_21 : decode prog_12_method_4_code 21 = .ok (.aaload, 1) := by decide +kernel
theorem d_To_eyeAt_22 : decode prog_12_method_4_code 22 = .ok (.areturn, 1) := by decide +kernel
set_option maxHeartbeats 2000000 in
theorem To_eyeAt_c {l : Launch} {θ : tv_Th} (F : Nat) (a1 : Int32) (M : tv_M) : tv_Ct l θ ⟨"TiedViews$Told", "eyeAt", "(I)LTiedViews$Eye;"⟩ prog_12_method_4_code 2 (some (.object "TiedViews$Eye")) 0 (tv_er θ.1) [.ref (θ.1 + 18), .int a1] M (To_eyeAt F a1 M) := by
  refine tv_ofG [some (.ref (θ.1 + 18)), some (.int a1)] rfl rfl (tv_ent 0 rfl) ?_
  intro κ hl ht hC hR
  subst hl; subst ht
  unfold To_eyeAt
  refine g_iload_n hC d_To_eyeAt_0 rfl ?_
  refine g_if_lt (tgt := 12) hC d_To_eyeAt_1 (by decide) (fun _ => ?_) (fun _ => ?_)
  · refine g_null hC d_To_eyeAt_12 ?_
    refine g_goto (tgt := 22) hC d_To_eyeAt_13 (by decide) ?_
    exact g_aret hC hR (Or.inl ⟨_, rfl⟩) (none) d_To_eyeAt_22
  · refine g_iload_n hC d_To_eyeAt_4 rfl ?_
    refine g_aload_n hC d_To_eyeAt_5 rfl ?_
    refine fg_To_35 hC lc_18 d_To_eyeAt_6 ?_
    refine g_icmp_lt (tgt := 16) hC d_To_eyeAt_9 (by decide) (fun _ => ?_) (fun _ => ?_)
    · refine g_aload_n hC d_To_eyeAt_16 rfl ?_
      refine fg_To_11 hC lc_18 d_To_eyeAt_17 p0_18_1 ?_
      refine g_iload_n hC d_To_eyeAt_20 rfl ?_
      refine gv_aald hC 1 ly_19 rfl d_To_eyeAt_21 (fun p1 => ?_)
      refine g_gl (fun h2 => ?_)
      exact g_aret hC hR (Or.inl ⟨_, rfl⟩) (some p1) d_To_eyeAt_22
    · refine g_null hC d_To_eyeAt_12 ?_
      refine g_goto (tgt := 22) hC d_To_eyeAt_13 (by decide) ?_
      exact g_aret hC hR (Or.inl ⟨_, rfl⟩) (none) d_To_eyeAt_22
theorem d_Ey_isChoice_0 : decode prog_6_method_3_code 0 = .ok (.aload_n 0, 1) := by decide +kernel
theorem d_Ey_isChoice_1 : decode prog_6_method_3_code 1 = .ok (.getfield 19, 3) := by decide +kernel
theorem d_Ey_isChoice_4 : decode prog_6_method_3_code 4 = .ok (.iconst 3, 1) := by decide +kernel
theorem d_Ey_isChoice_5 : decode prog_6_method_3_code 5 = .ok (.if_icmp .ne 7, 3) := by decide +kernel
theorem d_Ey_isChoice_8 : decode prog_6_method_3_code 8 = .ok (.iconst 1, 1) := by decide +kernel
theorem d_Ey_isChoice_9 : decode prog_6_method_3_code 9 = .ok (.goto 4, 3) := by decide +kernel
theorem d_Ey_isChoice_12 : decode prog_6_method_3_code 12 = .ok (.iconst 0, 1) := by decide +kernel
theorem d_Ey_isChoice_13 : decode prog_6_method_3_code 13 = .ok (.ireturn, 1) := by decide +kernel
set_option maxHeartbeats 2000000 in
theorem Ey_isChoice_c {l : Launch} {θ : tv_Th} (F : Nat) (t : Nat) (M : tv_M) : tv_Ct l θ ⟨"TiedViews$Eye", "isChoice", "()Z"⟩ prog_6_method_3_code 1 (some .boolean) 0 tv_ei [.ref (θ.1 + t)] M (Ey_isChoice F t M) := by
  refine tv_ofG [some (.ref (θ.1 + t))] rfl rfl (tv_ent 0 rfl) ?_
  intro κ hl ht hC hR
  subst hl; subst ht
  unfold Ey_isChoice
  refine g_gl (fun h1 => ?_)
  refine g_aload_n hC d_Ey_isChoice_0 rfl ?_
  refine fg_Ey_19 hC h1 d_Ey_isChoice_1 ?_
  refine g_iconst hC d_Ey_isChoice_4 k_i3 ?_
  refine g_icmp_ne (tgt := 12) hC d_Ey_isChoice_5 (by decide) (fun _ => ?_) (fun _ => ?_)
  · refine g_iconst hC d_Ey_isChoice_12 k_i0 ?_
    exact g_zret hC hR tv_z0 d_Ey_isChoice_13
  · refine g_iconst hC d_Ey_isChoice_8 k_i1 ?_
    refine g_goto (tgt := 13) hC d_Ey_isChoice_9 (by decide) ?_
    exact g_zret hC hR tv_z1 d_Ey_isChoice_13
theorem d_Re_takeEye_0 : decode prog_8_method_18_code 0 = .ok (.aload_n 0, 1) := by decide +kernel
theorem d_Re_takeEye_1 : decode prog_8_method_18_code 1 = .ok (.getfield 34, 3) := by decide +kernel
theorem d_Re_takeEye_4 : decode prog_8_method_18_code 4 = .ok (.iconst 2, 1) := by decide +kernel
theorem d_Re_takeEye_5 : decode prog_8_method_18_code 5 = .ok (.if_icmp .eq 9, 3) := by decide +kernel
theorem d_Re_takeEye_8 : decode prog_8_method_18_code 8 = .ok (.aload_n 0, 1) := by decide +kernel
theorem d_Re_takeEye_9 : decode prog_8_method_18_code 9 = .ok (.iconst 1, 1) := by decide +kernel
theorem d_Re_takeEye_10 : decode prog_8_method_18_code 10 = .ok (.invokevirtual 88, 3) := by decide +kernel
theorem d_Re_takeEye_13 : decode prog_8_method_18_code 13 = .ok (.ireturn, 1) := by decide +kernel
theorem d_Re_takeEye_14 : decode prog_8_method_18_code 14 = .ok (.aload_n 0, 1) := by decide +kernel
theorem d_Re_takeEye_15 : decode prog_8_method_18_code 15 = .ok (.getfield 15, 3) := by decide +kernel
theorem d_Re_takeEye_18 : decode prog_8_method_18_code 18 = .ok (.aload_n 0, 1) := by decide +kernel
theorem d_Re_takeEye_19 : decode prog_8_method_18_code 19 = .ok (.getfield 58, 3) := by decide +kernel
theorem d_Re_takeEye_22 : decode prog_8_method_18_code 22 = .ok (.invokevirtual 185, 3) := by decide +kernel
theorem d_Re_takeEye_25 : decode prog_8_method_18_code 25 = .ok (.astore_n 3, 1) := by decide +kernel
theorem d_Re_takeEye_26 : decode prog_8_method_18_code 26 = .ok (.aload_n 3, 1) := by decide +kernel
theorem d_Re_takeEye_27 : decode prog_8_method_18_code 27 = .ok (.ifnull 19, 3) := by decide +kernel
theorem d_Re_takeEye_30 : decode prog_8_method_18_code 30 = .ok (.aload_n 3, 1) := by decide +kernel
theorem d_Re_takeEye_31 : decode prog_8_method_18_code 31 = .ok (.invokevirtual 188, 3) := by decide +kernel
theorem d_Re_takeEye_34 : decode prog_8_method_18_code 34 = .ok (.iload_n 1, 1) := by decide +kernel
theorem d_Re_takeEye_35 : decode prog_8_method_18_code 35 = .ok (.if_icmp .ne 11, 3) := by decide +kernel
theorem d_Re_takeEye_38 : decode prog_8_method_18_code 38 = .ok (.aload_n 0, 1) := by decide +kernel
theorem d_Re_takeEye_39 : decode prog_8_method_18_code 39 = .ok (.getfield 58, 3) := by decide +kernel
theorem d_Re_takeEye_42 : decode prog_8_method_18_code 42 = .ok (.iload_n 2, 1) := by decide +kernel
theorem d_Re_takeEye_43 : decode prog_8_method_18_code 43 = .ok (.if_icmp .ne 9, 3) := by decide +kernel
theorem d_Re_takeEye_46 : decode prog_8_method_18_code 46 = .ok (.aload_n 0, 1) := by decide +kernel
theorem d_Re_takeEye_47 : decode prog_8_method_18_code 47 = .ok (.iconst 2, 1) := by decide +kernel
theorem d_Re_takeEye_48 : decode prog_8_method_18_code 48 = .ok (.invokevirtual 88, 3) := by decide +kernel
theorem d_Re_takeEye_51 : decode prog_8_method_18_code 51 = .ok (.ireturn, 1) := by decide +kernel
theorem d_Re_takeEye_52 : decode prog_8_method_18_code 52 = .ok (.aload_n 0, 1) := by decide +kernel
theorem d_Re_takeEye_53 : decode prog_8_method_18_code 53 = .ok (.aload_n 0, 1) := by decide +kernel
theorem d_Re_takeEye_54 : decode prog_8_method_18_code 54 = .ok (.getfield 58, 3) := by decide +kernel
theorem d_Re_takeEye_57 : decode prog_8_method_18_code 57 = .ok (.putfield 98, 3) := by decide +kernel
theorem d_Re_takeEye_60 : decode prog_8_method_18_code 60 = .ok (.aload_n 0, 1) := by decide +kernel
theorem d_Re_takeEye_61 : decode prog_8_method_18_code 61 = .ok (.invokevirtual 31, 3) := by decide +kernel
theorem d_Re_takeEye_64 : decode prog_8_method_18_code 64 = .ok (.iconst 1, 1) := by decide +kernel
theorem d_Re_takeEye_65 : decode prog_8_method_18_code 65 = .ok (.ireturn, 1) := by decide +kernel
set_option maxHeartbeats 2000000 in
theorem Re_takeEye_c {l : Launch} {θ : tv_Th} (F : Nat) (a1 : Int32) (a2 : Int32) (M : tv_M) : tv_Ct l θ ⟨"TiedViews$Reader", "takeEye", "(ZI)Z"⟩ prog_8_method_18_code 4 (some .boolean) 2 tv_ei [.ref (θ.1 + 68), .int a1, .int a2] M (Re_takeEye F a1 a2 M) := by
  refine tv_ofG [some (.ref (θ.1 + 68)), some (.int a1), some (.int a2), none] rfl rfl (tv_ent 1 rfl) ?_
  intro κ hl ht hC hR
  subst hl; subst ht
  unfold Re_takeEye
  refine g_aload_n hC d_Re_takeEye_0 rfl ?_
  refine fg_Re_34 hC lc_68 d_Re_takeEye_1 ?_
  refine g_iconst hC d_Re_takeEye_4 k_i2 ?_
  refine g_icmp_eq (tgt := 14) hC d_Re_takeEye_5 (by decide) (fun _ => ?_) (fun _ => ?_)
  · refine g_aload_n hC d_Re_takeEye_14 rfl ?_
    refine fg_Re_15 hC lc_68 d_Re_takeEye_15 p0_68_0 ?_
    refine g_aload_n hC d_Re_takeEye_18 rfl ?_
    refine fg_Re_58 hC lc_68 d_Re_takeEye_19 ?_
    refine gv_callVr hC [.int (M.1 68 7)] cw_Re_185 (To_eyeAt_c F (M.1 68 7) M) lc_18 rfl rfl rfl rfl rfl rfl rfl d_Re_takeEye_22 (fun r1 M2 => ?_)
    refine g_astore_nQ (ls' := [some (.ref (κ.b + 68)), some (.int a1), some (.int a2), some (tv_re κ.b r1)]) hC d_Re_takeEye_25 rfl rfl ?_
    refine g_aload_nQ hC d_Re_takeEye_26 rfl ?_
    rcases r1 with _ | p3
    · refine g_nlN ?_
      refine g_ifnullN (tgt := 46) hC d_Re_takeEye_27 (by decide) ?_
      refine g_aload_n hC d_Re_takeEye_46 rfl ?_
      refine g_iconst hC d_Re_takeEye_47 k_i2 ?_
      refine gv_callVi hC [.int 2] cw_Re_88 (Re_fails_c F 2 M2) lc_68 rfl rfl rfl rfl rfl rfl rfl d_Re_takeEye_48 (fun r4 M5 => ?_)
      refine g_zo (fun z6 => ?_)
      exact g_zret hC hR z6 d_Re_takeEye_51
    · refine g_nlS ?_
      refine g_ifnullR hC d_Re_takeEye_27 ?_
      refine g_gl (fun h7 => ?_)
      refine g_aload_n hC d_Re_takeEye_30 rfl ?_
      refine gv_callVi hC [] cw_Re_188 (Ey_isChoice_c F p3 M2) h7 rfl rfl rfl rfl rfl rfl rfl d_Re_takeEye_31 (fun r8 M9 => ?_)
      refine g_iload_n hC d_Re_takeEye_34 rfl ?_
      refine g_icmp_ne (tgt := 46) hC d_Re_takeEye_35 (by decide) (fun _ => ?_) (fun _ => ?_)
      · refine g_aload_n hC d_Re_takeEye_46 rfl ?_
        refine g_iconst hC d_Re_takeEye_47 k_i2 ?_
        refine gv_callVi hC [.int 2] cw_Re_88 (Re_fails_c F 2 M9) lc_68 rfl rfl rfl rfl rfl rfl rfl d_Re_takeEye_48 (fun r10 M11 => ?_)
        refine g_zo (fun z12 => ?_)
        exact g_zret hC hR z12 d_Re_takeEye_51
      · refine g_aload_n hC d_Re_takeEye_38 rfl ?_
        refine fg_Re_58 hC lc_68 d_Re_takeEye_39 ?_
        refine g_iload_n hC d_Re_takeEye_42 rfl ?_
        refine g_icmp_ne (tgt := 52) hC d_Re_takeEye_43 (by decide) (fun _ => ?_) (fun _ => ?_)
        · refine g_aload_n hC d_Re_takeEye_52 rfl ?_
          refine g_aload_n hC d_Re_takeEye_53 rfl ?_
          refine fg_Re_58 hC lc_68 d_Re_takeEye_54 ?_
          refine fp_Re_98 hC lc_68 d_Re_takeEye_57 (fun M13 => ?_)
          refine g_aload_n hC d_Re_takeEye_60 rfl ?_
          refine gv_callVv hC [] cw_Re_31 (Re_goOn_c F M13) lc_68 rfl rfl rfl rfl rfl rfl rfl d_Re_takeEye_61 (fun r14 M15 => ?_)
          refine g_iconst hC d_Re_takeEye_64 k_i1 ?_
          exact g_zret hC hR tv_z1 d_Re_takeEye_65
        · refine g_aload_n hC d_Re_takeEye_46 rfl ?_
          refine g_iconst hC d_Re_takeEye_47 k_i2 ?_
          refine gv_callVi hC [.int 2] cw_Re_88 (Re_fails_c F 2 M9) lc_68 rfl rfl rfl rfl rfl rfl rfl d_Re_takeEye_48 (fun r16 M17 => ?_)
          refine g_zo (fun z18 => ?_)
          exact g_zret hC hR z18 d_Re_takeEye_51
  · refine g_aload_n hC d_Re_takeEye_8 rfl ?_
    refine g_iconst hC d_Re_takeEye_9 k_i1 ?_
    refine gv_callVi hC [.int 1] cw_Re_88 (Re_fails_c F 1 M) lc_68 rfl rfl rfl rfl rfl rfl rfl d_Re_takeEye_10 (fun r19 M20 => ?_)
    refine g_zo (fun z21 => ?_)
    exact g_zret hC hR z21 d_Re_takeEye_13
theorem d_Re_takeEyes_0 : decode prog_8_method_13_code 0 = .ok (.aload_n 0, 1) := by decide +kernel
theorem d_Re_takeEyes_1 : decode prog_8_method_13_code 1 = .ok (.iconst 0, 1) := by decide +kernel
theorem d_Re_takeEyes_2 : decode prog_8_method_13_code 2 = .ok (.ldc 146, 2) := by decide +kernel
theorem d_Re_takeEyes_4 : decode prog_8_method_13_code 4 = .ok (.invokevirtual 147, 3) := by decide +kernel
theorem d_Re_takeEyes_7 : decode prog_8_method_13_code 7 = .ok (.ifCond .ne 5, 3) := by decide +kernel
theorem d_Re_takeEyes_10 : decode prog_8_method_13_code 10 = .ok (.iconst 0, 1) := by decide +kernel
theorem d_Re_takeEyes_11 : decode prog_8_method_13_code 11 = .ok (.ireturn, 1) := by decide +kernel
theorem d_Re_takeEyes_12 : decode prog_8_method_13_code 12 = .ok (.aload_n 1, 1) := by decide +kernel
theorem d_Re_takeEyes_13 : decode prog_8_method_13_code 13 = .ok (.aload_n 0, 1) := by decide +kernel
theorem d_Re_takeEyes_14 : decode prog_8_method_13_code 14 = .ok (.getfield 98, 3) := by decide +kernel
theorem d_Re_takeEyes_17 : decode prog_8_method_13_code 17 = .ok (.putfield 131, 3) := by decide +kernel
theorem d_Re_takeEyes_20 : decode prog_8_method_13_code 20 = .ok (.aload_n 0, 1) := by decide +kernel
theorem d_Re_takeEyes_21 : decode prog_8_method_13_code 21 = .ok (.iconst 0, 1) := by decide +kernel
theorem d_Re_takeEyes_22 : decode prog_8_method_13_code 22 = .ok (.aload_n 1, 1) := by decide +kernel
theorem d_Re_takeEyes_23 : decode prog_8_method_13_code 23 = .ok (.getfield 131, 3) := by decide +kernel
theorem d_Re_takeEyes_26 : decode prog_8_method_13_code 26 = .ok (.invokevirtual 147, 3) := by decide +kernel
theorem d_Re_takeEyes_29 : decode prog_8_method_13_code 29 = .ok (.ifCond .ne 5, 3) := by decide +kernel
theorem d_Re_takeEyes_32 : decode prog_8_method_13_code 32 = .ok (.iconst 0, 1) := by decide +kernel
theorem d_Re_takeEyes_33 : decode prog_8_method_13_code 33 = .ok (.ireturn, 1) := by decide +kernel
theorem d_Re_takeEyes_34 : decode prog_8_method_13_code 34 = .ok (.aload_n 1, 1) := by decide +kernel
theorem d_Re_takeEyes_35 : decode prog_8_method_13_code 35 = .ok (.aload_n 0, 1) := by decide +kernel
theorem d_Re_takeEyes_36 : decode prog_8_method_13_code 36 = .ok (.getfield 98, 3) := by decide +kernel
theorem d_Re_takeEyes_39 : decode prog_8_method_13_code 39 = .ok (.putfield 140, 3) := by decide +kernel
theorem d_Re_takeEyes_42 : decode prog_8_method_13_code 42 = .ok (.iconst 1, 1) := by decide +kernel
theorem d_Re_takeEyes_43 : decode prog_8_method_13_code 43 = .ok (.ireturn, 1) := by decide +kernel
set_option maxHeartbeats 2000000 in
theorem Re_takeEyes_c {l : Launch} {θ : tv_Th} (F : Nat) (a1 : Nat) (M : tv_M) : tv_Ct l θ ⟨"TiedViews$Reader", "takeEyes", "(LTiedViews$Tie;)Z"⟩ prog_8_method_13_code 2 (some .boolean) 3 tv_ei [.ref (θ.1 + 68), .ref (θ.1 + a1)] M (Re_takeEyes F a1 M) := by
  refine tv_ofG [some (.ref (θ.1 + 68)), some (.ref (θ.1 + a1))] rfl rfl (tv_ent 0 rfl) ?_
  intro κ hl ht hC hR
  subst hl; subst ht
  unfold Re_takeEyes
  refine g_gl (fun h1 => ?_)
  refine g_aload_n hC d_Re_takeEyes_0 rfl ?_
  refine g_iconst hC d_Re_takeEyes_1 k_i0 ?_
  refine g_ldc hC d_Re_takeEyes_2 wk_Re_146 ?_
  refine gv_callVi hC [.int 0, .int (-1000000)] cw_Re_147 (Re_takeEye_c F 0 (-1000000) M) lc_68 rfl rfl rfl rfl rfl rfl rfl d_Re_takeEyes_4 (fun r2 M3 => ?_)
  refine g_if_ne (tgt := 12) hC d_Re_takeEyes_7 (by decide) (fun _ => ?_) (fun _ => ?_)
  · refine g_aload_n hC d_Re_takeEyes_12 rfl ?_
    refine g_aload_n hC d_Re_takeEyes_13 rfl ?_
    refine fg_Re_98 hC lc_68 d_Re_takeEyes_14 ?_
    refine fp_Re_131 hC h1 d_Re_takeEyes_17 (fun M4 => ?_)
    refine g_aload_n hC d_Re_takeEyes_20 rfl ?_
    refine g_iconst hC d_Re_takeEyes_21 k_i0 ?_
    refine g_aload_n hC d_Re_takeEyes_22 rfl ?_
    refine fg_Re_131 hC h1 d_Re_takeEyes_23 ?_
    refine gv_callVi hC [.int 0, .int (M4.1 a1 0)] cw_Re_147 (Re_takeEye_c F 0 (M4.1 a1 0) M4) lc_68 rfl rfl rfl rfl rfl rfl rfl d_Re_takeEyes_26 (fun r5 M6 => ?_)
    refine g_if_ne (tgt := 34) hC d_Re_takeEyes_29 (by decide) (fun _ => ?_) (fun _ => ?_)
    · refine g_aload_n hC d_Re_takeEyes_34 rfl ?_
      refine g_aload_n hC d_Re_takeEyes_35 rfl ?_
      refine fg_Re_98 hC lc_68 d_Re_takeEyes_36 ?_
      refine fp_Re_140 hC h1 d_Re_takeEyes_39 (fun M7 => ?_)
      refine g_iconst hC d_Re_takeEyes_42 k_i1 ?_
      exact g_zret hC hR tv_z1 d_Re_takeEyes_43
    · refine g_iconst hC d_Re_takeEyes_32 k_i0 ?_
      exact g_zret hC hR tv_z0 d_Re_takeEyes_33
  · refine g_iconst hC d_Re_takeEyes_10 k_i0 ?_
    exact g_zret hC hR tv_z0 d_Re_takeEyes_11
theorem d_Re_takeWord_0 : decode prog_8_method_20_code 0 = .ok (.aload_n 0, 1) := by decide +kernel
theorem d_Re_takeWord_1 : decode prog_8_method_20_code 1 = .ok (.aload_n 1, 1) := by decide +kernel
theorem d_Re_takeWord_2 : decode prog_8_method_20_code 2 = .ok (.invokevirtual 71, 3) := by decide +kernel
theorem d_Re_takeWord_5 : decode prog_8_method_20_code 5 = .ok (.ifCond .ne 9, 3) := by decide +kernel
theorem d_Re_takeWord_8 : decode prog_8_method_20_code 8 = .ok (.aload_n 0, 1) := by decide +kernel
theorem d_Re_takeWord_9 : decode prog_8_method_20_code 9 = .ok (.iconst 1, 1) := by decide +kernel
theorem d_Re_takeWord_10 : decode prog_8_method_20_code 10 = .ok (.invokevirtual 88, 3) := by decide +kernel
theorem d_Re_takeWord_13 : decode prog_8_method_20_code 13 = .ok (.ireturn, 1) := by decide +kernel
theorem d_Re_takeWord_14 : decode prog_8_method_20_code 14 = .ok (.aload_n 0, 1) := by decide +kernel
theorem d_Re_takeWord_15 : decode prog_8_method_20_code 15 = .ok (.invokevirtual 31, 3) := by decide +kernel
theorem d_Re_takeWord_18 : decode prog_8_method_20_code 18 = .ok (.iconst 1, 1) := by decide +kernel
theorem d_Re_takeWord_19 : decode prog_8_method_20_code 19 = .ok (.ireturn, 1) := by decide +kernel
set_option maxHeartbeats 2000000 in
theorem Re_takeWord_c {l : Launch} {θ : tv_Th} (F : Nat) (a1 : Nat) (M : tv_M) : tv_Ct l θ ⟨"TiedViews$Reader", "takeWord", "(Ljava/lang/String;)Z"⟩ prog_8_method_20_code 2 (some .boolean) 5 tv_ei [.ref (θ.1 + 68), .ref (θ.2.2.2.1 a1)] M (Re_takeWord F a1 M) := by
  refine tv_ofG [some (.ref (θ.1 + 68)), some (.ref (θ.2.2.2.1 a1))] rfl rfl (tv_ent 0 rfl) ?_
  intro κ hl ht hC hR
  subst hl; subst ht
  unfold Re_takeWord
  refine g_gs (fun hw => ?_)
  refine g_aload_n hC d_Re_takeWord_0 rfl ?_
  refine g_aload_n hC d_Re_takeWord_1 rfl ?_
  refine gv_callVi hC [.ref (κ.th.2.2.2.1 a1)] cw_Re_71 (Re_isWord_c F a1 M) lc_68 rfl rfl rfl rfl rfl rfl rfl d_Re_takeWord_2 (fun r1 M2 => ?_)
  refine g_if_ne (tgt := 14) hC d_Re_takeWord_5 (by decide) (fun _ => ?_) (fun _ => ?_)
  · refine g_aload_n hC d_Re_takeWord_14 rfl ?_
    refine gv_callVv hC [] cw_Re_31 (Re_goOn_c F M2) lc_68 rfl rfl rfl rfl rfl rfl rfl d_Re_takeWord_15 (fun r3 M4 => ?_)
    refine g_iconst hC d_Re_takeWord_18 k_i1 ?_
    exact g_zret hC hR tv_z1 d_Re_takeWord_19
  · refine g_aload_n hC d_Re_takeWord_8 rfl ?_
    refine g_iconst hC d_Re_takeWord_9 k_i1 ?_
    refine gv_callVi hC [.int 1] cw_Re_88 (Re_fails_c F 1 M2) lc_68 rfl rfl rfl rfl rfl rfl rfl d_Re_takeWord_10 (fun r5 M6 => ?_)
    refine g_zo (fun z7 => ?_)
    exact g_zret hC hR z7 d_Re_takeWord_13
theorem d_To_linearAt_0 : decode prog_12_method_5_code 0 = .ok (.aload_n 0, 1) := by decide +kernel
theorem d_To_linearAt_1 : decode prog_12_method_5_code 1 = .ok (.iload_n 1, 1) := by decide +kernel
theorem d_To_linearAt_2 : decode prog_12_method_5_code 2 = .ok (.invokevirtual 65, 3) := by decide +kernel
theorem d_To_linearAt_5 : decode prog_12_method_5_code 5 = .ok (.astore_n 2, 1) := by decide +kernel
theorem d_To_linearAt_6 : decode prog_12_method_5_code 6 = .ok (.aload_n 2, 1) := by decide +kernel
theorem d_To_linearAt_7 : decode prog_12_method_5_code 7 = .ok (.ifnull 10, 3) := by decide +kernel
theorem d_To_linearAt_10 : decode prog_12_method_5_code 10 = .ok (.aload_n 2, 1) := by decide +kernel
theorem d_To_linearAt_11 : decode prog_12_method_5_code 11 = .ok (.invokevirtual 69, 3) := by decide +kernel
theorem d_To_linearAt_14 : decode prog_12_method_5_code 14 = .ok (.ifCond .eq 7, 3) := by decide +kernel
theorem d_To_linearAt_17 : decode prog_12_method_5_code 17 = .ok (.aconst_null, 1) := by decide +kernel
theorem d_To_linearAt_18 : decode prog_12_method_5_code 18 = .ok (.goto 4, 3) := by decide +kernel
theorem d_To_linearAt_21 : decode prog_12_method_5_code 21 = .ok (.aload_n 2, 1) := by decide +kernel
theorem d_To_linearAt_22 : decode prog_12_method_5_code 22 = .ok (.areturn, 1) := by decide +kernel
set_option maxHeartbeats 2000000 in
theorem To_linearAt_c {l : Launch} {θ : tv_Th} (F : Nat) (a1 : Int32) (M : tv_M) : tv_Ct l θ ⟨"TiedViews$Told", "linearAt", "(I)LTiedViews$Eye;"⟩ prog_12_method_5_code 3 (some (.object "TiedViews$Eye")) 1 (tv_er θ.1) [.ref (θ.1 + 18), .int a1] M (To_linearAt F a1 M) := by
  refine tv_ofG [some (.ref (θ.1 + 18)), some (.int a1), none] rfl rfl (tv_ent 1 rfl) ?_
  intro κ hl ht hC hR
  subst hl; subst ht
  unfold To_linearAt
  refine g_aload_n hC d_To_linearAt_0 rfl ?_
  refine g_iload_n hC d_To_linearAt_1 rfl ?_
  refine gv_callVr hC [.int a1] cw_To_65 (To_eyeAt_c F a1 M) lc_18 rfl rfl rfl rfl rfl rfl rfl d_To_linearAt_2 (fun r1 M2 => ?_)
  refine g_astore_nQ (ls' := [some (.ref (κ.b + 18)), some (.int a1), some (tv_re κ.b r1)]) hC d_To_linearAt_5 rfl rfl ?_
  refine g_aload_nQ hC d_To_linearAt_6 rfl ?_
  rcases r1 with _ | p3
  · refine g_nlN ?_
    refine g_ifnullN (tgt := 17) hC d_To_linearAt_7 (by decide) ?_
    refine g_null hC d_To_linearAt_17 ?_
    refine g_goto (tgt := 22) hC d_To_linearAt_18 (by decide) ?_
    exact g_aret hC hR (Or.inl ⟨_, rfl⟩) (none) d_To_linearAt_22
  · refine g_nlS ?_
    refine g_ifnullR hC d_To_linearAt_7 ?_
    refine g_gl (fun h4 => ?_)
    refine g_aload_n hC d_To_linearAt_10 rfl ?_
    refine gv_callVi hC [] cw_To_69 (Ey_isChoice_c F p3 M2) h4 rfl rfl rfl rfl rfl rfl rfl d_To_linearAt_11 (fun r5 M6 => ?_)
    refine g_if_eq (tgt := 21) hC d_To_linearAt_14 (by decide) (fun _ => ?_) (fun _ => ?_)
    · refine g_aload_n hC d_To_linearAt_21 rfl ?_
      exact g_aret hC hR (Or.inl ⟨_, rfl⟩) (some p3) d_To_linearAt_22
    · refine g_null hC d_To_linearAt_17 ?_
      refine g_goto (tgt := 22) hC d_To_linearAt_18 (by decide) ?_
      exact g_aret hC hR (Or.inl ⟨_, rfl⟩) (none) d_To_linearAt_22
theorem d_Ti_tableOf_0 : decode prog_11_method_3_code 0 = .ok (.iload_n 1, 1) := by decide +kernel
theorem d_Ti_tableOf_1 : decode prog_11_method_3_code 1 = .ok (.aload_n 0, 1) := by decide +kernel
theorem d_Ti_tableOf_2 : decode prog_11_method_3_code 2 = .ok (.getfield 18, 3) := by decide +kernel
theorem d_Ti_tableOf_5 : decode prog_11_method_3_code 5 = .ok (.if_icmp .ne 10, 3) := by decide +kernel
theorem d_Ti_tableOf_8 : decode prog_11_method_3_code 8 = .ok (.aload_n 0, 1) := by decide +kernel
theorem d_Ti_tableOf_9 : decode prog_11_method_3_code 9 = .ok (.getfield 9, 3) := by decide +kernel
theorem d_Ti_tableOf_12 : decode prog_11_method_3_code 12 = .ok (.goto 7, 3) := by decide +kernel
theorem d_Ti_tableOf_15 : decode prog_11_method_3_code 15 = .ok (.aload_n 0, 1) := by decide +kernel
theorem d_Ti_tableOf_16 : decode prog_11_method_3_code 16 = .ok (.getfield 15, 3) := by decide +kernel
theorem d_Ti_tableOf_19 : decode prog_11_method_3_code 19 = .ok (.areturn, 1) := by decide +kernel
set_option maxHeartbeats 2000000 in
theorem Ti_tableOf_c {l : Launch} {θ : tv_Th} (F : Nat) (t : Nat) (a1 : Int32) (M : tv_M) : tv_Ct l θ ⟨"TiedViews$Tie", "tableOf", "(I)[I"⟩ prog_11_method_3_code 2 (some (.array .int)) 0 (tv_er θ.1) [.ref (θ.1 + t), .int a1] M (Ti_tableOf F t a1 M) := by
  refine tv_ofG [some (.ref (θ.1 + t)), some (.int a1)] rfl rfl (tv_ent 0 rfl) ?_
  intro κ hl ht hC hR
  subst hl; subst ht
  unfold Ti_tableOf
  refine g_gl (fun h1 => ?_)
  refine g_iload_n hC d_Ti_tableOf_0 rfl ?_
  refine g_aload_n hC d_Ti_tableOf_1 rfl ?_
  refine fg_Ti_18 hC h1 d_Ti_tableOf_2 ?_
  refine g_icmp_ne (tgt := 15) hC d_Ti_tableOf_5 (by decide) (fun _ => ?_) (fun _ => ?_)
  · refine g_aload_n hC d_Ti_tableOf_15 rfl ?_
    refine g_nn (fun p2 e5 => ?_)
    refine fg_Ti_15 hC h1 d_Ti_tableOf_16 e5 ?_
    refine g_gn (fun n4 h3 => ?_)
    exact g_aret hC hR (Or.inr ⟨_, rfl⟩) (some p2) d_Ti_tableOf_19
  · refine g_aload_n hC d_Ti_tableOf_8 rfl ?_
    refine g_nn (fun p6 e9 => ?_)
    refine fg_Ti_9 hC h1 d_Ti_tableOf_9 e9 ?_
    refine g_gn (fun n8 h7 => ?_)
    refine g_goto (tgt := 19) hC d_Ti_tableOf_12 (by decide) ?_
    exact g_aret hC hR (Or.inr ⟨_, rfl⟩) (some p6) d_Ti_tableOf_19
