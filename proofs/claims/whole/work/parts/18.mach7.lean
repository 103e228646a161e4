theorem d_Md_isRest_0 : decode prog_14_method_5_code 0 = .ok (.iload_n 1, 1) := by decide +kernel
theorem d_Md_isRest_1 : decode prog_14_method_5_code 1 = .ok (.i2l, 1) := by decide +kernel
theorem d_Md_isRest_2 : decode prog_14_method_5_code 2 = .ok (.lconst 0, 1) := by decide +kernel
theorem d_Md_isRest_3 : decode prog_14_method_5_code 3 = .ok (.aload_n 0, 1) := by decide +kernel
theorem d_Md_isRest_4 : decode prog_14_method_5_code 4 = .ok (.getfield 112, 3) := by decide +kernel
theorem d_Md_isRest_7 : decode prog_14_method_5_code 7 = .ok (.iconst 1, 1) := by decide +kernel
theorem d_Md_isRest_8 : decode prog_14_method_5_code 8 = .ok (.isub, 1) := by decide +kernel
theorem d_Md_isRest_9 : decode prog_14_method_5_code 9 = .ok (.i2l, 1) := by decide +kernel
theorem d_Md_isRest_10 : decode prog_14_method_5_code 10 = .ok (.invokestatic 115, 3) := by decide +kernel
theorem d_Md_isRest_13 : decode prog_14_method_5_code 13 = .ok (.ireturn, 1) := by decide +kernel
set_option maxHeartbeats 2000000 in
theorem Md_isRest_c {l : Launch} {θ : tv_Th} (F : Nat) (a1 : Int32) (M : tv_M) : tv_Ct l θ ⟨"TiedViewsModel", "isRest", "(I)Z"⟩ prog_14_method_5_code 2 (some .boolean) 1 tv_ei [.ref (θ.1 + 249), .int a1] M (Md_isRest F a1 M) := by
  refine tv_ofG [some (.ref (θ.1 + 249)), some (.int a1)] rfl rfl (tv_ent 0 rfl) ?_
  intro κ hl ht hC hR
  subst hl; subst ht
  unfold Md_isRest
  refine g_iload_n hC d_Md_isRest_0 rfl ?_
  refine g_i2l hC d_Md_isRest_1 ?_
  refine g_lconst hC d_Md_isRest_2 k_l0 ?_
  refine g_aload_n hC d_Md_isRest_3 rfl ?_
  refine fg_Md_112 hC lc_249 d_Md_isRest_4 ?_
  refine g_iconst hC d_Md_isRest_7 k_i1 ?_
  refine g_isub hC d_Md_isRest_8 ?_
  refine g_i2l hC d_Md_isRest_9 ?_
  refine gv_callSi hC [.long ((a1 : Int32).toInt64), .long 0, .long (((M.1 249 2) - 1 : Int32).toInt64)] cw_Md_115 (Md_in_c F ((a1 : Int32).toInt64) 0 (((M.1 249 2) - 1 : Int32).toInt64) M) rfl rfl rfl rfl rfl d_Md_isRest_10 (fun r1 M2 => ?_)
  refine g_zo (fun z3 => ?_)
  exact g_zret hC hR z3 d_Md_isRest_13
theorem d_Md_lookRests_0 : decode prog_14_method_12_code 0 = .ok (.aload_n 0, 1) := by decide +kernel
theorem d_Md_lookRests_1 : decode prog_14_method_12_code 1 = .ok (.getfield 17, 3) := by decide +kernel
theorem d_Md_lookRests_4 : decode prog_14_method_12_code 4 = .ok (.iload_n 1, 1) := by decide +kernel
theorem d_Md_lookRests_5 : decode prog_14_method_12_code 5 = .ok (.iaload, 1) := by decide +kernel
theorem d_Md_lookRests_6 : decode prog_14_method_12_code 6 = .ok (.ifCond .ge 9, 3) := by decide +kernel
theorem d_Md_lookRests_9 : decode prog_14_method_12_code 9 = .ok (.aload_n 0, 1) := by decide +kernel
theorem d_Md_lookRests_10 : decode prog_14_method_12_code 10 = .ok (.iconst 1, 1) := by decide +kernel
theorem d_Md_lookRests_11 : decode prog_14_method_12_code 11 = .ok (.invokevirtual 128, 3) := by decide +kernel
theorem d_Md_lookRests_14 : decode prog_14_method_12_code 14 = .ok (.ireturn, 1) := by decide +kernel
theorem d_Md_lookRests_15 : decode prog_14_method_12_code 15 = .ok (.iload_n 2, 1) := by decide +kernel
theorem d_Md_lookRests_16 : decode prog_14_method_12_code 16 = .ok (.ifCond .lt 19, 3) := by decide +kernel
theorem d_Md_lookRests_19 : decode prog_14_method_12_code 19 = .ok (.iload_n 2, 1) := by decide +kernel
theorem d_Md_lookRests_20 : decode prog_14_method_12_code 20 = .ok (.i2l, 1) := by decide +kernel
theorem d_Md_lookRests_21 : decode prog_14_method_12_code 21 = .ok (.iload_n 3, 1) := by decide +kernel
theorem d_Md_lookRests_22 : decode prog_14_method_12_code 22 = .ok (.i2l, 1) := by decide +kernel
theorem d_Md_lookRests_23 : decode prog_14_method_12_code 23 = .ok (.ladd, 1) := by decide +kernel
theorem d_Md_lookRests_24 : decode prog_14_method_12_code 24 = .ok (.aload_n 0, 1) := by decide +kernel
theorem d_Md_lookRests_25 : decode prog_14_method_12_code 25 = .ok (.getfield 21, 3) := by decide +kernel
theorem d_Md_lookRests_28 : decode prog_14_method_12_code 28 = .ok (.iload_n 1, 1) := by decide +kernel
theorem d_Md_lookRests_29 : decode prog_14_method_12_code 29 = .ok (.iaload, 1) := by decide +kernel
theorem d_Md_lookRests_30 : decode prog_14_method_12_code 30 = .ok (.i2l, 1) := by decide +kernel
theorem d_Md_lookRests_31 : decode prog_14_method_12_code 31 = .ok (.lcmp, 1) := by decide +kernel
theorem d_Md_lookRests_32 : decode prog_14_method_12_code 32 = .ok (.ifCond .le 9, 3) := by decide +kernel
theorem d_Md_lookRests_35 : decode prog_14_method_12_code 35 = .ok (.aload_n 0, 1) := by decide +kernel
theorem d_Md_lookRests_36 : decode prog_14_method_12_code 36 = .ok (.iconst 2, 1) := by decide +kernel
theorem d_Md_lookRests_37 : decode prog_14_method_12_code 37 = .ok (.invokevirtual 128, 3) := by decide +kernel
theorem d_Md_lookRests_40 : decode prog_14_method_12_code 40 = .ok (.ireturn, 1) := by decide +kernel
theorem d_Md_lookRests_41 : decode prog_14_method_12_code 41 = .ok (.iconst 0, 1) := by decide +kernel
theorem d_Md_lookRests_42 : decode prog_14_method_12_code 42 = .ok (.istore 4, 2) := by decide +kernel
theorem d_Md_lookRests_44 : decode prog_14_method_12_code 44 = .ok (.iload 4, 2) := by decide +kernel
theorem d_Md_lookRests_46 : decode prog_14_method_12_code 46 = .ok (.iload_n 3, 1) := by decide +kernel
theorem d_Md_lookRests_47 : decode prog_14_method_12_code 47 = .ok (.if_icmp .ge 33, 3) := by decide +kernel
theorem d_Md_lookRests_50 : decode prog_14_method_12_code 50 = .ok (.aload_n 0, 1) := by decide +kernel
theorem d_Md_lookRests_51 : decode prog_14_method_12_code 51 = .ok (.aload_n 0, 1) := by decide +kernel
theorem d_Md_lookRests_52 : decode prog_14_method_12_code 52 = .ok (.getfield 24, 3) := by decide +kernel
theorem d_Md_lookRests_55 : decode prog_14_method_12_code 55 = .ok (.bipush 40, 2) := by decide +kernel
theorem d_Md_lookRests_57 : decode prog_14_method_12_code 57 = .ok (.iload_n 1, 1) := by decide +kernel
theorem d_Md_lookRests_58 : decode prog_14_method_12_code 58 = .ok (.imul, 1) := by decide +kernel
theorem d_Md_lookRests_59 : decode prog_14_method_12_code 59 = .ok (.iload_n 2, 1) := by decide +kernel
theorem d_Md_lookRests_60 : decode prog_14_method_12_code 60 = .ok (.iadd, 1) := by decide +kernel
theorem d_Md_lookRests_61 : decode prog_14_method_12_code 61 = .ok (.iload 4, 2) := by decide +kernel
theorem d_Md_lookRests_63 : decode prog_14_method_12_code 63 = .ok (.iadd, 1) := by decide +kernel
theorem d_Md_lookRests_64 : decode prog_14_method_12_code 64 = .ok (.iaload, 1) := by decide +kernel
theorem d_Md_lookRests_65 : decode prog_14_method_12_code 65 = .ok (.invokevirtual 132, 3) := by decide +kernel
theorem d_Md_lookRests_68 : decode prog_14_method_12_code 68 = .ok (.ifCond .ne 6, 3) := by decide +kernel
theorem d_Md_lookRests_71 : decode prog_14_method_12_code 71 = .ok (.ldc 127, 2) := by decide +kernel
theorem d_Md_lookRests_73 : decode prog_14_method_12_code 73 = .ok (.ireturn, 1) := by decide +kernel
theorem d_Md_lookRests_74 : decode prog_14_method_12_code 74 = .ok (.iinc 4 1, 3) := by decide +kernel
theorem d_Md_lookRests_77 : decode prog_14_method_12_code 77 = .ok (.goto (-33), 3) := by decide +kernel
theorem d_Md_lookRests_80 : decode prog_14_method_12_code 80 = .ok (.aload_n 0, 1) := by decide +kernel
theorem d_Md_lookRests_81 : decode prog_14_method_12_code 81 = .ok (.iconst 0, 1) := by decide +kernel
theorem d_Md_lookRests_82 : decode prog_14_method_12_code 82 = .ok (.putfield 7, 3) := by decide +kernel
theorem d_Md_lookRests_85 : decode prog_14_method_12_code 85 = .ok (.iconst 0, 1) := by decide +kernel
theorem d_Md_lookRests_86 : decode prog_14_method_12_code 86 = .ok (.ireturn, 1) := by decide +kernel
set_option maxHeartbeats 2000000 in
theorem Md_lookRests_L44_g {κ : tv_Kt} (hC : tv_Cx κ "TiedViewsModel" prog_14_method_12_code 5 2) (hR : tv_Re κ (some .int)) (F : Nat) : ∀ (n : Nat) (l1 : Int32) (l2 : Int32) (l3 : Int32) (l4 : Int32) (M : tv_M), tv_G κ 5 (tv_Qm κ tv_ei) 44 [some (.ref (κ.b + 249)), some (.int l1), some (.int l2), some (.int l3), some (.int l4)] [] M (Md_lookRests_L44 F n l1 l2 l3 l4 M) := by
  intro n
  induction n with
  | zero => intro _ _ _ _ _; exact g_none
  | succ nn ih =>
    intro l1 l2 l3 l4 M
    rw [Md_lookRests_L44]
    refine g_iload hC d_Md_lookRests_44 rfl ?_
    refine g_iload_n hC d_Md_lookRests_46 rfl ?_
    refine g_icmp_ge (tgt := 80) hC d_Md_lookRests_47 (by decide) (fun _ => ?_) (fun _ => ?_)
    · refine g_aload_n hC d_Md_lookRests_80 rfl ?_
      refine g_iconst hC d_Md_lookRests_81 k_i0 ?_
      refine fp_Md_7 hC lc_249 d_Md_lookRests_82 (fun M9 => ?_)
      refine g_iconst hC d_Md_lookRests_85 k_i0 ?_
      exact g_iret hC hR d_Md_lookRests_86
    · refine g_aload_n hC d_Md_lookRests_50 rfl ?_
      refine g_aload_n hC d_Md_lookRests_51 rfl ?_
      refine fg_Md_24 hC lc_249 d_Md_lookRests_52 p0_249_5 ?_
      refine g_bipush hC d_Md_lookRests_55 k_b40 ?_
      refine g_iload_n hC d_Md_lookRests_57 rfl ?_
      refine g_imul hC d_Md_lookRests_58 ?_
      refine g_iload_n hC d_Md_lookRests_59 rfl ?_
      refine g_iadd hC d_Md_lookRests_60 ?_
      refine g_iload hC d_Md_lookRests_61 rfl ?_
      refine g_iadd hC d_Md_lookRests_63 ?_
      refine gv_iald hC ly_252 d_Md_lookRests_64 (fun x10 => ?_)
      refine gv_callVi hC [.int x10] cw_Md_132 (Md_isRest_c F x10 M) lc_249 rfl rfl rfl rfl rfl rfl rfl d_Md_lookRests_65 (fun r11 M12 => ?_)
      refine g_if_ne (tgt := 74) hC d_Md_lookRests_68 (by decide) (fun _ => ?_) (fun _ => ?_)
      · refine g_iinc (ls' := [some (.ref (κ.b + 249)), some (.int l1), some (.int l2), some (.int l3), some (.int (l4 + 1))]) hC d_Md_lookRests_74 rfl k_i1 rfl rfl ?_
        refine g_goto (tgt := 44) hC d_Md_lookRests_77 (by decide) ?_
        exact ih l1 l2 l3 (l4 + 1) M12
      · refine g_ldc hC d_Md_lookRests_71 wk_Md_127 ?_
        exact g_iret hC hR d_Md_lookRests_73
set_option maxHeartbeats 2000000 in
theorem Md_lookRests_c {l : Launch} {θ : tv_Th} (F : Nat) (a1 : Int32) (a2 : Int32) (a3 : Int32) (M : tv_M) : tv_Ct l θ ⟨"TiedViewsModel", "lookRests", "(III)I"⟩ prog_14_method_12_code 5 (some .int) 2 tv_ei [.ref (θ.1 + 249), .int a1, .int a2, .int a3] M (Md_lookRests F a1 a2 a3 M) := by
  refine tv_ofG [some (.ref (θ.1 + 249)), some (.int a1), some (.int a2), some (.int a3), none] rfl rfl (tv_ent 1 rfl) ?_
  intro κ hl ht hC hR
  subst hl; subst ht
  unfold Md_lookRests
  refine g_aload_n hC d_Md_lookRests_0 rfl ?_
  refine fg_Md_17 hC lc_249 d_Md_lookRests_1 p0_249_3 ?_
  refine g_iload_n hC d_Md_lookRests_4 rfl ?_
  refine gv_iald hC ly_250 d_Md_lookRests_5 (fun x1 => ?_)
  refine g_if_ge (tgt := 15) hC d_Md_lookRests_6 (by decide) (fun _ => ?_) (fun _ => ?_)
  · refine g_iload_n hC d_Md_lookRests_15 rfl ?_
    refine g_if_lt (tgt := 35) hC d_Md_lookRests_16 (by decide) (fun _ => ?_) (fun _ => ?_)
    · refine g_aload_n hC d_Md_lookRests_35 rfl ?_
      refine g_iconst hC d_Md_lookRests_36 k_i2 ?_
      refine gv_callVi hC [.int 2] cw_Md_128 (Md_finding_c F 2 M) lc_249 rfl rfl rfl rfl rfl rfl rfl d_Md_lookRests_37 (fun r2 M3 => ?_)
      exact g_iret hC hR d_Md_lookRests_40
    · refine g_iload_n hC d_Md_lookRests_19 rfl ?_
      refine g_i2l hC d_Md_lookRests_20 ?_
      refine g_iload_n hC d_Md_lookRests_21 rfl ?_
      refine g_i2l hC d_Md_lookRests_22 ?_
      refine g_ladd hC d_Md_lookRests_23 ?_
      refine g_aload_n hC d_Md_lookRests_24 rfl ?_
      refine fg_Md_21 hC lc_249 d_Md_lookRests_25 p0_249_4 ?_
      refine g_iload_n hC d_Md_lookRests_28 rfl ?_
      refine gv_iald hC ly_251 d_Md_lookRests_29 (fun x4 => ?_)
      refine g_i2l hC d_Md_lookRests_30 ?_
      refine g_lcmp hC d_Md_lookRests_31 ?_
      refine g_if_le (tgt := 41) hC d_Md_lookRests_32 (by decide) (fun _ => ?_) (fun _ => ?_)
      · refine g_iconst hC d_Md_lookRests_41 k_i0 ?_
        refine g_istore (ls' := [some (.ref (κ.b + 249)), some (.int a1), some (.int a2), some (.int a3), some (.int 0)]) hC d_Md_lookRests_42 rfl rfl ?_
        exact Md_lookRests_L44_g hC hR F F a1 a2 a3 0 M
      · refine g_aload_n hC d_Md_lookRests_35 rfl ?_
        refine g_iconst hC d_Md_lookRests_36 k_i2 ?_
        refine gv_callVi hC [.int 2] cw_Md_128 (Md_finding_c F 2 M) lc_249 rfl rfl rfl rfl rfl rfl rfl d_Md_lookRests_37 (fun r5 M6 => ?_)
        exact g_iret hC hR d_Md_lookRests_40
  · refine g_aload_n hC d_Md_lookRests_9 rfl ?_
    refine g_iconst hC d_Md_lookRests_10 k_i1 ?_
    refine gv_callVi hC [.int 1] cw_Md_128 (Md_finding_c F 1 M) lc_249 rfl rfl rfl rfl rfl rfl rfl d_Md_lookRests_11 (fun r7 M8 => ?_)
    exact g_iret hC hR d_Md_lookRests_14
theorem d_Md_reading_0 : decode prog_14_method_44_code 0 = .ok (.aload_n 0, 1) := by decide +kernel
theorem d_Md_reading_1 : decode prog_14_method_44_code 1 = .ok (.iconst 0, 1) := by decide +kernel
theorem d_Md_reading_2 : decode prog_14_method_44_code 2 = .ok (.putfield 1, 3) := by decide +kernel
theorem d_Md_reading_5 : decode prog_14_method_44_code 5 = .ok (.aload_n 0, 1) := by decide +kernel
theorem d_Md_reading_6 : decode prog_14_method_44_code 6 = .ok (.iload_n 1, 1) := by decide +kernel
theorem d_Md_reading_7 : decode prog_14_method_44_code 7 = .ok (.invokevirtual 294, 3) := by decide +kernel
theorem d_Md_reading_10 : decode prog_14_method_44_code 10 = .ok (.ifCond .eq 10, 3) := by decide +kernel
theorem d_Md_reading_13 : decode prog_14_method_44_code 13 = .ok (.iload_n 2, 1) := by decide +kernel
theorem d_Md_reading_14 : decode prog_14_method_44_code 14 = .ok (.invokestatic 121, 3) := by decide +kernel
theorem d_Md_reading_17 : decode prog_14_method_44_code 17 = .ok (.ifCond .ne 6, 3) := by decide +kernel
theorem d_Md_reading_20 : decode prog_14_method_44_code 20 = .ok (.ldc 127, 2) := by decide +kernel
theorem d_Md_reading_22 : decode prog_14_method_44_code 22 = .ok (.ireturn, 1) := by decide +kernel
theorem d_Md_reading_23 : decode prog_14_method_44_code 23 = .ok (.aload_n 0, 1) := by decide +kernel
theorem d_Md_reading_24 : decode prog_14_method_44_code 24 = .ok (.iload_n 2, 1) := by decide +kernel
theorem d_Md_reading_25 : decode prog_14_method_44_code 25 = .ok (.iload_n 3, 1) := by decide +kernel
theorem d_Md_reading_26 : decode prog_14_method_44_code 26 = .ok (.aload_n 0, 1) := by decide +kernel
theorem d_Md_reading_27 : decode prog_14_method_44_code 27 = .ok (.getfield 30, 3) := by decide +kernel
theorem d_Md_reading_30 : decode prog_14_method_44_code 30 = .ok (.iload_n 1, 1) := by decide +kernel
theorem d_Md_reading_31 : decode prog_14_method_44_code 31 = .ok (.iaload, 1) := by decide +kernel
theorem d_Md_reading_32 : decode prog_14_method_44_code 32 = .ok (.invokevirtual 297, 3) := by decide +kernel
theorem d_Md_reading_35 : decode prog_14_method_44_code 35 = .ok (.istore 4, 2) := by decide +kernel
theorem d_Md_reading_37 : decode prog_14_method_44_code 37 = .ok (.iload 4, 2) := by decide +kernel
theorem d_Md_reading_39 : decode prog_14_method_44_code 39 = .ok (.ifCond .ge 6, 3) := by decide +kernel
theorem d_Md_reading_42 : decode prog_14_method_44_code 42 = .ok (.iload 4, 2) := by decide +kernel
theorem d_Md_reading_44 : decode prog_14_method_44_code 44 = .ok (.ireturn, 1) := by decide +kernel
theorem d_Md_reading_45 : decode prog_14_method_44_code 45 = .ok (.aload_n 0, 1) := by decide +kernel
theorem d_Md_reading_46 : decode prog_14_method_44_code 46 = .ok (.getfield 79, 3) := by decide +kernel
theorem d_Md_reading_49 : decode prog_14_method_44_code 49 = .ok (.iload_n 1, 1) := by decide +kernel
theorem d_Md_reading_50 : decode prog_14_method_44_code 50 = .ok (.iconst 1, 1) := by decide +kernel
theorem d_Md_reading_51 : decode prog_14_method_44_code 51 = .ok (.bastore, 1) := by decide +kernel
theorem d_Md_reading_52 : decode prog_14_method_44_code 52 = .ok (.iconst 0, 1) := by decide +kernel
theorem d_Md_reading_53 : decode prog_14_method_44_code 53 = .ok (.istore 5, 2) := by decide +kernel
theorem d_Md_reading_55 : decode prog_14_method_44_code 55 = .ok (.iload 5, 2) := by decide +kernel
theorem d_Md_reading_57 : decode prog_14_method_44_code 57 = .ok (.aload_n 0, 1) := by decide +kernel
theorem d_Md_reading_58 : decode prog_14_method_44_code 58 = .ok (.getfield 30, 3) := by decide +kernel
theorem d_Md_reading_61 : decode prog_14_method_44_code 61 = .ok (.iload_n 1, 1) := by decide +kernel
theorem d_Md_reading_62 : decode prog_14_method_44_code 62 = .ok (.iaload, 1) := by decide +kernel
theorem d_Md_reading_63 : decode prog_14_method_44_code 63 = .ok (.if_icmp .ge 37, 3) := by decide +kernel
theorem d_Md_reading_66 : decode prog_14_method_44_code 66 = .ok (.aload_n 0, 1) := by decide +kernel
theorem d_Md_reading_67 : decode prog_14_method_44_code 67 = .ok (.getfield 82, 3) := by decide +kernel
theorem d_Md_reading_70 : decode prog_14_method_44_code 70 = .ok (.aload_n 0, 1) := by decide +kernel
theorem d_Md_reading_71 : decode prog_14_method_44_code 71 = .ok (.getfield 33, 3) := by decide +kernel
theorem d_Md_reading_74 : decode prog_14_method_44_code 74 = .ok (.iload_n 1, 1) := by decide +kernel
theorem d_Md_reading_75 : decode prog_14_method_44_code 75 = .ok (.iaload, 1) := by decide +kernel
theorem d_Md_reading_76 : decode prog_14_method_44_code 76 = .ok (.iload 5, 2) := by decide +kernel
theorem d_Md_reading_78 : decode prog_14_method_44_code 78 = .ok (.iadd, 1) := by decide +kernel
theorem d_Md_reading_79 : decode prog_14_method_44_code 79 = .ok (.aload_n 0, 1) := by decide +kernel
theorem d_Md_reading_80 : decode prog_14_method_44_code 80 = .ok (.getfield 24, 3) := by decide +kernel
theorem d_Md_reading_83 : decode prog_14_method_44_code 83 = .ok (.bipush 40, 2) := by decide +kernel
theorem d_Md_reading_85 : decode prog_14_method_44_code 85 = .ok (.iload_n 2, 1) := by decide +kernel
theorem d_Md_reading_86 : decode prog_14_method_44_code 86 = .ok (.imul, 1) := by decide +kernel
theorem d_Md_reading_87 : decode prog_14_method_44_code 87 = .ok (.iload_n 3, 1) := by decide +kernel
theorem d_Md_reading_88 : decode prog_14_method_44_code 88 = .ok (.iadd, 1) := by decide +kernel
theorem d_Md_reading_89 : decode prog_14_method_44_code 89 = .ok (.iload 5, 2) := by decide +kernel
theorem d_Md_reading_91 : decode prog_14_method_44_code 91 = .ok (.iadd, 1) := by decide +kernel
theorem d_Md_reading_92 : decode prog_14_method_44_code 92 = .ok (.iaload, 1) := by decide +kernel
theorem d_Md_reading_93 : decode prog_14_method_44_code 93 = .ok (.iastore, 1) := by decide +kernel
theorem d_Md_reading_94 : decode prog_14_method_44_code 94 = .ok (.iinc 5 1, 3) := by decide +kernel
theorem d_Md_reading_97 : decode prog_14_method_44_code 97 = .ok (.goto (-42), 3) := by decide +kernel
theorem d_Md_reading_100 : decode prog_14_method_44_code 100 = .ok (.iconst 1, 1) := by decide +kernel
theorem d_Md_reading_101 : decode prog_14_method_44_code 101 = .ok (.ireturn, 1) := by decide +kernel
set_option maxHeartbeats 2000000 in
theorem Md_reading_L55_g {κ : tv_Kt} (hC : tv_Cx κ "TiedViewsModel" prog_14_method_44_code 6 3) (hR : tv_Re κ (some .int)) (F : Nat) : ∀ (n : Nat) (l1 : Int32) (l2 : Int32) (l3 : Int32) (l5 : Int32) (M : tv_M), tv_G κ 6 (tv_Qm κ tv_ei) 55 [some (.ref (κ.b + 249)), some (.int l1), some (.int l2), some (.int l3), none, some (.int l5)] [] M (Md_reading_L55 F n l1 l2 l3 l5 M) := by
  intro n
  induction n with
  | zero => intro _ _ _ _ _; exact g_none
  | succ nn ih =>
    intro l1 l2 l3 l5 M
    rw [Md_reading_L55]
    refine g_iload hC d_Md_reading_55 rfl ?_
    refine g_aload_n hC d_Md_reading_57 rfl ?_
    refine fg_Md_30 hC lc_249 d_Md_reading_58 p0_249_8 ?_
    refine g_iload_n hC d_Md_reading_61 rfl ?_
    refine gv_iald hC ly_254 d_Md_reading_62 (fun x10 => ?_)
    refine g_icmp_ge (tgt := 100) hC d_Md_reading_63 (by decide) (fun _ => ?_) (fun _ => ?_)
    · refine g_iconst hC d_Md_reading_100 k_i1 ?_
      exact g_iret hC hR d_Md_reading_101
    · refine g_aload_n hC d_Md_reading_66 rfl ?_
      refine fg_Md_82 hC lc_249 d_Md_reading_67 p0_249_42 ?_
      refine g_aload_n hC d_Md_reading_70 rfl ?_
      refine fg_Md_33 hC lc_249 d_Md_reading_71 p0_249_9 ?_
      refine g_iload_n hC d_Md_reading_74 rfl ?_
      refine gv_iald hC ly_255 d_Md_reading_75 (fun x11 => ?_)
      refine g_iload hC d_Md_reading_76 rfl ?_
      refine g_iadd hC d_Md_reading_78 ?_
      refine g_aload_n hC d_Md_reading_79 rfl ?_
      refine fg_Md_24 hC lc_249 d_Md_reading_80 p0_249_5 ?_
      refine g_bipush hC d_Md_reading_83 k_b40 ?_
      refine g_iload_n hC d_Md_reading_85 rfl ?_
      refine g_imul hC d_Md_reading_86 ?_
      refine g_iload_n hC d_Md_reading_87 rfl ?_
      refine g_iadd hC d_Md_reading_88 ?_
      refine g_iload hC d_Md_reading_89 rfl ?_
      refine g_iadd hC d_Md_reading_91 ?_
      refine gv_iald hC ly_252 d_Md_reading_92 (fun x12 => ?_)
      refine gv_iast hC ly_271 d_Md_reading_93 (fun M13 => ?_)
      refine g_iinc (ls' := [some (.ref (κ.b + 249)), some (.int l1), some (.int l2), some (.int l3), none, some (.int (l5 + 1))]) hC d_Md_reading_94 rfl k_i1 rfl rfl ?_
      refine g_goto (tgt := 55) hC d_Md_reading_97 (by decide) ?_
      exact ih l1 l2 l3 (l5 + 1) M13
set_option maxHeartbeats 2000000 in
theorem Md_reading_c {l : Launch} {θ : tv_Th} (F : Nat) (a1 : Int32) (a2 : Int32) (a3 : Int32) (M : tv_M) : tv_Ct l θ ⟨"TiedViewsModel", "reading", "(III)I"⟩ prog_14_method_44_code 6 (some .int) 3 tv_ei [.ref (θ.1 + 249), .int a1, .int a2, .int a3] M (Md_reading F a1 a2 a3 M) := by
  refine tv_ofG [some (.ref (θ.1 + 249)), some (.int a1), some (.int a2), some (.int a3), none, none] rfl rfl (tv_ent 2 rfl) ?_
  intro κ hl ht hC hR
  subst hl; subst ht
  unfold Md_reading
  refine g_aload_n hC d_Md_reading_0 rfl ?_
  refine g_iconst hC d_Md_reading_1 k_i0 ?_
  refine fp_Md_1 hC lc_249 d_Md_reading_2 (fun M1 => ?_)
  refine g_aload_n hC d_Md_reading_5 rfl ?_
  refine g_iload_n hC d_Md_reading_6 rfl ?_
  refine gv_callVi hC [.int a1] cw_Md_294 (Md_isLinear_c F a1 M1) lc_249 rfl rfl rfl rfl rfl rfl rfl d_Md_reading_7 (fun r2 M3 => ?_)
  refine g_if_eq (tgt := 20) hC d_Md_reading_10 (by decide) (fun _ => ?_) (fun _ => ?_)
  · refine g_ldc hC d_Md_reading_20 wk_Md_127 ?_
    exact g_iret hC hR d_Md_reading_22
  · refine g_iload_n hC d_Md_reading_13 rfl ?_
    refine gv_callSi hC [.int a2] cw_Md_121 (Md_isSheet_c F a2 M3) rfl rfl rfl rfl rfl d_Md_reading_14 (fun r4 M5 => ?_)
    refine g_if_ne (tgt := 23) hC d_Md_reading_17 (by decide) (fun _ => ?_) (fun _ => ?_)
    · refine g_aload_n hC d_Md_reading_23 rfl ?_
      refine g_iload_n hC d_Md_reading_24 rfl ?_
      refine g_iload_n hC d_Md_reading_25 rfl ?_
      refine g_aload_n hC d_Md_reading_26 rfl ?_
      refine fg_Md_30 hC lc_249 d_Md_reading_27 p0_249_8 ?_
      refine g_iload_n hC d_Md_reading_30 rfl ?_
      refine gv_iald hC ly_254 d_Md_reading_31 (fun x6 => ?_)
      refine gv_callVi hC [.int a2, .int a3, .int x6] cw_Md_297 (Md_lookRests_c F a2 a3 x6 M5) lc_249 rfl rfl rfl rfl rfl rfl rfl d_Md_reading_32 (fun r7 M8 => ?_)
      refine g_istore (ls' := [some (.ref (κ.b + 249)), some (.int a1), some (.int a2), some (.int a3), some (.int r7), none]) hC d_Md_reading_35 rfl rfl ?_
      refine g_iload hC d_Md_reading_37 rfl ?_
      refine g_if_ge (tgt := 45) hC d_Md_reading_39 (by decide) (fun _ => ?_) (fun _ => ?_)
      · refine g_aload_n hC d_Md_reading_45 rfl ?_
        refine fg_Md_79 hC lc_249 d_Md_reading_46 p0_249_41 ?_
        refine g_iload_n hC d_Md_reading_49 rfl ?_
        refine g_iconst hC d_Md_reading_50 k_i1 ?_
        refine gv_zast hC ly_270 d_Md_reading_51 (fun M9 => ?_)
        refine g_iconst hC d_Md_reading_52 k_i0 ?_
        refine g_istore (ls' := [some (.ref (κ.b + 249)), some (.int a1), some (.int a2), some (.int a3), some (.int r7), some (.int 0)]) hC d_Md_reading_53 rfl rfl ?_
        refine g_mask [true, true, true, true, false, true] (ls' := [some (.ref (κ.b + 249)), some (.int a1), some (.int a2), some (.int a3), none, some (.int 0)]) rfl ?_
        exact Md_reading_L55_g hC hR F F a1 a2 a3 0 M9
      · refine g_iload hC d_Md_reading_42 rfl ?_
        exact g_iret hC hR d_Md_reading_44
    · refine g_ldc hC d_Md_reading_20 wk_Md_127 ?_
      exact g_iret hC hR d_Md_reading_22
theorem d_Md_unread_0 : decode prog_14_method_45_code 0 = .ok (.aload_n 0, 1) := by decide +kernel
theorem d_Md_unread_1 : decode prog_14_method_45_code 1 = .ok (.iconst 0, 1) := by decide +kernel
theorem d_Md_unread_2 : decode prog_14_method_45_code 2 = .ok (.putfield 1, 3) := by decide +kernel
theorem d_Md_unread_5 : decode prog_14_method_45_code 5 = .ok (.aload_n 0, 1) := by decide +kernel
theorem d_Md_unread_6 : decode prog_14_method_45_code 6 = .ok (.iload_n 1, 1) := by decide +kernel
theorem d_Md_unread_7 : decode prog_14_method_45_code 7 = .ok (.invokevirtual 294, 3) := by decide +kernel
theorem d_Md_unread_10 : decode prog_14_method_45_code 10 = .ok (.ifCond .ne 6, 3) := by decide +kernel
theorem d_Md_unread_13 : decode prog_14_method_45_code 13 = .ok (.ldc 127, 2) := by decide +kernel
theorem d_Md_unread_15 : decode prog_14_method_45_code 15 = .ok (.ireturn, 1) := by decide +kernel
theorem d_Md_unread_16 : decode prog_14_method_45_code 16 = .ok (.aload_n 0, 1) := by decide +kernel
theorem d_Md_unread_17 : decode prog_14_method_45_code 17 = .ok (.getfield 79, 3) := by decide +kernel
theorem d_Md_unread_20 : decode prog_14_method_45_code 20 = .ok (.iload_n 1, 1) := by decide +kernel
theorem d_Md_unread_21 : decode prog_14_method_45_code 21 = .ok (.baload, 1) := by decide +kernel
theorem d_Md_unread_22 : decode prog_14_method_45_code 22 = .ok (.ifCond .eq 7, 3) := by decide +kernel
theorem d_Md_unread_25 : decode prog_14_method_45_code 25 = .ok (.iconst 1, 1) := by decide +kernel
theorem d_Md_unread_26 : decode prog_14_method_45_code 26 = .ok (.goto 4, 3) := by decide +kernel
theorem d_Md_unread_29 : decode prog_14_method_45_code 29 = .ok (.iconst 0, 1) := by decide +kernel
theorem d_Md_unread_30 : decode prog_14_method_45_code 30 = .ok (.istore_n 2, 1) := by decide +kernel
theorem d_Md_unread_31 : decode prog_14_method_45_code 31 = .ok (.aload_n 0, 1) := by decide +kernel
theorem d_Md_unread_32 : decode prog_14_method_45_code 32 = .ok (.getfield 79, 3) := by decide +kernel
theorem d_Md_unread_35 : decode prog_14_method_45_code 35 = .ok (.iload_n 1, 1) := by decide +kernel
theorem d_Md_unread_36 : decode prog_14_method_45_code 36 = .ok (.iconst 0, 1) := by decide +kernel
theorem d_Md_unread_37 : decode prog_14_method_45_code 37 = .ok (.bastore, 1) := by decide +kernel
theorem d_Md_unread_38 : decode prog_14_method_45_code 38 = .ok (.iload_n 2, 1) := by decide +kernel
theorem d_Md_unread_39 : decode prog_14_method_45_code 39 = .ok (.ireturn, 1) := by decide +kernel
set_option maxHeartbeats 2000000 in
theorem Md_unread_c {l : Launch} {θ : tv_Th} (F : Nat) (a1 : Int32) (M : tv_M) : tv_Ct l θ ⟨"TiedViewsModel", "unread", "(I)I"⟩ prog_14_method_45_code 3 (some .int) 3 tv_ei [.ref (θ.1 + 249), .int a1] M (Md_unread F a1 M) := by
  refine tv_ofG [some (.ref (θ.1 + 249)), some (.int a1), none] rfl rfl (tv_ent 1 rfl) ?_
  intro κ hl ht hC hR
  subst hl; subst ht
  unfold Md_unread
  refine g_aload_n hC d_Md_unread_0 rfl ?_
  refine g_iconst hC d_Md_unread_1 k_i0 ?_
  refine fp_Md_1 hC lc_249 d_Md_unread_2 (fun M1 => ?_)
  refine g_aload_n hC d_Md_unread_5 rfl ?_
  refine g_iload_n hC d_Md_unread_6 rfl ?_
  refine gv_callVi hC [.int a1] cw_Md_294 (Md_isLinear_c F a1 M1) lc_249 rfl rfl rfl rfl rfl rfl rfl d_Md_unread_7 (fun r2 M3 => ?_)
  refine g_if_ne (tgt := 16) hC d_Md_unread_10 (by decide) (fun _ => ?_) (fun _ => ?_)
  · refine g_aload_n hC d_Md_unread_16 rfl ?_
    refine fg_Md_79 hC lc_249 d_Md_unread_17 p0_249_41 ?_
    refine g_iload_n hC d_Md_unread_20 rfl ?_
    refine gv_zald hC ly_270 d_Md_unread_21 (fun x4 => ?_)
    refine g_if_eq (tgt := 29) hC d_Md_unread_22 (by decide) (fun _ => ?_) (fun _ => ?_)
    · refine g_iconst hC d_Md_unread_29 k_i0 ?_
      refine g_istore_n (ls' := [some (.ref (κ.b + 249)), some (.int a1), some (.int 0)]) hC d_Md_unread_30 rfl rfl ?_
      refine g_aload_n hC d_Md_unread_31 rfl ?_
      refine fg_Md_79 hC lc_249 d_Md_unread_32 p0_249_41 ?_
      refine g_iload_n hC d_Md_unread_35 rfl ?_
      refine g_iconst hC d_Md_unread_36 k_i0 ?_
      refine gv_zast hC ly_270 d_Md_unread_37 (fun M5 => ?_)
      refine g_iload_n hC d_Md_unread_38 rfl ?_
      exact g_iret hC hR d_Md_unread_39
    · refine g_iconst hC d_Md_unread_25 k_i1 ?_
      refine g_goto (tgt := 30) hC d_Md_unread_26 (by decide) ?_
      refine g_istore_n (ls' := [some (.ref (κ.b + 249)), some (.int a1), some (.int 1)]) hC d_Md_unread_30 rfl rfl ?_
      refine g_aload_n hC d_Md_unread_31 rfl ?_
      refine fg_Md_79 hC lc_249 d_Md_unread_32 p0_249_41 ?_
      refine g_iload_n hC d_Md_unread_35 rfl ?_
      refine g_iconst hC d_Md_unread_36 k_i0 ?_
      refine gv_zast hC ly_270 d_Md_unread_37 (fun M6 => ?_)
      refine g_iload_n hC d_Md_unread_38 rfl ?_
      exact g_iret hC hR d_Md_unread_39
  · refine g_ldc hC d_Md_unread_13 wk_Md_127 ?_
    exact g_iret hC hR d_Md_unread_15
theorem d_Md_readingSet_0 : decode prog_14_method_46_code 0 = .ok (.iconst 0, 1) := by decide +kernel
theorem d_Md_readingSet_1 : decode prog_14_method_46_code 1 = .ok (.istore_n 1, 1) := by decide +kernel
theorem d_Md_readingSet_2 : decode prog_14_method_46_code 2 = .ok (.iconst 0, 1) := by decide +kernel
theorem d_Md_readingSet_3 : decode prog_14_method_46_code 3 = .ok (.istore_n 2, 1) := by decide +kernel
theorem d_Md_readingSet_4 : decode prog_14_method_46_code 4 = .ok (.iload_n 2, 1) := by decide +kernel
theorem d_Md_readingSet_5 : decode prog_14_method_46_code 5 = .ok (.aload_n 0, 1) := by decide +kernel
theorem d_Md_readingSet_6 : decode prog_14_method_46_code 6 = .ok (.getfield 232, 3) := by decide +kernel
theorem d_Md_readingSet_9 : decode prog_14_method_46_code 9 = .ok (.if_icmp .ge 28, 3) := by decide +kernel
theorem d_Md_readingSet_12 : decode prog_14_method_46_code 12 = .ok (.iload_n 1, 1) := by decide +kernel
theorem d_Md_readingSet_13 : decode prog_14_method_46_code 13 = .ok (.aload_n 0, 1) := by decide +kernel
theorem d_Md_readingSet_14 : decode prog_14_method_46_code 14 = .ok (.getfield 79, 3) := by decide +kernel
theorem d_Md_readingSet_17 : decode prog_14_method_46_code 17 = .ok (.iload_n 2, 1) := by decide +kernel
theorem d_Md_readingSet_18 : decode prog_14_method_46_code 18 = .ok (.baload, 1) := by decide +kernel
theorem d_Md_readingSet_19 : decode prog_14_method_46_code 19 = .ok (.ifCond .eq 9, 3) := by decide +kernel
theorem d_Md_readingSet_22 : decode prog_14_method_46_code 22 = .ok (.iconst 1, 1) := by decide +kernel
theorem d_Md_readingSet_23 : decode prog_14_method_46_code 23 = .ok (.iload_n 2, 1) := by decide +kernel
theorem d_Md_readingSet_24 : decode prog_14_method_46_code 24 = .ok (.ishl, 1) := by decide +kernel
theorem d_Md_readingSet_25 : decode prog_14_method_46_code 25 = .ok (.goto 4, 3) := by decide +kernel
theorem d_Md_readingSet_28 : decode prog_14_method_46_code 28 = .ok (.iconst 0, 1) := by decide +kernel
theorem d_Md_readingSet_29 : decode prog_14_method_46_code 29 = .ok (.ior, 1) := by decide +kernel
theorem d_Md_readingSet_30 : decode prog_14_method_46_code 30 = .ok (.istore_n 1, 1) := by decide +kernel
theorem d_Md_readingSet_31 : decode prog_14_method_46_code 31 = .ok (.iinc 2 1, 3) := by decide +kernel
theorem d_Md_readingSet_34 : decode prog_14_method_46_code 34 = .ok (.goto (-30), 3) := by decide +kernel
theorem d_Md_readingSet_37 : decode prog_14_method_46_code 37 = .ok (.iload_n 1, 1) := by decide +kernel
theorem d_Md_readingSet_38 : decode prog_14_method_46_code 38 = .ok (.ireturn, 1) := by decide +kernel
set_option maxHeartbeats 2000000 in
theorem Md_readingSet_L4_g {κ : tv_Kt} (hC : tv_Cx κ "TiedViewsModel" prog_14_method_46_code 3 0) (hR : tv_Re κ (some .int)) (F : Nat) : ∀ (n : Nat) (l1 : Int32) (l2 : Int32) (M : tv_M), tv_G κ 3 (tv_Qm κ tv_ei) 4 [some (.ref (κ.b + 249)), some (.int l1), some (.int l2)] [] M (Md_readingSet_L4 F n l1 l2 M) := by
  intro n
  induction n with
  | zero => intro _ _ _; exact g_none
  | succ nn ih =>
    intro l1 l2 M
    rw [Md_readingSet_L4]
    refine g_iload_n hC d_Md_readingSet_4 rfl ?_
    refine g_aload_n hC d_Md_readingSet_5 rfl ?_
    refine fg_Md_232 hC lc_249 d_Md_readingSet_6 ?_
    refine g_icmp_ge (tgt := 37) hC d_Md_readingSet_9 (by decide) (fun _ => ?_) (fun _ => ?_)
    · refine g_iload_n hC d_Md_readingSet_37 rfl ?_
      exact g_iret hC hR d_Md_readingSet_38
    · refine g_iload_n hC d_Md_readingSet_12 rfl ?_
      refine g_aload_n hC d_Md_readingSet_13 rfl ?_
      refine fg_Md_79 hC lc_249 d_Md_readingSet_14 p0_249_41 ?_
      refine g_iload_n hC d_Md_readingSet_17 rfl ?_
      refine gv_zald hC ly_270 d_Md_readingSet_18 (fun x1 => ?_)
      refine g_if_eq (tgt := 28) hC d_Md_readingSet_19 (by decide) (fun _ => ?_) (fun _ => ?_)
      · refine g_iconst hC d_Md_readingSet_28 k_i0 ?_
        refine g_ior hC d_Md_readingSet_29 ?_
        refine g_istore_n (ls' := [some (.ref (κ.b + 249)), some (.int (l1 ||| 0)), some (.int l2)]) hC d_Md_readingSet_30 rfl rfl ?_
        refine g_iinc (ls' := [some (.ref (κ.b + 249)), some (.int (l1 ||| 0)), some (.int (l2 + 1))]) hC d_Md_readingSet_31 rfl k_i1 rfl rfl ?_
        refine g_goto (tgt := 4) hC d_Md_readingSet_34 (by decide) ?_
        exact ih (l1 ||| 0) (l2 + 1) M
      · refine g_iconst hC d_Md_readingSet_22 k_i1 ?_
        refine g_iload_n hC d_Md_readingSet_23 rfl ?_
        refine g_ishl hC d_Md_readingSet_24 ?_
        refine g_goto (tgt := 29) hC d_Md_readingSet_25 (by decide) ?_
        refine g_ior hC d_Md_readingSet_29 ?_
        refine g_istore_n (ls' := [some (.ref (κ.b + 249)), some (.int (l1 ||| (1 <<< (l2 &&& 31)))), some (.int l2)]) hC d_Md_readingSet_30 rfl rfl ?_
        refine g_iinc (ls' := [some (.ref (κ.b + 249)), some (.int (l1 ||| (1 <<< (l2 &&& 31)))), some (.int (l2 + 1))]) hC d_Md_readingSet_31 rfl k_i1 rfl rfl ?_
        refine g_goto (tgt := 4) hC d_Md_readingSet_34 (by decide) ?_
        exact ih (l1 ||| (1 <<< (l2 &&& 31))) (l2 + 1) M
set_option maxHeartbeats 2000000 in
theorem Md_readingSet_c {l : Launch} {θ : tv_Th} (F : Nat) (M : tv_M) : tv_Ct l θ ⟨"TiedViewsModel", "readingSet", "()I"⟩ prog_14_method_46_code 3 (some .int) 0 tv_ei [.ref (θ.1 + 249)] M (Md_readingSet F M) := by
  refine tv_ofG [some (.ref (θ.1 + 249)), none, none] rfl rfl (tv_ent 2 rfl) ?_
  intro κ hl ht hC hR
  subst hl; subst ht
  unfold Md_readingSet
  refine g_iconst hC d_Md_readingSet_0 k_i0 ?_
  refine g_istore_n (ls' := [some (.ref (κ.b + 249)), some (.int 0), none]) hC d_Md_readingSet_1 rfl rfl ?_
  refine g_iconst hC d_Md_readingSet_2 k_i0 ?_
  refine g_istore_n (ls' := [some (.ref (κ.b + 249)), some (.int 0), some (.int 0)]) hC d_Md_readingSet_3 rfl rfl ?_
  exact Md_readingSet_L4_g hC hR F F 0 0 M
theorem d_Md_wantsInVain_0 : decode prog_14_method_40_code 0 = .ok (.iconst 0, 1) := by decide +kernel
theorem d_Md_wantsInVain_1 : decode prog_14_method_40_code 1 = .ok (.istore_n 1, 1) := by decide +kernel
theorem d_Md_wantsInVain_2 : decode prog_14_method_40_code 2 = .ok (.iload_n 1, 1) := by decide +kernel
theorem d_Md_wantsInVain_3 : decode prog_14_method_40_code 3 = .ok (.aload_n 0, 1) := by decide +kernel
theorem d_Md_wantsInVain_4 : decode prog_14_method_40_code 4 = .ok (.getfield 271, 3) := by decide +kernel
theorem d_Md_wantsInVain_7 : decode prog_14_method_40_code 7 = .ok (.if_icmp .ge 35, 3) := by decide +kernel
theorem d_Md_wantsInVain_10 : decode prog_14_method_40_code 10 = .ok (.aload_n 0, 1) := by decide +kernel
theorem d_Md_wantsInVain_11 : decode prog_14_method_40_code 11 = .ok (.getfield 72, 3) := by decide +kernel
theorem d_Md_wantsInVain_14 : decode prog_14_method_40_code 14 = .ok (.iload_n 1, 1) := by decide +kernel
theorem d_Md_wantsInVain_15 : decode prog_14_method_40_code 15 = .ok (.baload, 1) := by decide +kernel
theorem d_Md_wantsInVain_16 : decode prog_14_method_40_code 16 = .ok (.ifCond .ne 20, 3) := by decide +kernel
theorem d_Md_wantsInVain_19 : decode prog_14_method_40_code 19 = .ok (.aload_n 0, 1) := by decide +kernel
theorem d_Md_wantsInVain_20 : decode prog_14_method_40_code 20 = .ok (.getfield 69, 3) := by decide +kernel
theorem d_Md_wantsInVain_23 : decode prog_14_method_40_code 23 = .ok (.bipush 55, 2) := by decide +kernel
theorem d_Md_wantsInVain_25 : decode prog_14_method_40_code 25 = .ok (.iload_n 1, 1) := by decide +kernel
theorem d_Md_wantsInVain_26 : decode prog_14_method_40_code 26 = .ok (.imul, 1) := by decide +kernel
theorem d_Md_wantsInVain_27 : decode prog_14_method_40_code 27 = .ok (.bipush 24, 2) := by decide +kernel
theorem d_Md_wantsInVain_29 : decode prog_14_method_40_code 29 = .ok (.iadd, 1) := by decide +kernel
theorem d_Md_wantsInVain_30 : decode prog_14_method_40_code 30 = .ok (.iaload, 1) := by decide +kernel
theorem d_Md_wantsInVain_31 : decode prog_14_method_40_code 31 = .ok (.ifCond .eq 5, 3) := by decide +kernel
theorem d_Md_wantsInVain_34 : decode prog_14_method_40_code 34 = .ok (.iload_n 1, 1) := by decide +kernel
theorem d_Md_wantsInVain_35 : decode prog_14_method_40_code 35 = .ok (.ireturn, 1) := by decide +kernel
theorem d_Md_wantsInVain_36 : decode prog_14_method_40_code 36 = .ok (.iinc 1 1, 3) := by decide +kernel
theorem d_Md_wantsInVain_39 : decode prog_14_method_40_code 39 = .ok (.goto (-37), 3) := by decide +kernel
theorem d_Md_wantsInVain_42 : decode prog_14_method_40_code 42 = .ok (.ldc 146, 2) := by decide +kernel
theorem d_Md_wantsInVain_44 : decode prog_14_method_40_code 44 = .ok (.ireturn, 1) := by decide +kernel
set_option maxHeartbeats 2000000 in
theorem Md_wantsInVain_L2_g {κ : tv_Kt} (hC : tv_Cx κ "TiedViewsModel" prog_14_method_40_code 2 0) (hR : tv_Re κ (some .int)) (F : Nat) : ∀ (n : Nat) (l1 : Int32) (M : tv_M), tv_G κ 2 (tv_Qm κ tv_ei) 2 [some (.ref (κ.b + 249)), some (.int l1)] [] M (Md_wantsInVain_L2 F n l1 M) := by
  intro n
  induction n with
  | zero => intro _ _; exact g_none
  | succ nn ih =>
    intro l1 M
    rw [Md_wantsInVain_L2]
    refine g_iload_n hC d_Md_wantsInVain_2 rfl ?_
    refine g_aload_n hC d_Md_wantsInVain_3 rfl ?_
    refine fg_Md_271 hC lc_249 d_Md_wantsInVain_4 ?_
    refine g_icmp_ge (tgt := 42) hC d_Md_wantsInVain_7 (by decide) (fun _ => ?_) (fun _ => ?_)
    · refine g_ldc hC d_Md_wantsInVain_42 wk_Md_146 ?_
      exact g_iret hC hR d_Md_wantsInVain_44
    · refine g_aload_n hC d_Md_wantsInVain_10 rfl ?_
      refine fg_Md_72 hC lc_249 d_Md_wantsInVain_11 p0_249_39 ?_
      refine g_iload_n hC d_Md_wantsInVain_14 rfl ?_
      refine gv_zald hC ly_268 d_Md_wantsInVain_15 (fun x1 => ?_)
      refine g_if_ne (tgt := 36) hC d_Md_wantsInVain_16 (by decide) (fun _ => ?_) (fun _ => ?_)
      · refine g_iinc (ls' := [some (.ref (κ.b + 249)), some (.int (l1 + 1))]) hC d_Md_wantsInVain_36 rfl k_i1 rfl rfl ?_
        refine g_goto (tgt := 2) hC d_Md_wantsInVain_39 (by decide) ?_
        exact ih (l1 + 1) M
      · refine g_aload_n hC d_Md_wantsInVain_19 rfl ?_
        refine fg_Md_69 hC lc_249 d_Md_wantsInVain_20 p0_249_38 ?_
        refine g_bipush hC d_Md_wantsInVain_23 k_b55 ?_
        refine g_iload_n hC d_Md_wantsInVain_25 rfl ?_
        refine g_imul hC d_Md_wantsInVain_26 ?_
        refine g_bipush hC d_Md_wantsInVain_27 k_b24 ?_
        refine g_iadd hC d_Md_wantsInVain_29 ?_
        refine gv_iald hC ly_267 d_Md_wantsInVain_30 (fun x2 => ?_)
        refine g_if_eq (tgt := 36) hC d_Md_wantsInVain_31 (by decide) (fun _ => ?_) (fun _ => ?_)
        · refine g_iinc (ls' := [some (.ref (κ.b + 249)), some (.int (l1 + 1))]) hC d_Md_wantsInVain_36 rfl k_i1 rfl rfl ?_
          refine g_goto (tgt := 2) hC d_Md_wantsInVain_39 (by decide) ?_
          exact ih (l1 + 1) M
        · refine g_iload_n hC d_Md_wantsInVain_34 rfl ?_
          exact g_iret hC hR d_Md_wantsInVain_35
set_option maxHeartbeats 2000000 in
theorem Md_wantsInVain_c {l : Launch} {θ : tv_Th} (F : Nat) (M : tv_M) : tv_Ct l θ ⟨"TiedViewsModel", "wantsInVain", "()I"⟩ prog_14_method_40_code 2 (some .int) 0 tv_ei [.ref (θ.1 + 249)] M (Md_wantsInVain F M) := by
  refine tv_ofG [some (.ref (θ.1 + 249)), none] rfl rfl (tv_ent 1 rfl) ?_
  intro κ hl ht hC hR
  subst hl; subst ht
  unfold Md_wantsInVain
  refine g_iconst hC d_Md_wantsInVain_0 k_i0 ?_
  refine g_istore_n (ls' := [some (.ref (κ.b + 249)), some (.int 0)]) hC d_Md_wantsInVain_1 rfl rfl ?_
  exact Md_wantsInVain_L2_g hC hR F F 0 M
theorem d_Md_areFit_0 : decode prog_14_method_47_code 0 = .ok (.aload_n 0, 1) := by decide +kernel
theorem d_Md_areFit_1 : decode prog_14_method_47_code 1 = .ok (.ldc 146, 2) := by decide +kernel
theorem d_Md_areFit_3 : decode prog_14_method_47_code 3 = .ok (.invokevirtual 282, 3) := by decide +kernel
theorem d_Md_areFit_6 : decode prog_14_method_47_code 6 = .ok (.iconst 0, 1) := by decide +kernel
theorem d_Md_areFit_7 : decode prog_14_method_47_code 7 = .ok (.istore_n 2, 1) := by decide +kernel
theorem d_Md_areFit_8 : decode prog_14_method_47_code 8 = .ok (.iload_n 2, 1) := by decide +kernel
theorem d_Md_areFit_9 : decode prog_14_method_47_code 9 = .ok (.aload_n 0, 1) := by decide +kernel
theorem d_Md_areFit_10 : decode prog_14_method_47_code 10 = .ok (.getfield 232, 3) := by decide +kernel
theorem d_Md_areFit_13 : decode prog_14_method_47_code 13 = .ok (.if_icmp .ge 94, 3) := by decide +kernel
theorem d_Md_areFit_16 : decode prog_14_method_47_code 16 = .ok (.iconst 0, 1) := by decide +kernel
theorem d_Md_areFit_17 : decode prog_14_method_47_code 17 = .ok (.istore_n 3, 1) := by decide +kernel
theorem d_Md_areFit_18 : decode prog_14_method_47_code 18 = .ok (.iload_n 3, 1) := by decide +kernel
theorem d_Md_areFit_19 : decode prog_14_method_47_code 19 = .ok (.aload_n 0, 1) := by decide +kernel
theorem d_Md_areFit_20 : decode prog_14_method_47_code 20 = .ok (.getfield 30, 3) := by decide +kernel
theorem d_Md_areFit_23 : decode prog_14_method_47_code 23 = .ok (.iload_n 2, 1) := by decide +kernel
theorem d_Md_areFit_24 : decode prog_14_method_47_code 24 = .ok (.iaload, 1) := by decide +kernel
theorem d_Md_areFit_25 : decode prog_14_method_47_code 25 = .ok (.if_icmp .ge 76, 3) := by decide +kernel
theorem d_Md_areFit_28 : decode prog_14_method_47_code 28 = .ok (.iload_n 1, 1) := by decide +kernel
theorem d_Md_areFit_29 : decode prog_14_method_47_code 29 = .ok (.iload_n 2, 1) := by decide +kernel
theorem d_Md_areFit_30 : decode prog_14_method_47_code 30 = .ok (.ishr, 1) := by decide +kernel
theorem d_Md_areFit_31 : decode prog_14_method_47_code 31 = .ok (.iconst 1, 1) := by decide +kernel
theorem d_Md_areFit_32 : decode prog_14_method_47_code 32 = .ok (.iand, 1) := by decide +kernel
theorem d_Md_areFit_33 : decode prog_14_method_47_code 33 = .ok (.iconst 1, 1) := by decide +kernel
theorem d_Md_areFit_34 : decode prog_14_method_47_code 34 = .ok (.if_icmp .ne 67, 3) := by decide +kernel
theorem d_Md_areFit_37 : decode prog_14_method_47_code 37 = .ok (.aload_n 0, 1) := by decide +kernel
theorem d_Md_areFit_38 : decode prog_14_method_47_code 38 = .ok (.invokevirtual 274, 3) := by decide +kernel
theorem d_Md_areFit_41 : decode prog_14_method_47_code 41 = .ok (.aload_n 0, 1) := by decide +kernel
theorem d_Md_areFit_42 : decode prog_14_method_47_code 42 = .ok (.getfield 69, 3) := by decide +kernel
theorem d_Md_areFit_45 : decode prog_14_method_47_code 45 = .ok (.bipush 55, 2) := by decide +kernel
theorem d_Md_areFit_47 : decode prog_14_method_47_code 47 = .ok (.aload_n 0, 1) := by decide +kernel
theorem d_Md_areFit_48 : decode prog_14_method_47_code 48 = .ok (.getfield 271, 3) := by decide +kernel
theorem d_Md_areFit_51 : decode prog_14_method_47_code 51 = .ok (.iconst 1, 1) := by decide +kernel
theorem d_Md_areFit_52 : decode prog_14_method_47_code 52 = .ok (.isub, 1) := by decide +kernel
theorem d_Md_areFit_53 : decode prog_14_method_47_code 53 = .ok (.imul, 1) := by decide +kernel
theorem d_Md_areFit_54 : decode prog_14_method_47_code 54 = .ok (.aload_n 0, 1) := by decide +kernel
theorem d_Md_areFit_55 : decode prog_14_method_47_code 55 = .ok (.getfield 33, 3) := by decide +kernel
theorem d_Md_areFit_58 : decode prog_14_method_47_code 58 = .ok (.iload_n 2, 1) := by decide +kernel
theorem d_Md_areFit_59 : decode prog_14_method_47_code 59 = .ok (.iaload, 1) := by decide +kernel
theorem d_Md_areFit_60 : decode prog_14_method_47_code 60 = .ok (.iadd, 1) := by decide +kernel
theorem d_Md_areFit_61 : decode prog_14_method_47_code 61 = .ok (.iload_n 3, 1) := by decide +kernel
theorem d_Md_areFit_62 : decode prog_14_method_47_code 62 = .ok (.iadd, 1) := by decide +kernel
theorem d_Md_areFit_63 : decode prog_14_method_47_code 63 = .ok (.iconst 1, 1) := by decide +kernel
theorem d_Md_areFit_64 : decode prog_14_method_47_code 64 = .ok (.iastore, 1) := by decide +kernel
theorem d_Md_areFit_65 : decode prog_14_method_47_code 65 = .ok (.aload_n 0, 1) := by decide +kernel
theorem d_Md_areFit_66 : decode prog_14_method_47_code 66 = .ok (.getfield 69, 3) := by decide +kernel
theorem d_Md_areFit_69 : decode prog_14_method_47_code 69 = .ok (.bipush 55, 2) := by decide +kernel
theorem d_Md_areFit_71 : decode prog_14_method_47_code 71 = .ok (.aload_n 0, 1) := by decide +kernel
theorem d_Md_areFit_72 : decode prog_14_method_47_code 72 = .ok (.getfield 271, 3) := by decide +kernel
theorem d_Md_areFit_75 : decode prog_14_method_47_code 75 = .ok (.iconst 1, 1) := by decide +kernel
theorem d_Md_areFit_76 : decode prog_14_method_47_code 76 = .ok (.isub, 1) := by decide +kernel
theorem d_Md_areFit_77 : decode prog_14_method_47_code 77 = .ok (.imul, 1) := by decide +kernel
theorem d_Md_areFit_78 : decode prog_14_method_47_code 78 = .ok (.bipush 24, 2) := by decide +kernel
theorem d_Md_areFit_80 : decode prog_14_method_47_code 80 = .ok (.iadd, 1) := by decide +kernel
theorem d_Md_areFit_81 : decode prog_14_method_47_code 81 = .ok (.aload_n 0, 1) := by decide +kernel
theorem d_Md_areFit_82 : decode prog_14_method_47_code 82 = .ok (.getfield 82, 3) := by decide +kernel
theorem d_Md_areFit_85 : decode prog_14_method_47_code 85 = .ok (.aload_n 0, 1) := by decide +kernel
theorem d_Md_areFit_86 : decode prog_14_method_47_code 86 = .ok (.getfield 33, 3) := by decide +kernel
theorem d_Md_areFit_89 : decode prog_14_method_47_code 89 = .ok (.iload_n 2, 1) := by decide +kernel
theorem d_Md_areFit_90 : decode prog_14_method_47_code 90 = .ok (.iaload, 1) := by decide +kernel
theorem d_Md_areFit_91 : decode prog_14_method_47_code 91 = .ok (.iload_n 3, 1) := by decide +kernel
theorem d_Md_areFit_92 : decode prog_14_method_47_code 92 = .ok (.iadd, 1) := by decide +kernel
theorem d_Md_areFit_93 : decode prog_14_method_47_code 93 = .ok (.iaload, 1) := by decide +kernel
theorem d_Md_areFit_94 : decode prog_14_method_47_code 94 = .ok (.iastore, 1) := by decide +kernel
theorem d_Md_areFit_95 : decode prog_14_method_47_code 95 = .ok (.iinc 3 1, 3) := by decide +kernel
theorem d_Md_areFit_98 : decode prog_14_method_47_code 98 = .ok (.goto (-80), 3) := by decide +kernel
theorem d_Md_areFit_101 : decode prog_14_method_47_code 101 = .ok (.iinc 2 1, 3) := by decide +kernel
theorem d_Md_areFit_104 : decode prog_14_method_47_code 104 = .ok (.goto (-96), 3) := by decide +kernel
theorem d_Md_areFit_107 : decode prog_14_method_47_code 107 = .ok (.aload_n 0, 1) := by decide +kernel
theorem d_Md_areFit_108 : decode prog_14_method_47_code 108 = .ok (.invokevirtual 285, 3) := by decide +kernel
theorem d_Md_areFit_111 : decode prog_14_method_47_code 111 = .ok (.aload_n 0, 1) := by decide +kernel
theorem d_Md_areFit_112 : decode prog_14_method_47_code 112 = .ok (.invokevirtual 301, 3) := by decide +kernel
theorem d_Md_areFit_115 : decode prog_14_method_47_code 115 = .ok (.ldc 146, 2) := by decide +kernel
theorem d_Md_areFit_117 : decode prog_14_method_47_code 117 = .ok (.if_icmp .ne 7, 3) := by decide +kernel
theorem d_Md_areFit_120 : decode prog_14_method_47_code 120 = .ok (.iconst 1, 1) := by decide +kernel
theorem d_Md_areFit_121 : decode prog_14_method_47_code 121 = .ok (.goto 4, 3) := by decide +kernel
theorem d_Md_areFit_124 : decode prog_14_method_47_code 124 = .ok (.iconst 0, 1) := by decide +kernel
theorem d_Md_areFit_125 : decode prog_14_method_47_code 125 = .ok (.ireturn, 1) := by decide +kernel
set_option maxHeartbeats 2000000 in
theorem Md_areFit_L18_g {κ : tv_Kt} (hC : tv_Cx κ "TiedViewsModel" prog_14_method_47_code 4 2) (hR : tv_Re κ (some .boolean)) (F : Nat) {k8 : Int32 → Int32 → tv_M → Option (Int32 × tv_M)} (hk8 : ∀ (l1 : Int32) (l2 : Int32) (M : tv_M), tv_G κ 4 (tv_Qm κ tv_ei) 8 [some (.ref (κ.b + 249)), some (.int l1), some (.int l2), none] [] M (k8 l1 l2 M)) : ∀ (n : Nat) (l1 : Int32) (l2 : Int32) (l3 : Int32) (M : tv_M), tv_G κ 4 (tv_Qm κ tv_ei) 18 [some (.ref (κ.b + 249)), some (.int l1), some (.int l2), some (.int l3)] [] M (Md_areFit_L18 F k8 n l1 l2 l3 M) := by
  intro n
  induction n with
  | zero => intro _ _ _ _; exact g_none
  | succ nn ih =>
    intro l1 l2 l3 M
    rw [Md_areFit_L18]
    refine g_iload_n hC d_Md_areFit_18 rfl ?_
    refine g_aload_n hC d_Md_areFit_19 rfl ?_
    refine fg_Md_30 hC lc_249 d_Md_areFit_20 p0_249_8 ?_
    refine g_iload_n hC d_Md_areFit_23 rfl ?_
    refine gv_iald hC ly_254 d_Md_areFit_24 (fun x7 => ?_)
    refine g_icmp_ge (tgt := 101) hC d_Md_areFit_25 (by decide) (fun _ => ?_) (fun _ => ?_)
    · refine g_iinc (ls' := [some (.ref (κ.b + 249)), some (.int l1), some (.int (l2 + 1)), some (.int l3)]) hC d_Md_areFit_101 rfl k_i1 rfl rfl ?_
      refine g_goto (tgt := 8) hC d_Md_areFit_104 (by decide) ?_
      refine g_mask [true, true, true, false] (ls' := [some (.ref (κ.b + 249)), some (.int l1), some (.int (l2 + 1)), none]) rfl ?_
      exact hk8 l1 (l2 + 1) M
    · refine g_iload_n hC d_Md_areFit_28 rfl ?_
      refine g_iload_n hC d_Md_areFit_29 rfl ?_
      refine g_ishr hC d_Md_areFit_30 ?_
      refine g_iconst hC d_Md_areFit_31 k_i1 ?_
      refine g_iand hC d_Md_areFit_32 ?_
      refine g_iconst hC d_Md_areFit_33 k_i1 ?_
      refine g_icmp_ne (tgt := 101) hC d_Md_areFit_34 (by decide) (fun _ => ?_) (fun _ => ?_)
      · refine g_iinc (ls' := [some (.ref (κ.b + 249)), some (.int l1), some (.int (l2 + 1)), some (.int l3)]) hC d_Md_areFit_101 rfl k_i1 rfl rfl ?_
        refine g_goto (tgt := 8) hC d_Md_areFit_104 (by decide) ?_
        refine g_mask [true, true, true, false] (ls' := [some (.ref (κ.b + 249)), some (.int l1), some (.int (l2 + 1)), none]) rfl ?_
        exact hk8 l1 (l2 + 1) M
      · refine g_aload_n hC d_Md_areFit_37 rfl ?_
        refine gv_callVv hC [] cw_Md_274 (Md_addLine_c F M) lc_249 rfl rfl rfl rfl rfl rfl rfl d_Md_areFit_38 (fun r8 M9 => ?_)
        refine g_aload_n hC d_Md_areFit_41 rfl ?_
        refine fg_Md_69 hC lc_249 d_Md_areFit_42 p0_249_38 ?_
        refine g_bipush hC d_Md_areFit_45 k_b55 ?_
        refine g_aload_n hC d_Md_areFit_47 rfl ?_
        refine fg_Md_271 hC lc_249 d_Md_areFit_48 ?_
        refine g_iconst hC d_Md_areFit_51 k_i1 ?_
        refine g_isub hC d_Md_areFit_52 ?_
        refine g_imul hC d_Md_areFit_53 ?_
        refine g_aload_n hC d_Md_areFit_54 rfl ?_
        refine fg_Md_33 hC lc_249 d_Md_areFit_55 p0_249_9 ?_
        refine g_iload_n hC d_Md_areFit_58 rfl ?_
        refine gv_iald hC ly_255 d_Md_areFit_59 (fun x10 => ?_)
        refine g_iadd hC d_Md_areFit_60 ?_
        refine g_iload_n hC d_Md_areFit_61 rfl ?_
        refine g_iadd hC d_Md_areFit_62 ?_
        refine g_iconst hC d_Md_areFit_63 k_i1 ?_
        refine gv_iast hC ly_267 d_Md_areFit_64 (fun M11 => ?_)
        refine g_aload_n hC d_Md_areFit_65 rfl ?_
        refine fg_Md_69 hC lc_249 d_Md_areFit_66 p0_249_38 ?_
        refine g_bipush hC d_Md_areFit_69 k_b55 ?_
        refine g_aload_n hC d_Md_areFit_71 rfl ?_
        refine fg_Md_271 hC lc_249 d_Md_areFit_72 ?_
        refine g_iconst hC d_Md_areFit_75 k_i1 ?_
        refine g_isub hC d_Md_areFit_76 ?_
        refine g_imul hC d_Md_areFit_77 ?_
        refine g_bipush hC d_Md_areFit_78 k_b24 ?_
        refine g_iadd hC d_Md_areFit_80 ?_
        refine g_aload_n hC d_Md_areFit_81 rfl ?_
        refine fg_Md_82 hC lc_249 d_Md_areFit_82 p0_249_42 ?_
        refine g_aload_n hC d_Md_areFit_85 rfl ?_
        refine fg_Md_33 hC lc_249 d_Md_areFit_86 p0_249_9 ?_
        refine g_iload_n hC d_Md_areFit_89 rfl ?_
        refine gv_iald hC ly_255 d_Md_areFit_90 (fun x12 => ?_)
        refine g_iload_n hC d_Md_areFit_91 rfl ?_
        refine g_iadd hC d_Md_areFit_92 ?_
        refine gv_iald hC ly_271 d_Md_areFit_93 (fun x13 => ?_)
        refine gv_iast hC ly_267 d_Md_areFit_94 (fun M14 => ?_)
        refine g_iinc (ls' := [some (.ref (κ.b + 249)), some (.int l1), some (.int l2), some (.int (l3 + 1))]) hC d_Md_areFit_95 rfl k_i1 rfl rfl ?_
        refine g_goto (tgt := 18) hC d_Md_areFit_98 (by decide) ?_
        exact ih l1 l2 (l3 + 1) M14
set_option maxHeartbeats 2000000 in
theorem Md_areFit_L8_g {κ : tv_Kt} (hC : tv_Cx κ "TiedViewsModel" prog_14_method_47_code 4 2) (hR : tv_Re κ (some .boolean)) (F : Nat) : ∀ (n : Nat) (l1 : Int32) (l2 : Int32) (M : tv_M), tv_G κ 4 (tv_Qm κ tv_ei) 8 [some (.ref (κ.b + 249)), some (.int l1), some (.int l2), none] [] M (Md_areFit_L8 F n l1 l2 M) := by
  intro n
  induction n with
  | zero => intro _ _ _; exact g_none
  | succ nn ih =>
    intro l1 l2 M
    rw [Md_areFit_L8]
    refine g_iload_n hC d_Md_areFit_8 rfl ?_
    refine g_aload_n hC d_Md_areFit_9 rfl ?_
    refine fg_Md_232 hC lc_249 d_Md_areFit_10 ?_
    refine g_icmp_ge (tgt := 107) hC d_Md_areFit_13 (by decide) (fun _ => ?_) (fun _ => ?_)
    · refine g_aload_n hC d_Md_areFit_107 rfl ?_
      refine gv_callVv hC [] cw_Md_285 (Md_takeSteps_c F M) lc_249 rfl rfl rfl rfl rfl rfl rfl d_Md_areFit_108 (fun r3 M4 => ?_)
      refine g_aload_n hC d_Md_areFit_111 rfl ?_
      refine gv_callVi hC [] cw_Md_301 (Md_wantsInVain_c F M4) lc_249 rfl rfl rfl rfl rfl rfl rfl d_Md_areFit_112 (fun r5 M6 => ?_)
      refine g_ldc hC d_Md_areFit_115 wk_Md_146 ?_
      refine g_icmp_ne (tgt := 124) hC d_Md_areFit_117 (by decide) (fun _ => ?_) (fun _ => ?_)
      · refine g_iconst hC d_Md_areFit_124 k_i0 ?_
        exact g_zret hC hR tv_z0 d_Md_areFit_125
      · refine g_iconst hC d_Md_areFit_120 k_i1 ?_
        refine g_goto (tgt := 125) hC d_Md_areFit_121 (by decide) ?_
        exact g_zret hC hR tv_z1 d_Md_areFit_125
    · refine g_iconst hC d_Md_areFit_16 k_i0 ?_
      refine g_istore_n (ls' := [some (.ref (κ.b + 249)), some (.int l1), some (.int l2), some (.int 0)]) hC d_Md_areFit_17 rfl rfl ?_
      exact Md_areFit_L18_g hC hR F ih F l1 l2 0 M
set_option maxHeartbeats 2000000 in
theorem Md_areFit_c {l : Launch} {θ : tv_Th} (F : Nat) (a1 : Int32) (M : tv_M) : tv_Ct l θ ⟨"TiedViewsModel", "areFit", "(I)Z"⟩ prog_14_method_47_code 4 (some .boolean) 2 tv_ei [.ref (θ.1 + 249), .int a1] M (Md_areFit F a1 M) := by
  refine tv_ofG [some (.ref (θ.1 + 249)), some (.int a1), none, none] rfl rfl (tv_ent 2 rfl) ?_
  intro κ hl ht hC hR
  subst hl; subst ht
  unfold Md_areFit
  refine g_aload_n hC d_Md_areFit_0 rfl ?_
  refine g_ldc hC d_Md_areFit_1 wk_Md_146 ?_
  refine gv_callVv hC [.int (-1000000)] cw_Md_282 (Md_layTies_c F (-1000000) M) lc_249 rfl rfl rfl rfl rfl rfl rfl d_Md_areFit_3 (fun r1 M2 => ?_)
  refine g_iconst hC d_Md_areFit_6 k_i0 ?_
  refine g_istore_n (ls' := [some (.ref (κ.b + 249)), some (.int a1), some (.int 0), none]) hC d_Md_areFit_7 rfl rfl ?_
  exact Md_areFit_L8_g hC hR F F a1 0 M2
theorem d_Md_fill_0 : decode prog_14_method_48_code 0 = .ok (.aload_n 0, 1) := by decide +kernel
theorem d_Md_fill_1 : decode prog_14_method_48_code 1 = .ok (.iconst 0, 1) := by decide +kernel
theorem d_Md_fill_2 : decode prog_14_method_48_code 2 = .ok (.putfield 1, 3) := by decide +kernel
theorem d_Md_fill_5 : decode prog_14_method_48_code 5 = .ok (.iload_n 1, 1) := by decide +kernel
theorem d_Md_fill_6 : decode prog_14_method_48_code 6 = .ok (.iconst (-1), 1) := by decide +kernel
theorem d_Md_fill_7 : decode prog_14_method_48_code 7 = .ok (.if_icmp .eq 14, 3) := by decide +kernel
theorem d_Md_fill_10 : decode prog_14_method_48_code 10 = .ok (.aload_n 0, 1) := by decide +kernel
theorem d_Md_fill_11 : decode prog_14_method_48_code 11 = .ok (.iload_n 1, 1) := by decide +kernel
theorem d_Md_fill_12 : decode prog_14_method_48_code 12 = .ok (.invokevirtual 291, 3) := by decide +kernel
theorem d_Md_fill_15 : decode prog_14_method_48_code 15 = .ok (.ifCond .ne 6, 3) := by decide +kernel
theorem d_Md_fill_18 : decode prog_14_method_48_code 18 = .ok (.ldc 127, 2) := by decide +kernel
theorem d_Md_fill_20 : decode prog_14_method_48_code 20 = .ok (.ireturn, 1) := by decide +kernel
theorem d_Md_fill_21 : decode prog_14_method_48_code 21 = .ok (.aload_n 0, 1) := by decide +kernel
theorem d_Md_fill_22 : decode prog_14_method_48_code 22 = .ok (.aload_n 0, 1) := by decide +kernel
theorem d_Md_fill_23 : decode prog_14_method_48_code 23 = .ok (.invokevirtual 304, 3) := by decide +kernel
theorem d_Md_fill_26 : decode prog_14_method_48_code 26 = .ok (.invokevirtual 307, 3) := by decide +kernel
theorem d_Md_fill_29 : decode prog_14_method_48_code 29 = .ok (.istore_n 2, 1) := by decide +kernel
theorem d_Md_fill_30 : decode prog_14_method_48_code 30 = .ok (.iload_n 1, 1) := by decide +kernel
theorem d_Md_fill_31 : decode prog_14_method_48_code 31 = .ok (.iconst (-1), 1) := by decide +kernel
theorem d_Md_fill_32 : decode prog_14_method_48_code 32 = .ok (.if_icmp .ne 15, 3) := by decide +kernel
theorem d_Md_fill_35 : decode prog_14_method_48_code 35 = .ok (.iload_n 2, 1) := by decide +kernel
theorem d_Md_fill_36 : decode prog_14_method_48_code 36 = .ok (.ifCond .eq 7, 3) := by decide +kernel
theorem d_Md_fill_39 : decode prog_14_method_48_code 39 = .ok (.iconst 1, 1) := by decide +kernel
theorem d_Md_fill_40 : decode prog_14_method_48_code 40 = .ok (.goto 48, 3) := by decide +kernel
theorem d_Md_fill_43 : decode prog_14_method_48_code 43 = .ok (.iconst 0, 1) := by decide +kernel
theorem d_Md_fill_44 : decode prog_14_method_48_code 44 = .ok (.goto 44, 3) := by decide +kernel
theorem d_Md_fill_47 : decode prog_14_method_48_code 47 = .ok (.iload_n 2, 1) := by decide +kernel
theorem d_Md_fill_48 : decode prog_14_method_48_code 48 = .ok (.ifCond .ne 8, 3) := by decide +kernel
theorem d_Md_fill_51 : decode prog_14_method_48_code 51 = .ok (.ldc 146, 2) := by decide +kernel
theorem d_Md_fill_53 : decode prog_14_method_48_code 53 = .ok (.goto 35, 3) := by decide +kernel
theorem d_Md_fill_56 : decode prog_14_method_48_code 56 = .ok (.aload_n 0, 1) := by decide +kernel
theorem d_Md_fill_57 : decode prog_14_method_48_code 57 = .ok (.getfield 76, 3) := by decide +kernel
theorem d_Md_fill_60 : decode prog_14_method_48_code 60 = .ok (.iload_n 1, 1) := by decide +kernel
theorem d_Md_fill_61 : decode prog_14_method_48_code 61 = .ok (.iaload, 1) := by decide +kernel
theorem d_Md_fill_62 : decode prog_14_method_48_code 62 = .ok (.ldc 146, 2) := by decide +kernel
theorem d_Md_fill_64 : decode prog_14_method_48_code 64 = .ok (.if_icmp .ne 7, 3) := by decide +kernel
theorem d_Md_fill_67 : decode prog_14_method_48_code 67 = .ok (.iconst 0, 1) := by decide +kernel
theorem d_Md_fill_68 : decode prog_14_method_48_code 68 = .ok (.goto 20, 3) := by decide +kernel
theorem d_Md_fill_71 : decode prog_14_method_48_code 71 = .ok (.aload_n 0, 1) := by decide +kernel
theorem d_Md_fill_72 : decode prog_14_method_48_code 72 = .ok (.getfield 69, 3) := by decide +kernel
theorem d_Md_fill_75 : decode prog_14_method_48_code 75 = .ok (.bipush 55, 2) := by decide +kernel
theorem d_Md_fill_77 : decode prog_14_method_48_code 77 = .ok (.aload_n 0, 1) := by decide +kernel
theorem d_Md_fill_78 : decode prog_14_method_48_code 78 = .ok (.getfield 76, 3) := by decide +kernel
theorem d_Md_fill_81 : decode prog_14_method_48_code 81 = .ok (.iload_n 1, 1) := by decide +kernel
theorem d_Md_fill_82 : decode prog_14_method_48_code 82 = .ok (.iaload, 1) := by decide +kernel
theorem d_Md_fill_83 : decode prog_14_method_48_code 83 = .ok (.imul, 1) := by decide +kernel
theorem d_Md_fill_84 : decode prog_14_method_48_code 84 = .ok (.bipush 24, 2) := by decide +kernel
theorem d_Md_fill_86 : decode prog_14_method_48_code 86 = .ok (.iadd, 1) := by decide +kernel
theorem d_Md_fill_87 : decode prog_14_method_48_code 87 = .ok (.iaload, 1) := by decide +kernel
theorem d_Md_fill_88 : decode prog_14_method_48_code 88 = .ok (.ireturn, 1) := by decide +kernel
set_option maxHeartbeats 2000000 in
theorem Md_fill_L21_g {κ : tv_Kt} (hC : tv_Cx κ "TiedViewsModel" prog_14_method_48_code 3 3) (hR : tv_Re κ (some .int)) (F : Nat) (l1 : Int32) (M : tv_M) : tv_G κ 3 (tv_Qm κ tv_ei) 21 [some (.ref (κ.b + 249)), some (.int l1), none] [] M (Md_fill_L21 F l1 M) := by
  rw [Md_fill_L21]
  refine g_aload_n hC d_Md_fill_21 rfl ?_
  refine g_aload_n hC d_Md_fill_22 rfl ?_
  refine gv_callVi hC [] cw_Md_304 (Md_readingSet_c F M) lc_249 rfl rfl rfl rfl rfl rfl rfl d_Md_fill_23 (fun r4 M5 => ?_)
  refine gv_callVi hC [.int r4] cw_Md_307 (Md_areFit_c F r4 M5) lc_249 rfl rfl rfl rfl rfl rfl rfl d_Md_fill_26 (fun r6 M7 => ?_)
  refine g_istore_n (ls' := [some (.ref (κ.b + 249)), some (.int l1), some (.int r6)]) hC d_Md_fill_29 rfl rfl ?_
  refine g_iload_n hC d_Md_fill_30 rfl ?_
  refine g_iconst hC d_Md_fill_31 k_im1 ?_
  refine g_icmp_ne (tgt := 47) hC d_Md_fill_32 (by decide) (fun _ => ?_) (fun _ => ?_)
  · refine g_iload_n hC d_Md_fill_47 rfl ?_
    refine g_if_ne (tgt := 56) hC d_Md_fill_48 (by decide) (fun _ => ?_) (fun _ => ?_)
    · refine g_aload_n hC d_Md_fill_56 rfl ?_
      refine fg_Md_76 hC lc_249 d_Md_fill_57 p0_249_40 ?_
      refine g_iload_n hC d_Md_fill_60 rfl ?_
      refine gv_iald hC ly_269 d_Md_fill_61 (fun x8 => ?_)
      refine g_ldc hC d_Md_fill_62 wk_Md_146 ?_
      refine g_icmp_ne (tgt := 71) hC d_Md_fill_64 (by decide) (fun _ => ?_) (fun _ => ?_)
      · refine g_aload_n hC d_Md_fill_71 rfl ?_
        refine fg_Md_69 hC lc_249 d_Md_fill_72 p0_249_38 ?_
        refine g_bipush hC d_Md_fill_75 k_b55 ?_
        refine g_aload_n hC d_Md_fill_77 rfl ?_
        refine fg_Md_76 hC lc_249 d_Md_fill_78 p0_249_40 ?_
        refine g_iload_n hC d_Md_fill_81 rfl ?_
        refine gv_iald hC ly_269 d_Md_fill_82 (fun x9 => ?_)
        refine g_imul hC d_Md_fill_83 ?_
        refine g_bipush hC d_Md_fill_84 k_b24 ?_
        refine g_iadd hC d_Md_fill_86 ?_
        refine gv_iald hC ly_267 d_Md_fill_87 (fun x10 => ?_)
        exact g_iret hC hR d_Md_fill_88
      · refine g_iconst hC d_Md_fill_67 k_i0 ?_
        refine g_goto (tgt := 88) hC d_Md_fill_68 (by decide) ?_
        exact g_iret hC hR d_Md_fill_88
    · refine g_ldc hC d_Md_fill_51 wk_Md_146 ?_
      refine g_goto (tgt := 88) hC d_Md_fill_53 (by decide) ?_
      exact g_iret hC hR d_Md_fill_88
  · refine g_iload_n hC d_Md_fill_35 rfl ?_
    refine g_if_eq (tgt := 43) hC d_Md_fill_36 (by decide) (fun _ => ?_) (fun _ => ?_)
    · refine g_iconst hC d_Md_fill_43 k_i0 ?_
      refine g_goto (tgt := 88) hC d_Md_fill_44 (by decide) ?_
      exact g_iret hC hR d_Md_fill_88
    · refine g_iconst hC d_Md_fill_39 k_i1 ?_
      refine g_goto (tgt := 88) hC d_Md_fill_40 (by decide) ?_
      exact g_iret hC hR d_Md_fill_88
set_option maxHeartbeats 2000000 in
theorem Md_fill_c {l : Launch} {θ : tv_Th} (F : Nat) (a1 : Int32) (M : tv_M) : tv_Ct l θ ⟨"TiedViewsModel", "fill", "(I)I"⟩ prog_14_method_48_code 3 (some .int) 3 tv_ei [.ref (θ.1 + 249), .int a1] M (Md_fill F a1 M) := by
  refine tv_ofG [some (.ref (θ.1 + 249)), some (.int a1), none] rfl rfl (tv_ent 1 rfl) ?_
  intro κ hl ht hC hR
  subst hl; subst ht
  unfold Md_fill
  refine g_aload_n hC d_Md_fill_0 rfl ?_
  refine g_iconst hC d_Md_fill_1 k_i0 ?_
  refine fp_Md_1 hC lc_249 d_Md_fill_2 (fun M1 => ?_)
  refine g_iload_n hC d_Md_fill_5 rfl ?_
  refine g_iconst hC d_Md_fill_6 k_im1 ?_
  refine g_icmp_eq (tgt := 21) hC d_Md_fill_7 (by decide) (fun _ => ?_) (fun _ => ?_)
  · exact Md_fill_L21_g hC hR F a1 M1
  · refine g_aload_n hC d_Md_fill_10 rfl ?_
    refine g_iload_n hC d_Md_fill_11 rfl ?_
    refine gv_callVi hC [.int a1] cw_Md_291 (Md_isColumn_c F a1 M1) lc_249 rfl rfl rfl rfl rfl rfl rfl d_Md_fill_12 (fun r2 M3 => ?_)
    refine g_if_ne (tgt := 21) hC d_Md_fill_15 (by decide) (fun _ => ?_) (fun _ => ?_)
    · exact Md_fill_L21_g hC hR F a1 M3
    · refine g_ldc hC d_Md_fill_18 wk_Md_127 ?_
      exact g_iret hC hR d_Md_fill_20
theorem d_Md_fixed_0 : decode prog_14_method_49_code 0 = .ok (.aload_n 0, 1) := by decide +kernel
theorem d_Md_fixed_1 : decode prog_14_method_49_code 1 = .ok (.iconst 0, 1) := by decide +kernel
theorem d_Md_fixed_2 : decode prog_14_method_49_code 2 = .ok (.putfield 1, 3) := by decide +kernel
theorem d_Md_fixed_5 : decode prog_14_method_49_code 5 = .ok (.aload_n 0, 1) := by decide +kernel
theorem d_Md_fixed_6 : decode prog_14_method_49_code 6 = .ok (.iload_n 1, 1) := by decide +kernel
theorem d_Md_fixed_7 : decode prog_14_method_49_code 7 = .ok (.invokevirtual 291, 3) := by decide +kernel
theorem d_Md_fixed_10 : decode prog_14_method_49_code 10 = .ok (.ifCond .ne 6, 3) := by decide +kernel
theorem d_Md_fixed_13 : decode prog_14_method_49_code 13 = .ok (.ldc 127, 2) := by decide +kernel
theorem d_Md_fixed_15 : decode prog_14_method_49_code 15 = .ok (.ireturn, 1) := by decide +kernel
theorem d_Md_fixed_16 : decode prog_14_method_49_code 16 = .ok (.aload_n 0, 1) := by decide +kernel
theorem d_Md_fixed_17 : decode prog_14_method_49_code 17 = .ok (.aload_n 0, 1) := by decide +kernel
theorem d_Md_fixed_18 : decode prog_14_method_49_code 18 = .ok (.invokevirtual 304, 3) := by decide +kernel
theorem d_Md_fixed_21 : decode prog_14_method_49_code 21 = .ok (.invokevirtual 307, 3) := by decide +kernel
theorem d_Md_fixed_24 : decode prog_14_method_49_code 24 = .ok (.ifCond .eq 14, 3) := by decide +kernel
theorem d_Md_fixed_27 : decode prog_14_method_49_code 27 = .ok (.aload_n 0, 1) := by decide +kernel
theorem d_Md_fixed_28 : decode prog_14_method_49_code 28 = .ok (.getfield 76, 3) := by decide +kernel
theorem d_Md_fixed_31 : decode prog_14_method_49_code 31 = .ok (.iload_n 1, 1) := by decide +kernel
theorem d_Md_fixed_32 : decode prog_14_method_49_code 32 = .ok (.iaload, 1) := by decide +kernel
theorem d_Md_fixed_33 : decode prog_14_method_49_code 33 = .ok (.ldc 146, 2) := by decide +kernel
theorem d_Md_fixed_35 : decode prog_14_method_49_code 35 = .ok (.if_icmp .ne 6, 3) := by decide +kernel
theorem d_Md_fixed_38 : decode prog_14_method_49_code 38 = .ok (.ldc 146, 2) := by decide +kernel
theorem d_Md_fixed_40 : decode prog_14_method_49_code 40 = .ok (.ireturn, 1) := by decide +kernel
theorem d_Md_fixed_41 : decode prog_14_method_49_code 41 = .ok (.iconst 0, 1) := by decide +kernel
theorem d_Md_fixed_42 : decode prog_14_method_49_code 42 = .ok (.istore_n 2, 1) := by decide +kernel
theorem d_Md_fixed_43 : decode prog_14_method_49_code 43 = .ok (.iload_n 2, 1) := by decide +kernel
theorem d_Md_fixed_44 : decode prog_14_method_49_code 44 = .ok (.aload_n 0, 1) := by decide +kernel
theorem d_Md_fixed_45 : decode prog_14_method_49_code 45 = .ok (.getfield 235, 3) := by decide +kernel
theorem d_Md_fixed_48 : decode prog_14_method_49_code 48 = .ok (.if_icmp .ge 42, 3) := by decide +kernel
theorem d_Md_fixed_51 : decode prog_14_method_49_code 51 = .ok (.aload_n 0, 1) := by decide +kernel
theorem d_Md_fixed_52 : decode prog_14_method_49_code 52 = .ok (.getfield 76, 3) := by decide +kernel
theorem d_Md_fixed_55 : decode prog_14_method_49_code 55 = .ok (.iload_n 2, 1) := by decide +kernel
theorem d_Md_fixed_56 : decode prog_14_method_49_code 56 = .ok (.iaload, 1) := by decide +kernel
theorem d_Md_fixed_57 : decode prog_14_method_49_code 57 = .ok (.ldc 146, 2) := by decide +kernel
theorem d_Md_fixed_59 : decode prog_14_method_49_code 59 = .ok (.if_icmp .ne 25, 3) := by decide +kernel
theorem d_Md_fixed_62 : decode prog_14_method_49_code 62 = .ok (.aload_n 0, 1) := by decide +kernel
theorem d_Md_fixed_63 : decode prog_14_method_49_code 63 = .ok (.getfield 69, 3) := by decide +kernel
theorem d_Md_fixed_66 : decode prog_14_method_49_code 66 = .ok (.bipush 55, 2) := by decide +kernel
theorem d_Md_fixed_68 : decode prog_14_method_49_code 68 = .ok (.aload_n 0, 1) := by decide +kernel
theorem d_Md_fixed_69 : decode prog_14_method_49_code 69 = .ok (.getfield 76, 3) := by decide +kernel
theorem d_Md_fixed_72 : decode prog_14_method_49_code 72 = .ok (.iload_n 1, 1) := by decide +kernel
theorem d_Md_fixed_73 : decode prog_14_method_49_code 73 = .ok (.iaload, 1) := by decide +kernel
theorem d_Md_fixed_74 : decode prog_14_method_49_code 74 = .ok (.imul, 1) := by decide +kernel
theorem d_Md_fixed_75 : decode prog_14_method_49_code 75 = .ok (.iload_n 2, 1) := by decide +kernel
theorem d_Md_fixed_76 : decode prog_14_method_49_code 76 = .ok (.iadd, 1) := by decide +kernel
theorem d_Md_fixed_77 : decode prog_14_method_49_code 77 = .ok (.iaload, 1) := by decide +kernel
theorem d_Md_fixed_78 : decode prog_14_method_49_code 78 = .ok (.ifCond .eq 6, 3) := by decide +kernel
theorem d_Md_fixed_81 : decode prog_14_method_49_code 81 = .ok (.ldc 146, 2) := by decide +kernel
theorem d_Md_fixed_83 : decode prog_14_method_49_code 83 = .ok (.ireturn, 1) := by decide +kernel
theorem d_Md_fixed_84 : decode prog_14_method_49_code 84 = .ok (.iinc 2 1, 3) := by decide +kernel
theorem d_Md_fixed_87 : decode prog_14_method_49_code 87 = .ok (.goto (-44), 3) := by decide +kernel
theorem d_Md_fixed_90 : decode prog_14_method_49_code 90 = .ok (.aload_n 0, 1) := by decide +kernel
theorem d_Md_fixed_91 : decode prog_14_method_49_code 91 = .ok (.getfield 69, 3) := by decide +kernel
theorem d_Md_fixed_94 : decode prog_14_method_49_code 94 = .ok (.bipush 55, 2) := by decide +kernel
theorem d_Md_fixed_96 : decode prog_14_method_49_code 96 = .ok (.aload_n 0, 1) := by decide +kernel
theorem d_Md_fixed_97 : decode prog_14_method_49_code 97 = .ok (.getfield 76, 3) := by decide +kernel
theorem d_Md_fixed_100 : decode prog_14_method_49_code 100 = .ok (.iload_n 1, 1) := by decide +kernel
theorem d_Md_fixed_101 : decode prog_14_method_49_code 101 = .ok (.iaload, 1) := by decide +kernel
theorem d_Md_fixed_102 : decode prog_14_method_49_code 102 = .ok (.imul, 1) := by decide +kernel
theorem d_Md_fixed_103 : decode prog_14_method_49_code 103 = .ok (.bipush 24, 2) := by decide +kernel
theorem d_Md_fixed_105 : decode prog_14_method_49_code 105 = .ok (.iadd, 1) := by decide +kernel
theorem d_Md_fixed_106 : decode prog_14_method_49_code 106 = .ok (.iaload, 1) := by decide +kernel
theorem d_Md_fixed_107 : decode prog_14_method_49_code 107 = .ok (.ireturn, 1) := by decide +kernel
set_option maxHeartbeats 2000000 in
theorem Md_fixed_L43_g {κ : tv_Kt} (hC : tv_Cx κ "TiedViewsModel" prog_14_method_49_code 3 3) (hR : tv_Re κ (some .int)) (F : Nat) : ∀ (n : Nat) (l1 : Int32) (l2 : Int32) (M : tv_M), tv_G κ 3 (tv_Qm κ tv_ei) 43 [some (.ref (κ.b + 249)), some (.int l1), some (.int l2)] [] M (Md_fixed_L43 F n l1 l2 M) := by
  intro n
  induction n with
  | zero => intro _ _ _; exact g_none
  | succ nn ih =>
    intro l1 l2 M
    rw [Md_fixed_L43]
    refine g_iload_n hC d_Md_fixed_43 rfl ?_
    refine g_aload_n hC d_Md_fixed_44 rfl ?_
    refine fg_Md_235 hC lc_249 d_Md_fixed_45 ?_
    refine g_icmp_ge (tgt := 90) hC d_Md_fixed_48 (by decide) (fun _ => ?_) (fun _ => ?_)
    · refine g_aload_n hC d_Md_fixed_90 rfl ?_
      refine fg_Md_69 hC lc_249 d_Md_fixed_91 p0_249_38 ?_
      refine g_bipush hC d_Md_fixed_94 k_b55 ?_
      refine g_aload_n hC d_Md_fixed_96 rfl ?_
      refine fg_Md_76 hC lc_249 d_Md_fixed_97 p0_249_40 ?_
      refine g_iload_n hC d_Md_fixed_100 rfl ?_
      refine gv_iald hC ly_269 d_Md_fixed_101 (fun x9 => ?_)
      refine g_imul hC d_Md_fixed_102 ?_
      refine g_bipush hC d_Md_fixed_103 k_b24 ?_
      refine g_iadd hC d_Md_fixed_105 ?_
      refine gv_iald hC ly_267 d_Md_fixed_106 (fun x10 => ?_)
      exact g_iret hC hR d_Md_fixed_107
    · refine g_aload_n hC d_Md_fixed_51 rfl ?_
      refine fg_Md_76 hC lc_249 d_Md_fixed_52 p0_249_40 ?_
      refine g_iload_n hC d_Md_fixed_55 rfl ?_
      refine gv_iald hC ly_269 d_Md_fixed_56 (fun x11 => ?_)
      refine g_ldc hC d_Md_fixed_57 wk_Md_146 ?_
      refine g_icmp_ne (tgt := 84) hC d_Md_fixed_59 (by decide) (fun _ => ?_) (fun _ => ?_)
      · refine g_iinc (ls' := [some (.ref (κ.b + 249)), some (.int l1), some (.int (l2 + 1))]) hC d_Md_fixed_84 rfl k_i1 rfl rfl ?_
        refine g_goto (tgt := 43) hC d_Md_fixed_87 (by decide) ?_
        exact ih l1 (l2 + 1) M
      · refine g_aload_n hC d_Md_fixed_62 rfl ?_
        refine fg_Md_69 hC lc_249 d_Md_fixed_63 p0_249_38 ?_
        refine g_bipush hC d_Md_fixed_66 k_b55 ?_
        refine g_aload_n hC d_Md_fixed_68 rfl ?_
        refine fg_Md_76 hC lc_249 d_Md_fixed_69 p0_249_40 ?_
        refine g_iload_n hC d_Md_fixed_72 rfl ?_
        refine gv_iald hC ly_269 d_Md_fixed_73 (fun x12 => ?_)
        refine g_imul hC d_Md_fixed_74 ?_
        refine g_iload_n hC d_Md_fixed_75 rfl ?_
        refine g_iadd hC d_Md_fixed_76 ?_
        refine gv_iald hC ly_267 d_Md_fixed_77 (fun x13 => ?_)
        refine g_if_eq (tgt := 84) hC d_Md_fixed_78 (by decide) (fun _ => ?_) (fun _ => ?_)
        · refine g_iinc (ls' := [some (.ref (κ.b + 249)), some (.int l1), some (.int (l2 + 1))]) hC d_Md_fixed_84 rfl k_i1 rfl rfl ?_
          refine g_goto (tgt := 43) hC d_Md_fixed_87 (by decide) ?_
          exact ih l1 (l2 + 1) M
        · refine g_ldc hC d_Md_fixed_81 wk_Md_146 ?_
          exact g_iret hC hR d_Md_fixed_83
set_option maxHeartbeats 2000000 in
theorem Md_fixed_c {l : Launch} {θ : tv_Th} (F : Nat) (a1 : Int32) (M : tv_M) : tv_Ct l θ ⟨"TiedViewsModel", "fixed", "(I)I"⟩ prog_14_method_49_code 3 (some .int) 3 tv_ei [.ref (θ.1 + 249), .int a1] M (Md_fixed F a1 M) := by
  refine tv_ofG [some (.ref (θ.1 + 249)), some (.int a1), none] rfl rfl (tv_ent 1 rfl) ?_
  intro κ hl ht hC hR
  subst hl; subst ht
  unfold Md_fixed
  refine g_aload_n hC d_Md_fixed_0 rfl ?_
  refine g_iconst hC d_Md_fixed_1 k_i0 ?_
  refine fp_Md_1 hC lc_249 d_Md_fixed_2 (fun M1 => ?_)
  refine g_aload_n hC d_Md_fixed_5 rfl ?_
  refine g_iload_n hC d_Md_fixed_6 rfl ?_
  refine gv_callVi hC [.int a1] cw_Md_291 (Md_isColumn_c F a1 M1) lc_249 rfl rfl rfl rfl rfl rfl rfl d_Md_fixed_7 (fun r2 M3 => ?_)
  refine g_if_ne (tgt := 16) hC d_Md_fixed_10 (by decide) (fun _ => ?_) (fun _ => ?_)
  · refine g_aload_n hC d_Md_fixed_16 rfl ?_
    refine g_aload_n hC d_Md_fixed_17 rfl ?_
    refine gv_callVi hC [] cw_Md_304 (Md_readingSet_c F M3) lc_249 rfl rfl rfl rfl rfl rfl rfl d_Md_fixed_18 (fun r4 M5 => ?_)
    refine gv_callVi hC [.int r4] cw_Md_307 (Md_areFit_c F r4 M5) lc_249 rfl rfl rfl rfl rfl rfl rfl d_Md_fixed_21 (fun r6 M7 => ?_)
    refine g_if_eq (tgt := 38) hC d_Md_fixed_24 (by decide) (fun _ => ?_) (fun _ => ?_)
    · refine g_ldc hC d_Md_fixed_38 wk_Md_146 ?_
      exact g_iret hC hR d_Md_fixed_40
    · refine g_aload_n hC d_Md_fixed_27 rfl ?_
      refine fg_Md_76 hC lc_249 d_Md_fixed_28 p0_249_40 ?_
      refine g_iload_n hC d_Md_fixed_31 rfl ?_
      refine gv_iald hC ly_269 d_Md_fixed_32 (fun x8 => ?_)
      refine g_ldc hC d_Md_fixed_33 wk_Md_146 ?_
      refine g_icmp_ne (tgt := 41) hC d_Md_fixed_35 (by decide) (fun _ => ?_) (fun _ => ?_)
      · refine g_iconst hC d_Md_fixed_41 k_i0 ?_
        refine g_istore_n (ls' := [some (.ref (κ.b + 249)), some (.int a1), some (.int 0)]) hC d_Md_fixed_42 rfl rfl ?_
        exact Md_fixed_L43_g hC hR F F a1 0 M7
      · refine g_ldc hC d_Md_fixed_38 wk_Md_146 ?_
        exact g_iret hC hR d_Md_fixed_40
  · refine g_ldc hC d_Md_fixed_13 wk_Md_127 ?_
    exact g_iret hC hR d_Md_fixed_15
theorem d_Md_bits_0 : decode prog_14_method_50_code 0 = .ok (.iconst 0, 1) := by decide +kernel
theorem d_Md_bits_1 : decode prog_14_method_50_code 1 = .ok (.istore_n 1, 1) := by decide +kernel
theorem d_Md_bits_2 : decode prog_14_method_50_code 2 = .ok (.iconst 0, 1) := by decide +kernel
theorem d_Md_bits_3 : decode prog_14_method_50_code 3 = .ok (.istore_n 2, 1) := by decide +kernel
theorem d_Md_bits_4 : decode prog_14_method_50_code 4 = .ok (.iload_n 2, 1) := by decide +kernel
theorem d_Md_bits_5 : decode prog_14_method_50_code 5 = .ok (.bipush 8, 2) := by decide +kernel
theorem d_Md_bits_7 : decode prog_14_method_50_code 7 = .ok (.if_icmp .ge 17, 3) := by decide +kernel
theorem d_Md_bits_10 : decode prog_14_method_50_code 10 = .ok (.iload_n 1, 1) := by decide +kernel
theorem d_Md_bits_11 : decode prog_14_method_50_code 11 = .ok (.iload_n 0, 1) := by decide +kernel
theorem d_Md_bits_12 : decode prog_14_method_50_code 12 = .ok (.iload_n 2, 1) := by decide +kernel
theorem d_Md_bits_13 : decode prog_14_method_50_code 13 = .ok (.ishr, 1) := by decide +kernel
theorem d_Md_bits_14 : decode prog_14_method_50_code 14 = .ok (.iconst 1, 1) := by decide +kernel
theorem d_Md_bits_15 : decode prog_14_method_50_code 15 = .ok (.iand, 1) := by decide +kernel
theorem d_Md_bits_16 : decode prog_14_method_50_code 16 = .ok (.iadd, 1) := by decide +kernel
theorem d_Md_bits_17 : decode prog_14_method_50_code 17 = .ok (.istore_n 1, 1) := by decide +kernel
theorem d_Md_bits_18 : decode prog_14_method_50_code 18 = .ok (.iinc 2 1, 3) := by decide +kernel
theorem d_Md_bits_21 : decode prog_14_method_50_code 21 = .ok (.goto (-17), 3) := by decide +kernel
theorem d_Md_bits_24 : decode prog_14_method_50_code 24 = .ok (.iload_n 1, 1) := by decide +kernel
theorem d_Md_bits_25 : decode prog_14_method_50_code 25 = .ok (.ireturn, 1) := by decide +kernel
set_option maxHeartbeats 2000000 in
theorem Md_bits_L4_g {κ : tv_Kt} (hC : tv_Cx κ "TiedViewsModel" prog_14_method_50_code 3 0) (hR : tv_Re κ (some .int)) (F : Nat) : ∀ (n : Nat) (l0 : Int32) (l1 : Int32) (l2 : Int32) (M : tv_M), tv_G κ 3 (tv_Qm κ tv_ei) 4 [some (.int l0), some (.int l1), some (.int l2)] [] M (Md_bits_L4 F n l0 l1 l2 M) := by
  intro n
  induction n with
  | zero => intro _ _ _ _; exact g_none
  | succ nn ih =>
    intro l0 l1 l2 M
    rw [Md_bits_L4]
    refine g_iload_n hC d_Md_bits_4 rfl ?_
    refine g_bipush hC d_Md_bits_5 k_b8 ?_
    refine g_icmp_ge (tgt := 24) hC d_Md_bits_7 (by decide) (fun _ => ?_) (fun _ => ?_)
    · refine g_iload_n hC d_Md_bits_24 rfl ?_
      exact g_iret hC hR d_Md_bits_25
    · refine g_iload_n hC d_Md_bits_10 rfl ?_
      refine g_iload_n hC d_Md_bits_11 rfl ?_
      refine g_iload_n hC d_Md_bits_12 rfl ?_
      refine g_ishr hC d_Md_bits_13 ?_
      refine g_iconst hC d_Md_bits_14 k_i1 ?_
      refine g_iand hC d_Md_bits_15 ?_
      refine g_iadd hC d_Md_bits_16 ?_
      refine g_let (fun x1 => ?_)
      refine g_istore_n (ls' := [some (.int l0), some (.int x1), some (.int l2)]) hC d_Md_bits_17 rfl rfl ?_
      refine g_iinc (ls' := [some (.int l0), some (.int x1), some (.int (l2 + 1))]) hC d_Md_bits_18 rfl k_i1 rfl rfl ?_
      refine g_goto (tgt := 4) hC d_Md_bits_21 (by decide) ?_
      exact ih l0 x1 (l2 + 1) M
set_option maxHeartbeats 2000000 in
theorem Md_bits_c {l : Launch} {θ : tv_Th} (F : Nat) (a0 : Int32) (M : tv_M) : tv_Ct l θ ⟨"TiedViewsModel", "bits", "(I)I"⟩ prog_14_method_50_code 3 (some .int) 0 tv_ei [.int a0] M (Md_bits F a0 M) := by
  refine tv_ofG [some (.int a0), none, none] rfl rfl (tv_ent 2 rfl) ?_
  intro κ hl ht hC hR
  subst hl; subst ht
  unfold Md_bits
  refine g_iconst hC d_Md_bits_0 k_i0 ?_
  refine g_istore_n (ls' := [some (.int a0), some (.int 0), none]) hC d_Md_bits_1 rfl rfl ?_
  refine g_iconst hC d_Md_bits_2 k_i0 ?_
  refine g_istore_n (ls' := [some (.int a0), some (.int 0), some (.int 0)]) hC d_Md_bits_3 rfl rfl ?_
  exact Md_bits_L4_g hC hR F F a0 0 0 M
theorem d_Md_fewest_0 : decode prog_14_method_51_code 0 = .ok (.aload_n 0, 1) := by decide +kernel
theorem d_Md_fewest_1 : decode prog_14_method_51_code 1 = .ok (.iconst 0, 1) := by decide +kernel
theorem d_Md_fewest_2 : decode prog_14_method_51_code 2 = .ok (.putfield 1, 3) := by decide +kernel
theorem d_Md_fewest_5 : decode prog_14_method_51_code 5 = .ok (.aload_n 0, 1) := by decide +kernel
theorem d_Md_fewest_6 : decode prog_14_method_51_code 6 = .ok (.invokevirtual 304, 3) := by decide +kernel
theorem d_Md_fewest_9 : decode prog_14_method_51_code 9 = .ok (.istore_n 1, 1) := by decide +kernel
theorem d_Md_fewest_10 : decode prog_14_method_51_code 10 = .ok (.iload_n 1, 1) := by decide +kernel
theorem d_Md_fewest_11 : decode prog_14_method_51_code 11 = .ok (.istore_n 2, 1) := by decide +kernel
theorem d_Md_fewest_12 : decode prog_14_method_51_code 12 = .ok (.iconst 0, 1) := by decide +kernel
theorem d_Md_fewest_13 : decode prog_14_method_51_code 13 = .ok (.istore_n 3, 1) := by decide +kernel
theorem d_Md_fewest_14 : decode prog_14_method_51_code 14 = .ok (.iload_n 3, 1) := by decide +kernel
theorem d_Md_fewest_15 : decode prog_14_method_51_code 15 = .ok (.sipush 256, 3) := by decide +kernel
theorem d_Md_fewest_18 : decode prog_14_method_51_code 18 = .ok (.if_icmp .ge 42, 3) := by decide +kernel
theorem d_Md_fewest_21 : decode prog_14_method_51_code 21 = .ok (.iload_n 3, 1) := by decide +kernel
theorem d_Md_fewest_22 : decode prog_14_method_51_code 22 = .ok (.iload_n 1, 1) := by decide +kernel
theorem d_Md_fewest_23 : decode prog_14_method_51_code 23 = .ok (.iconst (-1), 1) := by decide +kernel
theorem d_Md_fewest_24 : decode prog_14_method_51_code 24 = .ok (.ixor, 1) := by decide +kernel
theorem d_Md_fewest_25 : decode prog_14_method_51_code 25 = .ok (.iand, 1) := by decide +kernel
theorem d_Md_fewest_26 : decode prog_14_method_51_code 26 = .ok (.ifCond .ne 28, 3) := by decide +kernel
theorem d_Md_fewest_29 : decode prog_14_method_51_code 29 = .ok (.iload_n 3, 1) := by decide +kernel
theorem d_Md_fewest_30 : decode prog_14_method_51_code 30 = .ok (.invokestatic 310, 3) := by decide +kernel
theorem d_Md_fewest_33 : decode prog_14_method_51_code 33 = .ok (.iload_n 2, 1) := by decide +kernel
theorem d_Md_fewest_34 : decode prog_14_method_51_code 34 = .ok (.invokestatic 310, 3) := by decide +kernel
theorem d_Md_fewest_37 : decode prog_14_method_51_code 37 = .ok (.if_icmp .ge 17, 3) := by decide +kernel
theorem d_Md_fewest_40 : decode prog_14_method_51_code 40 = .ok (.aload_n 0, 1) := by decide +kernel
theorem d_Md_fewest_41 : decode prog_14_method_51_code 41 = .ok (.iload_n 1, 1) := by decide +kernel
theorem d_Md_fewest_42 : decode prog_14_method_51_code 42 = .ok (.iload_n 3, 1) := by decide +kernel
theorem d_Md_fewest_43 : decode prog_14_method_51_code 43 = .ok (.iconst (-1), 1) := by decide +kernel
theorem d_Md_fewest_44 : decode prog_14_method_51_code 44 = .ok (.ixor, 1) := by decide +kernel
theorem d_Md_fewest_45 : decode prog_14_method_51_code 45 = .ok (.iand, 1) := by decide +kernel
theorem d_Md_fewest_46 : decode prog_14_method_51_code 46 = .ok (.invokevirtual 307, 3) := by decide +kernel
theorem d_Md_fewest_49 : decode prog_14_method_51_code 49 = .ok (.ifCond .eq 5, 3) := by decide +kernel
theorem d_Md_fewest_52 : decode prog_14_method_51_code 52 = .ok (.iload_n 3, 1) := by decide +kernel
theorem d_Md_fewest_53 : decode prog_14_method_51_code 53 = .ok (.istore_n 2, 1) := by decide +kernel
theorem d_Md_fewest_54 : decode prog_14_method_51_code 54 = .ok (.iinc 3 1, 3) := by decide +kernel
theorem d_Md_fewest_57 : decode prog_14_method_51_code 57 = .ok (.goto (-43), 3) := by decide +kernel
theorem d_Md_fewest_60 : decode prog_14_method_51_code 60 = .ok (.iload_n 2, 1) := by decide +kernel
theorem d_Md_fewest_61 : decode prog_14_method_51_code 61 = .ok (.ireturn, 1) := by decide +kernel
set_option maxHeartbeats 2000000 in
theorem Md_fewest_L14_g {κ : tv_Kt} (hC : tv_Cx κ "TiedViewsModel" prog_14_method_51_code 4 3) (hR : tv_Re κ (some .int)) (F : Nat) : ∀ (n : Nat) (l1 : Int32) (l2 : Int32) (l3 : Int32) (M : tv_M), tv_G κ 4 (tv_Qm κ tv_ei) 14 [some (.ref (κ.b + 249)), some (.int l1), some (.int l2), some (.int l3)] [] M (Md_fewest_L14 F n l1 l2 l3 M) := by
  intro n
  induction n with
  | zero => intro _ _ _ _; exact g_none
  | succ nn ih =>
    intro l1 l2 l3 M
    rw [Md_fewest_L14]
    refine g_iload_n hC d_Md_fewest_14 rfl ?_
    refine g_sipush hC d_Md_fewest_15 k_s256 ?_
    refine g_icmp_ge (tgt := 60) hC d_Md_fewest_18 (by decide) (fun _ => ?_) (fun _ => ?_)
    · refine g_iload_n hC d_Md_fewest_60 rfl ?_
      exact g_iret hC hR d_Md_fewest_61
    · refine g_iload_n hC d_Md_fewest_21 rfl ?_
      refine g_iload_n hC d_Md_fewest_22 rfl ?_
      refine g_iconst hC d_Md_fewest_23 k_im1 ?_
      refine g_ixor hC d_Md_fewest_24 ?_
      refine g_iand hC d_Md_fewest_25 ?_
      refine g_if_ne (tgt := 54) hC d_Md_fewest_26 (by decide) (fun _ => ?_) (fun _ => ?_)
      · refine g_iinc (ls' := [some (.ref (κ.b + 249)), some (.int l1), some (.int l2), some (.int (l3 + 1))]) hC d_Md_fewest_54 rfl k_i1 rfl rfl ?_
        refine g_goto (tgt := 14) hC d_Md_fewest_57 (by decide) ?_
        exact ih l1 l2 (l3 + 1) M
      · refine g_iload_n hC d_Md_fewest_29 rfl ?_
        refine gv_callSi hC [.int l3] cw_Md_310 (Md_bits_c F l3 M) rfl rfl rfl rfl rfl d_Md_fewest_30 (fun r4 M5 => ?_)
        refine g_iload_n hC d_Md_fewest_33 rfl ?_
        refine gv_callSi hC [.int l2] cw_Md_310 (Md_bits_c F l2 M5) rfl rfl rfl rfl rfl d_Md_fewest_34 (fun r6 M7 => ?_)
        refine g_icmp_ge (tgt := 54) hC d_Md_fewest_37 (by decide) (fun _ => ?_) (fun _ => ?_)
        · refine g_iinc (ls' := [some (.ref (κ.b + 249)), some (.int l1), some (.int l2), some (.int (l3 + 1))]) hC d_Md_fewest_54 rfl k_i1 rfl rfl ?_
          refine g_goto (tgt := 14) hC d_Md_fewest_57 (by decide) ?_
          exact ih l1 l2 (l3 + 1) M7
        · refine g_aload_n hC d_Md_fewest_40 rfl ?_
          refine g_iload_n hC d_Md_fewest_41 rfl ?_
          refine g_iload_n hC d_Md_fewest_42 rfl ?_
          refine g_iconst hC d_Md_fewest_43 k_im1 ?_
          refine g_ixor hC d_Md_fewest_44 ?_
          refine g_iand hC d_Md_fewest_45 ?_
          refine gv_callVi hC [.int (l1 &&& (l3 ^^^ (-1)))] cw_Md_307 (Md_areFit_c F (l1 &&& (l3 ^^^ (-1))) M7) lc_249 rfl rfl rfl rfl rfl rfl rfl d_Md_fewest_46 (fun r8 M9 => ?_)
          refine g_if_eq (tgt := 54) hC d_Md_fewest_49 (by decide) (fun _ => ?_) (fun _ => ?_)
          · refine g_iinc (ls' := [some (.ref (κ.b + 249)), some (.int l1), some (.int l2), some (.int (l3 + 1))]) hC d_Md_fewest_54 rfl k_i1 rfl rfl ?_
            refine g_goto (tgt := 14) hC d_Md_fewest_57 (by decide) ?_
            exact ih l1 l2 (l3 + 1) M9
          · refine g_iload_n hC d_Md_fewest_52 rfl ?_
            refine g_istore_n (ls' := [some (.ref (κ.b + 249)), some (.int l1), some (.int l3), some (.int l3)]) hC d_Md_fewest_53 rfl rfl ?_
            refine g_iinc (ls' := [some (.ref (κ.b + 249)), some (.int l1), some (.int l3), some (.int (l3 + 1))]) hC d_Md_fewest_54 rfl k_i1 rfl rfl ?_
            refine g_goto (tgt := 14) hC d_Md_fewest_57 (by decide) ?_
            exact ih l1 l3 (l3 + 1) M9
set_option maxHeartbeats 2000000 in
theorem Md_fewest_c {l : Launch} {θ : tv_Th} (F : Nat) (M : tv_M) : tv_Ct l θ ⟨"TiedViewsModel", "fewest", "()I"⟩ prog_14_method_51_code 4 (some .int) 3 tv_ei [.ref (θ.1 + 249)] M (Md_fewest F M) := by
  refine tv_ofG [some (.ref (θ.1 + 249)), none, none, none] rfl rfl (tv_ent 3 rfl) ?_
  intro κ hl ht hC hR
  subst hl; subst ht
  unfold Md_fewest
  refine g_aload_n hC d_Md_fewest_0 rfl ?_
  refine g_iconst hC d_Md_fewest_1 k_i0 ?_
  refine fp_Md_1 hC lc_249 d_Md_fewest_2 (fun M1 => ?_)
  refine g_aload_n hC d_Md_fewest_5 rfl ?_
  refine gv_callVi hC [] cw_Md_304 (Md_readingSet_c F M1) lc_249 rfl rfl rfl rfl rfl rfl rfl d_Md_fewest_6 (fun r2 M3 => ?_)
  refine g_istore_n (ls' := [some (.ref (κ.b + 249)), some (.int r2), none, none]) hC d_Md_fewest_9 rfl rfl ?_
  refine g_iload_n hC d_Md_fewest_10 rfl ?_
  refine g_istore_n (ls' := [some (.ref (κ.b + 249)), some (.int r2), some (.int r2), none]) hC d_Md_fewest_11 rfl rfl ?_
  refine g_iconst hC d_Md_fewest_12 k_i0 ?_
  refine g_istore_n (ls' := [some (.ref (κ.b + 249)), some (.int r2), some (.int r2), some (.int 0)]) hC d_Md_fewest_13 rfl rfl ?_
  exact Md_fewest_L14_g hC hR F F r2 r2 0 M3
theorem d_Md_met_0 : decode prog_14_method_52_code 0 = .ok (.aload_n 0, 1) := by decide +kernel
theorem d_Md_met_1 : decode prog_14_method_52_code 1 = .ok (.iconst 0, 1) := by decide +kernel
theorem d_Md_met_2 : decode prog_14_method_52_code 2 = .ok (.putfield 1, 3) := by decide +kernel
theorem d_Md_met_5 : decode prog_14_method_52_code 5 = .ok (.aload_n 0, 1) := by decide +kernel
theorem d_Md_met_6 : decode prog_14_method_52_code 6 = .ok (.ldc 146, 2) := by decide +kernel
theorem d_Md_met_8 : decode prog_14_method_52_code 8 = .ok (.invokevirtual 282, 3) := by decide +kernel
theorem d_Md_met_11 : decode prog_14_method_52_code 11 = .ok (.iload_n 1, 1) := by decide +kernel
theorem d_Md_met_12 : decode prog_14_method_52_code 12 = .ok (.invokestatic 121, 3) := by decide +kernel
theorem d_Md_met_15 : decode prog_14_method_52_code 15 = .ok (.ifCond .eq 21, 3) := by decide +kernel
theorem d_Md_met_18 : decode prog_14_method_52_code 18 = .ok (.iload_n 3, 1) := by decide +kernel
theorem d_Md_met_19 : decode prog_14_method_52_code 19 = .ok (.i2l, 1) := by decide +kernel
theorem d_Md_met_20 : decode prog_14_method_52_code 20 = .ok (.ldc2_w 313, 3) := by decide +kernel
theorem d_Md_met_23 : decode prog_14_method_52_code 23 = .ok (.aload_n 0, 1) := by decide +kernel
theorem d_Md_met_24 : decode prog_14_method_52_code 24 = .ok (.getfield 271, 3) := by decide +kernel
theorem d_Md_met_27 : decode prog_14_method_52_code 27 = .ok (.iconst 1, 1) := by decide +kernel
theorem d_Md_met_28 : decode prog_14_method_52_code 28 = .ok (.isub, 1) := by decide +kernel
theorem d_Md_met_29 : decode prog_14_method_52_code 29 = .ok (.i2l, 1) := by decide +kernel
theorem d_Md_met_30 : decode prog_14_method_52_code 30 = .ok (.invokestatic 115, 3) := by decide +kernel
theorem d_Md_met_33 : decode prog_14_method_52_code 33 = .ok (.ifCond .ne 6, 3) := by decide +kernel
theorem d_Md_met_36 : decode prog_14_method_52_code 36 = .ok (.ldc 127, 2) := by decide +kernel
theorem d_Md_met_38 : decode prog_14_method_52_code 38 = .ok (.ireturn, 1) := by decide +kernel
theorem d_Md_met_39 : decode prog_14_method_52_code 39 = .ok (.aload_n 0, 1) := by decide +kernel
theorem d_Md_met_40 : decode prog_14_method_52_code 40 = .ok (.iload_n 1, 1) := by decide +kernel
theorem d_Md_met_41 : decode prog_14_method_52_code 41 = .ok (.iload_n 2, 1) := by decide +kernel
theorem d_Md_met_42 : decode prog_14_method_52_code 42 = .ok (.aload_n 0, 1) := by decide +kernel
theorem d_Md_met_43 : decode prog_14_method_52_code 43 = .ok (.getfield 271, 3) := by decide +kernel
theorem d_Md_met_46 : decode prog_14_method_52_code 46 = .ok (.invokevirtual 297, 3) := by decide +kernel
theorem d_Md_met_49 : decode prog_14_method_52_code 49 = .ok (.istore 4, 2) := by decide +kernel
theorem d_Md_met_51 : decode prog_14_method_52_code 51 = .ok (.iload 4, 2) := by decide +kernel
theorem d_Md_met_53 : decode prog_14_method_52_code 53 = .ok (.ifCond .ge 6, 3) := by decide +kernel
theorem d_Md_met_56 : decode prog_14_method_52_code 56 = .ok (.iload 4, 2) := by decide +kernel
theorem d_Md_met_58 : decode prog_14_method_52_code 58 = .ok (.ireturn, 1) := by decide +kernel
theorem d_Md_met_59 : decode prog_14_method_52_code 59 = .ok (.iconst 0, 1) := by decide +kernel
theorem d_Md_met_60 : decode prog_14_method_52_code 60 = .ok (.istore 5, 2) := by decide +kernel
theorem d_Md_met_62 : decode prog_14_method_52_code 62 = .ok (.iload 5, 2) := by decide +kernel
theorem d_Md_met_64 : decode prog_14_method_52_code 64 = .ok (.aload_n 0, 1) := by decide +kernel
theorem d_Md_met_65 : decode prog_14_method_52_code 65 = .ok (.getfield 271, 3) := by decide +kernel
theorem d_Md_met_68 : decode prog_14_method_52_code 68 = .ok (.if_icmp .ge 53, 3) := by decide +kernel
theorem d_Md_met_71 : decode prog_14_method_52_code 71 = .ok (.aload_n 0, 1) := by decide +kernel
theorem d_Md_met_72 : decode prog_14_method_52_code 72 = .ok (.getfield 69, 3) := by decide +kernel
theorem d_Md_met_75 : decode prog_14_method_52_code 75 = .ok (.bipush 55, 2) := by decide +kernel
theorem d_Md_met_77 : decode prog_14_method_52_code 77 = .ok (.iload 5, 2) := by decide +kernel
theorem d_Md_met_79 : decode prog_14_method_52_code 79 = .ok (.imul, 1) := by decide +kernel
theorem d_Md_met_80 : decode prog_14_method_52_code 80 = .ok (.bipush 24, 2) := by decide +kernel
theorem d_Md_met_82 : decode prog_14_method_52_code 82 = .ok (.iadd, 1) := by decide +kernel
theorem d_Md_met_83 : decode prog_14_method_52_code 83 = .ok (.aload_n 0, 1) := by decide +kernel
theorem d_Md_met_84 : decode prog_14_method_52_code 84 = .ok (.getfield 24, 3) := by decide +kernel
theorem d_Md_met_87 : decode prog_14_method_52_code 87 = .ok (.bipush 40, 2) := by decide +kernel
theorem d_Md_met_89 : decode prog_14_method_52_code 89 = .ok (.iload_n 1, 1) := by decide +kernel
theorem d_Md_met_90 : decode prog_14_method_52_code 90 = .ok (.imul, 1) := by decide +kernel
theorem d_Md_met_91 : decode prog_14_method_52_code 91 = .ok (.iload_n 2, 1) := by decide +kernel
theorem d_Md_met_92 : decode prog_14_method_52_code 92 = .ok (.iadd, 1) := by decide +kernel
theorem d_Md_met_93 : decode prog_14_method_52_code 93 = .ok (.iload 5, 2) := by decide +kernel
theorem d_Md_met_95 : decode prog_14_method_52_code 95 = .ok (.iadd, 1) := by decide +kernel
theorem d_Md_met_96 : decode prog_14_method_52_code 96 = .ok (.iaload, 1) := by decide +kernel
theorem d_Md_met_97 : decode prog_14_method_52_code 97 = .ok (.iastore, 1) := by decide +kernel
theorem d_Md_met_98 : decode prog_14_method_52_code 98 = .ok (.aload_n 0, 1) := by decide +kernel
theorem d_Md_met_99 : decode prog_14_method_52_code 99 = .ok (.getfield 69, 3) := by decide +kernel
theorem d_Md_met_102 : decode prog_14_method_52_code 102 = .ok (.bipush 55, 2) := by decide +kernel
theorem d_Md_met_104 : decode prog_14_method_52_code 104 = .ok (.iload 5, 2) := by decide +kernel
theorem d_Md_met_106 : decode prog_14_method_52_code 106 = .ok (.imul, 1) := by decide +kernel
theorem d_Md_met_107 : decode prog_14_method_52_code 107 = .ok (.bipush 25, 2) := by decide +kernel
theorem d_Md_met_109 : decode prog_14_method_52_code 109 = .ok (.iadd, 1) := by decide +kernel
theorem d_Md_met_110 : decode prog_14_method_52_code 110 = .ok (.iload 5, 2) := by decide +kernel
theorem d_Md_met_112 : decode prog_14_method_52_code 112 = .ok (.iadd, 1) := by decide +kernel
theorem d_Md_met_113 : decode prog_14_method_52_code 113 = .ok (.iconst 1, 1) := by decide +kernel
theorem d_Md_met_114 : decode prog_14_method_52_code 114 = .ok (.iastore, 1) := by decide +kernel
theorem d_Md_met_115 : decode prog_14_method_52_code 115 = .ok (.iinc 5 1, 3) := by decide +kernel
theorem d_Md_met_118 : decode prog_14_method_52_code 118 = .ok (.goto (-56), 3) := by decide +kernel
theorem d_Md_met_121 : decode prog_14_method_52_code 121 = .ok (.aload_n 0, 1) := by decide +kernel
theorem d_Md_met_122 : decode prog_14_method_52_code 122 = .ok (.invokevirtual 285, 3) := by decide +kernel
theorem d_Md_met_125 : decode prog_14_method_52_code 125 = .ok (.aload_n 0, 1) := by decide +kernel
theorem d_Md_met_126 : decode prog_14_method_52_code 126 = .ok (.invokevirtual 301, 3) := by decide +kernel
theorem d_Md_met_129 : decode prog_14_method_52_code 129 = .ok (.istore 5, 2) := by decide +kernel
theorem d_Md_met_131 : decode prog_14_method_52_code 131 = .ok (.iload_n 3, 1) := by decide +kernel
theorem d_Md_met_132 : decode prog_14_method_52_code 132 = .ok (.iconst (-1), 1) := by decide +kernel
theorem d_Md_met_133 : decode prog_14_method_52_code 133 = .ok (.if_icmp .ne 18, 3) := by decide +kernel
theorem d_Md_met_136 : decode prog_14_method_52_code 136 = .ok (.iload 5, 2) := by decide +kernel
theorem d_Md_met_138 : decode prog_14_method_52_code 138 = .ok (.ldc 146, 2) := by decide +kernel
theorem d_Md_met_140 : decode prog_14_method_52_code 140 = .ok (.if_icmp .ne 7, 3) := by decide +kernel
theorem d_Md_met_143 : decode prog_14_method_52_code 143 = .ok (.iconst 1, 1) := by decide +kernel
theorem d_Md_met_144 : decode prog_14_method_52_code 144 = .ok (.goto 34, 3) := by decide +kernel
theorem d_Md_met_147 : decode prog_14_method_52_code 147 = .ok (.iconst 0, 1) := by decide +kernel
theorem d_Md_met_148 : decode prog_14_method_52_code 148 = .ok (.goto 30, 3) := by decide +kernel
theorem d_Md_met_151 : decode prog_14_method_52_code 151 = .ok (.iload 5, 2) := by decide +kernel
theorem d_Md_met_153 : decode prog_14_method_52_code 153 = .ok (.ldc 146, 2) := by decide +kernel
theorem d_Md_met_155 : decode prog_14_method_52_code 155 = .ok (.if_icmp .ne 8, 3) := by decide +kernel
theorem d_Md_met_158 : decode prog_14_method_52_code 158 = .ok (.ldc 146, 2) := by decide +kernel
theorem d_Md_met_160 : decode prog_14_method_52_code 160 = .ok (.goto 18, 3) := by decide +kernel
theorem d_Md_met_163 : decode prog_14_method_52_code 163 = .ok (.aload_n 0, 1) := by decide +kernel
theorem d_Md_met_164 : decode prog_14_method_52_code 164 = .ok (.getfield 69, 3) := by decide +kernel
theorem d_Md_met_167 : decode prog_14_method_52_code 167 = .ok (.bipush 55, 2) := by decide +kernel
theorem d_Md_met_169 : decode prog_14_method_52_code 169 = .ok (.iload 5, 2) := by decide +kernel
theorem d_Md_met_171 : decode prog_14_method_52_code 171 = .ok (.imul, 1) := by decide +kernel
theorem d_Md_met_172 : decode prog_14_method_52_code 172 = .ok (.bipush 25, 2) := by decide +kernel
theorem d_Md_met_174 : decode prog_14_method_52_code 174 = .ok (.iadd, 1) := by decide +kernel
theorem d_Md_met_175 : decode prog_14_method_52_code 175 = .ok (.iload_n 3, 1) := by decide +kernel
theorem d_Md_met_176 : decode prog_14_method_52_code 176 = .ok (.iadd, 1) := by decide +kernel
theorem d_Md_met_177 : decode prog_14_method_52_code 177 = .ok (.iaload, 1) := by decide +kernel
theorem d_Md_met_178 : decode prog_14_method_52_code 178 = .ok (.ireturn, 1) := by decide +kernel
set_option maxHeartbeats 2000000 in
theorem Md_met_L62_g {κ : tv_Kt} (hC : tv_Cx κ "TiedViewsModel" prog_14_method_52_code 6 3) (hR : tv_Re κ (some .int)) (F : Nat) : ∀ (n : Nat) (l1 : Int32) (l2 : Int32) (l3 : Int32) (l5 : Int32) (M : tv_M), tv_G κ 6 (tv_Qm κ tv_ei) 62 [some (.ref (κ.b + 249)), some (.int l1), some (.int l2), some (.int l3), none, some (.int l5)] [] M (Md_met_L62 F n l1 l2 l3 l5 M) := by
  intro n
  induction n with
  | zero => intro _ _ _ _ _; exact g_none
  | succ nn ih =>
    intro l1 l2 l3 l5 M
    rw [Md_met_L62]
    refine g_iload hC d_Md_met_62 rfl ?_
    refine g_aload_n hC d_Md_met_64 rfl ?_
    refine fg_Md_271 hC lc_249 d_Md_met_65 ?_
    refine g_icmp_ge (tgt := 121) hC d_Md_met_68 (by decide) (fun _ => ?_) (fun _ => ?_)
    · refine g_aload_n hC d_Md_met_121 rfl ?_
      refine gv_callVv hC [] cw_Md_285 (Md_takeSteps_c F M) lc_249 rfl rfl rfl rfl rfl rfl rfl d_Md_met_122 (fun r10 M11 => ?_)
      refine g_aload_n hC d_Md_met_125 rfl ?_
      refine gv_callVi hC [] cw_Md_301 (Md_wantsInVain_c F M11) lc_249 rfl rfl rfl rfl rfl rfl rfl d_Md_met_126 (fun r12 M13 => ?_)
      refine g_istore (ls' := [some (.ref (κ.b + 249)), some (.int l1), some (.int l2), some (.int l3), none, some (.int r12)]) hC d_Md_met_129 rfl rfl ?_
      refine g_iload_n hC d_Md_met_131 rfl ?_
      refine g_iconst hC d_Md_met_132 k_im1 ?_
      refine g_icmp_ne (tgt := 151) hC d_Md_met_133 (by decide) (fun _ => ?_) (fun _ => ?_)
      · refine g_iload hC d_Md_met_151 rfl ?_
        refine g_ldc hC d_Md_met_153 wk_Md_146 ?_
        refine g_icmp_ne (tgt := 163) hC d_Md_met_155 (by decide) (fun _ => ?_) (fun _ => ?_)
        · refine g_aload_n hC d_Md_met_163 rfl ?_
          refine fg_Md_69 hC lc_249 d_Md_met_164 p0_249_38 ?_
          refine g_bipush hC d_Md_met_167 k_b55 ?_
          refine g_iload hC d_Md_met_169 rfl ?_
          refine g_imul hC d_Md_met_171 ?_
          refine g_bipush hC d_Md_met_172 k_b25 ?_
          refine g_iadd hC d_Md_met_174 ?_
          refine g_iload_n hC d_Md_met_175 rfl ?_
          refine g_iadd hC d_Md_met_176 ?_
          refine gv_iald hC ly_267 d_Md_met_177 (fun x14 => ?_)
          exact g_iret hC hR d_Md_met_178
        · refine g_ldc hC d_Md_met_158 wk_Md_146 ?_
          refine g_goto (tgt := 178) hC d_Md_met_160 (by decide) ?_
          exact g_iret hC hR d_Md_met_178
      · refine g_iload hC d_Md_met_136 rfl ?_
        refine g_ldc hC d_Md_met_138 wk_Md_146 ?_
        refine g_icmp_ne (tgt := 147) hC d_Md_met_140 (by decide) (fun _ => ?_) (fun _ => ?_)
        · refine g_iconst hC d_Md_met_147 k_i0 ?_
          refine g_goto (tgt := 178) hC d_Md_met_148 (by decide) ?_
          exact g_iret hC hR d_Md_met_178
        · refine g_iconst hC d_Md_met_143 k_i1 ?_
          refine g_goto (tgt := 178) hC d_Md_met_144 (by decide) ?_
          exact g_iret hC hR d_Md_met_178
    · refine g_aload_n hC d_Md_met_71 rfl ?_
      refine fg_Md_69 hC lc_249 d_Md_met_72 p0_249_38 ?_
      refine g_bipush hC d_Md_met_75 k_b55 ?_
      refine g_iload hC d_Md_met_77 rfl ?_
      refine g_imul hC d_Md_met_79 ?_
      refine g_bipush hC d_Md_met_80 k_b24 ?_
      refine g_iadd hC d_Md_met_82 ?_
      refine g_aload_n hC d_Md_met_83 rfl ?_
      refine fg_Md_24 hC lc_249 d_Md_met_84 p0_249_5 ?_
      refine g_bipush hC d_Md_met_87 k_b40 ?_
      refine g_iload_n hC d_Md_met_89 rfl ?_
      refine g_imul hC d_Md_met_90 ?_
      refine g_iload_n hC d_Md_met_91 rfl ?_
      refine g_iadd hC d_Md_met_92 ?_
      refine g_iload hC d_Md_met_93 rfl ?_
      refine g_iadd hC d_Md_met_95 ?_
      refine gv_iald hC ly_252 d_Md_met_96 (fun x15 => ?_)
      refine gv_iast hC ly_267 d_Md_met_97 (fun M16 => ?_)
      refine g_aload_n hC d_Md_met_98 rfl ?_
      refine fg_Md_69 hC lc_249 d_Md_met_99 p0_249_38 ?_
      refine g_bipush hC d_Md_met_102 k_b55 ?_
      refine g_iload hC d_Md_met_104 rfl ?_
      refine g_imul hC d_Md_met_106 ?_
      refine g_bipush hC d_Md_met_107 k_b25 ?_
      refine g_iadd hC d_Md_met_109 ?_
      refine g_iload hC d_Md_met_110 rfl ?_
      refine g_iadd hC d_Md_met_112 ?_
      refine g_iconst hC d_Md_met_113 k_i1 ?_
      refine gv_iast hC ly_267 d_Md_met_114 (fun M17 => ?_)
      refine g_iinc (ls' := [some (.ref (κ.b + 249)), some (.int l1), some (.int l2), some (.int l3), none, some (.int (l5 + 1))]) hC d_Md_met_115 rfl k_i1 rfl rfl ?_
      refine g_goto (tgt := 62) hC d_Md_met_118 (by decide) ?_
      exact ih l1 l2 l3 (l5 + 1) M17
set_option maxHeartbeats 2000000 in
theorem Md_met_c {l : Launch} {θ : tv_Th} (F : Nat) (a1 : Int32) (a2 : Int32) (a3 : Int32) (M : tv_M) : tv_Ct l θ ⟨"TiedViewsModel", "met", "(III)I"⟩ prog_14_method_52_code 6 (some .int) 3 tv_ei [.ref (θ.1 + 249), .int a1, .int a2, .int a3] M (Md_met F a1 a2 a3 M) := by
  refine tv_ofG [some (.ref (θ.1 + 249)), some (.int a1), some (.int a2), some (.int a3), none, none] rfl rfl (tv_ent 2 rfl) ?_
  intro κ hl ht hC hR
  subst hl; subst ht
  unfold Md_met
  refine g_aload_n hC d_Md_met_0 rfl ?_
  refine g_iconst hC d_Md_met_1 k_i0 ?_
  refine fp_Md_1 hC lc_249 d_Md_met_2 (fun M1 => ?_)
  refine g_aload_n hC d_Md_met_5 rfl ?_
  refine g_ldc hC d_Md_met_6 wk_Md_146 ?_
  refine gv_callVv hC [.int (-1000000)] cw_Md_282 (Md_layTies_c F (-1000000) M1) lc_249 rfl rfl rfl rfl rfl rfl rfl d_Md_met_8 (fun r2 M3 => ?_)
  refine g_iload_n hC d_Md_met_11 rfl ?_
  refine gv_callSi hC [.int a1] cw_Md_121 (Md_isSheet_c F a1 M3) rfl rfl rfl rfl rfl d_Md_met_12 (fun r4 M5 => ?_)
  refine g_if_eq (tgt := 36) hC d_Md_met_15 (by decide) (fun _ => ?_) (fun _ => ?_)
  · refine g_ldc hC d_Md_met_36 wk_Md_127 ?_
    exact g_iret hC hR d_Md_met_38
  · refine g_iload_n hC d_Md_met_18 rfl ?_
    refine g_i2l hC d_Md_met_19 ?_
    refine g_ldc2 hC d_Md_met_20 wl_Md_313 ?_
    refine g_aload_n hC d_Md_met_23 rfl ?_
    refine fg_Md_271 hC lc_249 d_Md_met_24 ?_
    refine g_iconst hC d_Md_met_27 k_i1 ?_
    refine g_isub hC d_Md_met_28 ?_
    refine g_i2l hC d_Md_met_29 ?_
    refine gv_callSi hC [.long ((a3 : Int32).toInt64), .long (-1), .long (((M5.1 249 37) - 1 : Int32).toInt64)] cw_Md_115 (Md_in_c F ((a3 : Int32).toInt64) (-1) (((M5.1 249 37) - 1 : Int32).toInt64) M5) rfl rfl rfl rfl rfl d_Md_met_30 (fun r6 M7 => ?_)
    refine g_if_ne (tgt := 39) hC d_Md_met_33 (by decide) (fun _ => ?_) (fun _ => ?_)
    · refine g_aload_n hC d_Md_met_39 rfl ?_
      refine g_iload_n hC d_Md_met_40 rfl ?_
      refine g_iload_n hC d_Md_met_41 rfl ?_
      refine g_aload_n hC d_Md_met_42 rfl ?_
      refine fg_Md_271 hC lc_249 d_Md_met_43 ?_
      refine gv_callVi hC [.int a1, .int a2, .int (M7.1 249 37)] cw_Md_297 (Md_lookRests_c F a1 a2 (M7.1 249 37) M7) lc_249 rfl rfl rfl rfl rfl rfl rfl d_Md_met_46 (fun r8 M9 => ?_)
      refine g_istore (ls' := [some (.ref (κ.b + 249)), some (.int a1), some (.int a2), some (.int a3), some (.int r8), none]) hC d_Md_met_49 rfl rfl ?_
      refine g_iload hC d_Md_met_51 rfl ?_
      refine g_if_ge (tgt := 59) hC d_Md_met_53 (by decide) (fun _ => ?_) (fun _ => ?_)
      · refine g_iconst hC d_Md_met_59 k_i0 ?_
        refine g_istore (ls' := [some (.ref (κ.b + 249)), some (.int a1), some (.int a2), some (.int a3), some (.int r8), some (.int 0)]) hC d_Md_met_60 rfl rfl ?_
        refine g_mask [true, true, true, true, false, true] (ls' := [some (.ref (κ.b + 249)), some (.int a1), some (.int a2), some (.int a3), none, some (.int 0)]) rfl ?_
        exact Md_met_L62_g hC hR F F a1 a2 a3 0 M9
      · refine g_iload hC d_Md_met_56 rfl ?_
        exact g_iret hC hR d_Md_met_58
    · refine g_ldc hC d_Md_met_36 wk_Md_127 ?_
      exact g_iret hC hR d_Md_met_38
theorem d_Md_cost_0 : decode prog_14_method_53_code 0 = .ok (.aload_n 0, 1) := by decide +kernel
theorem d_Md_cost_1 : decode prog_14_method_53_code 1 = .ok (.iconst 0, 1) := by decide +kernel
theorem d_Md_cost_2 : decode prog_14_method_53_code 2 = .ok (.putfield 1, 3) := by decide +kernel
theorem d_Md_cost_5 : decode prog_14_method_53_code 5 = .ok (.iload_n 1, 1) := by decide +kernel
theorem d_Md_cost_6 : decode prog_14_method_53_code 6 = .ok (.i2l, 1) := by decide +kernel
theorem d_Md_cost_7 : decode prog_14_method_53_code 7 = .ok (.lconst 0, 1) := by decide +kernel
theorem d_Md_cost_8 : decode prog_14_method_53_code 8 = .ok (.aload_n 0, 1) := by decide +kernel
theorem d_Md_cost_9 : decode prog_14_method_53_code 9 = .ok (.getfield 238, 3) := by decide +kernel
theorem d_Md_cost_12 : decode prog_14_method_53_code 12 = .ok (.iconst 1, 1) := by decide +kernel
theorem d_Md_cost_13 : decode prog_14_method_53_code 13 = .ok (.isub, 1) := by decide +kernel
theorem d_Md_cost_14 : decode prog_14_method_53_code 14 = .ok (.i2l, 1) := by decide +kernel
theorem d_Md_cost_15 : decode prog_14_method_53_code 15 = .ok (.invokestatic 115, 3) := by decide +kernel
theorem d_Md_cost_18 : decode prog_14_method_53_code 18 = .ok (.ifCond .ne 6, 3) := by decide +kernel
theorem d_Md_cost_21 : decode prog_14_method_53_code 21 = .ok (.ldc 127, 2) := by decide +kernel
theorem d_Md_cost_23 : decode prog_14_method_53_code 23 = .ok (.ireturn, 1) := by decide +kernel
theorem d_Md_cost_24 : decode prog_14_method_53_code 24 = .ok (.aload_n 0, 1) := by decide +kernel
theorem d_Md_cost_25 : decode prog_14_method_53_code 25 = .ok (.ldc 146, 2) := by decide +kernel
theorem d_Md_cost_27 : decode prog_14_method_53_code 27 = .ok (.invokevirtual 282, 3) := by decide +kernel
theorem d_Md_cost_30 : decode prog_14_method_53_code 30 = .ok (.aload_n 0, 1) := by decide +kernel
theorem d_Md_cost_31 : decode prog_14_method_53_code 31 = .ok (.invokevirtual 285, 3) := by decide +kernel
theorem d_Md_cost_34 : decode prog_14_method_53_code 34 = .ok (.aload_n 0, 1) := by decide +kernel
theorem d_Md_cost_35 : decode prog_14_method_53_code 35 = .ok (.invokevirtual 288, 3) := by decide +kernel
theorem d_Md_cost_38 : decode prog_14_method_53_code 38 = .ok (.istore_n 2, 1) := by decide +kernel
theorem d_Md_cost_39 : decode prog_14_method_53_code 39 = .ok (.aload_n 0, 1) := by decide +kernel
theorem d_Md_cost_40 : decode prog_14_method_53_code 40 = .ok (.iload_n 1, 1) := by decide +kernel
theorem d_Md_cost_41 : decode prog_14_method_53_code 41 = .ok (.invokevirtual 282, 3) := by decide +kernel
theorem d_Md_cost_44 : decode prog_14_method_53_code 44 = .ok (.aload_n 0, 1) := by decide +kernel
theorem d_Md_cost_45 : decode prog_14_method_53_code 45 = .ok (.invokevirtual 285, 3) := by decide +kernel
theorem d_Md_cost_48 : decode prog_14_method_53_code 48 = .ok (.iload_n 2, 1) := by decide +kernel
theorem d_Md_cost_49 : decode prog_14_method_53_code 49 = .ok (.aload_n 0, 1) := by decide +kernel
theorem d_Md_cost_50 : decode prog_14_method_53_code 50 = .ok (.invokevirtual 288, 3) := by decide +kernel
theorem d_Md_cost_53 : decode prog_14_method_53_code 53 = .ok (.isub, 1) := by decide +kernel
theorem d_Md_cost_54 : decode prog_14_method_53_code 54 = .ok (.ireturn, 1) := by decide +kernel
set_option maxHeartbeats 2000000 in
theorem Md_cost_c {l : Launch} {θ : tv_Th} (F : Nat) (a1 : Int32) (M : tv_M) : tv_Ct l θ ⟨"TiedViewsModel", "cost", "(I)I"⟩ prog_14_method_53_code 3 (some .int) 2 tv_ei [.ref (θ.1 + 249), .int a1] M (Md_cost F a1 M) := by
  refine tv_ofG [some (.ref (θ.1 + 249)), some (.int a1), none] rfl rfl (tv_ent 1 rfl) ?_
  intro κ hl ht hC hR
  subst hl; subst ht
  unfold Md_cost
  refine g_aload_n hC d_Md_cost_0 rfl ?_
  refine g_iconst hC d_Md_cost_1 k_i0 ?_
  refine fp_Md_1 hC lc_249 d_Md_cost_2 (fun M1 => ?_)
  refine g_iload_n hC d_Md_cost_5 rfl ?_
  refine g_i2l hC d_Md_cost_6 ?_
  refine g_lconst hC d_Md_cost_7 k_l0 ?_
  refine g_aload_n hC d_Md_cost_8 rfl ?_
  refine fg_Md_238 hC lc_249 d_Md_cost_9 ?_
  refine g_iconst hC d_Md_cost_12 k_i1 ?_
  refine g_isub hC d_Md_cost_13 ?_
  refine g_i2l hC d_Md_cost_14 ?_
  refine gv_callSi hC [.long ((a1 : Int32).toInt64), .long 0, .long (((M1.1 249 11) - 1 : Int32).toInt64)] cw_Md_115 (Md_in_c F ((a1 : Int32).toInt64) 0 (((M1.1 249 11) - 1 : Int32).toInt64) M1) rfl rfl rfl rfl rfl d_Md_cost_15 (fun r2 M3 => ?_)
  refine g_if_ne (tgt := 24) hC d_Md_cost_18 (by decide) (fun _ => ?_) (fun _ => ?_)
  · refine g_aload_n hC d_Md_cost_24 rfl ?_
    refine g_ldc hC d_Md_cost_25 wk_Md_146 ?_
    refine gv_callVv hC [.int (-1000000)] cw_Md_282 (Md_layTies_c F (-1000000) M3) lc_249 rfl rfl rfl rfl rfl rfl rfl d_Md_cost_27 (fun r4 M5 => ?_)
    refine g_aload_n hC d_Md_cost_30 rfl ?_
    refine gv_callVv hC [] cw_Md_285 (Md_takeSteps_c F M5) lc_249 rfl rfl rfl rfl rfl rfl rfl d_Md_cost_31 (fun r6 M7 => ?_)
    refine g_aload_n hC d_Md_cost_34 rfl ?_
    refine gv_callVi hC [] cw_Md_288 (Md_leaders_c F M7) lc_249 rfl rfl rfl rfl rfl rfl rfl d_Md_cost_35 (fun r8 M9 => ?_)
    refine g_istore_n (ls' := [some (.ref (κ.b + 249)), some (.int a1), some (.int r8)]) hC d_Md_cost_38 rfl rfl ?_
    refine g_aload_n hC d_Md_cost_39 rfl ?_
    refine g_iload_n hC d_Md_cost_40 rfl ?_
    refine gv_callVv hC [.int a1] cw_Md_282 (Md_layTies_c F a1 M9) lc_249 rfl rfl rfl rfl rfl rfl rfl d_Md_cost_41 (fun r10 M11 => ?_)
    refine g_aload_n hC d_Md_cost_44 rfl ?_
    refine gv_callVv hC [] cw_Md_285 (Md_takeSteps_c F M11) lc_249 rfl rfl rfl rfl rfl rfl rfl d_Md_cost_45 (fun r12 M13 => ?_)
    refine g_iload_n hC d_Md_cost_48 rfl ?_
    refine g_aload_n hC d_Md_cost_49 rfl ?_
    refine gv_callVi hC [] cw_Md_288 (Md_leaders_c F M13) lc_249 rfl rfl rfl rfl rfl rfl rfl d_Md_cost_50 (fun r14 M15 => ?_)
    refine g_isub hC d_Md_cost_53 ?_
    exact g_iret hC hR d_Md_cost_54
  · refine g_ldc hC d_Md_cost_21 wk_Md_127 ?_
    exact g_iret hC hR d_Md_cost_23
theorem d_Md_hear_0 : decode prog_14_method_54_code 0 = .ok (.aload_n 0, 1) := by decide +kernel
theorem d_Md_hear_1 : decode prog_14_method_54_code 1 = .ok (.iconst 0, 1) := by decide +kernel
theorem d_Md_hear_2 : decode prog_14_method_54_code 2 = .ok (.putfield 1, 3) := by decide +kernel
theorem d_Md_hear_5 : decode prog_14_method_54_code 5 = .ok (.aload_n 0, 1) := by decide +kernel
theorem d_Md_hear_6 : decode prog_14_method_54_code 6 = .ok (.iload_n 1, 1) := by decide +kernel
theorem d_Md_hear_7 : decode prog_14_method_54_code 7 = .ok (.invokevirtual 294, 3) := by decide +kernel
theorem d_Md_hear_10 : decode prog_14_method_54_code 10 = .ok (.ifCond .eq 62, 3) := by decide +kernel
theorem d_Md_hear_13 : decode prog_14_method_54_code 13 = .ok (.aload_n 0, 1) := by decide +kernel
theorem d_Md_hear_14 : decode prog_14_method_54_code 14 = .ok (.iload_n 2, 1) := by decide +kernel
theorem d_Md_hear_15 : decode prog_14_method_54_code 15 = .ok (.invokevirtual 294, 3) := by decide +kernel
theorem d_Md_hear_18 : decode prog_14_method_54_code 18 = .ok (.ifCond .eq 54, 3) := by decide +kernel
theorem d_Md_hear_21 : decode prog_14_method_54_code 21 = .ok (.iload_n 3, 1) := by decide +kernel
theorem d_Md_hear_22 : decode prog_14_method_54_code 22 = .ok (.i2l, 1) := by decide +kernel
theorem d_Md_hear_23 : decode prog_14_method_54_code 23 = .ok (.lconst 0, 1) := by decide +kernel
theorem d_Md_hear_24 : decode prog_14_method_54_code 24 = .ok (.aload_n 0, 1) := by decide +kernel
theorem d_Md_hear_25 : decode prog_14_method_54_code 25 = .ok (.getfield 238, 3) := by decide +kernel
theorem d_Md_hear_28 : decode prog_14_method_54_code 28 = .ok (.iconst 1, 1) := by decide +kernel
theorem d_Md_hear_29 : decode prog_14_method_54_code 29 = .ok (.isub, 1) := by decide +kernel
theorem d_Md_hear_30 : decode prog_14_method_54_code 30 = .ok (.i2l, 1) := by decide +kernel
theorem d_Md_hear_31 : decode prog_14_method_54_code 31 = .ok (.invokestatic 115, 3) := by decide +kernel
theorem d_Md_hear_34 : decode prog_14_method_54_code 34 = .ok (.ifCond .eq 38, 3) := by decide +kernel
theorem d_Md_hear_37 : decode prog_14_method_54_code 37 = .ok (.aload_n 0, 1) := by decide +kernel
theorem d_Md_hear_38 : decode prog_14_method_54_code 38 = .ok (.getfield 36, 3) := by decide +kernel
theorem d_Md_hear_41 : decode prog_14_method_54_code 41 = .ok (.iload_n 3, 1) := by decide +kernel
theorem d_Md_hear_42 : decode prog_14_method_54_code 42 = .ok (.iaload, 1) := by decide +kernel
theorem d_Md_hear_43 : decode prog_14_method_54_code 43 = .ok (.iload_n 2, 1) := by decide +kernel
theorem d_Md_hear_44 : decode prog_14_method_54_code 44 = .ok (.if_icmp .eq 13, 3) := by decide +kernel
theorem d_Md_hear_47 : decode prog_14_method_54_code 47 = .ok (.aload_n 0, 1) := by decide +kernel
theorem d_Md_hear_48 : decode prog_14_method_54_code 48 = .ok (.getfield 39, 3) := by decide +kernel
theorem d_Md_hear_51 : decode prog_14_method_54_code 51 = .ok (.iload_n 3, 1) := by decide +kernel
theorem d_Md_hear_52 : decode prog_14_method_54_code 52 = .ok (.iaload, 1) := by decide +kernel
theorem d_Md_hear_53 : decode prog_14_method_54_code 53 = .ok (.iload_n 2, 1) := by decide +kernel
theorem d_Md_hear_54 : decode prog_14_method_54_code 54 = .ok (.if_icmp .ne 18, 3) := by decide +kernel
theorem d_Md_hear_57 : decode prog_14_method_54_code 57 = .ok (.aload_n 0, 1) := by decide +kernel
theorem d_Md_hear_58 : decode prog_14_method_54_code 58 = .ok (.getfield 42, 3) := by decide +kernel
theorem d_Md_hear_61 : decode prog_14_method_54_code 61 = .ok (.iload_n 3, 1) := by decide +kernel
theorem d_Md_hear_62 : decode prog_14_method_54_code 62 = .ok (.iaload, 1) := by decide +kernel
theorem d_Md_hear_63 : decode prog_14_method_54_code 63 = .ok (.aload_n 0, 1) := by decide +kernel
theorem d_Md_hear_64 : decode prog_14_method_54_code 64 = .ok (.getfield 30, 3) := by decide +kernel
theorem d_Md_hear_67 : decode prog_14_method_54_code 67 = .ok (.iload_n 1, 1) := by decide +kernel
theorem d_Md_hear_68 : decode prog_14_method_54_code 68 = .ok (.iaload, 1) := by decide +kernel
theorem d_Md_hear_69 : decode prog_14_method_54_code 69 = .ok (.if_icmp .eq 6, 3) := by decide +kernel
theorem d_Md_hear_72 : decode prog_14_method_54_code 72 = .ok (.ldc 127, 2) := by decide +kernel
theorem d_Md_hear_74 : decode prog_14_method_54_code 74 = .ok (.ireturn, 1) := by decide +kernel
theorem d_Md_hear_75 : decode prog_14_method_54_code 75 = .ok (.aload_n 0, 1) := by decide +kernel
theorem d_Md_hear_76 : decode prog_14_method_54_code 76 = .ok (.getfield 315, 3) := by decide +kernel
theorem d_Md_hear_79 : decode prog_14_method_54_code 79 = .ok (.bipush 16, 2) := by decide +kernel
theorem d_Md_hear_81 : decode prog_14_method_54_code 81 = .ok (.if_icmp .ne 6, 3) := by decide +kernel
theorem d_Md_hear_84 : decode prog_14_method_54_code 84 = .ok (.ldc 140, 2) := by decide +kernel
theorem d_Md_hear_86 : decode prog_14_method_54_code 86 = .ok (.ireturn, 1) := by decide +kernel
theorem d_Md_hear_87 : decode prog_14_method_54_code 87 = .ok (.aload_n 0, 1) := by decide +kernel
theorem d_Md_hear_88 : decode prog_14_method_54_code 88 = .ok (.getfield 85, 3) := by decide +kernel
theorem d_Md_hear_91 : decode prog_14_method_54_code 91 = .ok (.iload_n 1, 1) := by decide +kernel
theorem d_Md_hear_92 : decode prog_14_method_54_code 92 = .ok (.iload_n 3, 1) := by decide +kernel
theorem d_Md_hear_93 : decode prog_14_method_54_code 93 = .ok (.iastore, 1) := by decide +kernel
theorem d_Md_hear_94 : decode prog_14_method_54_code 94 = .ok (.aload_n 0, 1) := by decide +kernel
theorem d_Md_hear_95 : decode prog_14_method_54_code 95 = .ok (.getfield 88, 3) := by decide +kernel
theorem d_Md_hear_98 : decode prog_14_method_54_code 98 = .ok (.iload_n 1, 1) := by decide +kernel
theorem d_Md_hear_99 : decode prog_14_method_54_code 99 = .ok (.iload_n 2, 1) := by decide +kernel
theorem d_Md_hear_100 : decode prog_14_method_54_code 100 = .ok (.iastore, 1) := by decide +kernel
theorem d_Md_hear_101 : decode prog_14_method_54_code 101 = .ok (.aload_n 0, 1) := by decide +kernel
theorem d_Md_hear_102 : decode prog_14_method_54_code 102 = .ok (.dup, 1) := by decide +kernel
theorem d_Md_hear_103 : decode prog_14_method_54_code 103 = .ok (.getfield 315, 3) := by decide +kernel
theorem d_Md_hear_106 : decode prog_14_method_54_code 106 = .ok (.iconst 1, 1) := by decide +kernel
theorem d_Md_hear_107 : decode prog_14_method_54_code 107 = .ok (.iadd, 1) := by decide +kernel
theorem d_Md_hear_108 : decode prog_14_method_54_code 108 = .ok (.putfield 315, 3) := by decide +kernel
theorem d_Md_hear_111 : decode prog_14_method_54_code 111 = .ok (.aload_n 0, 1) := by decide +kernel
theorem d_Md_hear_112 : decode prog_14_method_54_code 112 = .ok (.getfield 315, 3) := by decide +kernel
theorem d_Md_hear_115 : decode prog_14_method_54_code 115 = .ok (.ireturn, 1) := by decide +kernel
set_option maxHeartbeats 2000000 in
theorem Md_hear_L57_g {κ : tv_Kt} (hC : tv_Cx κ "TiedViewsModel" prog_14_method_54_code 4 3) (hR : tv_Re κ (some .int)) (F : Nat) (l1 : Int32) (l2 : Int32) (l3 : Int32) (M : tv_M) : tv_G κ 4 (tv_Qm κ tv_ei) 57 [some (.ref (κ.b + 249)), some (.int l1), some (.int l2), some (.int l3)] [] M (Md_hear_L57 F l1 l2 l3 M) := by
  rw [Md_hear_L57]
  refine g_aload_n hC d_Md_hear_57 rfl ?_
  refine fg_Md_42 hC lc_249 d_Md_hear_58 p0_249_14 ?_
  refine g_iload_n hC d_Md_hear_61 rfl ?_
  refine gv_iald hC ly_258 d_Md_hear_62 (fun x10 => ?_)
  refine g_aload_n hC d_Md_hear_63 rfl ?_
  refine fg_Md_30 hC lc_249 d_Md_hear_64 p0_249_8 ?_
  refine g_iload_n hC d_Md_hear_67 rfl ?_
  refine gv_iald hC ly_254 d_Md_hear_68 (fun x11 => ?_)
  refine g_icmp_eq (tgt := 75) hC d_Md_hear_69 (by decide) (fun _ => ?_) (fun _ => ?_)
  · refine g_aload_n hC d_Md_hear_75 rfl ?_
    refine fg_Md_315 hC lc_249 d_Md_hear_76 ?_
    refine g_bipush hC d_Md_hear_79 k_b16 ?_
    refine g_icmp_ne (tgt := 87) hC d_Md_hear_81 (by decide) (fun _ => ?_) (fun _ => ?_)
    · refine g_aload_n hC d_Md_hear_87 rfl ?_
      refine fg_Md_85 hC lc_249 d_Md_hear_88 p0_249_44 ?_
      refine g_iload_n hC d_Md_hear_91 rfl ?_
      refine g_iload_n hC d_Md_hear_92 rfl ?_
      refine gv_iast hC ly_272 d_Md_hear_93 (fun M12 => ?_)
      refine g_aload_n hC d_Md_hear_94 rfl ?_
      refine fg_Md_88 hC lc_249 d_Md_hear_95 p0_249_45 ?_
      refine g_iload_n hC d_Md_hear_98 rfl ?_
      refine g_iload_n hC d_Md_hear_99 rfl ?_
      refine gv_iast hC ly_273 d_Md_hear_100 (fun M13 => ?_)
      refine g_aload_n hC d_Md_hear_101 rfl ?_
      refine g_dup hC d_Md_hear_102 rfl ?_
      refine fg_Md_315 hC lc_249 d_Md_hear_103 ?_
      refine g_iconst hC d_Md_hear_106 k_i1 ?_
      refine g_iadd hC d_Md_hear_107 ?_
      refine fp_Md_315 hC lc_249 d_Md_hear_108 (fun M14 => ?_)
      refine g_aload_n hC d_Md_hear_111 rfl ?_
      refine fg_Md_315 hC lc_249 d_Md_hear_112 ?_
      exact g_iret hC hR d_Md_hear_115
    · refine g_ldc hC d_Md_hear_84 wk_Md_140 ?_
      exact g_iret hC hR d_Md_hear_86
  · refine g_ldc hC d_Md_hear_72 wk_Md_127 ?_
    exact g_iret hC hR d_Md_hear_74
set_option maxHeartbeats 2000000 in
theorem Md_hear_c {l : Launch} {θ : tv_Th} (F : Nat) (a1 : Int32) (a2 : Int32) (a3 : Int32) (M : tv_M) : tv_Ct l θ ⟨"TiedViewsModel", "hear", "(III)I"⟩ prog_14_method_54_code 4 (some .int) 3 tv_ei [.ref (θ.1 + 249), .int a1, .int a2, .int a3] M (Md_hear F a1 a2 a3 M) := by
  refine tv_ofG [some (.ref (θ.1 + 249)), some (.int a1), some (.int a2), some (.int a3)] rfl rfl (tv_ent 0 rfl) ?_
  intro κ hl ht hC hR
  subst hl; subst ht
  unfold Md_hear
  refine g_aload_n hC d_Md_hear_0 rfl ?_
  refine g_iconst hC d_Md_hear_1 k_i0 ?_
  refine fp_Md_1 hC lc_249 d_Md_hear_2 (fun M1 => ?_)
  refine g_aload_n hC d_Md_hear_5 rfl ?_
  refine g_iload_n hC d_Md_hear_6 rfl ?_
  refine gv_callVi hC [.int a1] cw_Md_294 (Md_isLinear_c F a1 M1) lc_249 rfl rfl rfl rfl rfl rfl rfl d_Md_hear_7 (fun r2 M3 => ?_)
  refine g_if_eq (tgt := 72) hC d_Md_hear_10 (by decide) (fun _ => ?_) (fun _ => ?_)
  · refine g_ldc hC d_Md_hear_72 wk_Md_127 ?_
    exact g_iret hC hR d_Md_hear_74
  · refine g_aload_n hC d_Md_hear_13 rfl ?_
    refine g_iload_n hC d_Md_hear_14 rfl ?_
    refine gv_callVi hC [.int a2] cw_Md_294 (Md_isLinear_c F a2 M3) lc_249 rfl rfl rfl rfl rfl rfl rfl d_Md_hear_15 (fun r4 M5 => ?_)
    refine g_if_eq (tgt := 72) hC d_Md_hear_18 (by decide) (fun _ => ?_) (fun _ => ?_)
    · refine g_ldc hC d_Md_hear_72 wk_Md_127 ?_
      exact g_iret hC hR d_Md_hear_74
    · refine g_iload_n hC d_Md_hear_21 rfl ?_
      refine g_i2l hC d_Md_hear_22 ?_
      refine g_lconst hC d_Md_hear_23 k_l0 ?_
      refine g_aload_n hC d_Md_hear_24 rfl ?_
      refine fg_Md_238 hC lc_249 d_Md_hear_25 ?_
      refine g_iconst hC d_Md_hear_28 k_i1 ?_
      refine g_isub hC d_Md_hear_29 ?_
      refine g_i2l hC d_Md_hear_30 ?_
      refine gv_callSi hC [.long ((a3 : Int32).toInt64), .long 0, .long (((M5.1 249 11) - 1 : Int32).toInt64)] cw_Md_115 (Md_in_c F ((a3 : Int32).toInt64) 0 (((M5.1 249 11) - 1 : Int32).toInt64) M5) rfl rfl rfl rfl rfl d_Md_hear_31 (fun r6 M7 => ?_)
      refine g_if_eq (tgt := 72) hC d_Md_hear_34 (by decide) (fun _ => ?_) (fun _ => ?_)
      · refine g_ldc hC d_Md_hear_72 wk_Md_127 ?_
        exact g_iret hC hR d_Md_hear_74
      · refine g_aload_n hC d_Md_hear_37 rfl ?_
        refine fg_Md_36 hC lc_249 d_Md_hear_38 p0_249_12 ?_
        refine g_iload_n hC d_Md_hear_41 rfl ?_
        refine gv_iald hC ly_256 d_Md_hear_42 (fun x8 => ?_)
        refine g_iload_n hC d_Md_hear_43 rfl ?_
        refine g_icmp_eq (tgt := 57) hC d_Md_hear_44 (by decide) (fun _ => ?_) (fun _ => ?_)
        · exact Md_hear_L57_g hC hR F a1 a2 a3 M7
        · refine g_aload_n hC d_Md_hear_47 rfl ?_
          refine fg_Md_39 hC lc_249 d_Md_hear_48 p0_249_13 ?_
          refine g_iload_n hC d_Md_hear_51 rfl ?_
          refine gv_iald hC ly_257 d_Md_hear_52 (fun x9 => ?_)
          refine g_iload_n hC d_Md_hear_53 rfl ?_
          refine g_icmp_ne (tgt := 72) hC d_Md_hear_54 (by decide) (fun _ => ?_) (fun _ => ?_)
          · refine g_ldc hC d_Md_hear_72 wk_Md_127 ?_
            exact g_iret hC hR d_Md_hear_74
          · exact Md_hear_L57_g hC hR F a1 a2 a3 M7
theorem d_Md_isNumberOf_0 : decode prog_14_method_55_code 0 = .ok (.aload_n 0, 1) := by decide +kernel
theorem d_Md_isNumberOf_1 : decode prog_14_method_55_code 1 = .ok (.iload_n 1, 1) := by decide +kernel
theorem d_Md_isNumberOf_2 : decode prog_14_method_55_code 2 = .ok (.invokevirtual 294, 3) := by decide +kernel
theorem d_Md_isNumberOf_5 : decode prog_14_method_55_code 5 = .ok (.ifCond .eq 25, 3) := by decide +kernel
theorem d_Md_isNumberOf_8 : decode prog_14_method_55_code 8 = .ok (.iload_n 2, 1) := by decide +kernel
theorem d_Md_isNumberOf_9 : decode prog_14_method_55_code 9 = .ok (.i2l, 1) := by decide +kernel
theorem d_Md_isNumberOf_10 : decode prog_14_method_55_code 10 = .ok (.lconst 0, 1) := by decide +kernel
theorem d_Md_isNumberOf_11 : decode prog_14_method_55_code 11 = .ok (.aload_n 0, 1) := by decide +kernel
theorem d_Md_isNumberOf_12 : decode prog_14_method_55_code 12 = .ok (.getfield 30, 3) := by decide +kernel
theorem d_Md_isNumberOf_15 : decode prog_14_method_55_code 15 = .ok (.iload_n 1, 1) := by decide +kernel
theorem d_Md_isNumberOf_16 : decode prog_14_method_55_code 16 = .ok (.iaload, 1) := by decide +kernel
theorem d_Md_isNumberOf_17 : decode prog_14_method_55_code 17 = .ok (.iconst 1, 1) := by decide +kernel
theorem d_Md_isNumberOf_18 : decode prog_14_method_55_code 18 = .ok (.isub, 1) := by decide +kernel
theorem d_Md_isNumberOf_19 : decode prog_14_method_55_code 19 = .ok (.i2l, 1) := by decide +kernel
theorem d_Md_isNumberOf_20 : decode prog_14_method_55_code 20 = .ok (.invokestatic 115, 3) := by decide +kernel
theorem d_Md_isNumberOf_23 : decode prog_14_method_55_code 23 = .ok (.ifCond .eq 7, 3) := by decide +kernel
theorem d_Md_isNumberOf_26 : decode prog_14_method_55_code 26 = .ok (.iconst 1, 1) := by decide +kernel
theorem d_Md_isNumberOf_27 : decode prog_14_method_55_code 27 = .ok (.goto 4, 3) := by decide +kernel
theorem d_Md_isNumberOf_30 : decode prog_14_method_55_code 30 = .ok (.iconst 0, 1) := by decide +kernel
theorem d_Md_isNumberOf_31 : decode prog_14_method_55_code 31 = .ok (.ireturn, 1) := by decide +kernel
set_option maxHeartbeats 2000000 in
theorem Md_isNumberOf_c {l : Launch} {θ : tv_Th} (F : Nat) (a1 : Int32) (a2 : Int32) (M : tv_M) : tv_Ct l θ ⟨"TiedViewsModel", "isNumberOf", "(II)Z"⟩ prog_14_method_55_code 3 (some .boolean) 3 tv_ei [.ref (θ.1 + 249), .int a1, .int a2] M (Md_isNumberOf F a1 a2 M) := by
  refine tv_ofG [some (.ref (θ.1 + 249)), some (.int a1), some (.int a2)] rfl rfl (tv_ent 0 rfl) ?_
  intro κ hl ht hC hR
  subst hl; subst ht
  unfold Md_isNumberOf
  refine g_aload_n hC d_Md_isNumberOf_0 rfl ?_
  refine g_iload_n hC d_Md_isNumberOf_1 rfl ?_
  refine gv_callVi hC [.int a1] cw_Md_294 (Md_isLinear_c F a1 M) lc_249 rfl rfl rfl rfl rfl rfl rfl d_Md_isNumberOf_2 (fun r1 M2 => ?_)
  refine g_if_eq (tgt := 30) hC d_Md_isNumberOf_5 (by decide) (fun _ => ?_) (fun _ => ?_)
  · refine g_iconst hC d_Md_isNumberOf_30 k_i0 ?_
    exact g_zret hC hR tv_z0 d_Md_isNumberOf_31
  · refine g_iload_n hC d_Md_isNumberOf_8 rfl ?_
    refine g_i2l hC d_Md_isNumberOf_9 ?_
    refine g_lconst hC d_Md_isNumberOf_10 k_l0 ?_
    refine g_aload_n hC d_Md_isNumberOf_11 rfl ?_
    refine fg_Md_30 hC lc_249 d_Md_isNumberOf_12 p0_249_8 ?_
    refine g_iload_n hC d_Md_isNumberOf_15 rfl ?_
    refine gv_iald hC ly_254 d_Md_isNumberOf_16 (fun x3 => ?_)
    refine g_iconst hC d_Md_isNumberOf_17 k_i1 ?_
    refine g_isub hC d_Md_isNumberOf_18 ?_
    refine g_i2l hC d_Md_isNumberOf_19 ?_
    refine gv_callSi hC [.long ((a2 : Int32).toInt64), .long 0, .long ((x3 - 1 : Int32).toInt64)] cw_Md_115 (Md_in_c F ((a2 : Int32).toInt64) 0 ((x3 - 1 : Int32).toInt64) M2) rfl rfl rfl rfl rfl d_Md_isNumberOf_20 (fun r4 M5 => ?_)
    refine g_if_eq (tgt := 30) hC d_Md_isNumberOf_23 (by decide) (fun _ => ?_) (fun _ => ?_)
    · refine g_iconst hC d_Md_isNumberOf_30 k_i0 ?_
      exact g_zret hC hR tv_z0 d_Md_isNumberOf_31
    · refine g_iconst hC d_Md_isNumberOf_26 k_i1 ?_
      refine g_goto (tgt := 31) hC d_Md_isNumberOf_27 (by decide) ?_
      exact g_zret hC hR tv_z1 d_Md_isNumberOf_31
theorem d_Md_now_0 : decode prog_14_method_56_code 0 = .ok (.aload_n 0, 1) := by decide +kernel
theorem d_Md_now_1 : decode prog_14_method_56_code 1 = .ok (.iconst 0, 1) := by decide +kernel
theorem d_Md_now_2 : decode prog_14_method_56_code 2 = .ok (.putfield 1, 3) := by decide +kernel
theorem d_Md_now_5 : decode prog_14_method_56_code 5 = .ok (.aload_n 0, 1) := by decide +kernel
theorem d_Md_now_6 : decode prog_14_method_56_code 6 = .ok (.iload_n 1, 1) := by decide +kernel
theorem d_Md_now_7 : decode prog_14_method_56_code 7 = .ok (.iload_n 2, 1) := by decide +kernel
theorem d_Md_now_8 : decode prog_14_method_56_code 8 = .ok (.invokevirtual 318, 3) := by decide +kernel
theorem d_Md_now_11 : decode prog_14_method_56_code 11 = .ok (.ifCond .eq 11, 3) := by decide +kernel
theorem d_Md_now_14 : decode prog_14_method_56_code 14 = .ok (.aload_n 0, 1) := by decide +kernel
theorem d_Md_now_15 : decode prog_14_method_56_code 15 = .ok (.iload_n 3, 1) := by decide +kernel
theorem d_Md_now_16 : decode prog_14_method_56_code 16 = .ok (.invokevirtual 132, 3) := by decide +kernel
theorem d_Md_now_19 : decode prog_14_method_56_code 19 = .ok (.ifCond .ne 6, 3) := by decide +kernel
theorem d_Md_now_22 : decode prog_14_method_56_code 22 = .ok (.ldc 127, 2) := by decide +kernel
theorem d_Md_now_24 : decode prog_14_method_56_code 24 = .ok (.ireturn, 1) := by decide +kernel
theorem d_Md_now_25 : decode prog_14_method_56_code 25 = .ok (.aload_n 0, 1) := by decide +kernel
theorem d_Md_now_26 : decode prog_14_method_56_code 26 = .ok (.getfield 91, 3) := by decide +kernel
theorem d_Md_now_29 : decode prog_14_method_56_code 29 = .ok (.aload_n 0, 1) := by decide +kernel
theorem d_Md_now_30 : decode prog_14_method_56_code 30 = .ok (.getfield 33, 3) := by decide +kernel
theorem d_Md_now_33 : decode prog_14_method_56_code 33 = .ok (.iload_n 1, 1) := by decide +kernel
theorem d_Md_now_34 : decode prog_14_method_56_code 34 = .ok (.iaload, 1) := by decide +kernel
theorem d_Md_now_35 : decode prog_14_method_56_code 35 = .ok (.iload_n 2, 1) := by decide +kernel
theorem d_Md_now_36 : decode prog_14_method_56_code 36 = .ok (.iadd, 1) := by decide +kernel
theorem d_Md_now_37 : decode prog_14_method_56_code 37 = .ok (.iaload, 1) := by decide +kernel
theorem d_Md_now_38 : decode prog_14_method_56_code 38 = .ok (.istore 4, 2) := by decide +kernel
theorem d_Md_now_40 : decode prog_14_method_56_code 40 = .ok (.aload_n 0, 1) := by decide +kernel
theorem d_Md_now_41 : decode prog_14_method_56_code 41 = .ok (.getfield 91, 3) := by decide +kernel
theorem d_Md_now_44 : decode prog_14_method_56_code 44 = .ok (.aload_n 0, 1) := by decide +kernel
theorem d_Md_now_45 : decode prog_14_method_56_code 45 = .ok (.getfield 33, 3) := by decide +kernel
theorem d_Md_now_48 : decode prog_14_method_56_code 48 = .ok (.iload_n 1, 1) := by decide +kernel
theorem d_Md_now_49 : decode prog_14_method_56_code 49 = .ok (.iaload, 1) := by decide +kernel
theorem d_Md_now_50 : decode prog_14_method_56_code 50 = .ok (.iload_n 2, 1) := by decide +kernel
theorem d_Md_now_51 : decode prog_14_method_56_code 51 = .ok (.iadd, 1) := by decide +kernel
theorem d_Md_now_52 : decode prog_14_method_56_code 52 = .ok (.iload_n 3, 1) := by decide +kernel
theorem d_Md_now_53 : decode prog_14_method_56_code 53 = .ok (.iastore, 1) := by decide +kernel
theorem d_Md_now_54 : decode prog_14_method_56_code 54 = .ok (.iload 4, 2) := by decide +kernel
theorem d_Md_now_56 : decode prog_14_method_56_code 56 = .ok (.ireturn, 1) := by decide +kernel
set_option maxHeartbeats 2000000 in
theorem Md_now_c {l : Launch} {θ : tv_Th} (F : Nat) (a1 : Int32) (a2 : Int32) (a3 : Int32) (M : tv_M) : tv_Ct l θ ⟨"TiedViewsModel", "now", "(III)I"⟩ prog_14_method_56_code 5 (some .int) 4 tv_ei [.ref (θ.1 + 249), .int a1, .int a2, .int a3] M (Md_now F a1 a2 a3 M) := by
  refine tv_ofG [some (.ref (θ.1 + 249)), some (.int a1), some (.int a2), some (.int a3), none] rfl rfl (tv_ent 1 rfl) ?_
  intro κ hl ht hC hR
  subst hl; subst ht
  unfold Md_now
  refine g_aload_n hC d_Md_now_0 rfl ?_
  refine g_iconst hC d_Md_now_1 k_i0 ?_
  refine fp_Md_1 hC lc_249 d_Md_now_2 (fun M1 => ?_)
  refine g_aload_n hC d_Md_now_5 rfl ?_
  refine g_iload_n hC d_Md_now_6 rfl ?_
  refine g_iload_n hC d_Md_now_7 rfl ?_
  refine gv_callVi hC [.int a1, .int a2] cw_Md_318 (Md_isNumberOf_c F a1 a2 M1) lc_249 rfl rfl rfl rfl rfl rfl rfl d_Md_now_8 (fun r2 M3 => ?_)
  refine g_if_eq (tgt := 22) hC d_Md_now_11 (by decide) (fun _ => ?_) (fun _ => ?_)
  · refine g_ldc hC d_Md_now_22 wk_Md_127 ?_
    exact g_iret hC hR d_Md_now_24
  · refine g_aload_n hC d_Md_now_14 rfl ?_
    refine g_iload_n hC d_Md_now_15 rfl ?_
    refine gv_callVi hC [.int a3] cw_Md_132 (Md_isRest_c F a3 M3) lc_249 rfl rfl rfl rfl rfl rfl rfl d_Md_now_16 (fun r4 M5 => ?_)
    refine g_if_ne (tgt := 25) hC d_Md_now_19 (by decide) (fun _ => ?_) (fun _ => ?_)
    · refine g_aload_n hC d_Md_now_25 rfl ?_
      refine fg_Md_91 hC lc_249 d_Md_now_26 p0_249_46 ?_
      refine g_aload_n hC d_Md_now_29 rfl ?_
      refine fg_Md_33 hC lc_249 d_Md_now_30 p0_249_9 ?_
      refine g_iload_n hC d_Md_now_33 rfl ?_
      refine gv_iald hC ly_255 d_Md_now_34 (fun x6 => ?_)
      refine g_iload_n hC d_Md_now_35 rfl ?_
      refine g_iadd hC d_Md_now_36 ?_
      refine gv_iald hC ly_274 d_Md_now_37 (fun x7 => ?_)
      refine g_istore (ls' := [some (.ref (κ.b + 249)), some (.int a1), some (.int a2), some (.int a3), some (.int x7)]) hC d_Md_now_38 rfl rfl ?_
      refine g_aload_n hC d_Md_now_40 rfl ?_
      refine fg_Md_91 hC lc_249 d_Md_now_41 p0_249_46 ?_
      refine g_aload_n hC d_Md_now_44 rfl ?_
      refine fg_Md_33 hC lc_249 d_Md_now_45 p0_249_9 ?_
      refine g_iload_n hC d_Md_now_48 rfl ?_
      refine gv_iald hC ly_255 d_Md_now_49 (fun x8 => ?_)
      refine g_iload_n hC d_Md_now_50 rfl ?_
      refine g_iadd hC d_Md_now_51 ?_
      refine g_iload_n hC d_Md_now_52 rfl ?_
      refine gv_iast hC ly_274 d_Md_now_53 (fun M9 => ?_)
      refine g_iload hC d_Md_now_54 rfl ?_
      exact g_iret hC hR d_Md_now_56
    · refine g_ldc hC d_Md_now_22 wk_Md_127 ?_
      exact g_iret hC hR d_Md_now_24
theorem d_Md_tickOnce_0 : decode prog_14_method_57_code 0 = .ok (.iconst 0, 1) := by decide +kernel
theorem d_Md_tickOnce_1 : decode prog_14_method_57_code 1 = .ok (.istore_n 1, 1) := by decide +kernel
theorem d_Md_tickOnce_2 : decode prog_14_method_57_code 2 = .ok (.iload_n 1, 1) := by decide +kernel
theorem d_Md_tickOnce_3 : decode prog_14_method_57_code 3 = .ok (.aload_n 0, 1) := by decide +kernel
theorem d_Md_tickOnce_4 : decode prog_14_method_57_code 4 = .ok (.getfield 235, 3) := by decide +kernel
theorem d_Md_tickOnce_7 : decode prog_14_method_57_code 7 = .ok (.if_icmp .ge 21, 3) := by decide +kernel
theorem d_Md_tickOnce_10 : decode prog_14_method_57_code 10 = .ok (.aload_n 0, 1) := by decide +kernel
theorem d_Md_tickOnce_11 : decode prog_14_method_57_code 11 = .ok (.getfield 94, 3) := by decide +kernel
theorem d_Md_tickOnce_14 : decode prog_14_method_57_code 14 = .ok (.iload_n 1, 1) := by decide +kernel
theorem d_Md_tickOnce_15 : decode prog_14_method_57_code 15 = .ok (.aload_n 0, 1) := by decide +kernel
theorem d_Md_tickOnce_16 : decode prog_14_method_57_code 16 = .ok (.getfield 91, 3) := by decide +kernel
theorem d_Md_tickOnce_19 : decode prog_14_method_57_code 19 = .ok (.iload_n 1, 1) := by decide +kernel
theorem d_Md_tickOnce_20 : decode prog_14_method_57_code 20 = .ok (.iaload, 1) := by decide +kernel
theorem d_Md_tickOnce_21 : decode prog_14_method_57_code 21 = .ok (.iastore, 1) := by decide +kernel
theorem d_Md_tickOnce_22 : decode prog_14_method_57_code 22 = .ok (.iinc 1 1, 3) := by decide +kernel
theorem d_Md_tickOnce_25 : decode prog_14_method_57_code 25 = .ok (.goto (-23), 3) := by decide +kernel
theorem d_Md_tickOnce_28 : decode prog_14_method_57_code 28 = .ok (.iconst 0, 1) := by decide +kernel
theorem d_Md_tickOnce_29 : decode prog_14_method_57_code 29 = .ok (.istore_n 1, 1) := by decide +kernel
theorem d_Md_tickOnce_30 : decode prog_14_method_57_code 30 = .ok (.iload_n 1, 1) := by decide +kernel
theorem d_Md_tickOnce_31 : decode prog_14_method_57_code 31 = .ok (.aload_n 0, 1) := by decide +kernel
theorem d_Md_tickOnce_32 : decode prog_14_method_57_code 32 = .ok (.getfield 232, 3) := by decide +kernel
theorem d_Md_tickOnce_35 : decode prog_14_method_57_code 35 = .ok (.if_icmp .ge 176, 3) := by decide +kernel
theorem d_Md_tickOnce_38 : decode prog_14_method_57_code 38 = .ok (.aload_n 0, 1) := by decide +kernel
theorem d_Md_tickOnce_39 : decode prog_14_method_57_code 39 = .ok (.getfield 27, 3) := by decide +kernel
theorem d_Md_tickOnce_42 : decode prog_14_method_57_code 42 = .ok (.iload_n 1, 1) := by decide +kernel
theorem d_Md_tickOnce_43 : decode prog_14_method_57_code 43 = .ok (.iaload, 1) := by decide +kernel
theorem d_Md_tickOnce_44 : decode prog_14_method_57_code 44 = .ok (.ifCond .eq 13, 3) := by decide +kernel
theorem d_Md_tickOnce_47 : decode prog_14_method_57_code 47 = .ok (.aload_n 0, 1) := by decide +kernel
theorem d_Md_tickOnce_48 : decode prog_14_method_57_code 48 = .ok (.getfield 27, 3) := by decide +kernel
theorem d_Md_tickOnce_51 : decode prog_14_method_57_code 51 = .ok (.iload_n 1, 1) := by decide +kernel
theorem d_Md_tickOnce_52 : decode prog_14_method_57_code 52 = .ok (.iaload, 1) := by decide +kernel
theorem d_Md_tickOnce_53 : decode prog_14_method_57_code 53 = .ok (.iconst 1, 1) := by decide +kernel
theorem d_Md_tickOnce_54 : decode prog_14_method_57_code 54 = .ok (.if_icmp .ne 151, 3) := by decide +kernel
theorem d_Md_tickOnce_57 : decode prog_14_method_57_code 57 = .ok (.aload_n 0, 1) := by decide +kernel
theorem d_Md_tickOnce_58 : decode prog_14_method_57_code 58 = .ok (.getfield 85, 3) := by decide +kernel
theorem d_Md_tickOnce_61 : decode prog_14_method_57_code 61 = .ok (.iload_n 1, 1) := by decide +kernel
theorem d_Md_tickOnce_62 : decode prog_14_method_57_code 62 = .ok (.iaload, 1) := by decide +kernel
theorem d_Md_tickOnce_63 : decode prog_14_method_57_code 63 = .ok (.ldc 146, 2) := by decide +kernel
theorem d_Md_tickOnce_65 : decode prog_14_method_57_code 65 = .ok (.if_icmp .eq 140, 3) := by decide +kernel
theorem d_Md_tickOnce_68 : decode prog_14_method_57_code 68 = .ok (.aload_n 0, 1) := by decide +kernel
theorem d_Md_tickOnce_69 : decode prog_14_method_57_code 69 = .ok (.getfield 88, 3) := by decide +kernel
theorem d_Md_tickOnce_72 : decode prog_14_method_57_code 72 = .ok (.iload_n 1, 1) := by decide +kernel
theorem d_Md_tickOnce_73 : decode prog_14_method_57_code 73 = .ok (.iaload, 1) := by decide +kernel
theorem d_Md_tickOnce_74 : decode prog_14_method_57_code 74 = .ok (.istore_n 2, 1) := by decide +kernel
theorem d_Md_tickOnce_75 : decode prog_14_method_57_code 75 = .ok (.bipush 18, 2) := by decide +kernel
theorem d_Md_tickOnce_77 : decode prog_14_method_57_code 77 = .ok (.aload_n 0, 1) := by decide +kernel
theorem d_Md_tickOnce_78 : decode prog_14_method_57_code 78 = .ok (.getfield 85, 3) := by decide +kernel
theorem d_Md_tickOnce_81 : decode prog_14_method_57_code 81 = .ok (.iload_n 1, 1) := by decide +kernel
theorem d_Md_tickOnce_82 : decode prog_14_method_57_code 82 = .ok (.iaload, 1) := by decide +kernel
theorem d_Md_tickOnce_83 : decode prog_14_method_57_code 83 = .ok (.imul, 1) := by decide +kernel
theorem d_Md_tickOnce_84 : decode prog_14_method_57_code 84 = .ok (.aload_n 0, 1) := by decide +kernel
theorem d_Md_tickOnce_85 : decode prog_14_method_57_code 85 = .ok (.getfield 36, 3) := by decide +kernel
theorem d_Md_tickOnce_88 : decode prog_14_method_57_code 88 = .ok (.aload_n 0, 1) := by decide +kernel
theorem d_Md_tickOnce_89 : decode prog_14_method_57_code 89 = .ok (.getfield 85, 3) := by decide +kernel
theorem d_Md_tickOnce_92 : decode prog_14_method_57_code 92 = .ok (.iload_n 1, 1) := by decide +kernel
theorem d_Md_tickOnce_93 : decode prog_14_method_57_code 93 = .ok (.iaload, 1) := by decide +kernel
theorem d_Md_tickOnce_94 : decode prog_14_method_57_code 94 = .ok (.iaload, 1) := by decide +kernel
theorem d_Md_tickOnce_95 : decode prog_14_method_57_code 95 = .ok (.iload_n 2, 1) := by decide +kernel
theorem d_Md_tickOnce_96 : decode prog_14_method_57_code 96 = .ok (.if_icmp .ne 7, 3) := by decide +kernel
theorem d_Md_tickOnce_99 : decode prog_14_method_57_code 99 = .ok (.iconst 0, 1) := by decide +kernel
theorem d_Md_tickOnce_100 : decode prog_14_method_57_code 100 = .ok (.goto 5, 3) := by decide +kernel
theorem d_Md_tickOnce_103 : decode prog_14_method_57_code 103 = .ok (.bipush 9, 2) := by decide +kernel
theorem d_Md_tickOnce_105 : decode prog_14_method_57_code 105 = .ok (.iadd, 1) := by decide +kernel
theorem d_Md_tickOnce_106 : decode prog_14_method_57_code 106 = .ok (.istore_n 3, 1) := by decide +kernel
theorem d_Md_tickOnce_107 : decode prog_14_method_57_code 107 = .ok (.iconst 0, 1) := by decide +kernel
theorem d_Md_tickOnce_108 : decode prog_14_method_57_code 108 = .ok (.istore 4, 2) := by decide +kernel
theorem d_Md_tickOnce_110 : decode prog_14_method_57_code 110 = .ok (.iload 4, 2) := by decide +kernel
theorem d_Md_tickOnce_112 : decode prog_14_method_57_code 112 = .ok (.aload_n 0, 1) := by decide +kernel
theorem d_Md_tickOnce_113 : decode prog_14_method_57_code 113 = .ok (.getfield 30, 3) := by decide +kernel
theorem d_Md_tickOnce_116 : decode prog_14_method_57_code 116 = .ok (.iload_n 1, 1) := by decide +kernel
theorem d_Md_tickOnce_117 : decode prog_14_method_57_code 117 = .ok (.iaload, 1) := by decide +kernel
theorem d_Md_tickOnce_118 : decode prog_14_method_57_code 118 = .ok (.if_icmp .ge 87, 3) := by decide +kernel
theorem d_Md_tickOnce_121 : decode prog_14_method_57_code 121 = .ok (.iconst 0, 1) := by decide +kernel
theorem d_Md_tickOnce_122 : decode prog_14_method_57_code 122 = .ok (.istore 5, 2) := by decide +kernel
theorem d_Md_tickOnce_124 : decode prog_14_method_57_code 124 = .ok (.iconst 0, 1) := by decide +kernel
theorem d_Md_tickOnce_125 : decode prog_14_method_57_code 125 = .ok (.istore 6, 2) := by decide +kernel
theorem d_Md_tickOnce_127 : decode prog_14_method_57_code 127 = .ok (.iload 6, 2) := by decide +kernel
theorem d_Md_tickOnce_129 : decode prog_14_method_57_code 129 = .ok (.aload_n 0, 1) := by decide +kernel
theorem d_Md_tickOnce_130 : decode prog_14_method_57_code 130 = .ok (.getfield 30, 3) := by decide +kernel
theorem d_Md_tickOnce_133 : decode prog_14_method_57_code 133 = .ok (.iload_n 2, 1) := by decide +kernel
theorem d_Md_tickOnce_134 : decode prog_14_method_57_code 134 = .ok (.iaload, 1) := by decide +kernel
theorem d_Md_tickOnce_135 : decode prog_14_method_57_code 135 = .ok (.if_icmp .ge 43, 3) := by decide +kernel
theorem d_Md_tickOnce_138 : decode prog_14_method_57_code 138 = .ok (.iload 5, 2) := by decide +kernel
theorem d_Md_tickOnce_140 : decode prog_14_method_57_code 140 = .ok (.aload_n 0, 1) := by decide +kernel
theorem d_Md_tickOnce_141 : decode prog_14_method_57_code 141 = .ok (.getfield 45, 3) := by decide +kernel
theorem d_Md_tickOnce_144 : decode prog_14_method_57_code 144 = .ok (.iload_n 3, 1) := by decide +kernel
theorem d_Md_tickOnce_145 : decode prog_14_method_57_code 145 = .ok (.iconst 3, 1) := by decide +kernel
theorem d_Md_tickOnce_146 : decode prog_14_method_57_code 146 = .ok (.iload 4, 2) := by decide +kernel
theorem d_Md_tickOnce_148 : decode prog_14_method_57_code 148 = .ok (.imul, 1) := by decide +kernel
theorem d_Md_tickOnce_149 : decode prog_14_method_57_code 149 = .ok (.iadd, 1) := by decide +kernel
theorem d_Md_tickOnce_150 : decode prog_14_method_57_code 150 = .ok (.iload 6, 2) := by decide +kernel
theorem d_Md_tickOnce_152 : decode prog_14_method_57_code 152 = .ok (.iadd, 1) := by decide +kernel
theorem d_Md_tickOnce_153 : decode prog_14_method_57_code 153 = .ok (.iaload, 1) := by decide +kernel
theorem d_Md_tickOnce_154 : decode prog_14_method_57_code 154 = .ok (.aload_n 0, 1) := by decide +kernel
theorem d_Md_tickOnce_155 : decode prog_14_method_57_code 155 = .ok (.getfield 91, 3) := by decide +kernel
theorem d_Md_tickOnce_158 : decode prog_14_method_57_code 158 = .ok (.aload_n 0, 1) := by decide +kernel
theorem d_Md_tickOnce_159 : decode prog_14_method_57_code 159 = .ok (.getfield 33, 3) := by decide +kernel
theorem d_Md_tickOnce_162 : decode prog_14_method_57_code 162 = .ok (.iload_n 2, 1) := by decide +kernel
theorem d_Md_tickOnce_163 : decode prog_14_method_57_code 163 = .ok (.iaload, 1) := by decide +kernel
theorem d_Md_tickOnce_164 : decode prog_14_method_57_code 164 = .ok (.iload 6, 2) := by decide +kernel
theorem d_Md_tickOnce_166 : decode prog_14_method_57_code 166 = .ok (.iadd, 1) := by decide +kernel
theorem d_Md_tickOnce_167 : decode prog_14_method_57_code 167 = .ok (.iaload, 1) := by decide +kernel
theorem d_Md_tickOnce_168 : decode prog_14_method_57_code 168 = .ok (.imul, 1) := by decide +kernel
theorem d_Md_tickOnce_169 : decode prog_14_method_57_code 169 = .ok (.iadd, 1) := by decide +kernel
theorem d_Md_tickOnce_170 : decode prog_14_method_57_code 170 = .ok (.istore 5, 2) := by decide +kernel
theorem d_Md_tickOnce_172 : decode prog_14_method_57_code 172 = .ok (.iinc 6 1, 3) := by decide +kernel
theorem d_Md_tickOnce_175 : decode prog_14_method_57_code 175 = .ok (.goto (-48), 3) := by decide +kernel
theorem d_Md_tickOnce_178 : decode prog_14_method_57_code 178 = .ok (.aload_n 0, 1) := by decide +kernel
theorem d_Md_tickOnce_179 : decode prog_14_method_57_code 179 = .ok (.getfield 94, 3) := by decide +kernel
theorem d_Md_tickOnce_182 : decode prog_14_method_57_code 182 = .ok (.aload_n 0, 1) := by decide +kernel
theorem d_Md_tickOnce_183 : decode prog_14_method_57_code 183 = .ok (.getfield 33, 3) := by decide +kernel
theorem d_Md_tickOnce_186 : decode prog_14_method_57_code 186 = .ok (.iload_n 1, 1) := by decide +kernel
theorem d_Md_tickOnce_187 : decode prog_14_method_57_code 187 = .ok (.iaload, 1) := by decide +kernel
theorem d_Md_tickOnce_188 : decode prog_14_method_57_code 188 = .ok (.iload 4, 2) := by decide +kernel
theorem d_Md_tickOnce_190 : decode prog_14_method_57_code 190 = .ok (.iadd, 1) := by decide +kernel
theorem d_Md_tickOnce_191 : decode prog_14_method_57_code 191 = .ok (.iload 5, 2) := by decide +kernel
theorem d_Md_tickOnce_193 : decode prog_14_method_57_code 193 = .ok (.aload_n 0, 1) := by decide +kernel
theorem d_Md_tickOnce_194 : decode prog_14_method_57_code 194 = .ok (.getfield 112, 3) := by decide +kernel
theorem d_Md_tickOnce_197 : decode prog_14_method_57_code 197 = .ok (.irem, 1) := by decide +kernel
theorem d_Md_tickOnce_198 : decode prog_14_method_57_code 198 = .ok (.iastore, 1) := by decide +kernel
theorem d_Md_tickOnce_199 : decode prog_14_method_57_code 199 = .ok (.iinc 4 1, 3) := by decide +kernel
theorem d_Md_tickOnce_202 : decode prog_14_method_57_code 202 = .ok (.goto (-92), 3) := by decide +kernel
theorem d_Md_tickOnce_205 : decode prog_14_method_57_code 205 = .ok (.iinc 1 1, 3) := by decide +kernel
theorem d_Md_tickOnce_208 : decode prog_14_method_57_code 208 = .ok (.goto (-178), 3) := by decide +kernel
theorem d_Md_tickOnce_211 : decode prog_14_method_57_code 211 = .ok (.iconst 0, 1) := by decide +kernel
theorem d_Md_tickOnce_212 : decode prog_14_method_57_code 212 = .ok (.istore_n 1, 1) := by decide +kernel
theorem d_Md_tickOnce_213 : decode prog_14_method_57_code 213 = .ok (.iload_n 1, 1) := by decide +kernel
theorem d_Md_tickOnce_214 : decode prog_14_method_57_code 214 = .ok (.aload_n 0, 1) := by decide +kernel
theorem d_Md_tickOnce_215 : decode prog_14_method_57_code 215 = .ok (.getfield 235, 3) := by decide +kernel
theorem d_Md_tickOnce_218 : decode prog_14_method_57_code 218 = .ok (.if_icmp .ge 21, 3) := by decide +kernel
theorem d_Md_tickOnce_221 : decode prog_14_method_57_code 221 = .ok (.aload_n 0, 1) := by decide +kernel
theorem d_Md_tickOnce_222 : decode prog_14_method_57_code 222 = .ok (.getfield 91, 3) := by decide +kernel
theorem d_Md_tickOnce_225 : decode prog_14_method_57_code 225 = .ok (.iload_n 1, 1) := by decide +kernel
theorem d_Md_tickOnce_226 : decode prog_14_method_57_code 226 = .ok (.aload_n 0, 1) := by decide +kernel
theorem d_Md_tickOnce_227 : decode prog_14_method_57_code 227 = .ok (.getfield 94, 3) := by decide +kernel
theorem d_Md_tickOnce_230 : decode prog_14_method_57_code 230 = .ok (.iload_n 1, 1) := by decide +kernel
theorem d_Md_tickOnce_231 : decode prog_14_method_57_code 231 = .ok (.iaload, 1) := by decide +kernel
theorem d_Md_tickOnce_232 : decode prog_14_method_57_code 232 = .ok (.iastore, 1) := by decide +kernel
theorem d_Md_tickOnce_233 : decode prog_14_method_57_code 233 = .ok (.iinc 1 1, 3) := by decide +kernel
theorem d_Md_tickOnce_236 : decode prog_14_method_57_code 236 = .ok (.goto (-23), 3) := by decide +kernel
theorem d_Md_tickOnce_239 : decode prog_14_method_57_code 239 = .ok (.return_, 1) := by decide +kernel
set_option maxHeartbeats 2000000 in
theorem Md_tickOnce_L127_g {κ : tv_Kt} (hC : tv_Cx κ "TiedViewsModel" prog_14_method_57_code 7 0) (hR : tv_Re κ none) (F : Nat) {k30 : Int32 → tv_M → Option (Unit × tv_M)} (hk30 : ∀ (l1 : Int32) (M : tv_M), tv_G κ 7 (tv_Qm κ tv_ev) 30 [some (.ref (κ.b + 249)), some (.int l1), none, none, none, none, none] [] M (k30 l1 M)) {k110 : Int32 → Int32 → Int32 → Int32 → tv_M → Option (Unit × tv_M)} (hk110 : ∀ (l1 : Int32) (l2 : Int32) (l3 : Int32) (l4 : Int32) (M : tv_M), tv_G κ 7 (tv_Qm κ tv_ev) 110 [some (.ref (κ.b + 249)), some (.int l1), some (.int l2), some (.int l3), some (.int l4), none, none] [] M (k110 l1 l2 l3 l4 M)) : ∀ (n : Nat) (l1 : Int32) (l2 : Int32) (l3 : Int32) (l4 : Int32) (l5 : Int32) (l6 : Int32) (M : tv_M), tv_G κ 7 (tv_Qm κ tv_ev) 127 [some (.ref (κ.b + 249)), some (.int l1), some (.int l2), some (.int l3), some (.int l4), some (.int l5), some (.int l6)] [] M (Md_tickOnce_L127 F k30 k110 n l1 l2 l3 l4 l5 l6 M) := by
  intro n
  induction n with
  | zero => intro _ _ _ _ _ _ _; exact g_none
  | succ nn ih =>
    intro l1 l2 l3 l4 l5 l6 M
    rw [Md_tickOnce_L127]
    refine g_iload hC d_Md_tickOnce_127 rfl ?_
    refine g_aload_n hC d_Md_tickOnce_129 rfl ?_
    refine fg_Md_30 hC lc_249 d_Md_tickOnce_130 p0_249_8 ?_
    refine g_iload_n hC d_Md_tickOnce_133 rfl ?_
    refine gv_iald hC ly_254 d_Md_tickOnce_134 (fun x13 => ?_)
    refine g_icmp_ge (tgt := 178) hC d_Md_tickOnce_135 (by decide) (fun _ => ?_) (fun _ => ?_)
    · refine g_aload_n hC d_Md_tickOnce_178 rfl ?_
      refine fg_Md_94 hC lc_249 d_Md_tickOnce_179 p0_249_47 ?_
      refine g_aload_n hC d_Md_tickOnce_182 rfl ?_
      refine fg_Md_33 hC lc_249 d_Md_tickOnce_183 p0_249_9 ?_
      refine g_iload_n hC d_Md_tickOnce_186 rfl ?_
      refine gv_iald hC ly_255 d_Md_tickOnce_187 (fun x14 => ?_)
      refine g_iload hC d_Md_tickOnce_188 rfl ?_
      refine g_iadd hC d_Md_tickOnce_190 ?_
      refine g_iload hC d_Md_tickOnce_191 rfl ?_
      refine g_aload_n hC d_Md_tickOnce_193 rfl ?_
      refine fg_Md_112 hC lc_249 d_Md_tickOnce_194 ?_
      refine g_irem hC d_Md_tickOnce_197 ?_
      refine gv_iast hC ly_275 d_Md_tickOnce_198 (fun M15 => ?_)
      refine g_iinc (ls' := [some (.ref (κ.b + 249)), some (.int l1), some (.int l2), some (.int l3), some (.int (l4 + 1)), some (.int l5), some (.int l6)]) hC d_Md_tickOnce_199 rfl k_i1 rfl rfl ?_
      refine g_goto (tgt := 110) hC d_Md_tickOnce_202 (by decide) ?_
      refine g_mask [true, true, true, true, true, false, false] (ls' := [some (.ref (κ.b + 249)), some (.int l1), some (.int l2), some (.int l3), some (.int (l4 + 1)), none, none]) rfl ?_
      exact hk110 l1 l2 l3 (l4 + 1) M15
    · refine g_iload hC d_Md_tickOnce_138 rfl ?_
      refine g_aload_n hC d_Md_tickOnce_140 rfl ?_
      refine fg_Md_45 hC lc_249 d_Md_tickOnce_141 p0_249_15 ?_
      refine g_iload_n hC d_Md_tickOnce_144 rfl ?_
      refine g_iconst hC d_Md_tickOnce_145 k_i3 ?_
      refine g_iload hC d_Md_tickOnce_146 rfl ?_
      refine g_imul hC d_Md_tickOnce_148 ?_
      refine g_iadd hC d_Md_tickOnce_149 ?_
      refine g_iload hC d_Md_tickOnce_150 rfl ?_
      refine g_iadd hC d_Md_tickOnce_152 ?_
      refine gv_iald hC ly_259 d_Md_tickOnce_153 (fun x16 => ?_)
      refine g_aload_n hC d_Md_tickOnce_154 rfl ?_
      refine fg_Md_91 hC lc_249 d_Md_tickOnce_155 p0_249_46 ?_
      refine g_aload_n hC d_Md_tickOnce_158 rfl ?_
      refine fg_Md_33 hC lc_249 d_Md_tickOnce_159 p0_249_9 ?_
      refine g_iload_n hC d_Md_tickOnce_162 rfl ?_
      refine gv_iald hC ly_255 d_Md_tickOnce_163 (fun x17 => ?_)
      refine g_iload hC d_Md_tickOnce_164 rfl ?_
      refine g_iadd hC d_Md_tickOnce_166 ?_
      refine gv_iald hC ly_274 d_Md_tickOnce_167 (fun x18 => ?_)
      refine g_imul hC d_Md_tickOnce_168 ?_
      refine g_iadd hC d_Md_tickOnce_169 ?_
      refine g_istore (ls' := [some (.ref (κ.b + 249)), some (.int l1), some (.int l2), some (.int l3), some (.int l4), some (.int (l5 + (x16 * x18))), some (.int l6)]) hC d_Md_tickOnce_170 rfl rfl ?_
      refine g_iinc (ls' := [some (.ref (κ.b + 249)), some (.int l1), some (.int l2), some (.int l3), some (.int l4), some (.int (l5 + (x16 * x18))), some (.int (l6 + 1))]) hC d_Md_tickOnce_172 rfl k_i1 rfl rfl ?_
      refine g_goto (tgt := 127) hC d_Md_tickOnce_175 (by decide) ?_
      exact ih l1 l2 l3 l4 (l5 + (x16 * x18)) (l6 + 1) M
set_option maxHeartbeats 2000000 in
theorem Md_tickOnce_L110_g {κ : tv_Kt} (hC : tv_Cx κ "TiedViewsModel" prog_14_method_57_code 7 0) (hR : tv_Re κ none) (F : Nat) {k30 : Int32 → tv_M → Option (Unit × tv_M)} (hk30 : ∀ (l1 : Int32) (M : tv_M), tv_G κ 7 (tv_Qm κ tv_ev) 30 [some (.ref (κ.b + 249)), some (.int l1), none, none, none, none, none] [] M (k30 l1 M)) : ∀ (n : Nat) (l1 : Int32) (l2 : Int32) (l3 : Int32) (l4 : Int32) (M : tv_M), tv_G κ 7 (tv_Qm κ tv_ev) 110 [some (.ref (κ.b + 249)), some (.int l1), some (.int l2), some (.int l3), some (.int l4), none, none] [] M (Md_tickOnce_L110 F k30 n l1 l2 l3 l4 M) := by
  intro n
  induction n with
  | zero => intro _ _ _ _ _; exact g_none
  | succ nn ih =>
    intro l1 l2 l3 l4 M
    rw [Md_tickOnce_L110]
    refine g_iload hC d_Md_tickOnce_110 rfl ?_
    refine g_aload_n hC d_Md_tickOnce_112 rfl ?_
    refine fg_Md_30 hC lc_249 d_Md_tickOnce_113 p0_249_8 ?_
    refine g_iload_n hC d_Md_tickOnce_116 rfl ?_
    refine gv_iald hC ly_254 d_Md_tickOnce_117 (fun x12 => ?_)
    refine g_icmp_ge (tgt := 205) hC d_Md_tickOnce_118 (by decide) (fun _ => ?_) (fun _ => ?_)
    · refine g_iinc (ls' := [some (.ref (κ.b + 249)), some (.int (l1 + 1)), some (.int l2), some (.int l3), some (.int l4), none, none]) hC d_Md_tickOnce_205 rfl k_i1 rfl rfl ?_
      refine g_goto (tgt := 30) hC d_Md_tickOnce_208 (by decide) ?_
      refine g_mask [true, true, false, false, false, false, false] (ls' := [some (.ref (κ.b + 249)), some (.int (l1 + 1)), none, none, none, none, none]) rfl ?_
      exact hk30 (l1 + 1) M
    · refine g_iconst hC d_Md_tickOnce_121 k_i0 ?_
      refine g_istore (ls' := [some (.ref (κ.b + 249)), some (.int l1), some (.int l2), some (.int l3), some (.int l4), some (.int 0), none]) hC d_Md_tickOnce_122 rfl rfl ?_
      refine g_iconst hC d_Md_tickOnce_124 k_i0 ?_
      refine g_istore (ls' := [some (.ref (κ.b + 249)), some (.int l1), some (.int l2), some (.int l3), some (.int l4), some (.int 0), some (.int 0)]) hC d_Md_tickOnce_125 rfl rfl ?_
      exact Md_tickOnce_L127_g hC hR F hk30 ih F l1 l2 l3 l4 0 0 M
set_option maxHeartbeats 2000000 in
theorem Md_tickOnce_L57_g {κ : tv_Kt} (hC : tv_Cx κ "TiedViewsModel" prog_14_method_57_code 7 0) (hR : tv_Re κ none) (F : Nat) {k30 : Int32 → tv_M → Option (Unit × tv_M)} (hk30 : ∀ (l1 : Int32) (M : tv_M), tv_G κ 7 (tv_Qm κ tv_ev) 30 [some (.ref (κ.b + 249)), some (.int l1), none, none, none, none, none] [] M (k30 l1 M)) (l1 : Int32) (M : tv_M) : tv_G κ 7 (tv_Qm κ tv_ev) 57 [some (.ref (κ.b + 249)), some (.int l1), none, none, none, none, none] [] M (Md_tickOnce_L57 F k30 l1 M) := by
  rw [Md_tickOnce_L57]
  refine g_aload_n hC d_Md_tickOnce_57 rfl ?_
  refine fg_Md_85 hC lc_249 d_Md_tickOnce_58 p0_249_44 ?_
  refine g_iload_n hC d_Md_tickOnce_61 rfl ?_
  refine gv_iald hC ly_272 d_Md_tickOnce_62 (fun x7 => ?_)
  refine g_ldc hC d_Md_tickOnce_63 wk_Md_146 ?_
  refine g_icmp_eq (tgt := 205) hC d_Md_tickOnce_65 (by decide) (fun _ => ?_) (fun _ => ?_)
  · refine g_iinc (ls' := [some (.ref (κ.b + 249)), some (.int (l1 + 1)), none, none, none, none, none]) hC d_Md_tickOnce_205 rfl k_i1 rfl rfl ?_
    refine g_goto (tgt := 30) hC d_Md_tickOnce_208 (by decide) ?_
    exact hk30 (l1 + 1) M
  · refine g_aload_n hC d_Md_tickOnce_68 rfl ?_
    refine fg_Md_88 hC lc_249 d_Md_tickOnce_69 p0_249_45 ?_
    refine g_iload_n hC d_Md_tickOnce_72 rfl ?_
    refine gv_iald hC ly_273 d_Md_tickOnce_73 (fun x8 => ?_)
    refine g_istore_n (ls' := [some (.ref (κ.b + 249)), some (.int l1), some (.int x8), none, none, none, none]) hC d_Md_tickOnce_74 rfl rfl ?_
    refine g_bipush hC d_Md_tickOnce_75 k_b18 ?_
    refine g_aload_n hC d_Md_tickOnce_77 rfl ?_
    refine fg_Md_85 hC lc_249 d_Md_tickOnce_78 p0_249_44 ?_
    refine g_iload_n hC d_Md_tickOnce_81 rfl ?_
    refine gv_iald hC ly_272 d_Md_tickOnce_82 (fun x9 => ?_)
    refine g_imul hC d_Md_tickOnce_83 ?_
    refine g_aload_n hC d_Md_tickOnce_84 rfl ?_
    refine fg_Md_36 hC lc_249 d_Md_tickOnce_85 p0_249_12 ?_
    refine g_aload_n hC d_Md_tickOnce_88 rfl ?_
    refine fg_Md_85 hC lc_249 d_Md_tickOnce_89 p0_249_44 ?_
    refine g_iload_n hC d_Md_tickOnce_92 rfl ?_
    refine gv_iald hC ly_272 d_Md_tickOnce_93 (fun x10 => ?_)
    refine gv_iald hC ly_256 d_Md_tickOnce_94 (fun x11 => ?_)
    refine g_iload_n hC d_Md_tickOnce_95 rfl ?_
    refine g_icmp_ne (tgt := 103) hC d_Md_tickOnce_96 (by decide) (fun _ => ?_) (fun _ => ?_)
    · refine g_bipush hC d_Md_tickOnce_103 k_b9 ?_
      refine g_iadd hC d_Md_tickOnce_105 ?_
      refine g_istore_n (ls' := [some (.ref (κ.b + 249)), some (.int l1), some (.int x8), some (.int ((18 * x9) + 9)), none, none, none]) hC d_Md_tickOnce_106 rfl rfl ?_
      refine g_iconst hC d_Md_tickOnce_107 k_i0 ?_
      refine g_istore (ls' := [some (.ref (κ.b + 249)), some (.int l1), some (.int x8), some (.int ((18 * x9) + 9)), some (.int 0), none, none]) hC d_Md_tickOnce_108 rfl rfl ?_
      exact Md_tickOnce_L110_g hC hR F hk30 F l1 x8 ((18 * x9) + 9) 0 M
    · refine g_iconst hC d_Md_tickOnce_99 k_i0 ?_
      refine g_goto (tgt := 105) hC d_Md_tickOnce_100 (by decide) ?_
      refine g_iadd hC d_Md_tickOnce_105 ?_
      refine g_istore_n (ls' := [some (.ref (κ.b + 249)), some (.int l1), some (.int x8), some (.int ((18 * x9) + 0)), none, none, none]) hC d_Md_tickOnce_106 rfl rfl ?_
      refine g_iconst hC d_Md_tickOnce_107 k_i0 ?_
      refine g_istore (ls' := [some (.ref (κ.b + 249)), some (.int l1), some (.int x8), some (.int ((18 * x9) + 0)), some (.int 0), none, none]) hC d_Md_tickOnce_108 rfl rfl ?_
      exact Md_tickOnce_L110_g hC hR F hk30 F l1 x8 ((18 * x9) + 0) 0 M
set_option maxHeartbeats 2000000 in
theorem Md_tickOnce_L213_g {κ : tv_Kt} (hC : tv_Cx κ "TiedViewsModel" prog_14_method_57_code 7 0) (hR : tv_Re κ none) (F : Nat) : ∀ (n : Nat) (l1 : Int32) (M : tv_M), tv_G κ 7 (tv_Qm κ tv_ev) 213 [some (.ref (κ.b + 249)), some (.int l1), none, none, none, none, none] [] M (Md_tickOnce_L213 F n l1 M) := by
  intro n
  induction n with
  | zero => intro _ _; exact g_none
  | succ nn ih =>
    intro l1 M
    rw [Md_tickOnce_L213]
    refine g_iload_n hC d_Md_tickOnce_213 rfl ?_
    refine g_aload_n hC d_Md_tickOnce_214 rfl ?_
    refine fg_Md_235 hC lc_249 d_Md_tickOnce_215 ?_
    refine g_icmp_ge (tgt := 239) hC d_Md_tickOnce_218 (by decide) (fun _ => ?_) (fun _ => ?_)
    · exact g_vret hC hR d_Md_tickOnce_239
    · refine g_aload_n hC d_Md_tickOnce_221 rfl ?_
      refine fg_Md_91 hC lc_249 d_Md_tickOnce_222 p0_249_46 ?_
      refine g_iload_n hC d_Md_tickOnce_225 rfl ?_
      refine g_aload_n hC d_Md_tickOnce_226 rfl ?_
      refine fg_Md_94 hC lc_249 d_Md_tickOnce_227 p0_249_47 ?_
      refine g_iload_n hC d_Md_tickOnce_230 rfl ?_
      refine gv_iald hC ly_275 d_Md_tickOnce_231 (fun x5 => ?_)
      refine gv_iast hC ly_274 d_Md_tickOnce_232 (fun M6 => ?_)
      refine g_iinc (ls' := [some (.ref (κ.b + 249)), some (.int (l1 + 1)), none, none, none, none, none]) hC d_Md_tickOnce_233 rfl k_i1 rfl rfl ?_
      refine g_goto (tgt := 213) hC d_Md_tickOnce_236 (by decide) ?_
      exact ih (l1 + 1) M6
set_option maxHeartbeats 2000000 in
theorem Md_tickOnce_L30_g {κ : tv_Kt} (hC : tv_Cx κ "TiedViewsModel" prog_14_method_57_code 7 0) (hR : tv_Re κ none) (F : Nat) : ∀ (n : Nat) (l1 : Int32) (M : tv_M), tv_G κ 7 (tv_Qm κ tv_ev) 30 [some (.ref (κ.b + 249)), some (.int l1), none, none, none, none, none] [] M (Md_tickOnce_L30 F n l1 M) := by
  intro n
  induction n with
  | zero => intro _ _; exact g_none
  | succ nn ih =>
    intro l1 M
    rw [Md_tickOnce_L30]
    refine g_iload_n hC d_Md_tickOnce_30 rfl ?_
    refine g_aload_n hC d_Md_tickOnce_31 rfl ?_
    refine fg_Md_232 hC lc_249 d_Md_tickOnce_32 ?_
    refine g_icmp_ge (tgt := 211) hC d_Md_tickOnce_35 (by decide) (fun _ => ?_) (fun _ => ?_)
    · refine g_iconst hC d_Md_tickOnce_211 k_i0 ?_
      refine g_istore_n (ls' := [some (.ref (κ.b + 249)), some (.int 0), none, none, none, none, none]) hC d_Md_tickOnce_212 rfl rfl ?_
      exact Md_tickOnce_L213_g hC hR F F 0 M
    · refine g_aload_n hC d_Md_tickOnce_38 rfl ?_
      refine fg_Md_27 hC lc_249 d_Md_tickOnce_39 p0_249_7 ?_
      refine g_iload_n hC d_Md_tickOnce_42 rfl ?_
      refine gv_iald hC ly_253 d_Md_tickOnce_43 (fun x3 => ?_)
      refine g_if_eq (tgt := 57) hC d_Md_tickOnce_44 (by decide) (fun _ => ?_) (fun _ => ?_)
      · exact Md_tickOnce_L57_g hC hR F ih l1 M
      · refine g_aload_n hC d_Md_tickOnce_47 rfl ?_
        refine fg_Md_27 hC lc_249 d_Md_tickOnce_48 p0_249_7 ?_
        refine g_iload_n hC d_Md_tickOnce_51 rfl ?_
        refine gv_iald hC ly_253 d_Md_tickOnce_52 (fun x4 => ?_)
        refine g_iconst hC d_Md_tickOnce_53 k_i1 ?_
        refine g_icmp_ne (tgt := 205) hC d_Md_tickOnce_54 (by decide) (fun _ => ?_) (fun _ => ?_)
        · refine g_iinc (ls' := [some (.ref (κ.b + 249)), some (.int (l1 + 1)), none, none, none, none, none]) hC d_Md_tickOnce_205 rfl k_i1 rfl rfl ?_
          refine g_goto (tgt := 30) hC d_Md_tickOnce_208 (by decide) ?_
          exact ih (l1 + 1) M
        · exact Md_tickOnce_L57_g hC hR F ih l1 M
set_option maxHeartbeats 2000000 in
theorem Md_tickOnce_L2_g {κ : tv_Kt} (hC : tv_Cx κ "TiedViewsModel" prog_14_method_57_code 7 0) (hR : tv_Re κ none) (F : Nat) : ∀ (n : Nat) (l1 : Int32) (M : tv_M), tv_G κ 7 (tv_Qm κ tv_ev) 2 [some (.ref (κ.b + 249)), some (.int l1), none, none, none, none, none] [] M (Md_tickOnce_L2 F n l1 M) := by
  intro n
  induction n with
  | zero => intro _ _; exact g_none
  | succ nn ih =>
    intro l1 M
    rw [Md_tickOnce_L2]
    refine g_iload_n hC d_Md_tickOnce_2 rfl ?_
    refine g_aload_n hC d_Md_tickOnce_3 rfl ?_
    refine fg_Md_235 hC lc_249 d_Md_tickOnce_4 ?_
    refine g_icmp_ge (tgt := 28) hC d_Md_tickOnce_7 (by decide) (fun _ => ?_) (fun _ => ?_)
    · refine g_iconst hC d_Md_tickOnce_28 k_i0 ?_
      refine g_istore_n (ls' := [some (.ref (κ.b + 249)), some (.int 0), none, none, none, none, none]) hC d_Md_tickOnce_29 rfl rfl ?_
      exact Md_tickOnce_L30_g hC hR F F 0 M
    · refine g_aload_n hC d_Md_tickOnce_10 rfl ?_
      refine fg_Md_94 hC lc_249 d_Md_tickOnce_11 p0_249_47 ?_
      refine g_iload_n hC d_Md_tickOnce_14 rfl ?_
      refine g_aload_n hC d_Md_tickOnce_15 rfl ?_
      refine fg_Md_91 hC lc_249 d_Md_tickOnce_16 p0_249_46 ?_
      refine g_iload_n hC d_Md_tickOnce_19 rfl ?_
      refine gv_iald hC ly_274 d_Md_tickOnce_20 (fun x1 => ?_)
      refine gv_iast hC ly_275 d_Md_tickOnce_21 (fun M2 => ?_)
      refine g_iinc (ls' := [some (.ref (κ.b + 249)), some (.int (l1 + 1)), none, none, none, none, none]) hC d_Md_tickOnce_22 rfl k_i1 rfl rfl ?_
      refine g_goto (tgt := 2) hC d_Md_tickOnce_25 (by decide) ?_
      exact ih (l1 + 1) M2
set_option maxHeartbeats 2000000 in
theorem Md_tickOnce_c {l : Launch} {θ : tv_Th} (F : Nat) (M : tv_M) : tv_Ct l θ ⟨"TiedViewsModel", "tickOnce", "()V"⟩ prog_14_method_57_code 7 none 0 tv_ev [.ref (θ.1 + 249)] M (Md_tickOnce F M) := by
  refine tv_ofG [some (.ref (θ.1 + 249)), none, none, none, none, none, none] rfl rfl (tv_ent 6 rfl) ?_
  intro κ hl ht hC hR
  subst hl; subst ht
  unfold Md_tickOnce
  refine g_iconst hC d_Md_tickOnce_0 k_i0 ?_
  refine g_istore_n (ls' := [some (.ref (κ.b + 249)), some (.int 0), none, none, none, none, none]) hC d_Md_tickOnce_1 rfl rfl ?_
  exact Md_tickOnce_L2_g hC hR F F 0 M
theorem d_Md_tick_0 : decode prog_14_method_58_code 0 = .ok (.aload_n 0, 1) := by decide +kernel
theorem d_Md_tick_1 : decode prog_14_method_58_code 1 = .ok (.iconst 0, 1) := by decide +kernel
theorem d_Md_tick_2 : decode prog_14_method_58_code 2 = .ok (.putfield 1, 3) := by decide +kernel
theorem d_Md_tick_5 : decode prog_14_method_58_code 5 = .ok (.iload_n 1, 1) := by decide +kernel
theorem d_Md_tick_6 : decode prog_14_method_58_code 6 = .ok (.i2l, 1) := by decide +kernel
theorem d_Md_tick_7 : decode prog_14_method_58_code 7 = .ok (.lconst 1, 1) := by decide +kernel
theorem d_Md_tick_8 : decode prog_14_method_58_code 8 = .ok (.ldc2_w 322, 3) := by decide +kernel
theorem d_Md_tick_11 : decode prog_14_method_58_code 11 = .ok (.invokestatic 115, 3) := by decide +kernel
theorem d_Md_tick_14 : decode prog_14_method_58_code 14 = .ok (.ifCond .ne 6, 3) := by decide +kernel
theorem d_Md_tick_17 : decode prog_14_method_58_code 17 = .ok (.ldc 127, 2) := by decide +kernel
theorem d_Md_tick_19 : decode prog_14_method_58_code 19 = .ok (.ireturn, 1) := by decide +kernel
theorem d_Md_tick_20 : decode prog_14_method_58_code 20 = .ok (.iconst 0, 1) := by decide +kernel
theorem d_Md_tick_21 : decode prog_14_method_58_code 21 = .ok (.istore_n 2, 1) := by decide +kernel
theorem d_Md_tick_22 : decode prog_14_method_58_code 22 = .ok (.iload_n 2, 1) := by decide +kernel
theorem d_Md_tick_23 : decode prog_14_method_58_code 23 = .ok (.iload_n 1, 1) := by decide +kernel
theorem d_Md_tick_24 : decode prog_14_method_58_code 24 = .ok (.if_icmp .ge 13, 3) := by decide +kernel
theorem d_Md_tick_27 : decode prog_14_method_58_code 27 = .ok (.aload_n 0, 1) := by decide +kernel
theorem d_Md_tick_28 : decode prog_14_method_58_code 28 = .ok (.invokevirtual 324, 3) := by decide +kernel
theorem d_Md_tick_31 : decode prog_14_method_58_code 31 = .ok (.iinc 2 1, 3) := by decide +kernel
theorem d_Md_tick_34 : decode prog_14_method_58_code 34 = .ok (.goto (-12), 3) := by decide +kernel
theorem d_Md_tick_37 : decode prog_14_method_58_code 37 = .ok (.iconst 0, 1) := by decide +kernel
theorem d_Md_tick_38 : decode prog_14_method_58_code 38 = .ok (.istore_n 2, 1) := by decide +kernel
theorem d_Md_tick_39 : decode prog_14_method_58_code 39 = .ok (.iconst 0, 1) := by decide +kernel
theorem d_Md_tick_40 : decode prog_14_method_58_code 40 = .ok (.istore_n 3, 1) := by decide +kernel
theorem d_Md_tick_41 : decode prog_14_method_58_code 41 = .ok (.iload_n 3, 1) := by decide +kernel
theorem d_Md_tick_42 : decode prog_14_method_58_code 42 = .ok (.aload_n 0, 1) := by decide +kernel
theorem d_Md_tick_43 : decode prog_14_method_58_code 43 = .ok (.getfield 235, 3) := by decide +kernel
theorem d_Md_tick_46 : decode prog_14_method_58_code 46 = .ok (.if_icmp .ge 26, 3) := by decide +kernel
theorem d_Md_tick_49 : decode prog_14_method_58_code 49 = .ok (.iload_n 2, 1) := by decide +kernel
theorem d_Md_tick_50 : decode prog_14_method_58_code 50 = .ok (.aload_n 0, 1) := by decide +kernel
theorem d_Md_tick_51 : decode prog_14_method_58_code 51 = .ok (.getfield 91, 3) := by decide +kernel
theorem d_Md_tick_54 : decode prog_14_method_58_code 54 = .ok (.iload_n 3, 1) := by decide +kernel
theorem d_Md_tick_55 : decode prog_14_method_58_code 55 = .ok (.iaload, 1) := by decide +kernel
theorem d_Md_tick_56 : decode prog_14_method_58_code 56 = .ok (.ifCond .eq 7, 3) := by decide +kernel
theorem d_Md_tick_59 : decode prog_14_method_58_code 59 = .ok (.iconst 1, 1) := by decide +kernel
theorem d_Md_tick_60 : decode prog_14_method_58_code 60 = .ok (.goto 4, 3) := by decide +kernel
theorem d_Md_tick_63 : decode prog_14_method_58_code 63 = .ok (.iconst 0, 1) := by decide +kernel
theorem d_Md_tick_64 : decode prog_14_method_58_code 64 = .ok (.iadd, 1) := by decide +kernel
theorem d_Md_tick_65 : decode prog_14_method_58_code 65 = .ok (.istore_n 2, 1) := by decide +kernel
theorem d_Md_tick_66 : decode prog_14_method_58_code 66 = .ok (.iinc 3 1, 3) := by decide +kernel
theorem d_Md_tick_69 : decode prog_14_method_58_code 69 = .ok (.goto (-28), 3) := by decide +kernel
theorem d_Md_tick_72 : decode prog_14_method_58_code 72 = .ok (.iload_n 2, 1) := by decide +kernel
theorem d_Md_tick_73 : decode prog_14_method_58_code 73 = .ok (.ireturn, 1) := by decide +kernel
set_option maxHeartbeats 2000000 in
theorem Md_tick_L41_g {κ : tv_Kt} (hC : tv_Cx κ "TiedViewsModel" prog_14_method_58_code 4 1) (hR : tv_Re κ (some .int)) (F : Nat) : ∀ (n : Nat) (l2 : Int32) (l3 : Int32) (M : tv_M), tv_G κ 4 (tv_Qm κ tv_ei) 41 [some (.ref (κ.b + 249)), none, some (.int l2), some (.int l3)] [] M (Md_tick_L41 F n l2 l3 M) := by
  intro n
  induction n with
  | zero => intro _ _ _; exact g_none
  | succ nn ih =>
    intro l2 l3 M
    rw [Md_tick_L41]
    refine g_iload_n hC d_Md_tick_41 rfl ?_
    refine g_aload_n hC d_Md_tick_42 rfl ?_
    refine fg_Md_235 hC lc_249 d_Md_tick_43 ?_
    refine g_icmp_ge (tgt := 72) hC d_Md_tick_46 (by decide) (fun _ => ?_) (fun _ => ?_)
    · refine g_iload_n hC d_Md_tick_72 rfl ?_
      exact g_iret hC hR d_Md_tick_73
    · refine g_iload_n hC d_Md_tick_49 rfl ?_
      refine g_aload_n hC d_Md_tick_50 rfl ?_
      refine fg_Md_91 hC lc_249 d_Md_tick_51 p0_249_46 ?_
      refine g_iload_n hC d_Md_tick_54 rfl ?_
      refine gv_iald hC ly_274 d_Md_tick_55 (fun x6 => ?_)
      refine g_if_eq (tgt := 63) hC d_Md_tick_56 (by decide) (fun _ => ?_) (fun _ => ?_)
      · refine g_iconst hC d_Md_tick_63 k_i0 ?_
        refine g_iadd hC d_Md_tick_64 ?_
        refine g_istore_n (ls' := [some (.ref (κ.b + 249)), none, some (.int (l2 + 0)), some (.int l3)]) hC d_Md_tick_65 rfl rfl ?_
        refine g_iinc (ls' := [some (.ref (κ.b + 249)), none, some (.int (l2 + 0)), some (.int (l3 + 1))]) hC d_Md_tick_66 rfl k_i1 rfl rfl ?_
        refine g_goto (tgt := 41) hC d_Md_tick_69 (by decide) ?_
        exact ih (l2 + 0) (l3 + 1) M
      · refine g_iconst hC d_Md_tick_59 k_i1 ?_
        refine g_goto (tgt := 64) hC d_Md_tick_60 (by decide) ?_
        refine g_iadd hC d_Md_tick_64 ?_
        refine g_istore_n (ls' := [some (.ref (κ.b + 249)), none, some (.int (l2 + 1)), some (.int l3)]) hC d_Md_tick_65 rfl rfl ?_
        refine g_iinc (ls' := [some (.ref (κ.b + 249)), none, some (.int (l2 + 1)), some (.int (l3 + 1))]) hC d_Md_tick_66 rfl k_i1 rfl rfl ?_
        refine g_goto (tgt := 41) hC d_Md_tick_69 (by decide) ?_
        exact ih (l2 + 1) (l3 + 1) M
set_option maxHeartbeats 2000000 in
theorem Md_tick_L22_g {κ : tv_Kt} (hC : tv_Cx κ "TiedViewsModel" prog_14_method_58_code 4 1) (hR : tv_Re κ (some .int)) (F : Nat) : ∀ (n : Nat) (l1 : Int32) (l2 : Int32) (M : tv_M), tv_G κ 4 (tv_Qm κ tv_ei) 22 [some (.ref (κ.b + 249)), some (.int l1), some (.int l2), none] [] M (Md_tick_L22 F n l1 l2 M) := by
  intro n
  induction n with
  | zero => intro _ _ _; exact g_none
  | succ nn ih =>
    intro l1 l2 M
    rw [Md_tick_L22]
    refine g_iload_n hC d_Md_tick_22 rfl ?_
    refine g_iload_n hC d_Md_tick_23 rfl ?_
    refine g_icmp_ge (tgt := 37) hC d_Md_tick_24 (by decide) (fun _ => ?_) (fun _ => ?_)
    · refine g_iconst hC d_Md_tick_37 k_i0 ?_
      refine g_istore_n (ls' := [some (.ref (κ.b + 249)), some (.int l1), some (.int 0), none]) hC d_Md_tick_38 rfl rfl ?_
      refine g_iconst hC d_Md_tick_39 k_i0 ?_
      refine g_istore_n (ls' := [some (.ref (κ.b + 249)), some (.int l1), some (.int 0), some (.int 0)]) hC d_Md_tick_40 rfl rfl ?_
      refine g_mask [true, false, true, true] (ls' := [some (.ref (κ.b + 249)), none, some (.int 0), some (.int 0)]) rfl ?_
      exact Md_tick_L41_g hC hR F F 0 0 M
    · refine g_aload_n hC d_Md_tick_27 rfl ?_
      refine gv_callVv hC [] cw_Md_324 (Md_tickOnce_c F M) lc_249 rfl rfl rfl rfl rfl rfl rfl d_Md_tick_28 (fun r4 M5 => ?_)
      refine g_iinc (ls' := [some (.ref (κ.b + 249)), some (.int l1), some (.int (l2 + 1)), none]) hC d_Md_tick_31 rfl k_i1 rfl rfl ?_
      refine g_goto (tgt := 22) hC d_Md_tick_34 (by decide) ?_
      exact ih l1 (l2 + 1) M5
set_option maxHeartbeats 2000000 in
theorem Md_tick_c {l : Launch} {θ : tv_Th} (F : Nat) (a1 : Int32) (M : tv_M) : tv_Ct l θ ⟨"TiedViewsModel", "tick", "(I)I"⟩ prog_14_method_58_code 4 (some .int) 1 tv_ei [.ref (θ.1 + 249), .int a1] M (Md_tick F a1 M) := by
  refine tv_ofG [some (.ref (θ.1 + 249)), some (.int a1), none, none] rfl rfl (tv_ent 2 rfl) ?_
  intro κ hl ht hC hR
  subst hl; subst ht
  unfold Md_tick
  refine g_aload_n hC d_Md_tick_0 rfl ?_
  refine g_iconst hC d_Md_tick_1 k_i0 ?_
  refine fp_Md_1 hC lc_249 d_Md_tick_2 (fun M1 => ?_)
  refine g_iload_n hC d_Md_tick_5 rfl ?_
  refine g_i2l hC d_Md_tick_6 ?_
  refine g_lconst hC d_Md_tick_7 k_l1 ?_
  refine g_ldc2 hC d_Md_tick_8 wl_Md_322 ?_
  refine gv_callSi hC [.long ((a1 : Int32).toInt64), .long 1, .long 100] cw_Md_115 (Md_in_c F ((a1 : Int32).toInt64) 1 100 M1) rfl rfl rfl rfl rfl d_Md_tick_11 (fun r2 M3 => ?_)
  refine g_if_ne (tgt := 20) hC d_Md_tick_14 (by decide) (fun _ => ?_) (fun _ => ?_)
  · refine g_iconst hC d_Md_tick_20 k_i0 ?_
    refine g_istore_n (ls' := [some (.ref (κ.b + 249)), some (.int a1), some (.int 0), none]) hC d_Md_tick_21 rfl rfl ?_
    exact Md_tick_L22_g hC hR F F a1 0 M3
  · refine g_ldc hC d_Md_tick_17 wk_Md_127 ?_
    exact g_iret hC hR d_Md_tick_19
