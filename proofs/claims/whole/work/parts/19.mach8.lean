theorem d_Md_says_0 : decode prog_14_method_59_code 0 = .ok (.aload_n 0, 1) := by decide +kernel
theorem d_Md_says_1 : decode prog_14_method_59_code 1 = .ok (.iconst 0, 1) := by decide +kernel
theorem d_Md_says_2 : decode prog_14_method_59_code 2 = .ok (.putfield 1, 3) := by decide +kernel
theorem d_Md_says_5 : decode prog_14_method_59_code 5 = .ok (.aload_n 0, 1) := by decide +kernel
theorem d_Md_says_6 : decode prog_14_method_59_code 6 = .ok (.iload_n 1, 1) := by decide +kernel
theorem d_Md_says_7 : decode prog_14_method_59_code 7 = .ok (.iload_n 2, 1) := by decide +kernel
theorem d_Md_says_8 : decode prog_14_method_59_code 8 = .ok (.invokevirtual 318, 3) := by decide +kernel
theorem d_Md_says_11 : decode prog_14_method_59_code 11 = .ok (.ifCond .eq 19, 3) := by decide +kernel
theorem d_Md_says_14 : decode prog_14_method_59_code 14 = .ok (.aload_n 0, 1) := by decide +kernel
theorem d_Md_says_15 : decode prog_14_method_59_code 15 = .ok (.getfield 91, 3) := by decide +kernel
theorem d_Md_says_18 : decode prog_14_method_59_code 18 = .ok (.aload_n 0, 1) := by decide +kernel
theorem d_Md_says_19 : decode prog_14_method_59_code 19 = .ok (.getfield 33, 3) := by decide +kernel
theorem d_Md_says_22 : decode prog_14_method_59_code 22 = .ok (.iload_n 1, 1) := by decide +kernel
theorem d_Md_says_23 : decode prog_14_method_59_code 23 = .ok (.iaload, 1) := by decide +kernel
theorem d_Md_says_24 : decode prog_14_method_59_code 24 = .ok (.iload_n 2, 1) := by decide +kernel
theorem d_Md_says_25 : decode prog_14_method_59_code 25 = .ok (.iadd, 1) := by decide +kernel
theorem d_Md_says_26 : decode prog_14_method_59_code 26 = .ok (.iaload, 1) := by decide +kernel
theorem d_Md_says_27 : decode prog_14_method_59_code 27 = .ok (.goto 5, 3) := by decide +kernel
theorem d_Md_says_30 : decode prog_14_method_59_code 30 = .ok (.ldc 127, 2) := by decide +kernel
theorem d_Md_says_32 : decode prog_14_method_59_code 32 = .ok (.ireturn, 1) := by decide +kernel
set_option maxHeartbeats 2000000 in
theorem Md_says_c {l : Launch} {θ : tv_Th} (F : Nat) (a1 : Int32) (a2 : Int32) (M : tv_M) : tv_Ct l θ ⟨"TiedViewsModel", "says", "(II)I"⟩ prog_14_method_59_code 3 (some .int) 4 tv_ei [.ref (θ.1 + 249), .int a1, .int a2] M (Md_says F a1 a2 M) := by
  refine tv_ofG [some (.ref (θ.1 + 249)), some (.int a1), some (.int a2)] rfl rfl (tv_ent 0 rfl) ?_
  intro κ hl ht hC hR
  subst hl; subst ht
  unfold Md_says
  refine g_aload_n hC d_Md_says_0 rfl ?_
  refine g_iconst hC d_Md_says_1 k_i0 ?_
  refine fp_Md_1 hC lc_249 d_Md_says_2 (fun M1 => ?_)
  refine g_aload_n hC d_Md_says_5 rfl ?_
  refine g_iload_n hC d_Md_says_6 rfl ?_
  refine g_iload_n hC d_Md_says_7 rfl ?_
  refine gv_callVi hC [.int a1, .int a2] cw_Md_318 (Md_isNumberOf_c F a1 a2 M1) lc_249 rfl rfl rfl rfl rfl rfl rfl d_Md_says_8 (fun r2 M3 => ?_)
  refine g_if_eq (tgt := 30) hC d_Md_says_11 (by decide) (fun _ => ?_) (fun _ => ?_)
  · refine g_ldc hC d_Md_says_30 wk_Md_127 ?_
    exact g_iret hC hR d_Md_says_32
  · refine g_aload_n hC d_Md_says_14 rfl ?_
    refine fg_Md_91 hC lc_249 d_Md_says_15 p0_249_46 ?_
    refine g_aload_n hC d_Md_says_18 rfl ?_
    refine fg_Md_33 hC lc_249 d_Md_says_19 p0_249_9 ?_
    refine g_iload_n hC d_Md_says_22 rfl ?_
    refine gv_iald hC ly_255 d_Md_says_23 (fun x4 => ?_)
    refine g_iload_n hC d_Md_says_24 rfl ?_
    refine g_iadd hC d_Md_says_25 ?_
    refine gv_iald hC ly_274 d_Md_says_26 (fun x5 => ?_)
    refine g_goto (tgt := 32) hC d_Md_says_27 (by decide) ?_
    exact g_iret hC hR d_Md_says_32
theorem d_Md_isRow_0 : decode prog_14_method_60_code 0 = .ok (.iconst 1, 1) := by decide +kernel
theorem d_Md_isRow_1 : decode prog_14_method_60_code 1 = .ok (.istore_n 2, 1) := by decide +kernel
theorem d_Md_isRow_2 : decode prog_14_method_60_code 2 = .ok (.iconst 0, 1) := by decide +kernel
theorem d_Md_isRow_3 : decode prog_14_method_60_code 3 = .ok (.istore_n 3, 1) := by decide +kernel
theorem d_Md_isRow_4 : decode prog_14_method_60_code 4 = .ok (.iload_n 3, 1) := by decide +kernel
theorem d_Md_isRow_5 : decode prog_14_method_60_code 5 = .ok (.aload_n 0, 1) := by decide +kernel
theorem d_Md_isRow_6 : decode prog_14_method_60_code 6 = .ok (.getfield 235, 3) := by decide +kernel
theorem d_Md_isRow_9 : decode prog_14_method_60_code 9 = .ok (.if_icmp .ge 39, 3) := by decide +kernel
theorem d_Md_isRow_12 : decode prog_14_method_60_code 12 = .ok (.iload_n 2, 1) := by decide +kernel
theorem d_Md_isRow_13 : decode prog_14_method_60_code 13 = .ok (.ifCond .eq 35, 3) := by decide +kernel
theorem d_Md_isRow_16 : decode prog_14_method_60_code 16 = .ok (.aload_n 0, 1) := by decide +kernel
theorem d_Md_isRow_17 : decode prog_14_method_60_code 17 = .ok (.getfield 97, 3) := by decide +kernel
theorem d_Md_isRow_20 : decode prog_14_method_60_code 20 = .ok (.bipush 24, 2) := by decide +kernel
theorem d_Md_isRow_22 : decode prog_14_method_60_code 22 = .ok (.iload_n 1, 1) := by decide +kernel
theorem d_Md_isRow_23 : decode prog_14_method_60_code 23 = .ok (.imul, 1) := by decide +kernel
theorem d_Md_isRow_24 : decode prog_14_method_60_code 24 = .ok (.iload_n 3, 1) := by decide +kernel
theorem d_Md_isRow_25 : decode prog_14_method_60_code 25 = .ok (.iadd, 1) := by decide +kernel
theorem d_Md_isRow_26 : decode prog_14_method_60_code 26 = .ok (.iaload, 1) := by decide +kernel
theorem d_Md_isRow_27 : decode prog_14_method_60_code 27 = .ok (.aload_n 0, 1) := by decide +kernel
theorem d_Md_isRow_28 : decode prog_14_method_60_code 28 = .ok (.getfield 91, 3) := by decide +kernel
theorem d_Md_isRow_31 : decode prog_14_method_60_code 31 = .ok (.iload_n 3, 1) := by decide +kernel
theorem d_Md_isRow_32 : decode prog_14_method_60_code 32 = .ok (.iaload, 1) := by decide +kernel
theorem d_Md_isRow_33 : decode prog_14_method_60_code 33 = .ok (.if_icmp .ne 7, 3) := by decide +kernel
theorem d_Md_isRow_36 : decode prog_14_method_60_code 36 = .ok (.iconst 1, 1) := by decide +kernel
theorem d_Md_isRow_37 : decode prog_14_method_60_code 37 = .ok (.goto 4, 3) := by decide +kernel
theorem d_Md_isRow_40 : decode prog_14_method_60_code 40 = .ok (.iconst 0, 1) := by decide +kernel
theorem d_Md_isRow_41 : decode prog_14_method_60_code 41 = .ok (.istore_n 2, 1) := by decide +kernel
theorem d_Md_isRow_42 : decode prog_14_method_60_code 42 = .ok (.iinc 3 1, 3) := by decide +kernel
theorem d_Md_isRow_45 : decode prog_14_method_60_code 45 = .ok (.goto (-41), 3) := by decide +kernel
theorem d_Md_isRow_48 : decode prog_14_method_60_code 48 = .ok (.iload_n 2, 1) := by decide +kernel
theorem d_Md_isRow_49 : decode prog_14_method_60_code 49 = .ok (.ireturn, 1) := by decide +kernel
set_option maxHeartbeats 2000000 in
theorem Md_isRow_L4_g {κ : tv_Kt} (hC : tv_Cx κ "TiedViewsModel" prog_14_method_60_code 4 0) (hR : tv_Re κ (some .boolean)) (F : Nat) : ∀ (n : Nat) (l1 : Int32) (l2 : Int32) (l3 : Int32) (M : tv_M), tv_G κ 4 (tv_Qm κ tv_ei) 4 [some (.ref (κ.b + 249)), some (.int l1), some (.int l2), some (.int l3)] [] M (Md_isRow_L4 F n l1 l2 l3 M) := by
  intro n
  induction n with
  | zero => intro _ _ _ _; exact g_none
  | succ nn ih =>
    intro l1 l2 l3 M
    rw [Md_isRow_L4]
    refine g_iload_n hC d_Md_isRow_4 rfl ?_
    refine g_aload_n hC d_Md_isRow_5 rfl ?_
    refine fg_Md_235 hC lc_249 d_Md_isRow_6 ?_
    refine g_icmp_ge (tgt := 48) hC d_Md_isRow_9 (by decide) (fun _ => ?_) (fun _ => ?_)
    · refine g_iload_n hC d_Md_isRow_48 rfl ?_
      refine g_zo (fun z1 => ?_)
      exact g_zret hC hR z1 d_Md_isRow_49
    · refine g_iload_n hC d_Md_isRow_12 rfl ?_
      refine g_if_eq (tgt := 48) hC d_Md_isRow_13 (by decide) (fun _ => ?_) (fun _ => ?_)
      · refine g_iload_n hC d_Md_isRow_48 rfl ?_
        refine g_zo (fun z2 => ?_)
        exact g_zret hC hR z2 d_Md_isRow_49
      · refine g_aload_n hC d_Md_isRow_16 rfl ?_
        refine fg_Md_97 hC lc_249 d_Md_isRow_17 p0_249_48 ?_
        refine g_bipush hC d_Md_isRow_20 k_b24 ?_
        refine g_iload_n hC d_Md_isRow_22 rfl ?_
        refine g_imul hC d_Md_isRow_23 ?_
        refine g_iload_n hC d_Md_isRow_24 rfl ?_
        refine g_iadd hC d_Md_isRow_25 ?_
        refine gv_iald hC ly_276 d_Md_isRow_26 (fun x3 => ?_)
        refine g_aload_n hC d_Md_isRow_27 rfl ?_
        refine fg_Md_91 hC lc_249 d_Md_isRow_28 p0_249_46 ?_
        refine g_iload_n hC d_Md_isRow_31 rfl ?_
        refine gv_iald hC ly_274 d_Md_isRow_32 (fun x4 => ?_)
        refine g_icmp_ne (tgt := 40) hC d_Md_isRow_33 (by decide) (fun _ => ?_) (fun _ => ?_)
        · refine g_iconst hC d_Md_isRow_40 k_i0 ?_
          refine g_istore_n (ls' := [some (.ref (κ.b + 249)), some (.int l1), some (.int 0), some (.int l3)]) hC d_Md_isRow_41 rfl rfl ?_
          refine g_iinc (ls' := [some (.ref (κ.b + 249)), some (.int l1), some (.int 0), some (.int (l3 + 1))]) hC d_Md_isRow_42 rfl k_i1 rfl rfl ?_
          refine g_goto (tgt := 4) hC d_Md_isRow_45 (by decide) ?_
          exact ih l1 0 (l3 + 1) M
        · refine g_iconst hC d_Md_isRow_36 k_i1 ?_
          refine g_goto (tgt := 41) hC d_Md_isRow_37 (by decide) ?_
          refine g_istore_n (ls' := [some (.ref (κ.b + 249)), some (.int l1), some (.int 1), some (.int l3)]) hC d_Md_isRow_41 rfl rfl ?_
          refine g_iinc (ls' := [some (.ref (κ.b + 249)), some (.int l1), some (.int 1), some (.int (l3 + 1))]) hC d_Md_isRow_42 rfl k_i1 rfl rfl ?_
          refine g_goto (tgt := 4) hC d_Md_isRow_45 (by decide) ?_
          exact ih l1 1 (l3 + 1) M
set_option maxHeartbeats 2000000 in
theorem Md_isRow_c {l : Launch} {θ : tv_Th} (F : Nat) (a1 : Int32) (M : tv_M) : tv_Ct l θ ⟨"TiedViewsModel", "isRow", "(I)Z"⟩ prog_14_method_60_code 4 (some .boolean) 0 tv_ei [.ref (θ.1 + 249), .int a1] M (Md_isRow F a1 M) := by
  refine tv_ofG [some (.ref (θ.1 + 249)), some (.int a1), none, none] rfl rfl (tv_ent 2 rfl) ?_
  intro κ hl ht hC hR
  subst hl; subst ht
  unfold Md_isRow
  refine g_iconst hC d_Md_isRow_0 k_i1 ?_
  refine g_istore_n (ls' := [some (.ref (κ.b + 249)), some (.int a1), some (.int 1), none]) hC d_Md_isRow_1 rfl rfl ?_
  refine g_iconst hC d_Md_isRow_2 k_i0 ?_
  refine g_istore_n (ls' := [some (.ref (κ.b + 249)), some (.int a1), some (.int 1), some (.int 0)]) hC d_Md_isRow_3 rfl rfl ?_
  exact Md_isRow_L4_g hC hR F F a1 1 0 M
theorem d_Md_settles_0 : decode prog_14_method_61_code 0 = .ok (.aload_n 0, 1) := by decide +kernel
theorem d_Md_settles_1 : decode prog_14_method_61_code 1 = .ok (.iconst 0, 1) := by decide +kernel
theorem d_Md_settles_2 : decode prog_14_method_61_code 2 = .ok (.putfield 1, 3) := by decide +kernel
theorem d_Md_settles_5 : decode prog_14_method_61_code 5 = .ok (.iload_n 1, 1) := by decide +kernel
theorem d_Md_settles_6 : decode prog_14_method_61_code 6 = .ok (.i2l, 1) := by decide +kernel
theorem d_Md_settles_7 : decode prog_14_method_61_code 7 = .ok (.lconst 0, 1) := by decide +kernel
theorem d_Md_settles_8 : decode prog_14_method_61_code 8 = .ok (.lconst 1, 1) := by decide +kernel
theorem d_Md_settles_9 : decode prog_14_method_61_code 9 = .ok (.invokestatic 115, 3) := by decide +kernel
theorem d_Md_settles_12 : decode prog_14_method_61_code 12 = .ok (.ifCond .ne 6, 3) := by decide +kernel
theorem d_Md_settles_15 : decode prog_14_method_61_code 15 = .ok (.ldc 127, 2) := by decide +kernel
theorem d_Md_settles_17 : decode prog_14_method_61_code 17 = .ok (.ireturn, 1) := by decide +kernel
theorem d_Md_settles_18 : decode prog_14_method_61_code 18 = .ok (.ldc 146, 2) := by decide +kernel
theorem d_Md_settles_20 : decode prog_14_method_61_code 20 = .ok (.istore_n 2, 1) := by decide +kernel
theorem d_Md_settles_21 : decode prog_14_method_61_code 21 = .ok (.ldc 146, 2) := by decide +kernel
theorem d_Md_settles_23 : decode prog_14_method_61_code 23 = .ok (.istore_n 3, 1) := by decide +kernel
theorem d_Md_settles_24 : decode prog_14_method_61_code 24 = .ok (.iconst 0, 1) := by decide +kernel
theorem d_Md_settles_25 : decode prog_14_method_61_code 25 = .ok (.istore 4, 2) := by decide +kernel
theorem d_Md_settles_27 : decode prog_14_method_61_code 27 = .ok (.iload 4, 2) := by decide +kernel
theorem d_Md_settles_29 : decode prog_14_method_61_code 29 = .ok (.sipush 300, 3) := by decide +kernel
theorem d_Md_settles_32 : decode prog_14_method_61_code 32 = .ok (.if_icmp .gt 112, 3) := by decide +kernel
theorem d_Md_settles_35 : decode prog_14_method_61_code 35 = .ok (.iload_n 2, 1) := by decide +kernel
theorem d_Md_settles_36 : decode prog_14_method_61_code 36 = .ok (.ldc 146, 2) := by decide +kernel
theorem d_Md_settles_38 : decode prog_14_method_61_code 38 = .ok (.if_icmp .ne 106, 3) := by decide +kernel
theorem d_Md_settles_41 : decode prog_14_method_61_code 41 = .ok (.iconst 0, 1) := by decide +kernel
theorem d_Md_settles_42 : decode prog_14_method_61_code 42 = .ok (.istore 5, 2) := by decide +kernel
theorem d_Md_settles_44 : decode prog_14_method_61_code 44 = .ok (.iload 5, 2) := by decide +kernel
theorem d_Md_settles_46 : decode prog_14_method_61_code 46 = .ok (.iload 4, 2) := by decide +kernel
theorem d_Md_settles_48 : decode prog_14_method_61_code 48 = .ok (.if_icmp .ge 32, 3) := by decide +kernel
theorem d_Md_settles_51 : decode prog_14_method_61_code 51 = .ok (.iload_n 2, 1) := by decide +kernel
theorem d_Md_settles_52 : decode prog_14_method_61_code 52 = .ok (.ldc 146, 2) := by decide +kernel
theorem d_Md_settles_54 : decode prog_14_method_61_code 54 = .ok (.if_icmp .ne 26, 3) := by decide +kernel
theorem d_Md_settles_57 : decode prog_14_method_61_code 57 = .ok (.aload_n 0, 1) := by decide +kernel
theorem d_Md_settles_58 : decode prog_14_method_61_code 58 = .ok (.iload 5, 2) := by decide +kernel
theorem d_Md_settles_60 : decode prog_14_method_61_code 60 = .ok (.invokevirtual 327, 3) := by decide +kernel
theorem d_Md_settles_63 : decode prog_14_method_61_code 63 = .ok (.ifCond .eq 8, 3) := by decide +kernel
theorem d_Md_settles_66 : decode prog_14_method_61_code 66 = .ok (.iload 5, 2) := by decide +kernel
theorem d_Md_settles_68 : decode prog_14_method_61_code 68 = .ok (.goto 5, 3) := by decide +kernel
theorem d_Md_settles_71 : decode prog_14_method_61_code 71 = .ok (.ldc 146, 2) := by decide +kernel
theorem d_Md_settles_73 : decode prog_14_method_61_code 73 = .ok (.istore_n 2, 1) := by decide +kernel
theorem d_Md_settles_74 : decode prog_14_method_61_code 74 = .ok (.iinc 5 1, 3) := by decide +kernel
theorem d_Md_settles_77 : decode prog_14_method_61_code 77 = .ok (.goto (-33), 3) := by decide +kernel
theorem d_Md_settles_80 : decode prog_14_method_61_code 80 = .ok (.iload_n 2, 1) := by decide +kernel
theorem d_Md_settles_81 : decode prog_14_method_61_code 81 = .ok (.ldc 146, 2) := by decide +kernel
theorem d_Md_settles_83 : decode prog_14_method_61_code 83 = .ok (.if_icmp .ne 8, 3) := by decide +kernel
theorem d_Md_settles_86 : decode prog_14_method_61_code 86 = .ok (.ldc 146, 2) := by decide +kernel
theorem d_Md_settles_88 : decode prog_14_method_61_code 88 = .ok (.goto 7, 3) := by decide +kernel
theorem d_Md_settles_91 : decode prog_14_method_61_code 91 = .ok (.iload 4, 2) := by decide +kernel
theorem d_Md_settles_93 : decode prog_14_method_61_code 93 = .ok (.iload_n 2, 1) := by decide +kernel
theorem d_Md_settles_94 : decode prog_14_method_61_code 94 = .ok (.isub, 1) := by decide +kernel
theorem d_Md_settles_95 : decode prog_14_method_61_code 95 = .ok (.istore_n 3, 1) := by decide +kernel
theorem d_Md_settles_96 : decode prog_14_method_61_code 96 = .ok (.iconst 0, 1) := by decide +kernel
theorem d_Md_settles_97 : decode prog_14_method_61_code 97 = .ok (.istore 5, 2) := by decide +kernel
theorem d_Md_settles_99 : decode prog_14_method_61_code 99 = .ok (.iload 5, 2) := by decide +kernel
theorem d_Md_settles_101 : decode prog_14_method_61_code 101 = .ok (.aload_n 0, 1) := by decide +kernel
theorem d_Md_settles_102 : decode prog_14_method_61_code 102 = .ok (.getfield 235, 3) := by decide +kernel
theorem d_Md_settles_105 : decode prog_14_method_61_code 105 = .ok (.if_icmp .ge 29, 3) := by decide +kernel
theorem d_Md_settles_108 : decode prog_14_method_61_code 108 = .ok (.aload_n 0, 1) := by decide +kernel
theorem d_Md_settles_109 : decode prog_14_method_61_code 109 = .ok (.getfield 97, 3) := by decide +kernel
theorem d_Md_settles_112 : decode prog_14_method_61_code 112 = .ok (.bipush 24, 2) := by decide +kernel
theorem d_Md_settles_114 : decode prog_14_method_61_code 114 = .ok (.iload 4, 2) := by decide +kernel
theorem d_Md_settles_116 : decode prog_14_method_61_code 116 = .ok (.imul, 1) := by decide +kernel
theorem d_Md_settles_117 : decode prog_14_method_61_code 117 = .ok (.iload 5, 2) := by decide +kernel
theorem d_Md_settles_119 : decode prog_14_method_61_code 119 = .ok (.iadd, 1) := by decide +kernel
theorem d_Md_settles_120 : decode prog_14_method_61_code 120 = .ok (.aload_n 0, 1) := by decide +kernel
theorem d_Md_settles_121 : decode prog_14_method_61_code 121 = .ok (.getfield 91, 3) := by decide +kernel
theorem d_Md_settles_124 : decode prog_14_method_61_code 124 = .ok (.iload 5, 2) := by decide +kernel
theorem d_Md_settles_126 : decode prog_14_method_61_code 126 = .ok (.iaload, 1) := by decide +kernel
theorem d_Md_settles_127 : decode prog_14_method_61_code 127 = .ok (.iastore, 1) := by decide +kernel
theorem d_Md_settles_128 : decode prog_14_method_61_code 128 = .ok (.iinc 5 1, 3) := by decide +kernel
theorem d_Md_settles_131 : decode prog_14_method_61_code 131 = .ok (.goto (-32), 3) := by decide +kernel
theorem d_Md_settles_134 : decode prog_14_method_61_code 134 = .ok (.aload_n 0, 1) := by decide +kernel
theorem d_Md_settles_135 : decode prog_14_method_61_code 135 = .ok (.invokevirtual 324, 3) := by decide +kernel
theorem d_Md_settles_138 : decode prog_14_method_61_code 138 = .ok (.iinc 4 1, 3) := by decide +kernel
theorem d_Md_settles_141 : decode prog_14_method_61_code 141 = .ok (.goto (-114), 3) := by decide +kernel
theorem d_Md_settles_144 : decode prog_14_method_61_code 144 = .ok (.iconst 0, 1) := by decide +kernel
theorem d_Md_settles_145 : decode prog_14_method_61_code 145 = .ok (.istore 4, 2) := by decide +kernel
theorem d_Md_settles_147 : decode prog_14_method_61_code 147 = .ok (.iload 4, 2) := by decide +kernel
theorem d_Md_settles_149 : decode prog_14_method_61_code 149 = .ok (.aload_n 0, 1) := by decide +kernel
theorem d_Md_settles_150 : decode prog_14_method_61_code 150 = .ok (.getfield 235, 3) := by decide +kernel
theorem d_Md_settles_153 : decode prog_14_method_61_code 153 = .ok (.if_icmp .ge 23, 3) := by decide +kernel
theorem d_Md_settles_156 : decode prog_14_method_61_code 156 = .ok (.aload_n 0, 1) := by decide +kernel
theorem d_Md_settles_157 : decode prog_14_method_61_code 157 = .ok (.getfield 91, 3) := by decide +kernel
theorem d_Md_settles_160 : decode prog_14_method_61_code 160 = .ok (.iload 4, 2) := by decide +kernel
theorem d_Md_settles_162 : decode prog_14_method_61_code 162 = .ok (.aload_n 0, 1) := by decide +kernel
theorem d_Md_settles_163 : decode prog_14_method_61_code 163 = .ok (.getfield 97, 3) := by decide +kernel
theorem d_Md_settles_166 : decode prog_14_method_61_code 166 = .ok (.iload 4, 2) := by decide +kernel
theorem d_Md_settles_168 : decode prog_14_method_61_code 168 = .ok (.iaload, 1) := by decide +kernel
theorem d_Md_settles_169 : decode prog_14_method_61_code 169 = .ok (.iastore, 1) := by decide +kernel
theorem d_Md_settles_170 : decode prog_14_method_61_code 170 = .ok (.iinc 4 1, 3) := by decide +kernel
theorem d_Md_settles_173 : decode prog_14_method_61_code 173 = .ok (.goto (-26), 3) := by decide +kernel
theorem d_Md_settles_176 : decode prog_14_method_61_code 176 = .ok (.iload_n 1, 1) := by decide +kernel
theorem d_Md_settles_177 : decode prog_14_method_61_code 177 = .ok (.ifCond .ne 7, 3) := by decide +kernel
theorem d_Md_settles_180 : decode prog_14_method_61_code 180 = .ok (.iload_n 2, 1) := by decide +kernel
theorem d_Md_settles_181 : decode prog_14_method_61_code 181 = .ok (.goto 4, 3) := by decide +kernel
theorem d_Md_settles_184 : decode prog_14_method_61_code 184 = .ok (.iload_n 3, 1) := by decide +kernel
theorem d_Md_settles_185 : decode prog_14_method_61_code 185 = .ok (.ireturn, 1) := by decide +kernel
set_option maxHeartbeats 2000000 in
theorem Md_settles_L99_g {κ : tv_Kt} (hC : tv_Cx κ "TiedViewsModel" prog_14_method_61_code 6 1) (hR : tv_Re κ (some .int)) (F : Nat) {k27 : Int32 → Int32 → Int32 → Int32 → tv_M → Option (Int32 × tv_M)} (hk27 : ∀ (l1 : Int32) (l2 : Int32) (l3 : Int32) (l4 : Int32) (M : tv_M), tv_G κ 6 (tv_Qm κ tv_ei) 27 [some (.ref (κ.b + 249)), some (.int l1), some (.int l2), some (.int l3), some (.int l4), none] [] M (k27 l1 l2 l3 l4 M)) : ∀ (n : Nat) (l1 : Int32) (l2 : Int32) (l3 : Int32) (l4 : Int32) (l5 : Int32) (M : tv_M), tv_G κ 6 (tv_Qm κ tv_ei) 99 [some (.ref (κ.b + 249)), some (.int l1), some (.int l2), some (.int l3), some (.int l4), some (.int l5)] [] M (Md_settles_L99 F k27 n l1 l2 l3 l4 l5 M) := by
  intro n
  induction n with
  | zero => intro _ _ _ _ _ _; exact g_none
  | succ nn ih =>
    intro l1 l2 l3 l4 l5 M
    rw [Md_settles_L99]
    refine g_iload hC d_Md_settles_99 rfl ?_
    refine g_aload_n hC d_Md_settles_101 rfl ?_
    refine fg_Md_235 hC lc_249 d_Md_settles_102 ?_
    refine g_icmp_ge (tgt := 134) hC d_Md_settles_105 (by decide) (fun _ => ?_) (fun _ => ?_)
    · refine g_aload_n hC d_Md_settles_134 rfl ?_
      refine gv_callVv hC [] cw_Md_324 (Md_tickOnce_c F M) lc_249 rfl rfl rfl rfl rfl rfl rfl d_Md_settles_135 (fun r6 M7 => ?_)
      refine g_iinc (ls' := [some (.ref (κ.b + 249)), some (.int l1), some (.int l2), some (.int l3), some (.int (l4 + 1)), some (.int l5)]) hC d_Md_settles_138 rfl k_i1 rfl rfl ?_
      refine g_goto (tgt := 27) hC d_Md_settles_141 (by decide) ?_
      refine g_mask [true, true, true, true, true, false] (ls' := [some (.ref (κ.b + 249)), some (.int l1), some (.int l2), some (.int l3), some (.int (l4 + 1)), none]) rfl ?_
      exact hk27 l1 l2 l3 (l4 + 1) M7
    · refine g_aload_n hC d_Md_settles_108 rfl ?_
      refine fg_Md_97 hC lc_249 d_Md_settles_109 p0_249_48 ?_
      refine g_bipush hC d_Md_settles_112 k_b24 ?_
      refine g_iload hC d_Md_settles_114 rfl ?_
      refine g_imul hC d_Md_settles_116 ?_
      refine g_iload hC d_Md_settles_117 rfl ?_
      refine g_iadd hC d_Md_settles_119 ?_
      refine g_aload_n hC d_Md_settles_120 rfl ?_
      refine fg_Md_91 hC lc_249 d_Md_settles_121 p0_249_46 ?_
      refine g_iload hC d_Md_settles_124 rfl ?_
      refine gv_iald hC ly_274 d_Md_settles_126 (fun x8 => ?_)
      refine gv_iast hC ly_276 d_Md_settles_127 (fun M9 => ?_)
      refine g_iinc (ls' := [some (.ref (κ.b + 249)), some (.int l1), some (.int l2), some (.int l3), some (.int l4), some (.int (l5 + 1))]) hC d_Md_settles_128 rfl k_i1 rfl rfl ?_
      refine g_goto (tgt := 99) hC d_Md_settles_131 (by decide) ?_
      exact ih l1 l2 l3 l4 (l5 + 1) M9
set_option maxHeartbeats 2000000 in
theorem Md_settles_L80_g {κ : tv_Kt} (hC : tv_Cx κ "TiedViewsModel" prog_14_method_61_code 6 1) (hR : tv_Re κ (some .int)) (F : Nat) {k27 : Int32 → Int32 → Int32 → Int32 → tv_M → Option (Int32 × tv_M)} (hk27 : ∀ (l1 : Int32) (l2 : Int32) (l3 : Int32) (l4 : Int32) (M : tv_M), tv_G κ 6 (tv_Qm κ tv_ei) 27 [some (.ref (κ.b + 249)), some (.int l1), some (.int l2), some (.int l3), some (.int l4), none] [] M (k27 l1 l2 l3 l4 M)) (l1 : Int32) (l2 : Int32) (l4 : Int32) (M : tv_M) : tv_G κ 6 (tv_Qm κ tv_ei) 80 [some (.ref (κ.b + 249)), some (.int l1), some (.int l2), none, some (.int l4), none] [] M (Md_settles_L80 F k27 l1 l2 l4 M) := by
  rw [Md_settles_L80]
  refine g_iload_n hC d_Md_settles_80 rfl ?_
  refine g_ldc hC d_Md_settles_81 wk_Md_146 ?_
  refine g_icmp_ne (tgt := 91) hC d_Md_settles_83 (by decide) (fun _ => ?_) (fun _ => ?_)
  · refine g_iload hC d_Md_settles_91 rfl ?_
    refine g_iload_n hC d_Md_settles_93 rfl ?_
    refine g_isub hC d_Md_settles_94 ?_
    refine g_istore_n (ls' := [some (.ref (κ.b + 249)), some (.int l1), some (.int l2), some (.int (l4 - l2)), some (.int l4), none]) hC d_Md_settles_95 rfl rfl ?_
    refine g_iconst hC d_Md_settles_96 k_i0 ?_
    refine g_istore (ls' := [some (.ref (κ.b + 249)), some (.int l1), some (.int l2), some (.int (l4 - l2)), some (.int l4), some (.int 0)]) hC d_Md_settles_97 rfl rfl ?_
    exact Md_settles_L99_g hC hR F hk27 F l1 l2 (l4 - l2) l4 0 M
  · refine g_ldc hC d_Md_settles_86 wk_Md_146 ?_
    refine g_goto (tgt := 95) hC d_Md_settles_88 (by decide) ?_
    refine g_istore_n (ls' := [some (.ref (κ.b + 249)), some (.int l1), some (.int l2), some (.int (-1000000)), some (.int l4), none]) hC d_Md_settles_95 rfl rfl ?_
    refine g_iconst hC d_Md_settles_96 k_i0 ?_
    refine g_istore (ls' := [some (.ref (κ.b + 249)), some (.int l1), some (.int l2), some (.int (-1000000)), some (.int l4), some (.int 0)]) hC d_Md_settles_97 rfl rfl ?_
    exact Md_settles_L99_g hC hR F hk27 F l1 l2 (-1000000) l4 0 M
set_option maxHeartbeats 2000000 in
theorem Md_settles_L44_g {κ : tv_Kt} (hC : tv_Cx κ "TiedViewsModel" prog_14_method_61_code 6 1) (hR : tv_Re κ (some .int)) (F : Nat) {k27 : Int32 → Int32 → Int32 → Int32 → tv_M → Option (Int32 × tv_M)} (hk27 : ∀ (l1 : Int32) (l2 : Int32) (l3 : Int32) (l4 : Int32) (M : tv_M), tv_G κ 6 (tv_Qm κ tv_ei) 27 [some (.ref (κ.b + 249)), some (.int l1), some (.int l2), some (.int l3), some (.int l4), none] [] M (k27 l1 l2 l3 l4 M)) : ∀ (n : Nat) (l1 : Int32) (l2 : Int32) (l4 : Int32) (l5 : Int32) (M : tv_M), tv_G κ 6 (tv_Qm κ tv_ei) 44 [some (.ref (κ.b + 249)), some (.int l1), some (.int l2), none, some (.int l4), some (.int l5)] [] M (Md_settles_L44 F k27 n l1 l2 l4 l5 M) := by
  intro n
  induction n with
  | zero => intro _ _ _ _ _; exact g_none
  | succ nn ih =>
    intro l1 l2 l4 l5 M
    rw [Md_settles_L44]
    refine g_iload hC d_Md_settles_44 rfl ?_
    refine g_iload hC d_Md_settles_46 rfl ?_
    refine g_icmp_ge (tgt := 80) hC d_Md_settles_48 (by decide) (fun _ => ?_) (fun _ => ?_)
    · refine g_mask [true, true, true, false, true, false] (ls' := [some (.ref (κ.b + 249)), some (.int l1), some (.int l2), none, some (.int l4), none]) rfl ?_
      exact Md_settles_L80_g hC hR F hk27 l1 l2 l4 M
    · refine g_iload_n hC d_Md_settles_51 rfl ?_
      refine g_ldc hC d_Md_settles_52 wk_Md_146 ?_
      refine g_icmp_ne (tgt := 80) hC d_Md_settles_54 (by decide) (fun _ => ?_) (fun _ => ?_)
      · refine g_mask [true, true, true, false, true, false] (ls' := [some (.ref (κ.b + 249)), some (.int l1), some (.int l2), none, some (.int l4), none]) rfl ?_
        exact Md_settles_L80_g hC hR F hk27 l1 l2 l4 M
      · refine g_aload_n hC d_Md_settles_57 rfl ?_
        refine g_iload hC d_Md_settles_58 rfl ?_
        refine gv_callVi hC [.int l5] cw_Md_327 (Md_isRow_c F l5 M) lc_249 rfl rfl rfl rfl rfl rfl rfl d_Md_settles_60 (fun r4 M5 => ?_)
        refine g_if_eq (tgt := 71) hC d_Md_settles_63 (by decide) (fun _ => ?_) (fun _ => ?_)
        · refine g_ldc hC d_Md_settles_71 wk_Md_146 ?_
          refine g_istore_n (ls' := [some (.ref (κ.b + 249)), some (.int l1), some (.int (-1000000)), none, some (.int l4), some (.int l5)]) hC d_Md_settles_73 rfl rfl ?_
          refine g_iinc (ls' := [some (.ref (κ.b + 249)), some (.int l1), some (.int (-1000000)), none, some (.int l4), some (.int (l5 + 1))]) hC d_Md_settles_74 rfl k_i1 rfl rfl ?_
          refine g_goto (tgt := 44) hC d_Md_settles_77 (by decide) ?_
          exact ih l1 (-1000000) l4 (l5 + 1) M5
        · refine g_iload hC d_Md_settles_66 rfl ?_
          refine g_goto (tgt := 73) hC d_Md_settles_68 (by decide) ?_
          refine g_istore_n (ls' := [some (.ref (κ.b + 249)), some (.int l1), some (.int l5), none, some (.int l4), some (.int l5)]) hC d_Md_settles_73 rfl rfl ?_
          refine g_iinc (ls' := [some (.ref (κ.b + 249)), some (.int l1), some (.int l5), none, some (.int l4), some (.int (l5 + 1))]) hC d_Md_settles_74 rfl k_i1 rfl rfl ?_
          refine g_goto (tgt := 44) hC d_Md_settles_77 (by decide) ?_
          exact ih l1 l5 l4 (l5 + 1) M5
set_option maxHeartbeats 2000000 in
theorem Md_settles_L147_g {κ : tv_Kt} (hC : tv_Cx κ "TiedViewsModel" prog_14_method_61_code 6 1) (hR : tv_Re κ (some .int)) (F : Nat) : ∀ (n : Nat) (l1 : Int32) (l2 : Int32) (l3 : Int32) (l4 : Int32) (M : tv_M), tv_G κ 6 (tv_Qm κ tv_ei) 147 [some (.ref (κ.b + 249)), some (.int l1), some (.int l2), some (.int l3), some (.int l4), none] [] M (Md_settles_L147 F n l1 l2 l3 l4 M) := by
  intro n
  induction n with
  | zero => intro _ _ _ _ _; exact g_none
  | succ nn ih =>
    intro l1 l2 l3 l4 M
    rw [Md_settles_L147]
    refine g_iload hC d_Md_settles_147 rfl ?_
    refine g_aload_n hC d_Md_settles_149 rfl ?_
    refine fg_Md_235 hC lc_249 d_Md_settles_150 ?_
    refine g_icmp_ge (tgt := 176) hC d_Md_settles_153 (by decide) (fun _ => ?_) (fun _ => ?_)
    · refine g_iload_n hC d_Md_settles_176 rfl ?_
      refine g_if_ne (tgt := 184) hC d_Md_settles_177 (by decide) (fun _ => ?_) (fun _ => ?_)
      · refine g_iload_n hC d_Md_settles_184 rfl ?_
        exact g_iret hC hR d_Md_settles_185
      · refine g_iload_n hC d_Md_settles_180 rfl ?_
        refine g_goto (tgt := 185) hC d_Md_settles_181 (by decide) ?_
        exact g_iret hC hR d_Md_settles_185
    · refine g_aload_n hC d_Md_settles_156 rfl ?_
      refine fg_Md_91 hC lc_249 d_Md_settles_157 p0_249_46 ?_
      refine g_iload hC d_Md_settles_160 rfl ?_
      refine g_aload_n hC d_Md_settles_162 rfl ?_
      refine fg_Md_97 hC lc_249 d_Md_settles_163 p0_249_48 ?_
      refine g_iload hC d_Md_settles_166 rfl ?_
      refine gv_iald hC ly_276 d_Md_settles_168 (fun x10 => ?_)
      refine gv_iast hC ly_274 d_Md_settles_169 (fun M11 => ?_)
      refine g_iinc (ls' := [some (.ref (κ.b + 249)), some (.int l1), some (.int l2), some (.int l3), some (.int (l4 + 1)), none]) hC d_Md_settles_170 rfl k_i1 rfl rfl ?_
      refine g_goto (tgt := 147) hC d_Md_settles_173 (by decide) ?_
      exact ih l1 l2 l3 (l4 + 1) M11
set_option maxHeartbeats 2000000 in
theorem Md_settles_L27_g {κ : tv_Kt} (hC : tv_Cx κ "TiedViewsModel" prog_14_method_61_code 6 1) (hR : tv_Re κ (some .int)) (F : Nat) : ∀ (n : Nat) (l1 : Int32) (l2 : Int32) (l3 : Int32) (l4 : Int32) (M : tv_M), tv_G κ 6 (tv_Qm κ tv_ei) 27 [some (.ref (κ.b + 249)), some (.int l1), some (.int l2), some (.int l3), some (.int l4), none] [] M (Md_settles_L27 F n l1 l2 l3 l4 M) := by
  intro n
  induction n with
  | zero => intro _ _ _ _ _; exact g_none
  | succ nn ih =>
    intro l1 l2 l3 l4 M
    rw [Md_settles_L27]
    refine g_iload hC d_Md_settles_27 rfl ?_
    refine g_sipush hC d_Md_settles_29 k_s300 ?_
    refine g_icmp_gt (tgt := 144) hC d_Md_settles_32 (by decide) (fun _ => ?_) (fun _ => ?_)
    · refine g_iconst hC d_Md_settles_144 k_i0 ?_
      refine g_istore (ls' := [some (.ref (κ.b + 249)), some (.int l1), some (.int l2), some (.int l3), some (.int 0), none]) hC d_Md_settles_145 rfl rfl ?_
      exact Md_settles_L147_g hC hR F F l1 l2 l3 0 M
    · refine g_iload_n hC d_Md_settles_35 rfl ?_
      refine g_ldc hC d_Md_settles_36 wk_Md_146 ?_
      refine g_icmp_ne (tgt := 144) hC d_Md_settles_38 (by decide) (fun _ => ?_) (fun _ => ?_)
      · refine g_iconst hC d_Md_settles_144 k_i0 ?_
        refine g_istore (ls' := [some (.ref (κ.b + 249)), some (.int l1), some (.int l2), some (.int l3), some (.int 0), none]) hC d_Md_settles_145 rfl rfl ?_
        exact Md_settles_L147_g hC hR F F l1 l2 l3 0 M
      · refine g_iconst hC d_Md_settles_41 k_i0 ?_
        refine g_istore (ls' := [some (.ref (κ.b + 249)), some (.int l1), some (.int l2), some (.int l3), some (.int l4), some (.int 0)]) hC d_Md_settles_42 rfl rfl ?_
        refine g_mask [true, true, true, false, true, true] (ls' := [some (.ref (κ.b + 249)), some (.int l1), some (.int l2), none, some (.int l4), some (.int 0)]) rfl ?_
        exact Md_settles_L44_g hC hR F ih F l1 l2 l4 0 M
set_option maxHeartbeats 2000000 in
theorem Md_settles_c {l : Launch} {θ : tv_Th} (F : Nat) (a1 : Int32) (M : tv_M) : tv_Ct l θ ⟨"TiedViewsModel", "settles", "(I)I"⟩ prog_14_method_61_code 6 (some .int) 1 tv_ei [.ref (θ.1 + 249), .int a1] M (Md_settles F a1 M) := by
  refine tv_ofG [some (.ref (θ.1 + 249)), some (.int a1), none, none, none, none] rfl rfl (tv_ent 4 rfl) ?_
  intro κ hl ht hC hR
  subst hl; subst ht
  unfold Md_settles
  refine g_aload_n hC d_Md_settles_0 rfl ?_
  refine g_iconst hC d_Md_settles_1 k_i0 ?_
  refine fp_Md_1 hC lc_249 d_Md_settles_2 (fun M1 => ?_)
  refine g_iload_n hC d_Md_settles_5 rfl ?_
  refine g_i2l hC d_Md_settles_6 ?_
  refine g_lconst hC d_Md_settles_7 k_l0 ?_
  refine g_lconst hC d_Md_settles_8 k_l1 ?_
  refine gv_callSi hC [.long ((a1 : Int32).toInt64), .long 0, .long 1] cw_Md_115 (Md_in_c F ((a1 : Int32).toInt64) 0 1 M1) rfl rfl rfl rfl rfl d_Md_settles_9 (fun r2 M3 => ?_)
  refine g_if_ne (tgt := 18) hC d_Md_settles_12 (by decide) (fun _ => ?_) (fun _ => ?_)
  · refine g_ldc hC d_Md_settles_18 wk_Md_146 ?_
    refine g_istore_n (ls' := [some (.ref (κ.b + 249)), some (.int a1), some (.int (-1000000)), none, none, none]) hC d_Md_settles_20 rfl rfl ?_
    refine g_ldc hC d_Md_settles_21 wk_Md_146 ?_
    refine g_istore_n (ls' := [some (.ref (κ.b + 249)), some (.int a1), some (.int (-1000000)), some (.int (-1000000)), none, none]) hC d_Md_settles_23 rfl rfl ?_
    refine g_iconst hC d_Md_settles_24 k_i0 ?_
    refine g_istore (ls' := [some (.ref (κ.b + 249)), some (.int a1), some (.int (-1000000)), some (.int (-1000000)), some (.int 0), none]) hC d_Md_settles_25 rfl rfl ?_
    exact Md_settles_L27_g hC hR F F a1 (-1000000) (-1000000) 0 M3
  · refine g_ldc hC d_Md_settles_15 wk_Md_127 ?_
    exact g_iret hC hR d_Md_settles_17
theorem d_Md_isChoice_0 : decode prog_14_method_33_code 0 = .ok (.aload_n 0, 1) := by decide +kernel
theorem d_Md_isChoice_1 : decode prog_14_method_33_code 1 = .ok (.iload_n 1, 1) := by decide +kernel
theorem d_Md_isChoice_2 : decode prog_14_method_33_code 2 = .ok (.invokevirtual 263, 3) := by decide +kernel
theorem d_Md_isChoice_5 : decode prog_14_method_33_code 5 = .ok (.ifCond .eq 17, 3) := by decide +kernel
theorem d_Md_isChoice_8 : decode prog_14_method_33_code 8 = .ok (.aload_n 0, 1) := by decide +kernel
theorem d_Md_isChoice_9 : decode prog_14_method_33_code 9 = .ok (.getfield 27, 3) := by decide +kernel
theorem d_Md_isChoice_12 : decode prog_14_method_33_code 12 = .ok (.iload_n 1, 1) := by decide +kernel
theorem d_Md_isChoice_13 : decode prog_14_method_33_code 13 = .ok (.iaload, 1) := by decide +kernel
theorem d_Md_isChoice_14 : decode prog_14_method_33_code 14 = .ok (.iconst 3, 1) := by decide +kernel
theorem d_Md_isChoice_15 : decode prog_14_method_33_code 15 = .ok (.if_icmp .ne 7, 3) := by decide +kernel
theorem d_Md_isChoice_18 : decode prog_14_method_33_code 18 = .ok (.iconst 1, 1) := by decide +kernel
theorem d_Md_isChoice_19 : decode prog_14_method_33_code 19 = .ok (.goto 4, 3) := by decide +kernel
theorem d_Md_isChoice_22 : decode prog_14_method_33_code 22 = .ok (.iconst 0, 1) := by decide +kernel
theorem d_Md_isChoice_23 : decode prog_14_method_33_code 23 = .ok (.ireturn, 1) := by decide +kernel
set_option maxHeartbeats 2000000 in
theorem Md_isChoice_c {l : Launch} {θ : tv_Th} (F : Nat) (a1 : Int32) (M : tv_M) : tv_Ct l θ ⟨"TiedViewsModel", "isChoice", "(I)Z"⟩ prog_14_method_33_code 2 (some .boolean) 2 tv_ei [.ref (θ.1 + 249), .int a1] M (Md_isChoice F a1 M) := by
  refine tv_ofG [some (.ref (θ.1 + 249)), some (.int a1)] rfl rfl (tv_ent 0 rfl) ?_
  intro κ hl ht hC hR
  subst hl; subst ht
  unfold Md_isChoice
  refine g_aload_n hC d_Md_isChoice_0 rfl ?_
  refine g_iload_n hC d_Md_isChoice_1 rfl ?_
  refine gv_callVi hC [.int a1] cw_Md_263 (Md_isEye_c F a1 M) lc_249 rfl rfl rfl rfl rfl rfl rfl d_Md_isChoice_2 (fun r1 M2 => ?_)
  refine g_if_eq (tgt := 22) hC d_Md_isChoice_5 (by decide) (fun _ => ?_) (fun _ => ?_)
  · refine g_iconst hC d_Md_isChoice_22 k_i0 ?_
    exact g_zret hC hR tv_z0 d_Md_isChoice_23
  · refine g_aload_n hC d_Md_isChoice_8 rfl ?_
    refine fg_Md_27 hC lc_249 d_Md_isChoice_9 p0_249_7 ?_
    refine g_iload_n hC d_Md_isChoice_12 rfl ?_
    refine gv_iald hC ly_253 d_Md_isChoice_13 (fun x3 => ?_)
    refine g_iconst hC d_Md_isChoice_14 k_i3 ?_
    refine g_icmp_ne (tgt := 22) hC d_Md_isChoice_15 (by decide) (fun _ => ?_) (fun _ => ?_)
    · refine g_iconst hC d_Md_isChoice_22 k_i0 ?_
      exact g_zret hC hR tv_z0 d_Md_isChoice_23
    · refine g_iconst hC d_Md_isChoice_18 k_i1 ?_
      refine g_goto (tgt := 23) hC d_Md_isChoice_19 (by decide) ?_
      exact g_zret hC hR tv_z1 d_Md_isChoice_23
theorem d_Md_choose_0 : decode prog_14_method_62_code 0 = .ok (.aload_n 0, 1) := by decide +kernel
theorem d_Md_choose_1 : decode prog_14_method_62_code 1 = .ok (.iconst 0, 1) := by decide +kernel
theorem d_Md_choose_2 : decode prog_14_method_62_code 2 = .ok (.putfield 1, 3) := by decide +kernel
theorem d_Md_choose_5 : decode prog_14_method_62_code 5 = .ok (.aload_n 0, 1) := by decide +kernel
theorem d_Md_choose_6 : decode prog_14_method_62_code 6 = .ok (.iload_n 1, 1) := by decide +kernel
theorem d_Md_choose_7 : decode prog_14_method_62_code 7 = .ok (.invokevirtual 330, 3) := by decide +kernel
theorem d_Md_choose_10 : decode prog_14_method_62_code 10 = .ok (.ifCond .eq 23, 3) := by decide +kernel
theorem d_Md_choose_13 : decode prog_14_method_62_code 13 = .ok (.iload_n 2, 1) := by decide +kernel
theorem d_Md_choose_14 : decode prog_14_method_62_code 14 = .ok (.i2l, 1) := by decide +kernel
theorem d_Md_choose_15 : decode prog_14_method_62_code 15 = .ok (.lconst 1, 1) := by decide +kernel
theorem d_Md_choose_16 : decode prog_14_method_62_code 16 = .ok (.iconst 1, 1) := by decide +kernel
theorem d_Md_choose_17 : decode prog_14_method_62_code 17 = .ok (.aload_n 0, 1) := by decide +kernel
theorem d_Md_choose_18 : decode prog_14_method_62_code 18 = .ok (.getfield 30, 3) := by decide +kernel
theorem d_Md_choose_21 : decode prog_14_method_62_code 21 = .ok (.iload_n 1, 1) := by decide +kernel
theorem d_Md_choose_22 : decode prog_14_method_62_code 22 = .ok (.iaload, 1) := by decide +kernel
theorem d_Md_choose_23 : decode prog_14_method_62_code 23 = .ok (.ishl, 1) := by decide +kernel
theorem d_Md_choose_24 : decode prog_14_method_62_code 24 = .ok (.iconst 1, 1) := by decide +kernel
theorem d_Md_choose_25 : decode prog_14_method_62_code 25 = .ok (.isub, 1) := by decide +kernel
theorem d_Md_choose_26 : decode prog_14_method_62_code 26 = .ok (.i2l, 1) := by decide +kernel
theorem d_Md_choose_27 : decode prog_14_method_62_code 27 = .ok (.invokestatic 115, 3) := by decide +kernel
theorem d_Md_choose_30 : decode prog_14_method_62_code 30 = .ok (.ifCond .ne 6, 3) := by decide +kernel
theorem d_Md_choose_33 : decode prog_14_method_62_code 33 = .ok (.ldc 127, 2) := by decide +kernel
theorem d_Md_choose_35 : decode prog_14_method_62_code 35 = .ok (.ireturn, 1) := by decide +kernel
theorem d_Md_choose_36 : decode prog_14_method_62_code 36 = .ok (.aload_n 0, 1) := by decide +kernel
theorem d_Md_choose_37 : decode prog_14_method_62_code 37 = .ok (.getfield 63, 3) := by decide +kernel
theorem d_Md_choose_40 : decode prog_14_method_62_code 40 = .ok (.iload_n 1, 1) := by decide +kernel
theorem d_Md_choose_41 : decode prog_14_method_62_code 41 = .ok (.iaload, 1) := by decide +kernel
theorem d_Md_choose_42 : decode prog_14_method_62_code 42 = .ok (.istore_n 3, 1) := by decide +kernel
theorem d_Md_choose_43 : decode prog_14_method_62_code 43 = .ok (.aload_n 0, 1) := by decide +kernel
theorem d_Md_choose_44 : decode prog_14_method_62_code 44 = .ok (.getfield 63, 3) := by decide +kernel
theorem d_Md_choose_47 : decode prog_14_method_62_code 47 = .ok (.iload_n 1, 1) := by decide +kernel
theorem d_Md_choose_48 : decode prog_14_method_62_code 48 = .ok (.iload_n 2, 1) := by decide +kernel
theorem d_Md_choose_49 : decode prog_14_method_62_code 49 = .ok (.iastore, 1) := by decide +kernel
theorem d_Md_choose_50 : decode prog_14_method_62_code 50 = .ok (.iload_n 3, 1) := by decide +kernel
theorem d_Md_choose_51 : decode prog_14_method_62_code 51 = .ok (.ireturn, 1) := by decide +kernel
set_option maxHeartbeats 2000000 in
theorem Md_choose_c {l : Launch} {θ : tv_Th} (F : Nat) (a1 : Int32) (a2 : Int32) (M : tv_M) : tv_Ct l θ ⟨"TiedViewsModel", "choose", "(II)I"⟩ prog_14_method_62_code 4 (some .int) 3 tv_ei [.ref (θ.1 + 249), .int a1, .int a2] M (Md_choose F a1 a2 M) := by
  refine tv_ofG [some (.ref (θ.1 + 249)), some (.int a1), some (.int a2), none] rfl rfl (tv_ent 1 rfl) ?_
  intro κ hl ht hC hR
  subst hl; subst ht
  unfold Md_choose
  refine g_aload_n hC d_Md_choose_0 rfl ?_
  refine g_iconst hC d_Md_choose_1 k_i0 ?_
  refine fp_Md_1 hC lc_249 d_Md_choose_2 (fun M1 => ?_)
  refine g_aload_n hC d_Md_choose_5 rfl ?_
  refine g_iload_n hC d_Md_choose_6 rfl ?_
  refine gv_callVi hC [.int a1] cw_Md_330 (Md_isChoice_c F a1 M1) lc_249 rfl rfl rfl rfl rfl rfl rfl d_Md_choose_7 (fun r2 M3 => ?_)
  refine g_if_eq (tgt := 33) hC d_Md_choose_10 (by decide) (fun _ => ?_) (fun _ => ?_)
  · refine g_ldc hC d_Md_choose_33 wk_Md_127 ?_
    exact g_iret hC hR d_Md_choose_35
  · refine g_iload_n hC d_Md_choose_13 rfl ?_
    refine g_i2l hC d_Md_choose_14 ?_
    refine g_lconst hC d_Md_choose_15 k_l1 ?_
    refine g_iconst hC d_Md_choose_16 k_i1 ?_
    refine g_aload_n hC d_Md_choose_17 rfl ?_
    refine fg_Md_30 hC lc_249 d_Md_choose_18 p0_249_8 ?_
    refine g_iload_n hC d_Md_choose_21 rfl ?_
    refine gv_iald hC ly_254 d_Md_choose_22 (fun x4 => ?_)
    refine g_ishl hC d_Md_choose_23 ?_
    refine g_iconst hC d_Md_choose_24 k_i1 ?_
    refine g_isub hC d_Md_choose_25 ?_
    refine g_i2l hC d_Md_choose_26 ?_
    refine gv_callSi hC [.long ((a2 : Int32).toInt64), .long 1, .long (((1 <<< (x4 &&& 31)) - 1 : Int32).toInt64)] cw_Md_115 (Md_in_c F ((a2 : Int32).toInt64) 1 (((1 <<< (x4 &&& 31)) - 1 : Int32).toInt64) M3) rfl rfl rfl rfl rfl d_Md_choose_27 (fun r5 M6 => ?_)
    refine g_if_ne (tgt := 36) hC d_Md_choose_30 (by decide) (fun _ => ?_) (fun _ => ?_)
    · refine g_aload_n hC d_Md_choose_36 rfl ?_
      refine fg_Md_63 hC lc_249 d_Md_choose_37 p0_249_22 ?_
      refine g_iload_n hC d_Md_choose_40 rfl ?_
      refine gv_iald hC ly_265 d_Md_choose_41 (fun x7 => ?_)
      refine g_istore_n (ls' := [some (.ref (κ.b + 249)), some (.int a1), some (.int a2), some (.int x7)]) hC d_Md_choose_42 rfl rfl ?_
      refine g_aload_n hC d_Md_choose_43 rfl ?_
      refine fg_Md_63 hC lc_249 d_Md_choose_44 p0_249_22 ?_
      refine g_iload_n hC d_Md_choose_47 rfl ?_
      refine g_iload_n hC d_Md_choose_48 rfl ?_
      refine gv_iast hC ly_265 d_Md_choose_49 (fun M8 => ?_)
      refine g_iload_n hC d_Md_choose_50 rfl ?_
      exact g_iret hC hR d_Md_choose_51
    · refine g_ldc hC d_Md_choose_33 wk_Md_127 ?_
      exact g_iret hC hR d_Md_choose_35
theorem d_Md_isBarred_0 : decode prog_14_method_63_code 0 = .ok (.aload_n 0, 1) := by decide +kernel
theorem d_Md_isBarred_1 : decode prog_14_method_63_code 1 = .ok (.getfield 60, 3) := by decide +kernel
theorem d_Md_isBarred_4 : decode prog_14_method_63_code 4 = .ok (.bipush 32, 2) := by decide +kernel
theorem d_Md_isBarred_6 : decode prog_14_method_63_code 6 = .ok (.iload_n 1, 1) := by decide +kernel
theorem d_Md_isBarred_7 : decode prog_14_method_63_code 7 = .ok (.imul, 1) := by decide +kernel
theorem d_Md_isBarred_8 : decode prog_14_method_63_code 8 = .ok (.bipush 8, 2) := by decide +kernel
theorem d_Md_isBarred_10 : decode prog_14_method_63_code 10 = .ok (.iload_n 2, 1) := by decide +kernel
theorem d_Md_isBarred_11 : decode prog_14_method_63_code 11 = .ok (.imul, 1) := by decide +kernel
theorem d_Md_isBarred_12 : decode prog_14_method_63_code 12 = .ok (.iadd, 1) := by decide +kernel
theorem d_Md_isBarred_13 : decode prog_14_method_63_code 13 = .ok (.iload_n 3, 1) := by decide +kernel
theorem d_Md_isBarred_14 : decode prog_14_method_63_code 14 = .ok (.iadd, 1) := by decide +kernel
theorem d_Md_isBarred_15 : decode prog_14_method_63_code 15 = .ok (.iaload, 1) := by decide +kernel
theorem d_Md_isBarred_16 : decode prog_14_method_63_code 16 = .ok (.iload 4, 2) := by decide +kernel
theorem d_Md_isBarred_18 : decode prog_14_method_63_code 18 = .ok (.ishr, 1) := by decide +kernel
theorem d_Md_isBarred_19 : decode prog_14_method_63_code 19 = .ok (.iconst 1, 1) := by decide +kernel
theorem d_Md_isBarred_20 : decode prog_14_method_63_code 20 = .ok (.iand, 1) := by decide +kernel
theorem d_Md_isBarred_21 : decode prog_14_method_63_code 21 = .ok (.iconst 1, 1) := by decide +kernel
theorem d_Md_isBarred_22 : decode prog_14_method_63_code 22 = .ok (.if_icmp .ne 7, 3) := by decide +kernel
theorem d_Md_isBarred_25 : decode prog_14_method_63_code 25 = .ok (.iconst 1, 1) := by decide +kernel
theorem d_Md_isBarred_26 : decode prog_14_method_63_code 26 = .ok (.goto 4, 3) := by decide +kernel
theorem d_Md_isBarred_29 : decode prog_14_method_63_code 29 = .ok (.iconst 0, 1) := by decide +kernel
theorem d_Md_isBarred_30 : decode prog_14_method_63_code 30 = .ok (.ireturn, 1) := by decide +kernel
set_option maxHeartbeats 2000000 in
theorem Md_isBarred_c {l : Launch} {θ : tv_Th} (F : Nat) (a1 : Int32) (a2 : Int32) (a3 : Int32) (a4 : Int32) (M : tv_M) : tv_Ct l θ ⟨"TiedViewsModel", "isBarred", "(IIII)Z"⟩ prog_14_method_63_code 5 (some .boolean) 0 tv_ei [.ref (θ.1 + 249), .int a1, .int a2, .int a3, .int a4] M (Md_isBarred F a1 a2 a3 a4 M) := by
  refine tv_ofG [some (.ref (θ.1 + 249)), some (.int a1), some (.int a2), some (.int a3), some (.int a4)] rfl rfl (tv_ent 0 rfl) ?_
  intro κ hl ht hC hR
  subst hl; subst ht
  unfold Md_isBarred
  refine g_aload_n hC d_Md_isBarred_0 rfl ?_
  refine fg_Md_60 hC lc_249 d_Md_isBarred_1 p0_249_21 ?_
  refine g_bipush hC d_Md_isBarred_4 k_b32 ?_
  refine g_iload_n hC d_Md_isBarred_6 rfl ?_
  refine g_imul hC d_Md_isBarred_7 ?_
  refine g_bipush hC d_Md_isBarred_8 k_b8 ?_
  refine g_iload_n hC d_Md_isBarred_10 rfl ?_
  refine g_imul hC d_Md_isBarred_11 ?_
  refine g_iadd hC d_Md_isBarred_12 ?_
  refine g_iload_n hC d_Md_isBarred_13 rfl ?_
  refine g_iadd hC d_Md_isBarred_14 ?_
  refine gv_iald hC ly_264 d_Md_isBarred_15 (fun x1 => ?_)
  refine g_iload hC d_Md_isBarred_16 rfl ?_
  refine g_ishr hC d_Md_isBarred_18 ?_
  refine g_iconst hC d_Md_isBarred_19 k_i1 ?_
  refine g_iand hC d_Md_isBarred_20 ?_
  refine g_iconst hC d_Md_isBarred_21 k_i1 ?_
  refine g_icmp_ne (tgt := 29) hC d_Md_isBarred_22 (by decide) (fun _ => ?_) (fun _ => ?_)
  · refine g_iconst hC d_Md_isBarred_29 k_i0 ?_
    exact g_zret hC hR tv_z0 d_Md_isBarred_30
  · refine g_iconst hC d_Md_isBarred_25 k_i1 ?_
    refine g_goto (tgt := 30) hC d_Md_isBarred_26 (by decide) ?_
    exact g_zret hC hR tv_z1 d_Md_isBarred_30
theorem d_Md_hasAll_0 : decode prog_14_method_64_code 0 = .ok (.iconst 1, 1) := by decide +kernel
theorem d_Md_hasAll_1 : decode prog_14_method_64_code 1 = .ok (.istore_n 3, 1) := by decide +kernel
theorem d_Md_hasAll_2 : decode prog_14_method_64_code 2 = .ok (.iconst 0, 1) := by decide +kernel
theorem d_Md_hasAll_3 : decode prog_14_method_64_code 3 = .ok (.istore 4, 2) := by decide +kernel
theorem d_Md_hasAll_5 : decode prog_14_method_64_code 5 = .ok (.iload 4, 2) := by decide +kernel
theorem d_Md_hasAll_7 : decode prog_14_method_64_code 7 = .ok (.aload_n 0, 1) := by decide +kernel
theorem d_Md_hasAll_8 : decode prog_14_method_64_code 8 = .ok (.getfield 232, 3) := by decide +kernel
theorem d_Md_hasAll_11 : decode prog_14_method_64_code 11 = .ok (.if_icmp .ge 104, 3) := by decide +kernel
theorem d_Md_hasAll_14 : decode prog_14_method_64_code 14 = .ok (.iload 4, 2) := by decide +kernel
theorem d_Md_hasAll_16 : decode prog_14_method_64_code 16 = .ok (.iload_n 1, 1) := by decide +kernel
theorem d_Md_hasAll_17 : decode prog_14_method_64_code 17 = .ok (.if_icmp .eq 14, 3) := by decide +kernel
theorem d_Md_hasAll_20 : decode prog_14_method_64_code 20 = .ok (.aload_n 0, 1) := by decide +kernel
theorem d_Md_hasAll_21 : decode prog_14_method_64_code 21 = .ok (.getfield 27, 3) := by decide +kernel
theorem d_Md_hasAll_24 : decode prog_14_method_64_code 24 = .ok (.iload 4, 2) := by decide +kernel
theorem d_Md_hasAll_26 : decode prog_14_method_64_code 26 = .ok (.iaload, 1) := by decide +kernel
theorem d_Md_hasAll_27 : decode prog_14_method_64_code 27 = .ok (.iconst 3, 1) := by decide +kernel
theorem d_Md_hasAll_28 : decode prog_14_method_64_code 28 = .ok (.if_icmp .eq 7, 3) := by decide +kernel
theorem d_Md_hasAll_31 : decode prog_14_method_64_code 31 = .ok (.iconst 1, 1) := by decide +kernel
theorem d_Md_hasAll_32 : decode prog_14_method_64_code 32 = .ok (.goto 4, 3) := by decide +kernel
theorem d_Md_hasAll_35 : decode prog_14_method_64_code 35 = .ok (.iconst 0, 1) := by decide +kernel
theorem d_Md_hasAll_36 : decode prog_14_method_64_code 36 = .ok (.istore 5, 2) := by decide +kernel
theorem d_Md_hasAll_38 : decode prog_14_method_64_code 38 = .ok (.iconst 0, 1) := by decide +kernel
theorem d_Md_hasAll_39 : decode prog_14_method_64_code 39 = .ok (.istore 6, 2) := by decide +kernel
theorem d_Md_hasAll_41 : decode prog_14_method_64_code 41 = .ok (.iload 6, 2) := by decide +kernel
theorem d_Md_hasAll_43 : decode prog_14_method_64_code 43 = .ok (.iconst 4, 1) := by decide +kernel
theorem d_Md_hasAll_44 : decode prog_14_method_64_code 44 = .ok (.if_icmp .ge 50, 3) := by decide +kernel
theorem d_Md_hasAll_47 : decode prog_14_method_64_code 47 = .ok (.iload 5, 2) := by decide +kernel
theorem d_Md_hasAll_49 : decode prog_14_method_64_code 49 = .ok (.ifCond .ne 45, 3) := by decide +kernel
theorem d_Md_hasAll_52 : decode prog_14_method_64_code 52 = .ok (.aload_n 0, 1) := by decide +kernel
theorem d_Md_hasAll_53 : decode prog_14_method_64_code 53 = .ok (.getfield 63, 3) := by decide +kernel
theorem d_Md_hasAll_56 : decode prog_14_method_64_code 56 = .ok (.iload 4, 2) := by decide +kernel
theorem d_Md_hasAll_58 : decode prog_14_method_64_code 58 = .ok (.iaload, 1) := by decide +kernel
theorem d_Md_hasAll_59 : decode prog_14_method_64_code 59 = .ok (.iload 6, 2) := by decide +kernel
theorem d_Md_hasAll_61 : decode prog_14_method_64_code 61 = .ok (.ishr, 1) := by decide +kernel
theorem d_Md_hasAll_62 : decode prog_14_method_64_code 62 = .ok (.iconst 1, 1) := by decide +kernel
theorem d_Md_hasAll_63 : decode prog_14_method_64_code 63 = .ok (.iand, 1) := by decide +kernel
theorem d_Md_hasAll_64 : decode prog_14_method_64_code 64 = .ok (.iconst 1, 1) := by decide +kernel
theorem d_Md_hasAll_65 : decode prog_14_method_64_code 65 = .ok (.if_icmp .ne 20, 3) := by decide +kernel
theorem d_Md_hasAll_68 : decode prog_14_method_64_code 68 = .ok (.aload_n 0, 1) := by decide +kernel
theorem d_Md_hasAll_69 : decode prog_14_method_64_code 69 = .ok (.iload_n 1, 1) := by decide +kernel
theorem d_Md_hasAll_70 : decode prog_14_method_64_code 70 = .ok (.iload_n 2, 1) := by decide +kernel
theorem d_Md_hasAll_71 : decode prog_14_method_64_code 71 = .ok (.iload 4, 2) := by decide +kernel
theorem d_Md_hasAll_73 : decode prog_14_method_64_code 73 = .ok (.iload 6, 2) := by decide +kernel
theorem d_Md_hasAll_75 : decode prog_14_method_64_code 75 = .ok (.invokevirtual 333, 3) := by decide +kernel
theorem d_Md_hasAll_78 : decode prog_14_method_64_code 78 = .ok (.ifCond .ne 7, 3) := by decide +kernel
theorem d_Md_hasAll_81 : decode prog_14_method_64_code 81 = .ok (.iconst 1, 1) := by decide +kernel
theorem d_Md_hasAll_82 : decode prog_14_method_64_code 82 = .ok (.goto 4, 3) := by decide +kernel
theorem d_Md_hasAll_85 : decode prog_14_method_64_code 85 = .ok (.iconst 0, 1) := by decide +kernel
theorem d_Md_hasAll_86 : decode prog_14_method_64_code 86 = .ok (.istore 5, 2) := by decide +kernel
theorem d_Md_hasAll_88 : decode prog_14_method_64_code 88 = .ok (.iinc 6 1, 3) := by decide +kernel
theorem d_Md_hasAll_91 : decode prog_14_method_64_code 91 = .ok (.goto (-50), 3) := by decide +kernel
theorem d_Md_hasAll_94 : decode prog_14_method_64_code 94 = .ok (.iload_n 3, 1) := by decide +kernel
theorem d_Md_hasAll_95 : decode prog_14_method_64_code 95 = .ok (.ifCond .eq 12, 3) := by decide +kernel
theorem d_Md_hasAll_98 : decode prog_14_method_64_code 98 = .ok (.iload 5, 2) := by decide +kernel
theorem d_Md_hasAll_100 : decode prog_14_method_64_code 100 = .ok (.ifCond .eq 7, 3) := by decide +kernel
theorem d_Md_hasAll_103 : decode prog_14_method_64_code 103 = .ok (.iconst 1, 1) := by decide +kernel
theorem d_Md_hasAll_104 : decode prog_14_method_64_code 104 = .ok (.goto 4, 3) := by decide +kernel
theorem d_Md_hasAll_107 : decode prog_14_method_64_code 107 = .ok (.iconst 0, 1) := by decide +kernel
theorem d_Md_hasAll_108 : decode prog_14_method_64_code 108 = .ok (.istore_n 3, 1) := by decide +kernel
theorem d_Md_hasAll_109 : decode prog_14_method_64_code 109 = .ok (.iinc 4 1, 3) := by decide +kernel
theorem d_Md_hasAll_112 : decode prog_14_method_64_code 112 = .ok (.goto (-107), 3) := by decide +kernel
theorem d_Md_hasAll_115 : decode prog_14_method_64_code 115 = .ok (.iload_n 3, 1) := by decide +kernel
theorem d_Md_hasAll_116 : decode prog_14_method_64_code 116 = .ok (.ireturn, 1) := by decide +kernel
set_option maxHeartbeats 2000000 in
theorem Md_hasAll_L94_g {κ : tv_Kt} (hC : tv_Cx κ "TiedViewsModel" prog_14_method_64_code 7 1) (hR : tv_Re κ (some .boolean)) (F : Nat) {k5 : Int32 → Int32 → Int32 → Int32 → tv_M → Option (Int32 × tv_M)} (hk5 : ∀ (l1 : Int32) (l2 : Int32) (l3 : Int32) (l4 : Int32) (M : tv_M), tv_G κ 7 (tv_Qm κ tv_ei) 5 [some (.ref (κ.b + 249)), some (.int l1), some (.int l2), some (.int l3), some (.int l4), none, none] [] M (k5 l1 l2 l3 l4 M)) (l1 : Int32) (l2 : Int32) (l3 : Int32) (l4 : Int32) (l5 : Int32) (M : tv_M) : tv_G κ 7 (tv_Qm κ tv_ei) 94 [some (.ref (κ.b + 249)), some (.int l1), some (.int l2), some (.int l3), some (.int l4), some (.int l5), none] [] M (Md_hasAll_L94 F k5 l1 l2 l3 l4 l5 M) := by
  rw [Md_hasAll_L94]
  refine g_iload_n hC d_Md_hasAll_94 rfl ?_
  refine g_if_eq (tgt := 107) hC d_Md_hasAll_95 (by decide) (fun _ => ?_) (fun _ => ?_)
  · refine g_iconst hC d_Md_hasAll_107 k_i0 ?_
    refine g_istore_n (ls' := [some (.ref (κ.b + 249)), some (.int l1), some (.int l2), some (.int 0), some (.int l4), some (.int l5), none]) hC d_Md_hasAll_108 rfl rfl ?_
    refine g_iinc (ls' := [some (.ref (κ.b + 249)), some (.int l1), some (.int l2), some (.int 0), some (.int (l4 + 1)), some (.int l5), none]) hC d_Md_hasAll_109 rfl k_i1 rfl rfl ?_
    refine g_goto (tgt := 5) hC d_Md_hasAll_112 (by decide) ?_
    refine g_mask [true, true, true, true, true, false, false] (ls' := [some (.ref (κ.b + 249)), some (.int l1), some (.int l2), some (.int 0), some (.int (l4 + 1)), none, none]) rfl ?_
    exact hk5 l1 l2 0 (l4 + 1) M
  · refine g_iload hC d_Md_hasAll_98 rfl ?_
    refine g_if_eq (tgt := 107) hC d_Md_hasAll_100 (by decide) (fun _ => ?_) (fun _ => ?_)
    · refine g_iconst hC d_Md_hasAll_107 k_i0 ?_
      refine g_istore_n (ls' := [some (.ref (κ.b + 249)), some (.int l1), some (.int l2), some (.int 0), some (.int l4), some (.int l5), none]) hC d_Md_hasAll_108 rfl rfl ?_
      refine g_iinc (ls' := [some (.ref (κ.b + 249)), some (.int l1), some (.int l2), some (.int 0), some (.int (l4 + 1)), some (.int l5), none]) hC d_Md_hasAll_109 rfl k_i1 rfl rfl ?_
      refine g_goto (tgt := 5) hC d_Md_hasAll_112 (by decide) ?_
      refine g_mask [true, true, true, true, true, false, false] (ls' := [some (.ref (κ.b + 249)), some (.int l1), some (.int l2), some (.int 0), some (.int (l4 + 1)), none, none]) rfl ?_
      exact hk5 l1 l2 0 (l4 + 1) M
    · refine g_iconst hC d_Md_hasAll_103 k_i1 ?_
      refine g_goto (tgt := 108) hC d_Md_hasAll_104 (by decide) ?_
      refine g_istore_n (ls' := [some (.ref (κ.b + 249)), some (.int l1), some (.int l2), some (.int 1), some (.int l4), some (.int l5), none]) hC d_Md_hasAll_108 rfl rfl ?_
      refine g_iinc (ls' := [some (.ref (κ.b + 249)), some (.int l1), some (.int l2), some (.int 1), some (.int (l4 + 1)), some (.int l5), none]) hC d_Md_hasAll_109 rfl k_i1 rfl rfl ?_
      refine g_goto (tgt := 5) hC d_Md_hasAll_112 (by decide) ?_
      refine g_mask [true, true, true, true, true, false, false] (ls' := [some (.ref (κ.b + 249)), some (.int l1), some (.int l2), some (.int 1), some (.int (l4 + 1)), none, none]) rfl ?_
      exact hk5 l1 l2 1 (l4 + 1) M
set_option maxHeartbeats 2000000 in
theorem Md_hasAll_L41_g {κ : tv_Kt} (hC : tv_Cx κ "TiedViewsModel" prog_14_method_64_code 7 1) (hR : tv_Re κ (some .boolean)) (F : Nat) {k5 : Int32 → Int32 → Int32 → Int32 → tv_M → Option (Int32 × tv_M)} (hk5 : ∀ (l1 : Int32) (l2 : Int32) (l3 : Int32) (l4 : Int32) (M : tv_M), tv_G κ 7 (tv_Qm κ tv_ei) 5 [some (.ref (κ.b + 249)), some (.int l1), some (.int l2), some (.int l3), some (.int l4), none, none] [] M (k5 l1 l2 l3 l4 M)) : ∀ (n : Nat) (l1 : Int32) (l2 : Int32) (l3 : Int32) (l4 : Int32) (l5 : Int32) (l6 : Int32) (M : tv_M), tv_G κ 7 (tv_Qm κ tv_ei) 41 [some (.ref (κ.b + 249)), some (.int l1), some (.int l2), some (.int l3), some (.int l4), some (.int l5), some (.int l6)] [] M (Md_hasAll_L41 F k5 n l1 l2 l3 l4 l5 l6 M) := by
  intro n
  induction n with
  | zero => intro _ _ _ _ _ _ _; exact g_none
  | succ nn ih =>
    intro l1 l2 l3 l4 l5 l6 M
    rw [Md_hasAll_L41]
    refine g_iload hC d_Md_hasAll_41 rfl ?_
    refine g_iconst hC d_Md_hasAll_43 k_i4 ?_
    refine g_icmp_ge (tgt := 94) hC d_Md_hasAll_44 (by decide) (fun _ => ?_) (fun _ => ?_)
    · refine g_mask [true, true, true, true, true, true, false] (ls' := [some (.ref (κ.b + 249)), some (.int l1), some (.int l2), some (.int l3), some (.int l4), some (.int l5), none]) rfl ?_
      exact Md_hasAll_L94_g hC hR F hk5 l1 l2 l3 l4 l5 M
    · refine g_iload hC d_Md_hasAll_47 rfl ?_
      refine g_if_ne (tgt := 94) hC d_Md_hasAll_49 (by decide) (fun _ => ?_) (fun _ => ?_)
      · refine g_mask [true, true, true, true, true, true, false] (ls' := [some (.ref (κ.b + 249)), some (.int l1), some (.int l2), some (.int l3), some (.int l4), some (.int l5), none]) rfl ?_
        exact Md_hasAll_L94_g hC hR F hk5 l1 l2 l3 l4 l5 M
      · refine g_aload_n hC d_Md_hasAll_52 rfl ?_
        refine fg_Md_63 hC lc_249 d_Md_hasAll_53 p0_249_22 ?_
        refine g_iload hC d_Md_hasAll_56 rfl ?_
        refine gv_iald hC ly_265 d_Md_hasAll_58 (fun x3 => ?_)
        refine g_iload hC d_Md_hasAll_59 rfl ?_
        refine g_ishr hC d_Md_hasAll_61 ?_
        refine g_iconst hC d_Md_hasAll_62 k_i1 ?_
        refine g_iand hC d_Md_hasAll_63 ?_
        refine g_iconst hC d_Md_hasAll_64 k_i1 ?_
        refine g_icmp_ne (tgt := 85) hC d_Md_hasAll_65 (by decide) (fun _ => ?_) (fun _ => ?_)
        · refine g_iconst hC d_Md_hasAll_85 k_i0 ?_
          refine g_istore (ls' := [some (.ref (κ.b + 249)), some (.int l1), some (.int l2), some (.int l3), some (.int l4), some (.int 0), some (.int l6)]) hC d_Md_hasAll_86 rfl rfl ?_
          refine g_iinc (ls' := [some (.ref (κ.b + 249)), some (.int l1), some (.int l2), some (.int l3), some (.int l4), some (.int 0), some (.int (l6 + 1))]) hC d_Md_hasAll_88 rfl k_i1 rfl rfl ?_
          refine g_goto (tgt := 41) hC d_Md_hasAll_91 (by decide) ?_
          exact ih l1 l2 l3 l4 0 (l6 + 1) M
        · refine g_aload_n hC d_Md_hasAll_68 rfl ?_
          refine g_iload_n hC d_Md_hasAll_69 rfl ?_
          refine g_iload_n hC d_Md_hasAll_70 rfl ?_
          refine g_iload hC d_Md_hasAll_71 rfl ?_
          refine g_iload hC d_Md_hasAll_73 rfl ?_
          refine gv_callVi hC [.int l1, .int l2, .int l4, .int l6] cw_Md_333 (Md_isBarred_c F l1 l2 l4 l6 M) lc_249 rfl rfl rfl rfl rfl rfl rfl d_Md_hasAll_75 (fun r4 M5 => ?_)
          refine g_if_ne (tgt := 85) hC d_Md_hasAll_78 (by decide) (fun _ => ?_) (fun _ => ?_)
          · refine g_iconst hC d_Md_hasAll_85 k_i0 ?_
            refine g_istore (ls' := [some (.ref (κ.b + 249)), some (.int l1), some (.int l2), some (.int l3), some (.int l4), some (.int 0), some (.int l6)]) hC d_Md_hasAll_86 rfl rfl ?_
            refine g_iinc (ls' := [some (.ref (κ.b + 249)), some (.int l1), some (.int l2), some (.int l3), some (.int l4), some (.int 0), some (.int (l6 + 1))]) hC d_Md_hasAll_88 rfl k_i1 rfl rfl ?_
            refine g_goto (tgt := 41) hC d_Md_hasAll_91 (by decide) ?_
            exact ih l1 l2 l3 l4 0 (l6 + 1) M5
          · refine g_iconst hC d_Md_hasAll_81 k_i1 ?_
            refine g_goto (tgt := 86) hC d_Md_hasAll_82 (by decide) ?_
            refine g_istore (ls' := [some (.ref (κ.b + 249)), some (.int l1), some (.int l2), some (.int l3), some (.int l4), some (.int 1), some (.int l6)]) hC d_Md_hasAll_86 rfl rfl ?_
            refine g_iinc (ls' := [some (.ref (κ.b + 249)), some (.int l1), some (.int l2), some (.int l3), some (.int l4), some (.int 1), some (.int (l6 + 1))]) hC d_Md_hasAll_88 rfl k_i1 rfl rfl ?_
            refine g_goto (tgt := 41) hC d_Md_hasAll_91 (by decide) ?_
            exact ih l1 l2 l3 l4 1 (l6 + 1) M5
set_option maxHeartbeats 2000000 in
theorem Md_hasAll_L5_g {κ : tv_Kt} (hC : tv_Cx κ "TiedViewsModel" prog_14_method_64_code 7 1) (hR : tv_Re κ (some .boolean)) (F : Nat) : ∀ (n : Nat) (l1 : Int32) (l2 : Int32) (l3 : Int32) (l4 : Int32) (M : tv_M), tv_G κ 7 (tv_Qm κ tv_ei) 5 [some (.ref (κ.b + 249)), some (.int l1), some (.int l2), some (.int l3), some (.int l4), none, none] [] M (Md_hasAll_L5 F n l1 l2 l3 l4 M) := by
  intro n
  induction n with
  | zero => intro _ _ _ _ _; exact g_none
  | succ nn ih =>
    intro l1 l2 l3 l4 M
    rw [Md_hasAll_L5]
    refine g_iload hC d_Md_hasAll_5 rfl ?_
    refine g_aload_n hC d_Md_hasAll_7 rfl ?_
    refine fg_Md_232 hC lc_249 d_Md_hasAll_8 ?_
    refine g_icmp_ge (tgt := 115) hC d_Md_hasAll_11 (by decide) (fun _ => ?_) (fun _ => ?_)
    · refine g_iload_n hC d_Md_hasAll_115 rfl ?_
      refine g_zo (fun z1 => ?_)
      exact g_zret hC hR z1 d_Md_hasAll_116
    · refine g_iload hC d_Md_hasAll_14 rfl ?_
      refine g_iload_n hC d_Md_hasAll_16 rfl ?_
      refine g_icmp_eq (tgt := 31) hC d_Md_hasAll_17 (by decide) (fun _ => ?_) (fun _ => ?_)
      · refine g_iconst hC d_Md_hasAll_31 k_i1 ?_
        refine g_goto (tgt := 36) hC d_Md_hasAll_32 (by decide) ?_
        refine g_istore (ls' := [some (.ref (κ.b + 249)), some (.int l1), some (.int l2), some (.int l3), some (.int l4), some (.int 1), none]) hC d_Md_hasAll_36 rfl rfl ?_
        refine g_iconst hC d_Md_hasAll_38 k_i0 ?_
        refine g_istore (ls' := [some (.ref (κ.b + 249)), some (.int l1), some (.int l2), some (.int l3), some (.int l4), some (.int 1), some (.int 0)]) hC d_Md_hasAll_39 rfl rfl ?_
        exact Md_hasAll_L41_g hC hR F ih F l1 l2 l3 l4 1 0 M
      · refine g_aload_n hC d_Md_hasAll_20 rfl ?_
        refine fg_Md_27 hC lc_249 d_Md_hasAll_21 p0_249_7 ?_
        refine g_iload hC d_Md_hasAll_24 rfl ?_
        refine gv_iald hC ly_253 d_Md_hasAll_26 (fun x2 => ?_)
        refine g_iconst hC d_Md_hasAll_27 k_i3 ?_
        refine g_icmp_eq (tgt := 35) hC d_Md_hasAll_28 (by decide) (fun _ => ?_) (fun _ => ?_)
        · refine g_iconst hC d_Md_hasAll_35 k_i0 ?_
          refine g_istore (ls' := [some (.ref (κ.b + 249)), some (.int l1), some (.int l2), some (.int l3), some (.int l4), some (.int 0), none]) hC d_Md_hasAll_36 rfl rfl ?_
          refine g_iconst hC d_Md_hasAll_38 k_i0 ?_
          refine g_istore (ls' := [some (.ref (κ.b + 249)), some (.int l1), some (.int l2), some (.int l3), some (.int l4), some (.int 0), some (.int 0)]) hC d_Md_hasAll_39 rfl rfl ?_
          exact Md_hasAll_L41_g hC hR F ih F l1 l2 l3 l4 0 0 M
        · refine g_iconst hC d_Md_hasAll_31 k_i1 ?_
          refine g_goto (tgt := 36) hC d_Md_hasAll_32 (by decide) ?_
          refine g_istore (ls' := [some (.ref (κ.b + 249)), some (.int l1), some (.int l2), some (.int l3), some (.int l4), some (.int 1), none]) hC d_Md_hasAll_36 rfl rfl ?_
          refine g_iconst hC d_Md_hasAll_38 k_i0 ?_
          refine g_istore (ls' := [some (.ref (κ.b + 249)), some (.int l1), some (.int l2), some (.int l3), some (.int l4), some (.int 1), some (.int 0)]) hC d_Md_hasAll_39 rfl rfl ?_
          exact Md_hasAll_L41_g hC hR F ih F l1 l2 l3 l4 1 0 M
set_option maxHeartbeats 2000000 in
theorem Md_hasAll_c {l : Launch} {θ : tv_Th} (F : Nat) (a1 : Int32) (a2 : Int32) (M : tv_M) : tv_Ct l θ ⟨"TiedViewsModel", "hasAll", "(II)Z"⟩ prog_14_method_64_code 7 (some .boolean) 1 tv_ei [.ref (θ.1 + 249), .int a1, .int a2] M (Md_hasAll F a1 a2 M) := by
  refine tv_ofG [some (.ref (θ.1 + 249)), some (.int a1), some (.int a2), none, none, none, none] rfl rfl (tv_ent 4 rfl) ?_
  intro κ hl ht hC hR
  subst hl; subst ht
  unfold Md_hasAll
  refine g_iconst hC d_Md_hasAll_0 k_i1 ?_
  refine g_istore_n (ls' := [some (.ref (κ.b + 249)), some (.int a1), some (.int a2), some (.int 1), none, none, none]) hC d_Md_hasAll_1 rfl rfl ?_
  refine g_iconst hC d_Md_hasAll_2 k_i0 ?_
  refine g_istore (ls' := [some (.ref (κ.b + 249)), some (.int a1), some (.int a2), some (.int 1), some (.int 0), none, none]) hC d_Md_hasAll_3 rfl rfl ?_
  exact Md_hasAll_L5_g hC hR F F a1 a2 1 0 M
theorem d_Md_narrow_0 : decode prog_14_method_65_code 0 = .ok (.aload_n 0, 1) := by decide +kernel
theorem d_Md_narrow_1 : decode prog_14_method_65_code 1 = .ok (.iconst 0, 1) := by decide +kernel
theorem d_Md_narrow_2 : decode prog_14_method_65_code 2 = .ok (.putfield 1, 3) := by decide +kernel
theorem d_Md_narrow_5 : decode prog_14_method_65_code 5 = .ok (.iconst 0, 1) := by decide +kernel
theorem d_Md_narrow_6 : decode prog_14_method_65_code 6 = .ok (.istore_n 1, 1) := by decide +kernel
theorem d_Md_narrow_7 : decode prog_14_method_65_code 7 = .ok (.iconst 1, 1) := by decide +kernel
theorem d_Md_narrow_8 : decode prog_14_method_65_code 8 = .ok (.istore_n 2, 1) := by decide +kernel
theorem d_Md_narrow_9 : decode prog_14_method_65_code 9 = .ok (.iload_n 2, 1) := by decide +kernel
theorem d_Md_narrow_10 : decode prog_14_method_65_code 10 = .ok (.ifCond .eq 94, 3) := by decide +kernel
theorem d_Md_narrow_13 : decode prog_14_method_65_code 13 = .ok (.iconst 0, 1) := by decide +kernel
theorem d_Md_narrow_14 : decode prog_14_method_65_code 14 = .ok (.istore_n 2, 1) := by decide +kernel
theorem d_Md_narrow_15 : decode prog_14_method_65_code 15 = .ok (.iconst 0, 1) := by decide +kernel
theorem d_Md_narrow_16 : decode prog_14_method_65_code 16 = .ok (.istore_n 3, 1) := by decide +kernel
theorem d_Md_narrow_17 : decode prog_14_method_65_code 17 = .ok (.iload_n 3, 1) := by decide +kernel
theorem d_Md_narrow_18 : decode prog_14_method_65_code 18 = .ok (.aload_n 0, 1) := by decide +kernel
theorem d_Md_narrow_19 : decode prog_14_method_65_code 19 = .ok (.getfield 232, 3) := by decide +kernel
theorem d_Md_narrow_22 : decode prog_14_method_65_code 22 = .ok (.if_icmp .ge 79, 3) := by decide +kernel
theorem d_Md_narrow_25 : decode prog_14_method_65_code 25 = .ok (.iconst 0, 1) := by decide +kernel
theorem d_Md_narrow_26 : decode prog_14_method_65_code 26 = .ok (.istore 4, 2) := by decide +kernel
theorem d_Md_narrow_28 : decode prog_14_method_65_code 28 = .ok (.iload 4, 2) := by decide +kernel
theorem d_Md_narrow_30 : decode prog_14_method_65_code 30 = .ok (.iconst 4, 1) := by decide +kernel
theorem d_Md_narrow_31 : decode prog_14_method_65_code 31 = .ok (.if_icmp .ge 64, 3) := by decide +kernel
theorem d_Md_narrow_34 : decode prog_14_method_65_code 34 = .ok (.aload_n 0, 1) := by decide +kernel
theorem d_Md_narrow_35 : decode prog_14_method_65_code 35 = .ok (.getfield 27, 3) := by decide +kernel
theorem d_Md_narrow_38 : decode prog_14_method_65_code 38 = .ok (.iload_n 3, 1) := by decide +kernel
theorem d_Md_narrow_39 : decode prog_14_method_65_code 39 = .ok (.iaload, 1) := by decide +kernel
theorem d_Md_narrow_40 : decode prog_14_method_65_code 40 = .ok (.iconst 3, 1) := by decide +kernel
theorem d_Md_narrow_41 : decode prog_14_method_65_code 41 = .ok (.if_icmp .ne 48, 3) := by decide +kernel
theorem d_Md_narrow_44 : decode prog_14_method_65_code 44 = .ok (.aload_n 0, 1) := by decide +kernel
theorem d_Md_narrow_45 : decode prog_14_method_65_code 45 = .ok (.getfield 63, 3) := by decide +kernel
theorem d_Md_narrow_48 : decode prog_14_method_65_code 48 = .ok (.iload_n 3, 1) := by decide +kernel
theorem d_Md_narrow_49 : decode prog_14_method_65_code 49 = .ok (.iaload, 1) := by decide +kernel
theorem d_Md_narrow_50 : decode prog_14_method_65_code 50 = .ok (.iload 4, 2) := by decide +kernel
theorem d_Md_narrow_52 : decode prog_14_method_65_code 52 = .ok (.ishr, 1) := by decide +kernel
theorem d_Md_narrow_53 : decode prog_14_method_65_code 53 = .ok (.iconst 1, 1) := by decide +kernel
theorem d_Md_narrow_54 : decode prog_14_method_65_code 54 = .ok (.iand, 1) := by decide +kernel
theorem d_Md_narrow_55 : decode prog_14_method_65_code 55 = .ok (.iconst 1, 1) := by decide +kernel
theorem d_Md_narrow_56 : decode prog_14_method_65_code 56 = .ok (.if_icmp .ne 33, 3) := by decide +kernel
theorem d_Md_narrow_59 : decode prog_14_method_65_code 59 = .ok (.aload_n 0, 1) := by decide +kernel
theorem d_Md_narrow_60 : decode prog_14_method_65_code 60 = .ok (.iload_n 3, 1) := by decide +kernel
theorem d_Md_narrow_61 : decode prog_14_method_65_code 61 = .ok (.iload 4, 2) := by decide +kernel
theorem d_Md_narrow_63 : decode prog_14_method_65_code 63 = .ok (.invokevirtual 337, 3) := by decide +kernel
theorem d_Md_narrow_66 : decode prog_14_method_65_code 66 = .ok (.ifCond .ne 23, 3) := by decide +kernel
theorem d_Md_narrow_69 : decode prog_14_method_65_code 69 = .ok (.aload_n 0, 1) := by decide +kernel
theorem d_Md_narrow_70 : decode prog_14_method_65_code 70 = .ok (.getfield 63, 3) := by decide +kernel
theorem d_Md_narrow_73 : decode prog_14_method_65_code 73 = .ok (.iload_n 3, 1) := by decide +kernel
theorem d_Md_narrow_74 : decode prog_14_method_65_code 74 = .ok (.dup2, 1) := by decide +kernel
theorem d_Md_narrow_75 : decode prog_14_method_65_code 75 = .ok (.iaload, 1) := by decide +kernel
theorem d_Md_narrow_76 : decode prog_14_method_65_code 76 = .ok (.iconst 1, 1) := by decide +kernel
theorem d_Md_narrow_77 : decode prog_14_method_65_code 77 = .ok (.iload 4, 2) := by decide +kernel
theorem d_Md_narrow_79 : decode prog_14_method_65_code 79 = .ok (.ishl, 1) := by decide +kernel
theorem d_Md_narrow_80 : decode prog_14_method_65_code 80 = .ok (.iconst (-1), 1) := by decide +kernel
theorem d_Md_narrow_81 : decode prog_14_method_65_code 81 = .ok (.ixor, 1) := by decide +kernel
theorem d_Md_narrow_82 : decode prog_14_method_65_code 82 = .ok (.iand, 1) := by decide +kernel
theorem d_Md_narrow_83 : decode prog_14_method_65_code 83 = .ok (.iastore, 1) := by decide +kernel
theorem d_Md_narrow_84 : decode prog_14_method_65_code 84 = .ok (.iinc 1 1, 3) := by decide +kernel
theorem d_Md_narrow_87 : decode prog_14_method_65_code 87 = .ok (.iconst 1, 1) := by decide +kernel
theorem d_Md_narrow_88 : decode prog_14_method_65_code 88 = .ok (.istore_n 2, 1) := by decide +kernel
theorem d_Md_narrow_89 : decode prog_14_method_65_code 89 = .ok (.iinc 4 1, 3) := by decide +kernel
theorem d_Md_narrow_92 : decode prog_14_method_65_code 92 = .ok (.goto (-64), 3) := by decide +kernel
theorem d_Md_narrow_95 : decode prog_14_method_65_code 95 = .ok (.iinc 3 1, 3) := by decide +kernel
theorem d_Md_narrow_98 : decode prog_14_method_65_code 98 = .ok (.goto (-81), 3) := by decide +kernel
theorem d_Md_narrow_101 : decode prog_14_method_65_code 101 = .ok (.goto (-92), 3) := by decide +kernel
theorem d_Md_narrow_104 : decode prog_14_method_65_code 104 = .ok (.iload_n 1, 1) := by decide +kernel
theorem d_Md_narrow_105 : decode prog_14_method_65_code 105 = .ok (.ireturn, 1) := by decide +kernel
set_option maxHeartbeats 2000000 in
theorem Md_narrow_L28_g {κ : tv_Kt} (hC : tv_Cx κ "TiedViewsModel" prog_14_method_65_code 5 2) (hR : tv_Re κ (some .int)) (F : Nat) {k9 : Int32 → Int32 → tv_M → Option (Int32 × tv_M)} (hk9 : ∀ (l1 : Int32) (l2 : Int32) (M : tv_M), tv_G κ 5 (tv_Qm κ tv_ei) 9 [some (.ref (κ.b + 249)), some (.int l1), some (.int l2), none, none] [] M (k9 l1 l2 M)) {k17 : Int32 → Int32 → Int32 → tv_M → Option (Int32 × tv_M)} (hk17 : ∀ (l1 : Int32) (l2 : Int32) (l3 : Int32) (M : tv_M), tv_G κ 5 (tv_Qm κ tv_ei) 17 [some (.ref (κ.b + 249)), some (.int l1), some (.int l2), some (.int l3), none] [] M (k17 l1 l2 l3 M)) : ∀ (n : Nat) (l1 : Int32) (l2 : Int32) (l3 : Int32) (l4 : Int32) (M : tv_M), tv_G κ 5 (tv_Qm κ tv_ei) 28 [some (.ref (κ.b + 249)), some (.int l1), some (.int l2), some (.int l3), some (.int l4)] [] M (Md_narrow_L28 F k9 k17 n l1 l2 l3 l4 M) := by
  intro n
  induction n with
  | zero => intro _ _ _ _ _; exact g_none
  | succ nn ih =>
    intro l1 l2 l3 l4 M
    rw [Md_narrow_L28]
    refine g_iload hC d_Md_narrow_28 rfl ?_
    refine g_iconst hC d_Md_narrow_30 k_i4 ?_
    refine g_icmp_ge (tgt := 95) hC d_Md_narrow_31 (by decide) (fun _ => ?_) (fun _ => ?_)
    · refine g_iinc (ls' := [some (.ref (κ.b + 249)), some (.int l1), some (.int l2), some (.int (l3 + 1)), some (.int l4)]) hC d_Md_narrow_95 rfl k_i1 rfl rfl ?_
      refine g_goto (tgt := 17) hC d_Md_narrow_98 (by decide) ?_
      refine g_mask [true, true, true, true, false] (ls' := [some (.ref (κ.b + 249)), some (.int l1), some (.int l2), some (.int (l3 + 1)), none]) rfl ?_
      exact hk17 l1 l2 (l3 + 1) M
    · refine g_aload_n hC d_Md_narrow_34 rfl ?_
      refine fg_Md_27 hC lc_249 d_Md_narrow_35 p0_249_7 ?_
      refine g_iload_n hC d_Md_narrow_38 rfl ?_
      refine gv_iald hC ly_253 d_Md_narrow_39 (fun x2 => ?_)
      refine g_iconst hC d_Md_narrow_40 k_i3 ?_
      refine g_icmp_ne (tgt := 89) hC d_Md_narrow_41 (by decide) (fun _ => ?_) (fun _ => ?_)
      · refine g_iinc (ls' := [some (.ref (κ.b + 249)), some (.int l1), some (.int l2), some (.int l3), some (.int (l4 + 1))]) hC d_Md_narrow_89 rfl k_i1 rfl rfl ?_
        refine g_goto (tgt := 28) hC d_Md_narrow_92 (by decide) ?_
        exact ih l1 l2 l3 (l4 + 1) M
      · refine g_aload_n hC d_Md_narrow_44 rfl ?_
        refine fg_Md_63 hC lc_249 d_Md_narrow_45 p0_249_22 ?_
        refine g_iload_n hC d_Md_narrow_48 rfl ?_
        refine gv_iald hC ly_265 d_Md_narrow_49 (fun x3 => ?_)
        refine g_iload hC d_Md_narrow_50 rfl ?_
        refine g_ishr hC d_Md_narrow_52 ?_
        refine g_iconst hC d_Md_narrow_53 k_i1 ?_
        refine g_iand hC d_Md_narrow_54 ?_
        refine g_iconst hC d_Md_narrow_55 k_i1 ?_
        refine g_icmp_ne (tgt := 89) hC d_Md_narrow_56 (by decide) (fun _ => ?_) (fun _ => ?_)
        · refine g_iinc (ls' := [some (.ref (κ.b + 249)), some (.int l1), some (.int l2), some (.int l3), some (.int (l4 + 1))]) hC d_Md_narrow_89 rfl k_i1 rfl rfl ?_
          refine g_goto (tgt := 28) hC d_Md_narrow_92 (by decide) ?_
          exact ih l1 l2 l3 (l4 + 1) M
        · refine g_aload_n hC d_Md_narrow_59 rfl ?_
          refine g_iload_n hC d_Md_narrow_60 rfl ?_
          refine g_iload hC d_Md_narrow_61 rfl ?_
          refine gv_callVi hC [.int l3, .int l4] cw_Md_337 (Md_hasAll_c F l3 l4 M) lc_249 rfl rfl rfl rfl rfl rfl rfl d_Md_narrow_63 (fun r4 M5 => ?_)
          refine g_if_ne (tgt := 89) hC d_Md_narrow_66 (by decide) (fun _ => ?_) (fun _ => ?_)
          · refine g_iinc (ls' := [some (.ref (κ.b + 249)), some (.int l1), some (.int l2), some (.int l3), some (.int (l4 + 1))]) hC d_Md_narrow_89 rfl k_i1 rfl rfl ?_
            refine g_goto (tgt := 28) hC d_Md_narrow_92 (by decide) ?_
            exact ih l1 l2 l3 (l4 + 1) M5
          · refine g_aload_n hC d_Md_narrow_69 rfl ?_
            refine fg_Md_63 hC lc_249 d_Md_narrow_70 p0_249_22 ?_
            refine g_iload_n hC d_Md_narrow_73 rfl ?_
            refine g_dup2 hC d_Md_narrow_74 rfl rfl ?_
            refine gv_iald hC ly_265 d_Md_narrow_75 (fun x6 => ?_)
            refine g_iconst hC d_Md_narrow_76 k_i1 ?_
            refine g_iload hC d_Md_narrow_77 rfl ?_
            refine g_ishl hC d_Md_narrow_79 ?_
            refine g_iconst hC d_Md_narrow_80 k_im1 ?_
            refine g_ixor hC d_Md_narrow_81 ?_
            refine g_iand hC d_Md_narrow_82 ?_
            refine gv_iast hC ly_265 d_Md_narrow_83 (fun M7 => ?_)
            refine g_iinc (ls' := [some (.ref (κ.b + 249)), some (.int (l1 + 1)), some (.int l2), some (.int l3), some (.int l4)]) hC d_Md_narrow_84 rfl k_i1 rfl rfl ?_
            refine g_iconst hC d_Md_narrow_87 k_i1 ?_
            refine g_istore_n (ls' := [some (.ref (κ.b + 249)), some (.int (l1 + 1)), some (.int 1), some (.int l3), some (.int l4)]) hC d_Md_narrow_88 rfl rfl ?_
            refine g_iinc (ls' := [some (.ref (κ.b + 249)), some (.int (l1 + 1)), some (.int 1), some (.int l3), some (.int (l4 + 1))]) hC d_Md_narrow_89 rfl k_i1 rfl rfl ?_
            refine g_goto (tgt := 28) hC d_Md_narrow_92 (by decide) ?_
            exact ih (l1 + 1) 1 l3 (l4 + 1) M7
set_option maxHeartbeats 2000000 in
theorem Md_narrow_L17_g {κ : tv_Kt} (hC : tv_Cx κ "TiedViewsModel" prog_14_method_65_code 5 2) (hR : tv_Re κ (some .int)) (F : Nat) {k9 : Int32 → Int32 → tv_M → Option (Int32 × tv_M)} (hk9 : ∀ (l1 : Int32) (l2 : Int32) (M : tv_M), tv_G κ 5 (tv_Qm κ tv_ei) 9 [some (.ref (κ.b + 249)), some (.int l1), some (.int l2), none, none] [] M (k9 l1 l2 M)) : ∀ (n : Nat) (l1 : Int32) (l2 : Int32) (l3 : Int32) (M : tv_M), tv_G κ 5 (tv_Qm κ tv_ei) 17 [some (.ref (κ.b + 249)), some (.int l1), some (.int l2), some (.int l3), none] [] M (Md_narrow_L17 F k9 n l1 l2 l3 M) := by
  intro n
  induction n with
  | zero => intro _ _ _ _; exact g_none
  | succ nn ih =>
    intro l1 l2 l3 M
    rw [Md_narrow_L17]
    refine g_iload_n hC d_Md_narrow_17 rfl ?_
    refine g_aload_n hC d_Md_narrow_18 rfl ?_
    refine fg_Md_232 hC lc_249 d_Md_narrow_19 ?_
    refine g_icmp_ge (tgt := 101) hC d_Md_narrow_22 (by decide) (fun _ => ?_) (fun _ => ?_)
    · refine g_goto (tgt := 9) hC d_Md_narrow_101 (by decide) ?_
      refine g_mask [true, true, true, false, false] (ls' := [some (.ref (κ.b + 249)), some (.int l1), some (.int l2), none, none]) rfl ?_
      exact hk9 l1 l2 M
    · refine g_iconst hC d_Md_narrow_25 k_i0 ?_
      refine g_istore (ls' := [some (.ref (κ.b + 249)), some (.int l1), some (.int l2), some (.int l3), some (.int 0)]) hC d_Md_narrow_26 rfl rfl ?_
      exact Md_narrow_L28_g hC hR F hk9 ih F l1 l2 l3 0 M
set_option maxHeartbeats 2000000 in
theorem Md_narrow_L9_g {κ : tv_Kt} (hC : tv_Cx κ "TiedViewsModel" prog_14_method_65_code 5 2) (hR : tv_Re κ (some .int)) (F : Nat) : ∀ (n : Nat) (l1 : Int32) (l2 : Int32) (M : tv_M), tv_G κ 5 (tv_Qm κ tv_ei) 9 [some (.ref (κ.b + 249)), some (.int l1), some (.int l2), none, none] [] M (Md_narrow_L9 F n l1 l2 M) := by
  intro n
  induction n with
  | zero => intro _ _ _; exact g_none
  | succ nn ih =>
    intro l1 l2 M
    rw [Md_narrow_L9]
    refine g_iload_n hC d_Md_narrow_9 rfl ?_
    refine g_if_eq (tgt := 104) hC d_Md_narrow_10 (by decide) (fun _ => ?_) (fun _ => ?_)
    · refine g_iload_n hC d_Md_narrow_104 rfl ?_
      exact g_iret hC hR d_Md_narrow_105
    · refine g_iconst hC d_Md_narrow_13 k_i0 ?_
      refine g_istore_n (ls' := [some (.ref (κ.b + 249)), some (.int l1), some (.int 0), none, none]) hC d_Md_narrow_14 rfl rfl ?_
      refine g_iconst hC d_Md_narrow_15 k_i0 ?_
      refine g_istore_n (ls' := [some (.ref (κ.b + 249)), some (.int l1), some (.int 0), some (.int 0), none]) hC d_Md_narrow_16 rfl rfl ?_
      exact Md_narrow_L17_g hC hR F ih F l1 0 0 M
set_option maxHeartbeats 2000000 in
theorem Md_narrow_c {l : Launch} {θ : tv_Th} (F : Nat) (M : tv_M) : tv_Ct l θ ⟨"TiedViewsModel", "narrow", "()I"⟩ prog_14_method_65_code 5 (some .int) 2 tv_ei [.ref (θ.1 + 249)] M (Md_narrow F M) := by
  refine tv_ofG [some (.ref (θ.1 + 249)), none, none, none, none] rfl rfl (tv_ent 4 rfl) ?_
  intro κ hl ht hC hR
  subst hl; subst ht
  unfold Md_narrow
  refine g_aload_n hC d_Md_narrow_0 rfl ?_
  refine g_iconst hC d_Md_narrow_1 k_i0 ?_
  refine fp_Md_1 hC lc_249 d_Md_narrow_2 (fun M1 => ?_)
  refine g_iconst hC d_Md_narrow_5 k_i0 ?_
  refine g_istore_n (ls' := [some (.ref (κ.b + 249)), some (.int 0), none, none, none]) hC d_Md_narrow_6 rfl rfl ?_
  refine g_iconst hC d_Md_narrow_7 k_i1 ?_
  refine g_istore_n (ls' := [some (.ref (κ.b + 249)), some (.int 0), some (.int 1), none, none]) hC d_Md_narrow_8 rfl rfl ?_
  exact Md_narrow_L9_g hC hR F F 0 1 M1
theorem d_Md_mayStand_0 : decode prog_14_method_66_code 0 = .ok (.aload_n 0, 1) := by decide +kernel
theorem d_Md_mayStand_1 : decode prog_14_method_66_code 1 = .ok (.getfield 63, 3) := by decide +kernel
theorem d_Md_mayStand_4 : decode prog_14_method_66_code 4 = .ok (.aload_n 0, 1) := by decide +kernel
theorem d_Md_mayStand_5 : decode prog_14_method_66_code 5 = .ok (.getfield 100, 3) := by decide +kernel
theorem d_Md_mayStand_8 : decode prog_14_method_66_code 8 = .ok (.iload_n 1, 1) := by decide +kernel
theorem d_Md_mayStand_9 : decode prog_14_method_66_code 9 = .ok (.iaload, 1) := by decide +kernel
theorem d_Md_mayStand_10 : decode prog_14_method_66_code 10 = .ok (.iaload, 1) := by decide +kernel
theorem d_Md_mayStand_11 : decode prog_14_method_66_code 11 = .ok (.aload_n 0, 1) := by decide +kernel
theorem d_Md_mayStand_12 : decode prog_14_method_66_code 12 = .ok (.getfield 103, 3) := by decide +kernel
theorem d_Md_mayStand_15 : decode prog_14_method_66_code 15 = .ok (.iload_n 1, 1) := by decide +kernel
theorem d_Md_mayStand_16 : decode prog_14_method_66_code 16 = .ok (.iaload, 1) := by decide +kernel
theorem d_Md_mayStand_17 : decode prog_14_method_66_code 17 = .ok (.ishr, 1) := by decide +kernel
theorem d_Md_mayStand_18 : decode prog_14_method_66_code 18 = .ok (.iconst 1, 1) := by decide +kernel
theorem d_Md_mayStand_19 : decode prog_14_method_66_code 19 = .ok (.iand, 1) := by decide +kernel
theorem d_Md_mayStand_20 : decode prog_14_method_66_code 20 = .ok (.iconst 1, 1) := by decide +kernel
theorem d_Md_mayStand_21 : decode prog_14_method_66_code 21 = .ok (.if_icmp .ne 7, 3) := by decide +kernel
theorem d_Md_mayStand_24 : decode prog_14_method_66_code 24 = .ok (.iconst 1, 1) := by decide +kernel
theorem d_Md_mayStand_25 : decode prog_14_method_66_code 25 = .ok (.goto 4, 3) := by decide +kernel
theorem d_Md_mayStand_28 : decode prog_14_method_66_code 28 = .ok (.iconst 0, 1) := by decide +kernel
theorem d_Md_mayStand_29 : decode prog_14_method_66_code 29 = .ok (.istore_n 2, 1) := by decide +kernel
theorem d_Md_mayStand_30 : decode prog_14_method_66_code 30 = .ok (.iconst 0, 1) := by decide +kernel
theorem d_Md_mayStand_31 : decode prog_14_method_66_code 31 = .ok (.istore_n 3, 1) := by decide +kernel
theorem d_Md_mayStand_32 : decode prog_14_method_66_code 32 = .ok (.iload_n 3, 1) := by decide +kernel
theorem d_Md_mayStand_33 : decode prog_14_method_66_code 33 = .ok (.iload_n 1, 1) := by decide +kernel
theorem d_Md_mayStand_34 : decode prog_14_method_66_code 34 = .ok (.if_icmp .ge 50, 3) := by decide +kernel
theorem d_Md_mayStand_37 : decode prog_14_method_66_code 37 = .ok (.iload_n 2, 1) := by decide +kernel
theorem d_Md_mayStand_38 : decode prog_14_method_66_code 38 = .ok (.ifCond .eq 38, 3) := by decide +kernel
theorem d_Md_mayStand_41 : decode prog_14_method_66_code 41 = .ok (.aload_n 0, 1) := by decide +kernel
theorem d_Md_mayStand_42 : decode prog_14_method_66_code 42 = .ok (.aload_n 0, 1) := by decide +kernel
theorem d_Md_mayStand_43 : decode prog_14_method_66_code 43 = .ok (.getfield 100, 3) := by decide +kernel
theorem d_Md_mayStand_46 : decode prog_14_method_66_code 46 = .ok (.iload_n 3, 1) := by decide +kernel
theorem d_Md_mayStand_47 : decode prog_14_method_66_code 47 = .ok (.iaload, 1) := by decide +kernel
theorem d_Md_mayStand_48 : decode prog_14_method_66_code 48 = .ok (.aload_n 0, 1) := by decide +kernel
theorem d_Md_mayStand_49 : decode prog_14_method_66_code 49 = .ok (.getfield 103, 3) := by decide +kernel
theorem d_Md_mayStand_52 : decode prog_14_method_66_code 52 = .ok (.iload_n 3, 1) := by decide +kernel
theorem d_Md_mayStand_53 : decode prog_14_method_66_code 53 = .ok (.iaload, 1) := by decide +kernel
theorem d_Md_mayStand_54 : decode prog_14_method_66_code 54 = .ok (.aload_n 0, 1) := by decide +kernel
theorem d_Md_mayStand_55 : decode prog_14_method_66_code 55 = .ok (.getfield 100, 3) := by decide +kernel
theorem d_Md_mayStand_58 : decode prog_14_method_66_code 58 = .ok (.iload_n 1, 1) := by decide +kernel
theorem d_Md_mayStand_59 : decode prog_14_method_66_code 59 = .ok (.iaload, 1) := by decide +kernel
theorem d_Md_mayStand_60 : decode prog_14_method_66_code 60 = .ok (.aload_n 0, 1) := by decide +kernel
theorem d_Md_mayStand_61 : decode prog_14_method_66_code 61 = .ok (.getfield 103, 3) := by decide +kernel
theorem d_Md_mayStand_64 : decode prog_14_method_66_code 64 = .ok (.iload_n 1, 1) := by decide +kernel
theorem d_Md_mayStand_65 : decode prog_14_method_66_code 65 = .ok (.iaload, 1) := by decide +kernel
theorem d_Md_mayStand_66 : decode prog_14_method_66_code 66 = .ok (.invokevirtual 333, 3) := by decide +kernel
theorem d_Md_mayStand_69 : decode prog_14_method_66_code 69 = .ok (.ifCond .ne 7, 3) := by decide +kernel
theorem d_Md_mayStand_72 : decode prog_14_method_66_code 72 = .ok (.iconst 1, 1) := by decide +kernel
theorem d_Md_mayStand_73 : decode prog_14_method_66_code 73 = .ok (.goto 4, 3) := by decide +kernel
theorem d_Md_mayStand_76 : decode prog_14_method_66_code 76 = .ok (.iconst 0, 1) := by decide +kernel
theorem d_Md_mayStand_77 : decode prog_14_method_66_code 77 = .ok (.istore_n 2, 1) := by decide +kernel
theorem d_Md_mayStand_78 : decode prog_14_method_66_code 78 = .ok (.iinc 3 1, 3) := by decide +kernel
theorem d_Md_mayStand_81 : decode prog_14_method_66_code 81 = .ok (.goto (-49), 3) := by decide +kernel
theorem d_Md_mayStand_84 : decode prog_14_method_66_code 84 = .ok (.iload_n 2, 1) := by decide +kernel
theorem d_Md_mayStand_85 : decode prog_14_method_66_code 85 = .ok (.ireturn, 1) := by decide +kernel
set_option maxHeartbeats 2000000 in
theorem Md_mayStand_L32_g {κ : tv_Kt} (hC : tv_Cx κ "TiedViewsModel" prog_14_method_66_code 4 1) (hR : tv_Re κ (some .boolean)) (F : Nat) : ∀ (n : Nat) (l1 : Int32) (l2 : Int32) (l3 : Int32) (M : tv_M), tv_G κ 4 (tv_Qm κ tv_ei) 32 [some (.ref (κ.b + 249)), some (.int l1), some (.int l2), some (.int l3)] [] M (Md_mayStand_L32 F n l1 l2 l3 M) := by
  intro n
  induction n with
  | zero => intro _ _ _ _; exact g_none
  | succ nn ih =>
    intro l1 l2 l3 M
    rw [Md_mayStand_L32]
    refine g_iload_n hC d_Md_mayStand_32 rfl ?_
    refine g_iload_n hC d_Md_mayStand_33 rfl ?_
    refine g_icmp_ge (tgt := 84) hC d_Md_mayStand_34 (by decide) (fun _ => ?_) (fun _ => ?_)
    · refine g_iload_n hC d_Md_mayStand_84 rfl ?_
      refine g_zo (fun z4 => ?_)
      exact g_zret hC hR z4 d_Md_mayStand_85
    · refine g_iload_n hC d_Md_mayStand_37 rfl ?_
      refine g_if_eq (tgt := 76) hC d_Md_mayStand_38 (by decide) (fun _ => ?_) (fun _ => ?_)
      · refine g_iconst hC d_Md_mayStand_76 k_i0 ?_
        refine g_istore_n (ls' := [some (.ref (κ.b + 249)), some (.int l1), some (.int 0), some (.int l3)]) hC d_Md_mayStand_77 rfl rfl ?_
        refine g_iinc (ls' := [some (.ref (κ.b + 249)), some (.int l1), some (.int 0), some (.int (l3 + 1))]) hC d_Md_mayStand_78 rfl k_i1 rfl rfl ?_
        refine g_goto (tgt := 32) hC d_Md_mayStand_81 (by decide) ?_
        exact ih l1 0 (l3 + 1) M
      · refine g_aload_n hC d_Md_mayStand_41 rfl ?_
        refine g_aload_n hC d_Md_mayStand_42 rfl ?_
        refine fg_Md_100 hC lc_249 d_Md_mayStand_43 p0_249_50 ?_
        refine g_iload_n hC d_Md_mayStand_46 rfl ?_
        refine gv_iald hC ly_277 d_Md_mayStand_47 (fun x5 => ?_)
        refine g_aload_n hC d_Md_mayStand_48 rfl ?_
        refine fg_Md_103 hC lc_249 d_Md_mayStand_49 p0_249_51 ?_
        refine g_iload_n hC d_Md_mayStand_52 rfl ?_
        refine gv_iald hC ly_278 d_Md_mayStand_53 (fun x6 => ?_)
        refine g_aload_n hC d_Md_mayStand_54 rfl ?_
        refine fg_Md_100 hC lc_249 d_Md_mayStand_55 p0_249_50 ?_
        refine g_iload_n hC d_Md_mayStand_58 rfl ?_
        refine gv_iald hC ly_277 d_Md_mayStand_59 (fun x7 => ?_)
        refine g_aload_n hC d_Md_mayStand_60 rfl ?_
        refine fg_Md_103 hC lc_249 d_Md_mayStand_61 p0_249_51 ?_
        refine g_iload_n hC d_Md_mayStand_64 rfl ?_
        refine gv_iald hC ly_278 d_Md_mayStand_65 (fun x8 => ?_)
        refine gv_callVi hC [.int x5, .int x6, .int x7, .int x8] cw_Md_333 (Md_isBarred_c F x5 x6 x7 x8 M) lc_249 rfl rfl rfl rfl rfl rfl rfl d_Md_mayStand_66 (fun r9 M10 => ?_)
        refine g_if_ne (tgt := 76) hC d_Md_mayStand_69 (by decide) (fun _ => ?_) (fun _ => ?_)
        · refine g_iconst hC d_Md_mayStand_76 k_i0 ?_
          refine g_istore_n (ls' := [some (.ref (κ.b + 249)), some (.int l1), some (.int 0), some (.int l3)]) hC d_Md_mayStand_77 rfl rfl ?_
          refine g_iinc (ls' := [some (.ref (κ.b + 249)), some (.int l1), some (.int 0), some (.int (l3 + 1))]) hC d_Md_mayStand_78 rfl k_i1 rfl rfl ?_
          refine g_goto (tgt := 32) hC d_Md_mayStand_81 (by decide) ?_
          exact ih l1 0 (l3 + 1) M10
        · refine g_iconst hC d_Md_mayStand_72 k_i1 ?_
          refine g_goto (tgt := 77) hC d_Md_mayStand_73 (by decide) ?_
          refine g_istore_n (ls' := [some (.ref (κ.b + 249)), some (.int l1), some (.int 1), some (.int l3)]) hC d_Md_mayStand_77 rfl rfl ?_
          refine g_iinc (ls' := [some (.ref (κ.b + 249)), some (.int l1), some (.int 1), some (.int (l3 + 1))]) hC d_Md_mayStand_78 rfl k_i1 rfl rfl ?_
          refine g_goto (tgt := 32) hC d_Md_mayStand_81 (by decide) ?_
          exact ih l1 1 (l3 + 1) M10
set_option maxHeartbeats 2000000 in
theorem Md_mayStand_c {l : Launch} {θ : tv_Th} (F : Nat) (a1 : Int32) (M : tv_M) : tv_Ct l θ ⟨"TiedViewsModel", "mayStand", "(I)Z"⟩ prog_14_method_66_code 4 (some .boolean) 1 tv_ei [.ref (θ.1 + 249), .int a1] M (Md_mayStand F a1 M) := by
  refine tv_ofG [some (.ref (θ.1 + 249)), some (.int a1), none, none] rfl rfl (tv_ent 2 rfl) ?_
  intro κ hl ht hC hR
  subst hl; subst ht
  unfold Md_mayStand
  refine g_aload_n hC d_Md_mayStand_0 rfl ?_
  refine fg_Md_63 hC lc_249 d_Md_mayStand_1 p0_249_22 ?_
  refine g_aload_n hC d_Md_mayStand_4 rfl ?_
  refine fg_Md_100 hC lc_249 d_Md_mayStand_5 p0_249_50 ?_
  refine g_iload_n hC d_Md_mayStand_8 rfl ?_
  refine gv_iald hC ly_277 d_Md_mayStand_9 (fun x1 => ?_)
  refine gv_iald hC ly_265 d_Md_mayStand_10 (fun x2 => ?_)
  refine g_aload_n hC d_Md_mayStand_11 rfl ?_
  refine fg_Md_103 hC lc_249 d_Md_mayStand_12 p0_249_51 ?_
  refine g_iload_n hC d_Md_mayStand_15 rfl ?_
  refine gv_iald hC ly_278 d_Md_mayStand_16 (fun x3 => ?_)
  refine g_ishr hC d_Md_mayStand_17 ?_
  refine g_iconst hC d_Md_mayStand_18 k_i1 ?_
  refine g_iand hC d_Md_mayStand_19 ?_
  refine g_iconst hC d_Md_mayStand_20 k_i1 ?_
  refine g_icmp_ne (tgt := 28) hC d_Md_mayStand_21 (by decide) (fun _ => ?_) (fun _ => ?_)
  · refine g_iconst hC d_Md_mayStand_28 k_i0 ?_
    refine g_istore_n (ls' := [some (.ref (κ.b + 249)), some (.int a1), some (.int 0), none]) hC d_Md_mayStand_29 rfl rfl ?_
    refine g_iconst hC d_Md_mayStand_30 k_i0 ?_
    refine g_istore_n (ls' := [some (.ref (κ.b + 249)), some (.int a1), some (.int 0), some (.int 0)]) hC d_Md_mayStand_31 rfl rfl ?_
    exact Md_mayStand_L32_g hC hR F F a1 0 0 M
  · refine g_iconst hC d_Md_mayStand_24 k_i1 ?_
    refine g_goto (tgt := 29) hC d_Md_mayStand_25 (by decide) ?_
    refine g_istore_n (ls' := [some (.ref (κ.b + 249)), some (.int a1), some (.int 1), none]) hC d_Md_mayStand_29 rfl rfl ?_
    refine g_iconst hC d_Md_mayStand_30 k_i0 ?_
    refine g_istore_n (ls' := [some (.ref (κ.b + 249)), some (.int a1), some (.int 1), some (.int 0)]) hC d_Md_mayStand_31 rfl rfl ?_
    exact Md_mayStand_L32_g hC hR F F a1 1 0 M
theorem d_Md_ways_0 : decode prog_14_method_67_code 0 = .ok (.aload_n 0, 1) := by decide +kernel
theorem d_Md_ways_1 : decode prog_14_method_67_code 1 = .ok (.iconst 0, 1) := by decide +kernel
theorem d_Md_ways_2 : decode prog_14_method_67_code 2 = .ok (.putfield 340, 3) := by decide +kernel
theorem d_Md_ways_5 : decode prog_14_method_67_code 5 = .ok (.iconst 0, 1) := by decide +kernel
theorem d_Md_ways_6 : decode prog_14_method_67_code 6 = .ok (.istore_n 1, 1) := by decide +kernel
theorem d_Md_ways_7 : decode prog_14_method_67_code 7 = .ok (.iload_n 1, 1) := by decide +kernel
theorem d_Md_ways_8 : decode prog_14_method_67_code 8 = .ok (.aload_n 0, 1) := by decide +kernel
theorem d_Md_ways_9 : decode prog_14_method_67_code 9 = .ok (.getfield 232, 3) := by decide +kernel
theorem d_Md_ways_12 : decode prog_14_method_67_code 12 = .ok (.if_icmp .ge 39, 3) := by decide +kernel
theorem d_Md_ways_15 : decode prog_14_method_67_code 15 = .ok (.aload_n 0, 1) := by decide +kernel
theorem d_Md_ways_16 : decode prog_14_method_67_code 16 = .ok (.getfield 27, 3) := by decide +kernel
theorem d_Md_ways_19 : decode prog_14_method_67_code 19 = .ok (.iload_n 1, 1) := by decide +kernel
theorem d_Md_ways_20 : decode prog_14_method_67_code 20 = .ok (.iaload, 1) := by decide +kernel
theorem d_Md_ways_21 : decode prog_14_method_67_code 21 = .ok (.iconst 3, 1) := by decide +kernel
theorem d_Md_ways_22 : decode prog_14_method_67_code 22 = .ok (.if_icmp .ne 23, 3) := by decide +kernel
theorem d_Md_ways_25 : decode prog_14_method_67_code 25 = .ok (.aload_n 0, 1) := by decide +kernel
theorem d_Md_ways_26 : decode prog_14_method_67_code 26 = .ok (.getfield 100, 3) := by decide +kernel
theorem d_Md_ways_29 : decode prog_14_method_67_code 29 = .ok (.aload_n 0, 1) := by decide +kernel
theorem d_Md_ways_30 : decode prog_14_method_67_code 30 = .ok (.getfield 340, 3) := by decide +kernel
theorem d_Md_ways_33 : decode prog_14_method_67_code 33 = .ok (.iload_n 1, 1) := by decide +kernel
theorem d_Md_ways_34 : decode prog_14_method_67_code 34 = .ok (.iastore, 1) := by decide +kernel
theorem d_Md_ways_35 : decode prog_14_method_67_code 35 = .ok (.aload_n 0, 1) := by decide +kernel
theorem d_Md_ways_36 : decode prog_14_method_67_code 36 = .ok (.dup, 1) := by decide +kernel
theorem d_Md_ways_37 : decode prog_14_method_67_code 37 = .ok (.getfield 340, 3) := by decide +kernel
theorem d_Md_ways_40 : decode prog_14_method_67_code 40 = .ok (.iconst 1, 1) := by decide +kernel
theorem d_Md_ways_41 : decode prog_14_method_67_code 41 = .ok (.iadd, 1) := by decide +kernel
theorem d_Md_ways_42 : decode prog_14_method_67_code 42 = .ok (.putfield 340, 3) := by decide +kernel
theorem d_Md_ways_45 : decode prog_14_method_67_code 45 = .ok (.iinc 1 1, 3) := by decide +kernel
theorem d_Md_ways_48 : decode prog_14_method_67_code 48 = .ok (.goto (-41), 3) := by decide +kernel
theorem d_Md_ways_51 : decode prog_14_method_67_code 51 = .ok (.aload_n 0, 1) := by decide +kernel
theorem d_Md_ways_52 : decode prog_14_method_67_code 52 = .ok (.getfield 340, 3) := by decide +kernel
theorem d_Md_ways_55 : decode prog_14_method_67_code 55 = .ok (.ifCond .ne 5, 3) := by decide +kernel
theorem d_Md_ways_58 : decode prog_14_method_67_code 58 = .ok (.iconst 1, 1) := by decide +kernel
theorem d_Md_ways_59 : decode prog_14_method_67_code 59 = .ok (.ireturn, 1) := by decide +kernel
theorem d_Md_ways_60 : decode prog_14_method_67_code 60 = .ok (.iconst 0, 1) := by decide +kernel
theorem d_Md_ways_61 : decode prog_14_method_67_code 61 = .ok (.istore_n 1, 1) := by decide +kernel
theorem d_Md_ways_62 : decode prog_14_method_67_code 62 = .ok (.iconst 0, 1) := by decide +kernel
theorem d_Md_ways_63 : decode prog_14_method_67_code 63 = .ok (.istore_n 2, 1) := by decide +kernel
theorem d_Md_ways_64 : decode prog_14_method_67_code 64 = .ok (.aload_n 0, 1) := by decide +kernel
theorem d_Md_ways_65 : decode prog_14_method_67_code 65 = .ok (.getfield 103, 3) := by decide +kernel
theorem d_Md_ways_68 : decode prog_14_method_67_code 68 = .ok (.iconst 0, 1) := by decide +kernel
theorem d_Md_ways_69 : decode prog_14_method_67_code 69 = .ok (.iconst (-1), 1) := by decide +kernel
theorem d_Md_ways_70 : decode prog_14_method_67_code 70 = .ok (.iastore, 1) := by decide +kernel
theorem d_Md_ways_71 : decode prog_14_method_67_code 71 = .ok (.iload_n 2, 1) := by decide +kernel
theorem d_Md_ways_72 : decode prog_14_method_67_code 72 = .ok (.ifCond .lt 98, 3) := by decide +kernel
theorem d_Md_ways_75 : decode prog_14_method_67_code 75 = .ok (.aload_n 0, 1) := by decide +kernel
theorem d_Md_ways_76 : decode prog_14_method_67_code 76 = .ok (.getfield 103, 3) := by decide +kernel
theorem d_Md_ways_79 : decode prog_14_method_67_code 79 = .ok (.iload_n 2, 1) := by decide +kernel
theorem d_Md_ways_80 : decode prog_14_method_67_code 80 = .ok (.dup2, 1) := by decide +kernel
theorem d_Md_ways_81 : decode prog_14_method_67_code 81 = .ok (.iaload, 1) := by decide +kernel
theorem d_Md_ways_82 : decode prog_14_method_67_code 82 = .ok (.iconst 1, 1) := by decide +kernel
theorem d_Md_ways_83 : decode prog_14_method_67_code 83 = .ok (.iadd, 1) := by decide +kernel
theorem d_Md_ways_84 : decode prog_14_method_67_code 84 = .ok (.iastore, 1) := by decide +kernel
theorem d_Md_ways_85 : decode prog_14_method_67_code 85 = .ok (.aload_n 0, 1) := by decide +kernel
theorem d_Md_ways_86 : decode prog_14_method_67_code 86 = .ok (.getfield 103, 3) := by decide +kernel
theorem d_Md_ways_89 : decode prog_14_method_67_code 89 = .ok (.iload_n 2, 1) := by decide +kernel
theorem d_Md_ways_90 : decode prog_14_method_67_code 90 = .ok (.iaload, 1) := by decide +kernel
theorem d_Md_ways_91 : decode prog_14_method_67_code 91 = .ok (.iconst 4, 1) := by decide +kernel
theorem d_Md_ways_92 : decode prog_14_method_67_code 92 = .ok (.if_icmp .ne 9, 3) := by decide +kernel
theorem d_Md_ways_95 : decode prog_14_method_67_code 95 = .ok (.iinc 2 (-1), 3) := by decide +kernel
theorem d_Md_ways_98 : decode prog_14_method_67_code 98 = .ok (.goto (-27), 3) := by decide +kernel
theorem d_Md_ways_101 : decode prog_14_method_67_code 101 = .ok (.aload_n 0, 1) := by decide +kernel
theorem d_Md_ways_102 : decode prog_14_method_67_code 102 = .ok (.iload_n 2, 1) := by decide +kernel
theorem d_Md_ways_103 : decode prog_14_method_67_code 103 = .ok (.invokevirtual 343, 3) := by decide +kernel
theorem d_Md_ways_106 : decode prog_14_method_67_code 106 = .ok (.ifCond .eq (-35), 3) := by decide +kernel
theorem d_Md_ways_109 : decode prog_14_method_67_code 109 = .ok (.iload_n 2, 1) := by decide +kernel
theorem d_Md_ways_110 : decode prog_14_method_67_code 110 = .ok (.iconst 1, 1) := by decide +kernel
theorem d_Md_ways_111 : decode prog_14_method_67_code 111 = .ok (.iadd, 1) := by decide +kernel
theorem d_Md_ways_112 : decode prog_14_method_67_code 112 = .ok (.aload_n 0, 1) := by decide +kernel
theorem d_Md_ways_113 : decode prog_14_method_67_code 113 = .ok (.getfield 340, 3) := by decide +kernel
theorem d_Md_ways_116 : decode prog_14_method_67_code 116 = .ok (.if_icmp .ge 16, 3) := by decide +kernel
theorem d_Md_ways_119 : decode prog_14_method_67_code 119 = .ok (.iinc 2 1, 3) := by decide +kernel
theorem d_Md_ways_122 : decode prog_14_method_67_code 122 = .ok (.aload_n 0, 1) := by decide +kernel
theorem d_Md_ways_123 : decode prog_14_method_67_code 123 = .ok (.getfield 103, 3) := by decide +kernel
theorem d_Md_ways_126 : decode prog_14_method_67_code 126 = .ok (.iload_n 2, 1) := by decide +kernel
theorem d_Md_ways_127 : decode prog_14_method_67_code 127 = .ok (.iconst (-1), 1) := by decide +kernel
theorem d_Md_ways_128 : decode prog_14_method_67_code 128 = .ok (.iastore, 1) := by decide +kernel
theorem d_Md_ways_129 : decode prog_14_method_67_code 129 = .ok (.goto (-58), 3) := by decide +kernel
theorem d_Md_ways_132 : decode prog_14_method_67_code 132 = .ok (.iconst 0, 1) := by decide +kernel
theorem d_Md_ways_133 : decode prog_14_method_67_code 133 = .ok (.istore_n 3, 1) := by decide +kernel
theorem d_Md_ways_134 : decode prog_14_method_67_code 134 = .ok (.iload_n 3, 1) := by decide +kernel
theorem d_Md_ways_135 : decode prog_14_method_67_code 135 = .ok (.aload_n 0, 1) := by decide +kernel
theorem d_Md_ways_136 : decode prog_14_method_67_code 136 = .ok (.getfield 340, 3) := by decide +kernel
theorem d_Md_ways_139 : decode prog_14_method_67_code 139 = .ok (.if_icmp .ge 25, 3) := by decide +kernel
theorem d_Md_ways_142 : decode prog_14_method_67_code 142 = .ok (.iload_n 1, 1) := by decide +kernel
theorem d_Md_ways_143 : decode prog_14_method_67_code 143 = .ok (.ifCond .ne 21, 3) := by decide +kernel
theorem d_Md_ways_146 : decode prog_14_method_67_code 146 = .ok (.aload_n 0, 1) := by decide +kernel
theorem d_Md_ways_147 : decode prog_14_method_67_code 147 = .ok (.getfield 106, 3) := by decide +kernel
theorem d_Md_ways_150 : decode prog_14_method_67_code 150 = .ok (.iload_n 3, 1) := by decide +kernel
theorem d_Md_ways_151 : decode prog_14_method_67_code 151 = .ok (.aload_n 0, 1) := by decide +kernel
theorem d_Md_ways_152 : decode prog_14_method_67_code 152 = .ok (.getfield 103, 3) := by decide +kernel
theorem d_Md_ways_155 : decode prog_14_method_67_code 155 = .ok (.iload_n 3, 1) := by decide +kernel
theorem d_Md_ways_156 : decode prog_14_method_67_code 156 = .ok (.iaload, 1) := by decide +kernel
theorem d_Md_ways_157 : decode prog_14_method_67_code 157 = .ok (.iastore, 1) := by decide +kernel
theorem d_Md_ways_158 : decode prog_14_method_67_code 158 = .ok (.iinc 3 1, 3) := by decide +kernel
theorem d_Md_ways_161 : decode prog_14_method_67_code 161 = .ok (.goto (-27), 3) := by decide +kernel
theorem d_Md_ways_164 : decode prog_14_method_67_code 164 = .ok (.iinc 1 1, 3) := by decide +kernel
theorem d_Md_ways_167 : decode prog_14_method_67_code 167 = .ok (.goto (-96), 3) := by decide +kernel
theorem d_Md_ways_170 : decode prog_14_method_67_code 170 = .ok (.iload_n 1, 1) := by decide +kernel
theorem d_Md_ways_171 : decode prog_14_method_67_code 171 = .ok (.ireturn, 1) := by decide +kernel
set_option maxHeartbeats 2000000 in
theorem Md_ways_L134_g {κ : tv_Kt} (hC : tv_Cx κ "TiedViewsModel" prog_14_method_67_code 4 2) (hR : tv_Re κ (some .int)) (F : Nat) {k71 : Int32 → Int32 → tv_M → Option (Int32 × tv_M)} (hk71 : ∀ (l1 : Int32) (l2 : Int32) (M : tv_M), tv_G κ 4 (tv_Qm κ tv_ei) 71 [some (.ref (κ.b + 249)), some (.int l1), some (.int l2), none] [] M (k71 l1 l2 M)) : ∀ (n : Nat) (l1 : Int32) (l2 : Int32) (l3 : Int32) (M : tv_M), tv_G κ 4 (tv_Qm κ tv_ei) 134 [some (.ref (κ.b + 249)), some (.int l1), some (.int l2), some (.int l3)] [] M (Md_ways_L134 F k71 n l1 l2 l3 M) := by
  intro n
  induction n with
  | zero => intro _ _ _ _; exact g_none
  | succ nn ih =>
    intro l1 l2 l3 M
    rw [Md_ways_L134]
    refine g_iload_n hC d_Md_ways_134 rfl ?_
    refine g_aload_n hC d_Md_ways_135 rfl ?_
    refine fg_Md_340 hC lc_249 d_Md_ways_136 ?_
    refine g_icmp_ge (tgt := 164) hC d_Md_ways_139 (by decide) (fun _ => ?_) (fun _ => ?_)
    · refine g_iinc (ls' := [some (.ref (κ.b + 249)), some (.int (l1 + 1)), some (.int l2), some (.int l3)]) hC d_Md_ways_164 rfl k_i1 rfl rfl ?_
      refine g_goto (tgt := 71) hC d_Md_ways_167 (by decide) ?_
      refine g_mask [true, true, true, false] (ls' := [some (.ref (κ.b + 249)), some (.int (l1 + 1)), some (.int l2), none]) rfl ?_
      exact hk71 (l1 + 1) l2 M
    · refine g_iload_n hC d_Md_ways_142 rfl ?_
      refine g_if_ne (tgt := 164) hC d_Md_ways_143 (by decide) (fun _ => ?_) (fun _ => ?_)
      · refine g_iinc (ls' := [some (.ref (κ.b + 249)), some (.int (l1 + 1)), some (.int l2), some (.int l3)]) hC d_Md_ways_164 rfl k_i1 rfl rfl ?_
        refine g_goto (tgt := 71) hC d_Md_ways_167 (by decide) ?_
        refine g_mask [true, true, true, false] (ls' := [some (.ref (κ.b + 249)), some (.int (l1 + 1)), some (.int l2), none]) rfl ?_
        exact hk71 (l1 + 1) l2 M
      · refine g_aload_n hC d_Md_ways_146 rfl ?_
        refine fg_Md_106 hC lc_249 d_Md_ways_147 p0_249_52 ?_
        refine g_iload_n hC d_Md_ways_150 rfl ?_
        refine g_aload_n hC d_Md_ways_151 rfl ?_
        refine fg_Md_103 hC lc_249 d_Md_ways_152 p0_249_51 ?_
        refine g_iload_n hC d_Md_ways_155 rfl ?_
        refine gv_iald hC ly_278 d_Md_ways_156 (fun x12 => ?_)
        refine gv_iast hC ly_279 d_Md_ways_157 (fun M13 => ?_)
        refine g_iinc (ls' := [some (.ref (κ.b + 249)), some (.int l1), some (.int l2), some (.int (l3 + 1))]) hC d_Md_ways_158 rfl k_i1 rfl rfl ?_
        refine g_goto (tgt := 134) hC d_Md_ways_161 (by decide) ?_
        exact ih l1 l2 (l3 + 1) M13
set_option maxHeartbeats 2000000 in
theorem Md_ways_L71_g {κ : tv_Kt} (hC : tv_Cx κ "TiedViewsModel" prog_14_method_67_code 4 2) (hR : tv_Re κ (some .int)) (F : Nat) : ∀ (n : Nat) (l1 : Int32) (l2 : Int32) (M : tv_M), tv_G κ 4 (tv_Qm κ tv_ei) 71 [some (.ref (κ.b + 249)), some (.int l1), some (.int l2), none] [] M (Md_ways_L71 F n l1 l2 M) := by
  intro n
  induction n with
  | zero => intro _ _ _; exact g_none
  | succ nn ih =>
    intro l1 l2 M
    rw [Md_ways_L71]
    refine g_iload_n hC d_Md_ways_71 rfl ?_
    refine g_if_lt (tgt := 170) hC d_Md_ways_72 (by decide) (fun _ => ?_) (fun _ => ?_)
    · refine g_iload_n hC d_Md_ways_170 rfl ?_
      exact g_iret hC hR d_Md_ways_171
    · refine g_aload_n hC d_Md_ways_75 rfl ?_
      refine fg_Md_103 hC lc_249 d_Md_ways_76 p0_249_51 ?_
      refine g_iload_n hC d_Md_ways_79 rfl ?_
      refine g_dup2 hC d_Md_ways_80 rfl rfl ?_
      refine gv_iald hC ly_278 d_Md_ways_81 (fun x6 => ?_)
      refine g_iconst hC d_Md_ways_82 k_i1 ?_
      refine g_iadd hC d_Md_ways_83 ?_
      refine gv_iast hC ly_278 d_Md_ways_84 (fun M7 => ?_)
      refine g_aload_n hC d_Md_ways_85 rfl ?_
      refine fg_Md_103 hC lc_249 d_Md_ways_86 p0_249_51 ?_
      refine g_iload_n hC d_Md_ways_89 rfl ?_
      refine gv_iald hC ly_278 d_Md_ways_90 (fun x8 => ?_)
      refine g_iconst hC d_Md_ways_91 k_i4 ?_
      refine g_icmp_ne (tgt := 101) hC d_Md_ways_92 (by decide) (fun _ => ?_) (fun _ => ?_)
      · refine g_aload_n hC d_Md_ways_101 rfl ?_
        refine g_iload_n hC d_Md_ways_102 rfl ?_
        refine gv_callVi hC [.int l2] cw_Md_343 (Md_mayStand_c F l2 M7) lc_249 rfl rfl rfl rfl rfl rfl rfl d_Md_ways_103 (fun r9 M10 => ?_)
        refine g_if_eq (tgt := 71) hC d_Md_ways_106 (by decide) (fun _ => ?_) (fun _ => ?_)
        · exact ih l1 l2 M10
        · refine g_iload_n hC d_Md_ways_109 rfl ?_
          refine g_iconst hC d_Md_ways_110 k_i1 ?_
          refine g_iadd hC d_Md_ways_111 ?_
          refine g_aload_n hC d_Md_ways_112 rfl ?_
          refine fg_Md_340 hC lc_249 d_Md_ways_113 ?_
          refine g_icmp_ge (tgt := 132) hC d_Md_ways_116 (by decide) (fun _ => ?_) (fun _ => ?_)
          · refine g_iconst hC d_Md_ways_132 k_i0 ?_
            refine g_istore_n (ls' := [some (.ref (κ.b + 249)), some (.int l1), some (.int l2), some (.int 0)]) hC d_Md_ways_133 rfl rfl ?_
            exact Md_ways_L134_g hC hR F ih F l1 l2 0 M10
          · refine g_iinc (ls' := [some (.ref (κ.b + 249)), some (.int l1), some (.int (l2 + 1)), none]) hC d_Md_ways_119 rfl k_i1 rfl rfl ?_
            refine g_aload_n hC d_Md_ways_122 rfl ?_
            refine fg_Md_103 hC lc_249 d_Md_ways_123 p0_249_51 ?_
            refine g_iload_n hC d_Md_ways_126 rfl ?_
            refine g_iconst hC d_Md_ways_127 k_im1 ?_
            refine gv_iast hC ly_278 d_Md_ways_128 (fun M11 => ?_)
            refine g_goto (tgt := 71) hC d_Md_ways_129 (by decide) ?_
            exact ih l1 (l2 + 1) M11
      · refine g_iinc (ls' := [some (.ref (κ.b + 249)), some (.int l1), some (.int (l2 + (-1))), none]) hC d_Md_ways_95 rfl k_im1 rfl rfl ?_
        refine g_goto (tgt := 71) hC d_Md_ways_98 (by decide) ?_
        exact ih l1 (l2 + (-1)) M7
set_option maxHeartbeats 2000000 in
theorem Md_ways_L7_g {κ : tv_Kt} (hC : tv_Cx κ "TiedViewsModel" prog_14_method_67_code 4 2) (hR : tv_Re κ (some .int)) (F : Nat) : ∀ (n : Nat) (l1 : Int32) (M : tv_M), tv_G κ 4 (tv_Qm κ tv_ei) 7 [some (.ref (κ.b + 249)), some (.int l1), none, none] [] M (Md_ways_L7 F n l1 M) := by
  intro n
  induction n with
  | zero => intro _ _; exact g_none
  | succ nn ih =>
    intro l1 M
    rw [Md_ways_L7]
    refine g_iload_n hC d_Md_ways_7 rfl ?_
    refine g_aload_n hC d_Md_ways_8 rfl ?_
    refine fg_Md_232 hC lc_249 d_Md_ways_9 ?_
    refine g_icmp_ge (tgt := 51) hC d_Md_ways_12 (by decide) (fun _ => ?_) (fun _ => ?_)
    · refine g_aload_n hC d_Md_ways_51 rfl ?_
      refine fg_Md_340 hC lc_249 d_Md_ways_52 ?_
      refine g_if_ne (tgt := 60) hC d_Md_ways_55 (by decide) (fun _ => ?_) (fun _ => ?_)
      · refine g_iconst hC d_Md_ways_60 k_i0 ?_
        refine g_istore_n (ls' := [some (.ref (κ.b + 249)), some (.int 0), none, none]) hC d_Md_ways_61 rfl rfl ?_
        refine g_iconst hC d_Md_ways_62 k_i0 ?_
        refine g_istore_n (ls' := [some (.ref (κ.b + 249)), some (.int 0), some (.int 0), none]) hC d_Md_ways_63 rfl rfl ?_
        refine g_aload_n hC d_Md_ways_64 rfl ?_
        refine fg_Md_103 hC lc_249 d_Md_ways_65 p0_249_51 ?_
        refine g_iconst hC d_Md_ways_68 k_i0 ?_
        refine g_iconst hC d_Md_ways_69 k_im1 ?_
        refine gv_iast hC ly_278 d_Md_ways_70 (fun M2 => ?_)
        exact Md_ways_L71_g hC hR F F 0 0 M2
      · refine g_iconst hC d_Md_ways_58 k_i1 ?_
        exact g_iret hC hR d_Md_ways_59
    · refine g_aload_n hC d_Md_ways_15 rfl ?_
      refine fg_Md_27 hC lc_249 d_Md_ways_16 p0_249_7 ?_
      refine g_iload_n hC d_Md_ways_19 rfl ?_
      refine gv_iald hC ly_253 d_Md_ways_20 (fun x3 => ?_)
      refine g_iconst hC d_Md_ways_21 k_i3 ?_
      refine g_icmp_ne (tgt := 45) hC d_Md_ways_22 (by decide) (fun _ => ?_) (fun _ => ?_)
      · refine g_iinc (ls' := [some (.ref (κ.b + 249)), some (.int (l1 + 1)), none, none]) hC d_Md_ways_45 rfl k_i1 rfl rfl ?_
        refine g_goto (tgt := 7) hC d_Md_ways_48 (by decide) ?_
        exact ih (l1 + 1) M
      · refine g_aload_n hC d_Md_ways_25 rfl ?_
        refine fg_Md_100 hC lc_249 d_Md_ways_26 p0_249_50 ?_
        refine g_aload_n hC d_Md_ways_29 rfl ?_
        refine fg_Md_340 hC lc_249 d_Md_ways_30 ?_
        refine g_iload_n hC d_Md_ways_33 rfl ?_
        refine gv_iast hC ly_277 d_Md_ways_34 (fun M4 => ?_)
        refine g_aload_n hC d_Md_ways_35 rfl ?_
        refine g_dup hC d_Md_ways_36 rfl ?_
        refine fg_Md_340 hC lc_249 d_Md_ways_37 ?_
        refine g_iconst hC d_Md_ways_40 k_i1 ?_
        refine g_iadd hC d_Md_ways_41 ?_
        refine fp_Md_340 hC lc_249 d_Md_ways_42 (fun M5 => ?_)
        refine g_iinc (ls' := [some (.ref (κ.b + 249)), some (.int (l1 + 1)), none, none]) hC d_Md_ways_45 rfl k_i1 rfl rfl ?_
        refine g_goto (tgt := 7) hC d_Md_ways_48 (by decide) ?_
        exact ih (l1 + 1) M5
set_option maxHeartbeats 2000000 in
theorem Md_ways_c {l : Launch} {θ : tv_Th} (F : Nat) (M : tv_M) : tv_Ct l θ ⟨"TiedViewsModel", "ways", "()I"⟩ prog_14_method_67_code 4 (some .int) 2 tv_ei [.ref (θ.1 + 249)] M (Md_ways F M) := by
  refine tv_ofG [some (.ref (θ.1 + 249)), none, none, none] rfl rfl (tv_ent 3 rfl) ?_
  intro κ hl ht hC hR
  subst hl; subst ht
  unfold Md_ways
  refine g_aload_n hC d_Md_ways_0 rfl ?_
  refine g_iconst hC d_Md_ways_1 k_i0 ?_
  refine fp_Md_340 hC lc_249 d_Md_ways_2 (fun M1 => ?_)
  refine g_iconst hC d_Md_ways_5 k_i0 ?_
  refine g_istore_n (ls' := [some (.ref (κ.b + 249)), some (.int 0), none, none]) hC d_Md_ways_6 rfl rfl ?_
  exact Md_ways_L7_g hC hR F F 0 M1
theorem d_Md_fills_0 : decode prog_14_method_68_code 0 = .ok (.aload_n 0, 1) := by decide +kernel
theorem d_Md_fills_1 : decode prog_14_method_68_code 1 = .ok (.iconst 0, 1) := by decide +kernel
theorem d_Md_fills_2 : decode prog_14_method_68_code 2 = .ok (.putfield 1, 3) := by decide +kernel
theorem d_Md_fills_5 : decode prog_14_method_68_code 5 = .ok (.iload_n 1, 1) := by decide +kernel
theorem d_Md_fills_6 : decode prog_14_method_68_code 6 = .ok (.iconst (-1), 1) := by decide +kernel
theorem d_Md_fills_7 : decode prog_14_method_68_code 7 = .ok (.if_icmp .eq 14, 3) := by decide +kernel
theorem d_Md_fills_10 : decode prog_14_method_68_code 10 = .ok (.aload_n 0, 1) := by decide +kernel
theorem d_Md_fills_11 : decode prog_14_method_68_code 11 = .ok (.iload_n 1, 1) := by decide +kernel
theorem d_Md_fills_12 : decode prog_14_method_68_code 12 = .ok (.invokevirtual 330, 3) := by decide +kernel
theorem d_Md_fills_15 : decode prog_14_method_68_code 15 = .ok (.ifCond .ne 6, 3) := by decide +kernel
theorem d_Md_fills_18 : decode prog_14_method_68_code 18 = .ok (.ldc 127, 2) := by decide +kernel
theorem d_Md_fills_20 : decode prog_14_method_68_code 20 = .ok (.ireturn, 1) := by decide +kernel
theorem d_Md_fills_21 : decode prog_14_method_68_code 21 = .ok (.aload_n 0, 1) := by decide +kernel
theorem d_Md_fills_22 : decode prog_14_method_68_code 22 = .ok (.invokevirtual 346, 3) := by decide +kernel
theorem d_Md_fills_25 : decode prog_14_method_68_code 25 = .ok (.istore_n 2, 1) := by decide +kernel
theorem d_Md_fills_26 : decode prog_14_method_68_code 26 = .ok (.iload_n 1, 1) := by decide +kernel
theorem d_Md_fills_27 : decode prog_14_method_68_code 27 = .ok (.iconst (-1), 1) := by decide +kernel
theorem d_Md_fills_28 : decode prog_14_method_68_code 28 = .ok (.if_icmp .ne 5, 3) := by decide +kernel
theorem d_Md_fills_31 : decode prog_14_method_68_code 31 = .ok (.iload_n 2, 1) := by decide +kernel
theorem d_Md_fills_32 : decode prog_14_method_68_code 32 = .ok (.ireturn, 1) := by decide +kernel
theorem d_Md_fills_33 : decode prog_14_method_68_code 33 = .ok (.iconst 0, 1) := by decide +kernel
theorem d_Md_fills_34 : decode prog_14_method_68_code 34 = .ok (.istore_n 3, 1) := by decide +kernel
theorem d_Md_fills_35 : decode prog_14_method_68_code 35 = .ok (.aload_n 0, 1) := by decide +kernel
theorem d_Md_fills_36 : decode prog_14_method_68_code 36 = .ok (.getfield 100, 3) := by decide +kernel
theorem d_Md_fills_39 : decode prog_14_method_68_code 39 = .ok (.iload_n 3, 1) := by decide +kernel
theorem d_Md_fills_40 : decode prog_14_method_68_code 40 = .ok (.iaload, 1) := by decide +kernel
theorem d_Md_fills_41 : decode prog_14_method_68_code 41 = .ok (.iload_n 1, 1) := by decide +kernel
theorem d_Md_fills_42 : decode prog_14_method_68_code 42 = .ok (.if_icmp .eq 9, 3) := by decide +kernel
theorem d_Md_fills_45 : decode prog_14_method_68_code 45 = .ok (.iinc 3 1, 3) := by decide +kernel
theorem d_Md_fills_48 : decode prog_14_method_68_code 48 = .ok (.goto (-13), 3) := by decide +kernel
theorem d_Md_fills_51 : decode prog_14_method_68_code 51 = .ok (.iload_n 2, 1) := by decide +kernel
theorem d_Md_fills_52 : decode prog_14_method_68_code 52 = .ok (.ifCond .ne 8, 3) := by decide +kernel
theorem d_Md_fills_55 : decode prog_14_method_68_code 55 = .ok (.ldc 146, 2) := by decide +kernel
theorem d_Md_fills_57 : decode prog_14_method_68_code 57 = .ok (.goto 9, 3) := by decide +kernel
theorem d_Md_fills_60 : decode prog_14_method_68_code 60 = .ok (.aload_n 0, 1) := by decide +kernel
theorem d_Md_fills_61 : decode prog_14_method_68_code 61 = .ok (.getfield 106, 3) := by decide +kernel
theorem d_Md_fills_64 : decode prog_14_method_68_code 64 = .ok (.iload_n 3, 1) := by decide +kernel
theorem d_Md_fills_65 : decode prog_14_method_68_code 65 = .ok (.iaload, 1) := by decide +kernel
theorem d_Md_fills_66 : decode prog_14_method_68_code 66 = .ok (.ireturn, 1) := by decide +kernel
set_option maxHeartbeats 2000000 in
theorem Md_fills_L35_g {κ : tv_Kt} (hC : tv_Cx κ "TiedViewsModel" prog_14_method_68_code 4 3) (hR : tv_Re κ (some .int)) (F : Nat) : ∀ (n : Nat) (l1 : Int32) (l2 : Int32) (l3 : Int32) (M : tv_M), tv_G κ 4 (tv_Qm κ tv_ei) 35 [some (.ref (κ.b + 249)), some (.int l1), some (.int l2), some (.int l3)] [] M (Md_fills_L35 F n l1 l2 l3 M) := by
  intro n
  induction n with
  | zero => intro _ _ _ _; exact g_none
  | succ nn ih =>
    intro l1 l2 l3 M
    rw [Md_fills_L35]
    refine g_aload_n hC d_Md_fills_35 rfl ?_
    refine fg_Md_100 hC lc_249 d_Md_fills_36 p0_249_50 ?_
    refine g_iload_n hC d_Md_fills_39 rfl ?_
    refine gv_iald hC ly_277 d_Md_fills_40 (fun x8 => ?_)
    refine g_iload_n hC d_Md_fills_41 rfl ?_
    refine g_icmp_eq (tgt := 51) hC d_Md_fills_42 (by decide) (fun _ => ?_) (fun _ => ?_)
    · refine g_iload_n hC d_Md_fills_51 rfl ?_
      refine g_if_ne (tgt := 60) hC d_Md_fills_52 (by decide) (fun _ => ?_) (fun _ => ?_)
      · refine g_aload_n hC d_Md_fills_60 rfl ?_
        refine fg_Md_106 hC lc_249 d_Md_fills_61 p0_249_52 ?_
        refine g_iload_n hC d_Md_fills_64 rfl ?_
        refine gv_iald hC ly_279 d_Md_fills_65 (fun x9 => ?_)
        exact g_iret hC hR d_Md_fills_66
      · refine g_ldc hC d_Md_fills_55 wk_Md_146 ?_
        refine g_goto (tgt := 66) hC d_Md_fills_57 (by decide) ?_
        exact g_iret hC hR d_Md_fills_66
    · refine g_iinc (ls' := [some (.ref (κ.b + 249)), some (.int l1), some (.int l2), some (.int (l3 + 1))]) hC d_Md_fills_45 rfl k_i1 rfl rfl ?_
      refine g_goto (tgt := 35) hC d_Md_fills_48 (by decide) ?_
      exact ih l1 l2 (l3 + 1) M
set_option maxHeartbeats 2000000 in
theorem Md_fills_c {l : Launch} {θ : tv_Th} (F : Nat) (a1 : Int32) (M : tv_M) : tv_Ct l θ ⟨"TiedViewsModel", "fills", "(I)I"⟩ prog_14_method_68_code 4 (some .int) 3 tv_ei [.ref (θ.1 + 249), .int a1] M (Md_fills F a1 M) := by
  refine tv_ofG [some (.ref (θ.1 + 249)), some (.int a1), none, none] rfl rfl (tv_ent 2 rfl) ?_
  intro κ hl ht hC hR
  subst hl; subst ht
  unfold Md_fills
  refine g_aload_n hC d_Md_fills_0 rfl ?_
  refine g_iconst hC d_Md_fills_1 k_i0 ?_
  refine fp_Md_1 hC lc_249 d_Md_fills_2 (fun M1 => ?_)
  refine g_iload_n hC d_Md_fills_5 rfl ?_
  refine g_iconst hC d_Md_fills_6 k_im1 ?_
  refine g_icmp_eq (tgt := 21) hC d_Md_fills_7 (by decide) (fun _ => ?_) (fun _ => ?_)
  · refine g_aload_n hC d_Md_fills_21 rfl ?_
    refine gv_callVi hC [] cw_Md_346 (Md_ways_c F M1) lc_249 rfl rfl rfl rfl rfl rfl rfl d_Md_fills_22 (fun r2 M3 => ?_)
    refine g_istore_n (ls' := [some (.ref (κ.b + 249)), some (.int a1), some (.int r2), none]) hC d_Md_fills_25 rfl rfl ?_
    refine g_iload_n hC d_Md_fills_26 rfl ?_
    refine g_iconst hC d_Md_fills_27 k_im1 ?_
    refine g_icmp_ne (tgt := 33) hC d_Md_fills_28 (by decide) (fun _ => ?_) (fun _ => ?_)
    · refine g_iconst hC d_Md_fills_33 k_i0 ?_
      refine g_istore_n (ls' := [some (.ref (κ.b + 249)), some (.int a1), some (.int r2), some (.int 0)]) hC d_Md_fills_34 rfl rfl ?_
      exact Md_fills_L35_g hC hR F F a1 r2 0 M3
    · refine g_iload_n hC d_Md_fills_31 rfl ?_
      exact g_iret hC hR d_Md_fills_32
  · refine g_aload_n hC d_Md_fills_10 rfl ?_
    refine g_iload_n hC d_Md_fills_11 rfl ?_
    refine gv_callVi hC [.int a1] cw_Md_330 (Md_isChoice_c F a1 M1) lc_249 rfl rfl rfl rfl rfl rfl rfl d_Md_fills_12 (fun r4 M5 => ?_)
    refine g_if_ne (tgt := 21) hC d_Md_fills_15 (by decide) (fun _ => ?_) (fun _ => ?_)
    · refine g_aload_n hC d_Md_fills_21 rfl ?_
      refine gv_callVi hC [] cw_Md_346 (Md_ways_c F M5) lc_249 rfl rfl rfl rfl rfl rfl rfl d_Md_fills_22 (fun r6 M7 => ?_)
      refine g_istore_n (ls' := [some (.ref (κ.b + 249)), some (.int a1), some (.int r6), none]) hC d_Md_fills_25 rfl rfl ?_
      refine g_iload_n hC d_Md_fills_26 rfl ?_
      refine g_iconst hC d_Md_fills_27 k_im1 ?_
      refine g_icmp_ne (tgt := 33) hC d_Md_fills_28 (by decide) (fun _ => ?_) (fun _ => ?_)
      · refine g_iconst hC d_Md_fills_33 k_i0 ?_
        refine g_istore_n (ls' := [some (.ref (κ.b + 249)), some (.int a1), some (.int r6), some (.int 0)]) hC d_Md_fills_34 rfl rfl ?_
        exact Md_fills_L35_g hC hR F F a1 r6 0 M7
      · refine g_iload_n hC d_Md_fills_31 rfl ?_
        exact g_iret hC hR d_Md_fills_32
    · refine g_ldc hC d_Md_fills_18 wk_Md_127 ?_
      exact g_iret hC hR d_Md_fills_20
theorem d_Md_kindOf_0 : decode prog_14_method_69_code 0 = .ok (.aload_n 0, 1) := by decide +kernel
theorem d_Md_kindOf_1 : decode prog_14_method_69_code 1 = .ok (.getfield 27, 3) := by decide +kernel
theorem d_Md_kindOf_4 : decode prog_14_method_69_code 4 = .ok (.iload_n 1, 1) := by decide +kernel
theorem d_Md_kindOf_5 : decode prog_14_method_69_code 5 = .ok (.iaload, 1) := by decide +kernel
theorem d_Md_kindOf_6 : decode prog_14_method_69_code 6 = .ok (.ifCond .ne 7, 3) := by decide +kernel
theorem d_Md_kindOf_9 : decode prog_14_method_69_code 9 = .ok (.iconst 1, 1) := by decide +kernel
theorem d_Md_kindOf_10 : decode prog_14_method_69_code 10 = .ok (.goto 32, 3) := by decide +kernel
theorem d_Md_kindOf_13 : decode prog_14_method_69_code 13 = .ok (.aload_n 0, 1) := by decide +kernel
theorem d_Md_kindOf_14 : decode prog_14_method_69_code 14 = .ok (.getfield 27, 3) := by decide +kernel
theorem d_Md_kindOf_17 : decode prog_14_method_69_code 17 = .ok (.iload_n 1, 1) := by decide +kernel
theorem d_Md_kindOf_18 : decode prog_14_method_69_code 18 = .ok (.iaload, 1) := by decide +kernel
theorem d_Md_kindOf_19 : decode prog_14_method_69_code 19 = .ok (.iconst 1, 1) := by decide +kernel
theorem d_Md_kindOf_20 : decode prog_14_method_69_code 20 = .ok (.if_icmp .ne 7, 3) := by decide +kernel
theorem d_Md_kindOf_23 : decode prog_14_method_69_code 23 = .ok (.iconst 2, 1) := by decide +kernel
theorem d_Md_kindOf_24 : decode prog_14_method_69_code 24 = .ok (.goto 18, 3) := by decide +kernel
theorem d_Md_kindOf_27 : decode prog_14_method_69_code 27 = .ok (.aload_n 0, 1) := by decide +kernel
theorem d_Md_kindOf_28 : decode prog_14_method_69_code 28 = .ok (.getfield 27, 3) := by decide +kernel
theorem d_Md_kindOf_31 : decode prog_14_method_69_code 31 = .ok (.iload_n 1, 1) := by decide +kernel
theorem d_Md_kindOf_32 : decode prog_14_method_69_code 32 = .ok (.iaload, 1) := by decide +kernel
theorem d_Md_kindOf_33 : decode prog_14_method_69_code 33 = .ok (.iconst 2, 1) := by decide +kernel
theorem d_Md_kindOf_34 : decode prog_14_method_69_code 34 = .ok (.if_icmp .ne 7, 3) := by decide +kernel
theorem d_Md_kindOf_37 : decode prog_14_method_69_code 37 = .ok (.iconst 3, 1) := by decide +kernel
theorem d_Md_kindOf_38 : decode prog_14_method_69_code 38 = .ok (.goto 4, 3) := by decide +kernel
theorem d_Md_kindOf_41 : decode prog_14_method_69_code 41 = .ok (.iconst 4, 1) := by decide +kernel
theorem d_Md_kindOf_42 : decode prog_14_method_69_code 42 = .ok (.ireturn, 1) := by decide +kernel
set_option maxHeartbeats 2000000 in
theorem Md_kindOf_c {l : Launch} {θ : tv_Th} (F : Nat) (a1 : Int32) (M : tv_M) : tv_Ct l θ ⟨"TiedViewsModel", "kindOf", "(I)I"⟩ prog_14_method_69_code 2 (some .int) 0 tv_ei [.ref (θ.1 + 249), .int a1] M (Md_kindOf F a1 M) := by
  refine tv_ofG [some (.ref (θ.1 + 249)), some (.int a1)] rfl rfl (tv_ent 0 rfl) ?_
  intro κ hl ht hC hR
  subst hl; subst ht
  unfold Md_kindOf
  refine g_aload_n hC d_Md_kindOf_0 rfl ?_
  refine fg_Md_27 hC lc_249 d_Md_kindOf_1 p0_249_7 ?_
  refine g_iload_n hC d_Md_kindOf_4 rfl ?_
  refine gv_iald hC ly_253 d_Md_kindOf_5 (fun x1 => ?_)
  refine g_if_ne (tgt := 13) hC d_Md_kindOf_6 (by decide) (fun _ => ?_) (fun _ => ?_)
  · refine g_aload_n hC d_Md_kindOf_13 rfl ?_
    refine fg_Md_27 hC lc_249 d_Md_kindOf_14 p0_249_7 ?_
    refine g_iload_n hC d_Md_kindOf_17 rfl ?_
    refine gv_iald hC ly_253 d_Md_kindOf_18 (fun x2 => ?_)
    refine g_iconst hC d_Md_kindOf_19 k_i1 ?_
    refine g_icmp_ne (tgt := 27) hC d_Md_kindOf_20 (by decide) (fun _ => ?_) (fun _ => ?_)
    · refine g_aload_n hC d_Md_kindOf_27 rfl ?_
      refine fg_Md_27 hC lc_249 d_Md_kindOf_28 p0_249_7 ?_
      refine g_iload_n hC d_Md_kindOf_31 rfl ?_
      refine gv_iald hC ly_253 d_Md_kindOf_32 (fun x3 => ?_)
      refine g_iconst hC d_Md_kindOf_33 k_i2 ?_
      refine g_icmp_ne (tgt := 41) hC d_Md_kindOf_34 (by decide) (fun _ => ?_) (fun _ => ?_)
      · refine g_iconst hC d_Md_kindOf_41 k_i4 ?_
        exact g_iret hC hR d_Md_kindOf_42
      · refine g_iconst hC d_Md_kindOf_37 k_i3 ?_
        refine g_goto (tgt := 42) hC d_Md_kindOf_38 (by decide) ?_
        exact g_iret hC hR d_Md_kindOf_42
    · refine g_iconst hC d_Md_kindOf_23 k_i2 ?_
      refine g_goto (tgt := 42) hC d_Md_kindOf_24 (by decide) ?_
      exact g_iret hC hR d_Md_kindOf_42
  · refine g_iconst hC d_Md_kindOf_9 k_i1 ?_
    refine g_goto (tgt := 42) hC d_Md_kindOf_10 (by decide) ?_
    exact g_iret hC hR d_Md_kindOf_42
theorem d_Md_kind_0 : decode prog_14_method_71_code 0 = .ok (.aload_n 0, 1) := by decide +kernel
theorem d_Md_kind_1 : decode prog_14_method_71_code 1 = .ok (.iconst 0, 1) := by decide +kernel
theorem d_Md_kind_2 : decode prog_14_method_71_code 2 = .ok (.putfield 1, 3) := by decide +kernel
theorem d_Md_kind_5 : decode prog_14_method_71_code 5 = .ok (.aload_n 0, 1) := by decide +kernel
theorem d_Md_kind_6 : decode prog_14_method_71_code 6 = .ok (.iload_n 1, 1) := by decide +kernel
theorem d_Md_kind_7 : decode prog_14_method_71_code 7 = .ok (.invokevirtual 263, 3) := by decide +kernel
theorem d_Md_kind_10 : decode prog_14_method_71_code 10 = .ok (.ifCond .eq 11, 3) := by decide +kernel
theorem d_Md_kind_13 : decode prog_14_method_71_code 13 = .ok (.aload_n 0, 1) := by decide +kernel
theorem d_Md_kind_14 : decode prog_14_method_71_code 14 = .ok (.iload_n 1, 1) := by decide +kernel
theorem d_Md_kind_15 : decode prog_14_method_71_code 15 = .ok (.invokevirtual 349, 3) := by decide +kernel
theorem d_Md_kind_18 : decode prog_14_method_71_code 18 = .ok (.goto 5, 3) := by decide +kernel
theorem d_Md_kind_21 : decode prog_14_method_71_code 21 = .ok (.ldc 127, 2) := by decide +kernel
theorem d_Md_kind_23 : decode prog_14_method_71_code 23 = .ok (.ireturn, 1) := by decide +kernel
set_option maxHeartbeats 2000000 in
theorem Md_kind_c {l : Launch} {θ : tv_Th} (F : Nat) (a1 : Int32) (M : tv_M) : tv_Ct l θ ⟨"TiedViewsModel", "kind", "(I)I"⟩ prog_14_method_71_code 2 (some .int) 2 tv_ei [.ref (θ.1 + 249), .int a1] M (Md_kind F a1 M) := by
  refine tv_ofG [some (.ref (θ.1 + 249)), some (.int a1)] rfl rfl (tv_ent 0 rfl) ?_
  intro κ hl ht hC hR
  subst hl; subst ht
  unfold Md_kind
  refine g_aload_n hC d_Md_kind_0 rfl ?_
  refine g_iconst hC d_Md_kind_1 k_i0 ?_
  refine fp_Md_1 hC lc_249 d_Md_kind_2 (fun M1 => ?_)
  refine g_aload_n hC d_Md_kind_5 rfl ?_
  refine g_iload_n hC d_Md_kind_6 rfl ?_
  refine gv_callVi hC [.int a1] cw_Md_263 (Md_isEye_c F a1 M1) lc_249 rfl rfl rfl rfl rfl rfl rfl d_Md_kind_7 (fun r2 M3 => ?_)
  refine g_if_eq (tgt := 21) hC d_Md_kind_10 (by decide) (fun _ => ?_) (fun _ => ?_)
  · refine g_ldc hC d_Md_kind_21 wk_Md_127 ?_
    exact g_iret hC hR d_Md_kind_23
  · refine g_aload_n hC d_Md_kind_13 rfl ?_
    refine g_iload_n hC d_Md_kind_14 rfl ?_
    refine gv_callVi hC [.int a1] cw_Md_349 (Md_kindOf_c F a1 M3) lc_249 rfl rfl rfl rfl rfl rfl rfl d_Md_kind_15 (fun r4 M5 => ?_)
    refine g_goto (tgt := 23) hC d_Md_kind_18 (by decide) ?_
    exact g_iret hC hR d_Md_kind_23
theorem d_Md_isOf_0 : decode prog_14_method_70_code 0 = .ok (.iload_n 1, 1) := by decide +kernel
theorem d_Md_isOf_1 : decode prog_14_method_70_code 1 = .ok (.ifCond .eq 23, 3) := by decide +kernel
theorem d_Md_isOf_4 : decode prog_14_method_70_code 4 = .ok (.iload_n 0, 1) := by decide +kernel
theorem d_Md_isOf_5 : decode prog_14_method_70_code 5 = .ok (.iload_n 1, 1) := by decide +kernel
theorem d_Md_isOf_6 : decode prog_14_method_70_code 6 = .ok (.if_icmp .eq 18, 3) := by decide +kernel
theorem d_Md_isOf_9 : decode prog_14_method_70_code 9 = .ok (.iload_n 1, 1) := by decide +kernel
theorem d_Md_isOf_10 : decode prog_14_method_70_code 10 = .ok (.iconst 1, 1) := by decide +kernel
theorem d_Md_isOf_11 : decode prog_14_method_70_code 11 = .ok (.if_icmp .ne 17, 3) := by decide +kernel
theorem d_Md_isOf_14 : decode prog_14_method_70_code 14 = .ok (.iload_n 0, 1) := by decide +kernel
theorem d_Md_isOf_15 : decode prog_14_method_70_code 15 = .ok (.iconst 2, 1) := by decide +kernel
theorem d_Md_isOf_16 : decode prog_14_method_70_code 16 = .ok (.if_icmp .eq 8, 3) := by decide +kernel
theorem d_Md_isOf_19 : decode prog_14_method_70_code 19 = .ok (.iload_n 0, 1) := by decide +kernel
theorem d_Md_isOf_20 : decode prog_14_method_70_code 20 = .ok (.iconst 3, 1) := by decide +kernel
theorem d_Md_isOf_21 : decode prog_14_method_70_code 21 = .ok (.if_icmp .ne 7, 3) := by decide +kernel
theorem d_Md_isOf_24 : decode prog_14_method_70_code 24 = .ok (.iconst 1, 1) := by decide +kernel
theorem d_Md_isOf_25 : decode prog_14_method_70_code 25 = .ok (.goto 4, 3) := by decide +kernel
theorem d_Md_isOf_28 : decode prog_14_method_70_code 28 = .ok (.iconst 0, 1) := by decide +kernel
theorem d_Md_isOf_29 : decode prog_14_method_70_code 29 = .ok (.ireturn, 1) := by decide +kernel
set_option maxHeartbeats 2000000 in
theorem Md_isOf_c {l : Launch} {θ : tv_Th} (F : Nat) (a0 : Int32) (a1 : Int32) (M : tv_M) : tv_Ct l θ ⟨"TiedViewsModel", "isOf", "(II)Z"⟩ prog_14_method_70_code 2 (some .boolean) 0 tv_ei [.int a0, .int a1] M (Md_isOf F a0 a1 M) := by
  refine tv_ofG [some (.int a0), some (.int a1)] rfl rfl (tv_ent 0 rfl) ?_
  intro κ hl ht hC hR
  subst hl; subst ht
  unfold Md_isOf
  refine g_iload_n hC d_Md_isOf_0 rfl ?_
  refine g_if_eq (tgt := 24) hC d_Md_isOf_1 (by decide) (fun _ => ?_) (fun _ => ?_)
  · refine g_iconst hC d_Md_isOf_24 k_i1 ?_
    refine g_goto (tgt := 29) hC d_Md_isOf_25 (by decide) ?_
    exact g_zret hC hR tv_z1 d_Md_isOf_29
  · refine g_iload_n hC d_Md_isOf_4 rfl ?_
    refine g_iload_n hC d_Md_isOf_5 rfl ?_
    refine g_icmp_eq (tgt := 24) hC d_Md_isOf_6 (by decide) (fun _ => ?_) (fun _ => ?_)
    · refine g_iconst hC d_Md_isOf_24 k_i1 ?_
      refine g_goto (tgt := 29) hC d_Md_isOf_25 (by decide) ?_
      exact g_zret hC hR tv_z1 d_Md_isOf_29
    · refine g_iload_n hC d_Md_isOf_9 rfl ?_
      refine g_iconst hC d_Md_isOf_10 k_i1 ?_
      refine g_icmp_ne (tgt := 28) hC d_Md_isOf_11 (by decide) (fun _ => ?_) (fun _ => ?_)
      · refine g_iconst hC d_Md_isOf_28 k_i0 ?_
        exact g_zret hC hR tv_z0 d_Md_isOf_29
      · refine g_iload_n hC d_Md_isOf_14 rfl ?_
        refine g_iconst hC d_Md_isOf_15 k_i2 ?_
        refine g_icmp_eq (tgt := 24) hC d_Md_isOf_16 (by decide) (fun _ => ?_) (fun _ => ?_)
        · refine g_iconst hC d_Md_isOf_24 k_i1 ?_
          refine g_goto (tgt := 29) hC d_Md_isOf_25 (by decide) ?_
          exact g_zret hC hR tv_z1 d_Md_isOf_29
        · refine g_iload_n hC d_Md_isOf_19 rfl ?_
          refine g_iconst hC d_Md_isOf_20 k_i3 ?_
          refine g_icmp_ne (tgt := 28) hC d_Md_isOf_21 (by decide) (fun _ => ?_) (fun _ => ?_)
          · refine g_iconst hC d_Md_isOf_28 k_i0 ?_
            exact g_zret hC hR tv_z0 d_Md_isOf_29
          · refine g_iconst hC d_Md_isOf_24 k_i1 ?_
            refine g_goto (tgt := 29) hC d_Md_isOf_25 (by decide) ?_
            exact g_zret hC hR tv_z1 d_Md_isOf_29
theorem d_Md_as_0 : decode prog_14_method_72_code 0 = .ok (.aload_n 0, 1) := by decide +kernel
theorem d_Md_as_1 : decode prog_14_method_72_code 1 = .ok (.iconst 0, 1) := by decide +kernel
theorem d_Md_as_2 : decode prog_14_method_72_code 2 = .ok (.putfield 1, 3) := by decide +kernel
theorem d_Md_as_5 : decode prog_14_method_72_code 5 = .ok (.aload_n 0, 1) := by decide +kernel
theorem d_Md_as_6 : decode prog_14_method_72_code 6 = .ok (.iload_n 1, 1) := by decide +kernel
theorem d_Md_as_7 : decode prog_14_method_72_code 7 = .ok (.invokevirtual 263, 3) := by decide +kernel
theorem d_Md_as_10 : decode prog_14_method_72_code 10 = .ok (.ifCond .eq 15, 3) := by decide +kernel
theorem d_Md_as_13 : decode prog_14_method_72_code 13 = .ok (.iload_n 2, 1) := by decide +kernel
theorem d_Md_as_14 : decode prog_14_method_72_code 14 = .ok (.i2l, 1) := by decide +kernel
theorem d_Md_as_15 : decode prog_14_method_72_code 15 = .ok (.lconst 0, 1) := by decide +kernel
theorem d_Md_as_16 : decode prog_14_method_72_code 16 = .ok (.ldc2_w 280, 3) := by decide +kernel
theorem d_Md_as_19 : decode prog_14_method_72_code 19 = .ok (.invokestatic 115, 3) := by decide +kernel
theorem d_Md_as_22 : decode prog_14_method_72_code 22 = .ok (.ifCond .ne 6, 3) := by decide +kernel
theorem d_Md_as_25 : decode prog_14_method_72_code 25 = .ok (.ldc 127, 2) := by decide +kernel
theorem d_Md_as_27 : decode prog_14_method_72_code 27 = .ok (.ireturn, 1) := by decide +kernel
theorem d_Md_as_28 : decode prog_14_method_72_code 28 = .ok (.aload_n 0, 1) := by decide +kernel
theorem d_Md_as_29 : decode prog_14_method_72_code 29 = .ok (.iconst 0, 1) := by decide +kernel
theorem d_Md_as_30 : decode prog_14_method_72_code 30 = .ok (.putfield 7, 3) := by decide +kernel
theorem d_Md_as_33 : decode prog_14_method_72_code 33 = .ok (.aload_n 0, 1) := by decide +kernel
theorem d_Md_as_34 : decode prog_14_method_72_code 34 = .ok (.iload_n 1, 1) := by decide +kernel
theorem d_Md_as_35 : decode prog_14_method_72_code 35 = .ok (.invokevirtual 349, 3) := by decide +kernel
theorem d_Md_as_38 : decode prog_14_method_72_code 38 = .ok (.iload_n 2, 1) := by decide +kernel
theorem d_Md_as_39 : decode prog_14_method_72_code 39 = .ok (.invokestatic 352, 3) := by decide +kernel
theorem d_Md_as_42 : decode prog_14_method_72_code 42 = .ok (.ifCond .eq 12, 3) := by decide +kernel
theorem d_Md_as_45 : decode prog_14_method_72_code 45 = .ok (.aload_n 0, 1) := by decide +kernel
theorem d_Md_as_46 : decode prog_14_method_72_code 46 = .ok (.getfield 30, 3) := by decide +kernel
theorem d_Md_as_49 : decode prog_14_method_72_code 49 = .ok (.iload_n 1, 1) := by decide +kernel
theorem d_Md_as_50 : decode prog_14_method_72_code 50 = .ok (.iaload, 1) := by decide +kernel
theorem d_Md_as_51 : decode prog_14_method_72_code 51 = .ok (.goto 8, 3) := by decide +kernel
theorem d_Md_as_54 : decode prog_14_method_72_code 54 = .ok (.aload_n 0, 1) := by decide +kernel
theorem d_Md_as_55 : decode prog_14_method_72_code 55 = .ok (.iconst 3, 1) := by decide +kernel
theorem d_Md_as_56 : decode prog_14_method_72_code 56 = .ok (.invokevirtual 128, 3) := by decide +kernel
theorem d_Md_as_59 : decode prog_14_method_72_code 59 = .ok (.ireturn, 1) := by decide +kernel
set_option maxHeartbeats 2000000 in
theorem Md_as_c {l : Launch} {θ : tv_Th} (F : Nat) (a1 : Int32) (a2 : Int32) (M : tv_M) : tv_Ct l θ ⟨"TiedViewsModel", "as", "(II)I"⟩ prog_14_method_72_code 3 (some .int) 2 tv_ei [.ref (θ.1 + 249), .int a1, .int a2] M (Md_as F a1 a2 M) := by
  refine tv_ofG [some (.ref (θ.1 + 249)), some (.int a1), some (.int a2)] rfl rfl (tv_ent 0 rfl) ?_
  intro κ hl ht hC hR
  subst hl; subst ht
  unfold Md_as
  refine g_aload_n hC d_Md_as_0 rfl ?_
  refine g_iconst hC d_Md_as_1 k_i0 ?_
  refine fp_Md_1 hC lc_249 d_Md_as_2 (fun M1 => ?_)
  refine g_aload_n hC d_Md_as_5 rfl ?_
  refine g_iload_n hC d_Md_as_6 rfl ?_
  refine gv_callVi hC [.int a1] cw_Md_263 (Md_isEye_c F a1 M1) lc_249 rfl rfl rfl rfl rfl rfl rfl d_Md_as_7 (fun r2 M3 => ?_)
  refine g_if_eq (tgt := 25) hC d_Md_as_10 (by decide) (fun _ => ?_) (fun _ => ?_)
  · refine g_ldc hC d_Md_as_25 wk_Md_127 ?_
    exact g_iret hC hR d_Md_as_27
  · refine g_iload_n hC d_Md_as_13 rfl ?_
    refine g_i2l hC d_Md_as_14 ?_
    refine g_lconst hC d_Md_as_15 k_l0 ?_
    refine g_ldc2 hC d_Md_as_16 wl_Md_280 ?_
    refine gv_callSi hC [.long ((a2 : Int32).toInt64), .long 0, .long 4] cw_Md_115 (Md_in_c F ((a2 : Int32).toInt64) 0 4 M3) rfl rfl rfl rfl rfl d_Md_as_19 (fun r4 M5 => ?_)
    refine g_if_ne (tgt := 28) hC d_Md_as_22 (by decide) (fun _ => ?_) (fun _ => ?_)
    · refine g_aload_n hC d_Md_as_28 rfl ?_
      refine g_iconst hC d_Md_as_29 k_i0 ?_
      refine fp_Md_7 hC lc_249 d_Md_as_30 (fun M6 => ?_)
      refine g_aload_n hC d_Md_as_33 rfl ?_
      refine g_iload_n hC d_Md_as_34 rfl ?_
      refine gv_callVi hC [.int a1] cw_Md_349 (Md_kindOf_c F a1 M6) lc_249 rfl rfl rfl rfl rfl rfl rfl d_Md_as_35 (fun r7 M8 => ?_)
      refine g_iload_n hC d_Md_as_38 rfl ?_
      refine gv_callSi hC [.int r7, .int a2] cw_Md_352 (Md_isOf_c F r7 a2 M8) rfl rfl rfl rfl rfl d_Md_as_39 (fun r9 M10 => ?_)
      refine g_if_eq (tgt := 54) hC d_Md_as_42 (by decide) (fun _ => ?_) (fun _ => ?_)
      · refine g_aload_n hC d_Md_as_54 rfl ?_
        refine g_iconst hC d_Md_as_55 k_i3 ?_
        refine gv_callVi hC [.int 3] cw_Md_128 (Md_finding_c F 3 M10) lc_249 rfl rfl rfl rfl rfl rfl rfl d_Md_as_56 (fun r11 M12 => ?_)
        exact g_iret hC hR d_Md_as_59
      · refine g_aload_n hC d_Md_as_45 rfl ?_
        refine fg_Md_30 hC lc_249 d_Md_as_46 p0_249_8 ?_
        refine g_iload_n hC d_Md_as_49 rfl ?_
        refine gv_iald hC ly_254 d_Md_as_50 (fun x13 => ?_)
        refine g_goto (tgt := 59) hC d_Md_as_51 (by decide) ?_
        exact g_iret hC hR d_Md_as_59
    · refine g_ldc hC d_Md_as_25 wk_Md_127 ?_
      exact g_iret hC hR d_Md_as_27
theorem d_Md_began_0 : decode prog_14_method_73_code 0 = .ok (.aload_n 0, 1) := by decide +kernel
theorem d_Md_began_1 : decode prog_14_method_73_code 1 = .ok (.getfield 355, 3) := by decide +kernel
theorem d_Md_began_4 : decode prog_14_method_73_code 4 = .ok (.bipush 16, 2) := by decide +kernel
theorem d_Md_began_6 : decode prog_14_method_73_code 6 = .ok (.if_icmp .ge 23, 3) := by decide +kernel
theorem d_Md_began_9 : decode prog_14_method_73_code 9 = .ok (.aload_n 0, 1) := by decide +kernel
theorem d_Md_began_10 : decode prog_14_method_73_code 10 = .ok (.getfield 109, 3) := by decide +kernel
theorem d_Md_began_13 : decode prog_14_method_73_code 13 = .ok (.aload_n 0, 1) := by decide +kernel
theorem d_Md_began_14 : decode prog_14_method_73_code 14 = .ok (.getfield 355, 3) := by decide +kernel
theorem d_Md_began_17 : decode prog_14_method_73_code 17 = .ok (.iload_n 1, 1) := by decide +kernel
theorem d_Md_began_18 : decode prog_14_method_73_code 18 = .ok (.iastore, 1) := by decide +kernel
theorem d_Md_began_19 : decode prog_14_method_73_code 19 = .ok (.aload_n 0, 1) := by decide +kernel
theorem d_Md_began_20 : decode prog_14_method_73_code 20 = .ok (.dup, 1) := by decide +kernel
theorem d_Md_began_21 : decode prog_14_method_73_code 21 = .ok (.getfield 355, 3) := by decide +kernel
theorem d_Md_began_24 : decode prog_14_method_73_code 24 = .ok (.iconst 1, 1) := by decide +kernel
theorem d_Md_began_25 : decode prog_14_method_73_code 25 = .ok (.iadd, 1) := by decide +kernel
theorem d_Md_began_26 : decode prog_14_method_73_code 26 = .ok (.putfield 355, 3) := by decide +kernel
theorem d_Md_began_29 : decode prog_14_method_73_code 29 = .ok (.return_, 1) := by decide +kernel
set_option maxHeartbeats 2000000 in
theorem Md_began_c {l : Launch} {θ : tv_Th} (F : Nat) (a1 : Int32) (M : tv_M) : tv_Ct l θ ⟨"TiedViewsModel", "began", "(I)V"⟩ prog_14_method_73_code 2 none 0 tv_ev [.ref (θ.1 + 249), .int a1] M (Md_began F a1 M) := by
  refine tv_ofG [some (.ref (θ.1 + 249)), some (.int a1)] rfl rfl (tv_ent 0 rfl) ?_
  intro κ hl ht hC hR
  subst hl; subst ht
  unfold Md_began
  refine g_aload_n hC d_Md_began_0 rfl ?_
  refine fg_Md_355 hC lc_249 d_Md_began_1 ?_
  refine g_bipush hC d_Md_began_4 k_b16 ?_
  refine g_icmp_ge (tgt := 29) hC d_Md_began_6 (by decide) (fun _ => ?_) (fun _ => ?_)
  · exact g_vret hC hR d_Md_began_29
  · refine g_aload_n hC d_Md_began_9 rfl ?_
    refine fg_Md_109 hC lc_249 d_Md_began_10 p0_249_53 ?_
    refine g_aload_n hC d_Md_began_13 rfl ?_
    refine fg_Md_355 hC lc_249 d_Md_began_14 ?_
    refine g_iload_n hC d_Md_began_17 rfl ?_
    refine gv_iast hC ly_280 d_Md_began_18 (fun M1 => ?_)
    refine g_aload_n hC d_Md_began_19 rfl ?_
    refine g_dup hC d_Md_began_20 rfl ?_
    refine fg_Md_355 hC lc_249 d_Md_began_21 ?_
    refine g_iconst hC d_Md_began_24 k_i1 ?_
    refine g_iadd hC d_Md_began_25 ?_
    refine fp_Md_355 hC lc_249 d_Md_began_26 (fun M2 => ?_)
    exact g_vret hC hR d_Md_began_29
theorem d_Md_linearSize_0 : decode prog_14_method_74_code 0 = .ok (.aload_n 0, 1) := by decide +kernel
theorem d_Md_linearSize_1 : decode prog_14_method_74_code 1 = .ok (.bipush 11, 2) := by decide +kernel
theorem d_Md_linearSize_3 : decode prog_14_method_74_code 3 = .ok (.invokevirtual 358, 3) := by decide +kernel
theorem d_Md_linearSize_6 : decode prog_14_method_74_code 6 = .ok (.aload_n 0, 1) := by decide +kernel
theorem d_Md_linearSize_7 : decode prog_14_method_74_code 7 = .ok (.bipush 10, 2) := by decide +kernel
theorem d_Md_linearSize_9 : decode prog_14_method_74_code 9 = .ok (.invokevirtual 358, 3) := by decide +kernel
theorem d_Md_linearSize_12 : decode prog_14_method_74_code 12 = .ok (.aload_n 0, 1) := by decide +kernel
theorem d_Md_linearSize_13 : decode prog_14_method_74_code 13 = .ok (.getfield 30, 3) := by decide +kernel
theorem d_Md_linearSize_16 : decode prog_14_method_74_code 16 = .ok (.iload_n 1, 1) := by decide +kernel
theorem d_Md_linearSize_17 : decode prog_14_method_74_code 17 = .ok (.iaload, 1) := by decide +kernel
theorem d_Md_linearSize_18 : decode prog_14_method_74_code 18 = .ok (.aload_n 0, 1) := by decide +kernel
theorem d_Md_linearSize_19 : decode prog_14_method_74_code 19 = .ok (.iload_n 1, 1) := by decide +kernel
theorem d_Md_linearSize_20 : decode prog_14_method_74_code 20 = .ok (.invokevirtual 268, 3) := by decide +kernel
theorem d_Md_linearSize_23 : decode prog_14_method_74_code 23 = .ok (.iadd, 1) := by decide +kernel
theorem d_Md_linearSize_24 : decode prog_14_method_74_code 24 = .ok (.ireturn, 1) := by decide +kernel
set_option maxHeartbeats 2000000 in
theorem Md_linearSize_c {l : Launch} {θ : tv_Th} (F : Nat) (a1 : Int32) (M : tv_M) : tv_Ct l θ ⟨"TiedViewsModel", "linearSize", "(I)I"⟩ prog_14_method_74_code 2 (some .int) 1 tv_ei [.ref (θ.1 + 249), .int a1] M (Md_linearSize F a1 M) := by
  refine tv_ofG [some (.ref (θ.1 + 249)), some (.int a1)] rfl rfl (tv_ent 0 rfl) ?_
  intro κ hl ht hC hR
  subst hl; subst ht
  unfold Md_linearSize
  refine g_aload_n hC d_Md_linearSize_0 rfl ?_
  refine g_bipush hC d_Md_linearSize_1 k_b11 ?_
  refine gv_callVv hC [.int 11] cw_Md_358 (Md_began_c F 11 M) lc_249 rfl rfl rfl rfl rfl rfl rfl d_Md_linearSize_3 (fun r1 M2 => ?_)
  refine g_aload_n hC d_Md_linearSize_6 rfl ?_
  refine g_bipush hC d_Md_linearSize_7 k_b10 ?_
  refine gv_callVv hC [.int 10] cw_Md_358 (Md_began_c F 10 M2) lc_249 rfl rfl rfl rfl rfl rfl rfl d_Md_linearSize_9 (fun r3 M4 => ?_)
  refine g_aload_n hC d_Md_linearSize_12 rfl ?_
  refine fg_Md_30 hC lc_249 d_Md_linearSize_13 p0_249_8 ?_
  refine g_iload_n hC d_Md_linearSize_16 rfl ?_
  refine gv_iald hC ly_254 d_Md_linearSize_17 (fun x5 => ?_)
  refine g_aload_n hC d_Md_linearSize_18 rfl ?_
  refine g_iload_n hC d_Md_linearSize_19 rfl ?_
  refine gv_callVi hC [.int a1] cw_Md_268 (Md_tiesOf_c F a1 M4) lc_249 rfl rfl rfl rfl rfl rfl rfl d_Md_linearSize_20 (fun r6 M7 => ?_)
  refine g_iadd hC d_Md_linearSize_23 ?_
  exact g_iret hC hR d_Md_linearSize_24
theorem d_Md_modSize_0 : decode prog_14_method_75_code 0 = .ok (.aload_n 0, 1) := by decide +kernel
theorem d_Md_modSize_1 : decode prog_14_method_75_code 1 = .ok (.bipush 12, 2) := by decide +kernel
theorem d_Md_modSize_3 : decode prog_14_method_75_code 3 = .ok (.invokevirtual 358, 3) := by decide +kernel
theorem d_Md_modSize_6 : decode prog_14_method_75_code 6 = .ok (.aload_n 0, 1) := by decide +kernel
theorem d_Md_modSize_7 : decode prog_14_method_75_code 7 = .ok (.iload_n 1, 1) := by decide +kernel
theorem d_Md_modSize_8 : decode prog_14_method_75_code 8 = .ok (.invokevirtual 361, 3) := by decide +kernel
theorem d_Md_modSize_11 : decode prog_14_method_75_code 11 = .ok (.aload_n 0, 1) := by decide +kernel
theorem d_Md_modSize_12 : decode prog_14_method_75_code 12 = .ok (.getfield 112, 3) := by decide +kernel
theorem d_Md_modSize_15 : decode prog_14_method_75_code 15 = .ok (.imul, 1) := by decide +kernel
theorem d_Md_modSize_16 : decode prog_14_method_75_code 16 = .ok (.ireturn, 1) := by decide +kernel
set_option maxHeartbeats 2000000 in
theorem Md_modSize_c {l : Launch} {θ : tv_Th} (F : Nat) (a1 : Int32) (M : tv_M) : tv_Ct l θ ⟨"TiedViewsModel", "modSize", "(I)I"⟩ prog_14_method_75_code 2 (some .int) 2 tv_ei [.ref (θ.1 + 249), .int a1] M (Md_modSize F a1 M) := by
  refine tv_ofG [some (.ref (θ.1 + 249)), some (.int a1)] rfl rfl (tv_ent 0 rfl) ?_
  intro κ hl ht hC hR
  subst hl; subst ht
  unfold Md_modSize
  refine g_aload_n hC d_Md_modSize_0 rfl ?_
  refine g_bipush hC d_Md_modSize_1 k_b12 ?_
  refine gv_callVv hC [.int 12] cw_Md_358 (Md_began_c F 12 M) lc_249 rfl rfl rfl rfl rfl rfl rfl d_Md_modSize_3 (fun r1 M2 => ?_)
  refine g_aload_n hC d_Md_modSize_6 rfl ?_
  refine g_iload_n hC d_Md_modSize_7 rfl ?_
  refine gv_callVi hC [.int a1] cw_Md_361 (Md_linearSize_c F a1 M2) lc_249 rfl rfl rfl rfl rfl rfl rfl d_Md_modSize_8 (fun r3 M4 => ?_)
  refine g_aload_n hC d_Md_modSize_11 rfl ?_
  refine fg_Md_112 hC lc_249 d_Md_modSize_12 ?_
  refine g_imul hC d_Md_modSize_15 ?_
  exact g_iret hC hR d_Md_modSize_16
theorem d_Md_markOf_0 : decode prog_14_method_76_code 0 = .ok (.aload_n 0, 1) := by decide +kernel
theorem d_Md_markOf_1 : decode prog_14_method_76_code 1 = .ok (.iload_n 1, 1) := by decide +kernel
theorem d_Md_markOf_2 : decode prog_14_method_76_code 2 = .ok (.invokevirtual 349, 3) := by decide +kernel
theorem d_Md_markOf_5 : decode prog_14_method_76_code 5 = .ok (.istore_n 2, 1) := by decide +kernel
theorem d_Md_markOf_6 : decode prog_14_method_76_code 6 = .ok (.iload_n 2, 1) := by decide +kernel
theorem d_Md_markOf_7 : decode prog_14_method_76_code 7 = .ok (.iconst 2, 1) := by decide +kernel
theorem d_Md_markOf_8 : decode prog_14_method_76_code 8 = .ok (.if_icmp .ne 9, 3) := by decide +kernel
theorem d_Md_markOf_11 : decode prog_14_method_76_code 11 = .ok (.aload_n 0, 1) := by decide +kernel
theorem d_Md_markOf_12 : decode prog_14_method_76_code 12 = .ok (.bipush 22, 2) := by decide +kernel
theorem d_Md_markOf_14 : decode prog_14_method_76_code 14 = .ok (.invokevirtual 358, 3) := by decide +kernel
theorem d_Md_markOf_17 : decode prog_14_method_76_code 17 = .ok (.aload_n 0, 1) := by decide +kernel
theorem d_Md_markOf_18 : decode prog_14_method_76_code 18 = .ok (.iload_n 2, 1) := by decide +kernel
theorem d_Md_markOf_19 : decode prog_14_method_76_code 19 = .ok (.iconst 4, 1) := by decide +kernel
theorem d_Md_markOf_20 : decode prog_14_method_76_code 20 = .ok (.if_icmp .ne 8, 3) := by decide +kernel
theorem d_Md_markOf_23 : decode prog_14_method_76_code 23 = .ok (.bipush 23, 2) := by decide +kernel
theorem d_Md_markOf_25 : decode prog_14_method_76_code 25 = .ok (.goto 5, 3) := by decide +kernel
theorem d_Md_markOf_28 : decode prog_14_method_76_code 28 = .ok (.bipush 21, 2) := by decide +kernel
theorem d_Md_markOf_30 : decode prog_14_method_76_code 30 = .ok (.invokevirtual 358, 3) := by decide +kernel
theorem d_Md_markOf_33 : decode prog_14_method_76_code 33 = .ok (.aload_n 0, 1) := by decide +kernel
theorem d_Md_markOf_34 : decode prog_14_method_76_code 34 = .ok (.bipush 20, 2) := by decide +kernel
theorem d_Md_markOf_36 : decode prog_14_method_76_code 36 = .ok (.invokevirtual 358, 3) := by decide +kernel
theorem d_Md_markOf_39 : decode prog_14_method_76_code 39 = .ok (.iload_n 2, 1) := by decide +kernel
theorem d_Md_markOf_40 : decode prog_14_method_76_code 40 = .ok (.iconst 4, 1) := by decide +kernel
theorem d_Md_markOf_41 : decode prog_14_method_76_code 41 = .ok (.if_icmp .ne 11, 3) := by decide +kernel
theorem d_Md_markOf_44 : decode prog_14_method_76_code 44 = .ok (.iload_n 1, 1) := by decide +kernel
theorem d_Md_markOf_45 : decode prog_14_method_76_code 45 = .ok (.sipush 1000, 3) := by decide +kernel
theorem d_Md_markOf_48 : decode prog_14_method_76_code 48 = .ok (.iadd, 1) := by decide +kernel
theorem d_Md_markOf_49 : decode prog_14_method_76_code 49 = .ok (.goto 20, 3) := by decide +kernel
theorem d_Md_markOf_52 : decode prog_14_method_76_code 52 = .ok (.aload_n 0, 1) := by decide +kernel
theorem d_Md_markOf_53 : decode prog_14_method_76_code 53 = .ok (.getfield 79, 3) := by decide +kernel
theorem d_Md_markOf_56 : decode prog_14_method_76_code 56 = .ok (.iload_n 1, 1) := by decide +kernel
theorem d_Md_markOf_57 : decode prog_14_method_76_code 57 = .ok (.baload, 1) := by decide +kernel
theorem d_Md_markOf_58 : decode prog_14_method_76_code 58 = .ok (.ifCond .eq 10, 3) := by decide +kernel
theorem d_Md_markOf_61 : decode prog_14_method_76_code 61 = .ok (.iload_n 1, 1) := by decide +kernel
theorem d_Md_markOf_62 : decode prog_14_method_76_code 62 = .ok (.bipush 100, 2) := by decide +kernel
theorem d_Md_markOf_64 : decode prog_14_method_76_code 64 = .ok (.iadd, 1) := by decide +kernel
theorem d_Md_markOf_65 : decode prog_14_method_76_code 65 = .ok (.goto 4, 3) := by decide +kernel
theorem d_Md_markOf_68 : decode prog_14_method_76_code 68 = .ok (.iload_n 1, 1) := by decide +kernel
theorem d_Md_markOf_69 : decode prog_14_method_76_code 69 = .ok (.istore_n 3, 1) := by decide +kernel
theorem d_Md_markOf_70 : decode prog_14_method_76_code 70 = .ok (.iload_n 2, 1) := by decide +kernel
theorem d_Md_markOf_71 : decode prog_14_method_76_code 71 = .ok (.iconst 2, 1) := by decide +kernel
theorem d_Md_markOf_72 : decode prog_14_method_76_code 72 = .ok (.if_icmp .ne 13, 3) := by decide +kernel
theorem d_Md_markOf_75 : decode prog_14_method_76_code 75 = .ok (.iload_n 3, 1) := by decide +kernel
theorem d_Md_markOf_76 : decode prog_14_method_76_code 76 = .ok (.aload_n 0, 1) := by decide +kernel
theorem d_Md_markOf_77 : decode prog_14_method_76_code 77 = .ok (.iload_n 1, 1) := by decide +kernel
theorem d_Md_markOf_78 : decode prog_14_method_76_code 78 = .ok (.invokevirtual 364, 3) := by decide +kernel
theorem d_Md_markOf_81 : decode prog_14_method_76_code 81 = .ok (.iadd, 1) := by decide +kernel
theorem d_Md_markOf_82 : decode prog_14_method_76_code 82 = .ok (.goto 4, 3) := by decide +kernel
theorem d_Md_markOf_85 : decode prog_14_method_76_code 85 = .ok (.iload_n 3, 1) := by decide +kernel
theorem d_Md_markOf_86 : decode prog_14_method_76_code 86 = .ok (.ireturn, 1) := by decide +kernel
set_option maxHeartbeats 2000000 in
theorem Md_markOf_L69_g {κ : tv_Kt} (hC : tv_Cx κ "TiedViewsModel" prog_14_method_76_code 4 3) (hR : tv_Re κ (some .int)) (F : Nat) (l1 : Int32) (l2 : Int32) (s0 : Int32) (M : tv_M) : tv_G κ 4 (tv_Qm κ tv_ei) 69 [some (.ref (κ.b + 249)), some (.int l1), some (.int l2), none] [.int s0] M (Md_markOf_L69 F l1 l2 s0 M) := by
  rw [Md_markOf_L69]
  refine g_istore_n (ls' := [some (.ref (κ.b + 249)), some (.int l1), some (.int l2), some (.int s0)]) hC d_Md_markOf_69 rfl rfl ?_
  refine g_iload_n hC d_Md_markOf_70 rfl ?_
  refine g_iconst hC d_Md_markOf_71 k_i2 ?_
  refine g_icmp_ne (tgt := 85) hC d_Md_markOf_72 (by decide) (fun _ => ?_) (fun _ => ?_)
  · refine g_iload_n hC d_Md_markOf_85 rfl ?_
    exact g_iret hC hR d_Md_markOf_86
  · refine g_iload_n hC d_Md_markOf_75 rfl ?_
    refine g_aload_n hC d_Md_markOf_76 rfl ?_
    refine g_iload_n hC d_Md_markOf_77 rfl ?_
    refine gv_callVi hC [.int l1] cw_Md_364 (Md_modSize_c F l1 M) lc_249 rfl rfl rfl rfl rfl rfl rfl d_Md_markOf_78 (fun r10 M11 => ?_)
    refine g_iadd hC d_Md_markOf_81 ?_
    refine g_goto (tgt := 86) hC d_Md_markOf_82 (by decide) ?_
    exact g_iret hC hR d_Md_markOf_86
set_option maxHeartbeats 2000000 in
theorem Md_markOf_L30_g {κ : tv_Kt} (hC : tv_Cx κ "TiedViewsModel" prog_14_method_76_code 4 3) (hR : tv_Re κ (some .int)) (F : Nat) (l1 : Int32) (l2 : Int32) (s0 : Int32) (M : tv_M) : tv_G κ 4 (tv_Qm κ tv_ei) 30 [some (.ref (κ.b + 249)), some (.int l1), some (.int l2), none] [.int s0, .ref (κ.b + 249)] M (Md_markOf_L30 F l1 l2 s0 M) := by
  rw [Md_markOf_L30]
  refine gv_callVv hC [.int s0] cw_Md_358 (Md_began_c F s0 M) lc_249 rfl rfl rfl rfl rfl rfl rfl d_Md_markOf_30 (fun r5 M6 => ?_)
  refine g_aload_n hC d_Md_markOf_33 rfl ?_
  refine g_bipush hC d_Md_markOf_34 k_b20 ?_
  refine gv_callVv hC [.int 20] cw_Md_358 (Md_began_c F 20 M6) lc_249 rfl rfl rfl rfl rfl rfl rfl d_Md_markOf_36 (fun r7 M8 => ?_)
  refine g_iload_n hC d_Md_markOf_39 rfl ?_
  refine g_iconst hC d_Md_markOf_40 k_i4 ?_
  refine g_icmp_ne (tgt := 52) hC d_Md_markOf_41 (by decide) (fun _ => ?_) (fun _ => ?_)
  · refine g_aload_n hC d_Md_markOf_52 rfl ?_
    refine fg_Md_79 hC lc_249 d_Md_markOf_53 p0_249_41 ?_
    refine g_iload_n hC d_Md_markOf_56 rfl ?_
    refine gv_zald hC ly_270 d_Md_markOf_57 (fun x9 => ?_)
    refine g_if_eq (tgt := 68) hC d_Md_markOf_58 (by decide) (fun _ => ?_) (fun _ => ?_)
    · refine g_iload_n hC d_Md_markOf_68 rfl ?_
      exact Md_markOf_L69_g hC hR F l1 l2 l1 M8
    · refine g_iload_n hC d_Md_markOf_61 rfl ?_
      refine g_bipush hC d_Md_markOf_62 k_b100 ?_
      refine g_iadd hC d_Md_markOf_64 ?_
      refine g_goto (tgt := 69) hC d_Md_markOf_65 (by decide) ?_
      exact Md_markOf_L69_g hC hR F l1 l2 (l1 + 100) M8
  · refine g_iload_n hC d_Md_markOf_44 rfl ?_
    refine g_sipush hC d_Md_markOf_45 k_s1000 ?_
    refine g_iadd hC d_Md_markOf_48 ?_
    refine g_goto (tgt := 69) hC d_Md_markOf_49 (by decide) ?_
    exact Md_markOf_L69_g hC hR F l1 l2 (l1 + 1000) M8
set_option maxHeartbeats 2000000 in
theorem Md_markOf_c {l : Launch} {θ : tv_Th} (F : Nat) (a1 : Int32) (M : tv_M) : tv_Ct l θ ⟨"TiedViewsModel", "markOf", "(I)I"⟩ prog_14_method_76_code 4 (some .int) 3 tv_ei [.ref (θ.1 + 249), .int a1] M (Md_markOf F a1 M) := by
  refine tv_ofG [some (.ref (θ.1 + 249)), some (.int a1), none, none] rfl rfl (tv_ent 2 rfl) ?_
  intro κ hl ht hC hR
  subst hl; subst ht
  unfold Md_markOf
  refine g_aload_n hC d_Md_markOf_0 rfl ?_
  refine g_iload_n hC d_Md_markOf_1 rfl ?_
  refine gv_callVi hC [.int a1] cw_Md_349 (Md_kindOf_c F a1 M) lc_249 rfl rfl rfl rfl rfl rfl rfl d_Md_markOf_2 (fun r1 M2 => ?_)
  refine g_istore_n (ls' := [some (.ref (κ.b + 249)), some (.int a1), some (.int r1), none]) hC d_Md_markOf_5 rfl rfl ?_
  refine g_iload_n hC d_Md_markOf_6 rfl ?_
  refine g_iconst hC d_Md_markOf_7 k_i2 ?_
  refine g_icmp_ne (tgt := 17) hC d_Md_markOf_8 (by decide) (fun _ => ?_) (fun _ => ?_)
  · refine g_aload_n hC d_Md_markOf_17 rfl ?_
    refine g_iload_n hC d_Md_markOf_18 rfl ?_
    refine g_iconst hC d_Md_markOf_19 k_i4 ?_
    refine g_icmp_ne (tgt := 28) hC d_Md_markOf_20 (by decide) (fun _ => ?_) (fun _ => ?_)
    · refine g_bipush hC d_Md_markOf_28 k_b21 ?_
      exact Md_markOf_L30_g hC hR F a1 r1 21 M2
    · refine g_bipush hC d_Md_markOf_23 k_b23 ?_
      refine g_goto (tgt := 30) hC d_Md_markOf_25 (by decide) ?_
      exact Md_markOf_L30_g hC hR F a1 r1 23 M2
  · refine g_aload_n hC d_Md_markOf_11 rfl ?_
    refine g_bipush hC d_Md_markOf_12 k_b22 ?_
    refine gv_callVv hC [.int 22] cw_Md_358 (Md_began_c F 22 M2) lc_249 rfl rfl rfl rfl rfl rfl rfl d_Md_markOf_14 (fun r3 M4 => ?_)
    refine g_aload_n hC d_Md_markOf_17 rfl ?_
    refine g_iload_n hC d_Md_markOf_18 rfl ?_
    refine g_iconst hC d_Md_markOf_19 k_i4 ?_
    refine g_icmp_ne (tgt := 28) hC d_Md_markOf_20 (by decide) (fun _ => ?_) (fun _ => ?_)
    · refine g_bipush hC d_Md_markOf_28 k_b21 ?_
      exact Md_markOf_L30_g hC hR F a1 r1 21 M4
    · refine g_bipush hC d_Md_markOf_23 k_b23 ?_
      refine g_goto (tgt := 30) hC d_Md_markOf_25 (by decide) ?_
      exact Md_markOf_L30_g hC hR F a1 r1 23 M4
theorem d_Md_sizeOf_0 : decode prog_14_method_77_code 0 = .ok (.aload_n 0, 1) := by decide +kernel
theorem d_Md_sizeOf_1 : decode prog_14_method_77_code 1 = .ok (.iload_n 1, 1) := by decide +kernel
theorem d_Md_sizeOf_2 : decode prog_14_method_77_code 2 = .ok (.invokevirtual 349, 3) := by decide +kernel
theorem d_Md_sizeOf_5 : decode prog_14_method_77_code 5 = .ok (.istore_n 2, 1) := by decide +kernel
theorem d_Md_sizeOf_6 : decode prog_14_method_77_code 6 = .ok (.iload_n 2, 1) := by decide +kernel
theorem d_Md_sizeOf_7 : decode prog_14_method_77_code 7 = .ok (.iconst 2, 1) := by decide +kernel
theorem d_Md_sizeOf_8 : decode prog_14_method_77_code 8 = .ok (.if_icmp .ne 9, 3) := by decide +kernel
theorem d_Md_sizeOf_11 : decode prog_14_method_77_code 11 = .ok (.aload_n 0, 1) := by decide +kernel
theorem d_Md_sizeOf_12 : decode prog_14_method_77_code 12 = .ok (.iload_n 1, 1) := by decide +kernel
theorem d_Md_sizeOf_13 : decode prog_14_method_77_code 13 = .ok (.invokevirtual 364, 3) := by decide +kernel
theorem d_Md_sizeOf_16 : decode prog_14_method_77_code 16 = .ok (.ireturn, 1) := by decide +kernel
theorem d_Md_sizeOf_17 : decode prog_14_method_77_code 17 = .ok (.iload_n 2, 1) := by decide +kernel
theorem d_Md_sizeOf_18 : decode prog_14_method_77_code 18 = .ok (.iconst 4, 1) := by decide +kernel
theorem d_Md_sizeOf_19 : decode prog_14_method_77_code 19 = .ok (.if_icmp .ne 32, 3) := by decide +kernel
theorem d_Md_sizeOf_22 : decode prog_14_method_77_code 22 = .ok (.aload_n 0, 1) := by decide +kernel
theorem d_Md_sizeOf_23 : decode prog_14_method_77_code 23 = .ok (.bipush 14, 2) := by decide +kernel
theorem d_Md_sizeOf_25 : decode prog_14_method_77_code 25 = .ok (.invokevirtual 358, 3) := by decide +kernel
theorem d_Md_sizeOf_28 : decode prog_14_method_77_code 28 = .ok (.aload_n 0, 1) := by decide +kernel
theorem d_Md_sizeOf_29 : decode prog_14_method_77_code 29 = .ok (.bipush 10, 2) := by decide +kernel
theorem d_Md_sizeOf_31 : decode prog_14_method_77_code 31 = .ok (.invokevirtual 358, 3) := by decide +kernel
theorem d_Md_sizeOf_34 : decode prog_14_method_77_code 34 = .ok (.aload_n 0, 1) := by decide +kernel
theorem d_Md_sizeOf_35 : decode prog_14_method_77_code 35 = .ok (.getfield 30, 3) := by decide +kernel
theorem d_Md_sizeOf_38 : decode prog_14_method_77_code 38 = .ok (.iload_n 1, 1) := by decide +kernel
theorem d_Md_sizeOf_39 : decode prog_14_method_77_code 39 = .ok (.iaload, 1) := by decide +kernel
theorem d_Md_sizeOf_40 : decode prog_14_method_77_code 40 = .ok (.aload_n 0, 1) := by decide +kernel
theorem d_Md_sizeOf_41 : decode prog_14_method_77_code 41 = .ok (.getfield 63, 3) := by decide +kernel
theorem d_Md_sizeOf_44 : decode prog_14_method_77_code 44 = .ok (.iload_n 1, 1) := by decide +kernel
theorem d_Md_sizeOf_45 : decode prog_14_method_77_code 45 = .ok (.iaload, 1) := by decide +kernel
theorem d_Md_sizeOf_46 : decode prog_14_method_77_code 46 = .ok (.invokestatic 310, 3) := by decide +kernel
theorem d_Md_sizeOf_49 : decode prog_14_method_77_code 49 = .ok (.iadd, 1) := by decide +kernel
theorem d_Md_sizeOf_50 : decode prog_14_method_77_code 50 = .ok (.ireturn, 1) := by decide +kernel
theorem d_Md_sizeOf_51 : decode prog_14_method_77_code 51 = .ok (.iload_n 2, 1) := by decide +kernel
theorem d_Md_sizeOf_52 : decode prog_14_method_77_code 52 = .ok (.iconst 3, 1) := by decide +kernel
theorem d_Md_sizeOf_53 : decode prog_14_method_77_code 53 = .ok (.if_icmp .ne 9, 3) := by decide +kernel
theorem d_Md_sizeOf_56 : decode prog_14_method_77_code 56 = .ok (.aload_n 0, 1) := by decide +kernel
theorem d_Md_sizeOf_57 : decode prog_14_method_77_code 57 = .ok (.bipush 13, 2) := by decide +kernel
theorem d_Md_sizeOf_59 : decode prog_14_method_77_code 59 = .ok (.invokevirtual 358, 3) := by decide +kernel
theorem d_Md_sizeOf_62 : decode prog_14_method_77_code 62 = .ok (.aload_n 0, 1) := by decide +kernel
theorem d_Md_sizeOf_63 : decode prog_14_method_77_code 63 = .ok (.iload_n 1, 1) := by decide +kernel
theorem d_Md_sizeOf_64 : decode prog_14_method_77_code 64 = .ok (.invokevirtual 361, 3) := by decide +kernel
theorem d_Md_sizeOf_67 : decode prog_14_method_77_code 67 = .ok (.istore_n 3, 1) := by decide +kernel
theorem d_Md_sizeOf_68 : decode prog_14_method_77_code 68 = .ok (.iload_n 2, 1) := by decide +kernel
theorem d_Md_sizeOf_69 : decode prog_14_method_77_code 69 = .ok (.iconst 3, 1) := by decide +kernel
theorem d_Md_sizeOf_70 : decode prog_14_method_77_code 70 = .ok (.if_icmp .ne 13, 3) := by decide +kernel
theorem d_Md_sizeOf_73 : decode prog_14_method_77_code 73 = .ok (.iload_n 3, 1) := by decide +kernel
theorem d_Md_sizeOf_74 : decode prog_14_method_77_code 74 = .ok (.aload_n 0, 1) := by decide +kernel
theorem d_Md_sizeOf_75 : decode prog_14_method_77_code 75 = .ok (.iload_n 1, 1) := by decide +kernel
theorem d_Md_sizeOf_76 : decode prog_14_method_77_code 76 = .ok (.invokevirtual 367, 3) := by decide +kernel
theorem d_Md_sizeOf_79 : decode prog_14_method_77_code 79 = .ok (.isub, 1) := by decide +kernel
theorem d_Md_sizeOf_80 : decode prog_14_method_77_code 80 = .ok (.goto 4, 3) := by decide +kernel
theorem d_Md_sizeOf_83 : decode prog_14_method_77_code 83 = .ok (.iload_n 3, 1) := by decide +kernel
theorem d_Md_sizeOf_84 : decode prog_14_method_77_code 84 = .ok (.ireturn, 1) := by decide +kernel
set_option maxHeartbeats 2000000 in
theorem Md_sizeOf_L62_g {κ : tv_Kt} (hC : tv_Cx κ "TiedViewsModel" prog_14_method_77_code 4 4) (hR : tv_Re κ (some .int)) (F : Nat) (l1 : Int32) (l2 : Int32) (M : tv_M) : tv_G κ 4 (tv_Qm κ tv_ei) 62 [some (.ref (κ.b + 249)), some (.int l1), some (.int l2), none] [] M (Md_sizeOf_L62 F l1 l2 M) := by
  rw [Md_sizeOf_L62]
  refine g_aload_n hC d_Md_sizeOf_62 rfl ?_
  refine g_iload_n hC d_Md_sizeOf_63 rfl ?_
  refine gv_callVi hC [.int l1] cw_Md_361 (Md_linearSize_c F l1 M) lc_249 rfl rfl rfl rfl rfl rfl rfl d_Md_sizeOf_64 (fun r15 M16 => ?_)
  refine g_istore_n (ls' := [some (.ref (κ.b + 249)), some (.int l1), some (.int l2), some (.int r15)]) hC d_Md_sizeOf_67 rfl rfl ?_
  refine g_iload_n hC d_Md_sizeOf_68 rfl ?_
  refine g_iconst hC d_Md_sizeOf_69 k_i3 ?_
  refine g_icmp_ne (tgt := 83) hC d_Md_sizeOf_70 (by decide) (fun _ => ?_) (fun _ => ?_)
  · refine g_iload_n hC d_Md_sizeOf_83 rfl ?_
    exact g_iret hC hR d_Md_sizeOf_84
  · refine g_iload_n hC d_Md_sizeOf_73 rfl ?_
    refine g_aload_n hC d_Md_sizeOf_74 rfl ?_
    refine g_iload_n hC d_Md_sizeOf_75 rfl ?_
    refine gv_callVi hC [.int l1] cw_Md_367 (Md_markOf_c F l1 M16) lc_249 rfl rfl rfl rfl rfl rfl rfl d_Md_sizeOf_76 (fun r17 M18 => ?_)
    refine g_isub hC d_Md_sizeOf_79 ?_
    refine g_goto (tgt := 84) hC d_Md_sizeOf_80 (by decide) ?_
    exact g_iret hC hR d_Md_sizeOf_84
set_option maxHeartbeats 2000000 in
theorem Md_sizeOf_c {l : Launch} {θ : tv_Th} (F : Nat) (a1 : Int32) (M : tv_M) : tv_Ct l θ ⟨"TiedViewsModel", "sizeOf", "(I)I"⟩ prog_14_method_77_code 4 (some .int) 4 tv_ei [.ref (θ.1 + 249), .int a1] M (Md_sizeOf F a1 M) := by
  refine tv_ofG [some (.ref (θ.1 + 249)), some (.int a1), none, none] rfl rfl (tv_ent 2 rfl) ?_
  intro κ hl ht hC hR
  subst hl; subst ht
  unfold Md_sizeOf
  refine g_aload_n hC d_Md_sizeOf_0 rfl ?_
  refine g_iload_n hC d_Md_sizeOf_1 rfl ?_
  refine gv_callVi hC [.int a1] cw_Md_349 (Md_kindOf_c F a1 M) lc_249 rfl rfl rfl rfl rfl rfl rfl d_Md_sizeOf_2 (fun r1 M2 => ?_)
  refine g_istore_n (ls' := [some (.ref (κ.b + 249)), some (.int a1), some (.int r1), none]) hC d_Md_sizeOf_5 rfl rfl ?_
  refine g_iload_n hC d_Md_sizeOf_6 rfl ?_
  refine g_iconst hC d_Md_sizeOf_7 k_i2 ?_
  refine g_icmp_ne (tgt := 17) hC d_Md_sizeOf_8 (by decide) (fun _ => ?_) (fun _ => ?_)
  · refine g_iload_n hC d_Md_sizeOf_17 rfl ?_
    refine g_iconst hC d_Md_sizeOf_18 k_i4 ?_
    refine g_icmp_ne (tgt := 51) hC d_Md_sizeOf_19 (by decide) (fun _ => ?_) (fun _ => ?_)
    · refine g_iload_n hC d_Md_sizeOf_51 rfl ?_
      refine g_iconst hC d_Md_sizeOf_52 k_i3 ?_
      refine g_icmp_ne (tgt := 62) hC d_Md_sizeOf_53 (by decide) (fun _ => ?_) (fun _ => ?_)
      · exact Md_sizeOf_L62_g hC hR F a1 r1 M2
      · refine g_aload_n hC d_Md_sizeOf_56 rfl ?_
        refine g_bipush hC d_Md_sizeOf_57 k_b13 ?_
        refine gv_callVv hC [.int 13] cw_Md_358 (Md_began_c F 13 M2) lc_249 rfl rfl rfl rfl rfl rfl rfl d_Md_sizeOf_59 (fun r3 M4 => ?_)
        exact Md_sizeOf_L62_g hC hR F a1 r1 M4
    · refine g_aload_n hC d_Md_sizeOf_22 rfl ?_
      refine g_bipush hC d_Md_sizeOf_23 k_b14 ?_
      refine gv_callVv hC [.int 14] cw_Md_358 (Md_began_c F 14 M2) lc_249 rfl rfl rfl rfl rfl rfl rfl d_Md_sizeOf_25 (fun r5 M6 => ?_)
      refine g_aload_n hC d_Md_sizeOf_28 rfl ?_
      refine g_bipush hC d_Md_sizeOf_29 k_b10 ?_
      refine gv_callVv hC [.int 10] cw_Md_358 (Md_began_c F 10 M6) lc_249 rfl rfl rfl rfl rfl rfl rfl d_Md_sizeOf_31 (fun r7 M8 => ?_)
      refine g_aload_n hC d_Md_sizeOf_34 rfl ?_
      refine fg_Md_30 hC lc_249 d_Md_sizeOf_35 p0_249_8 ?_
      refine g_iload_n hC d_Md_sizeOf_38 rfl ?_
      refine gv_iald hC ly_254 d_Md_sizeOf_39 (fun x9 => ?_)
      refine g_aload_n hC d_Md_sizeOf_40 rfl ?_
      refine fg_Md_63 hC lc_249 d_Md_sizeOf_41 p0_249_22 ?_
      refine g_iload_n hC d_Md_sizeOf_44 rfl ?_
      refine gv_iald hC ly_265 d_Md_sizeOf_45 (fun x10 => ?_)
      refine gv_callSi hC [.int x10] cw_Md_310 (Md_bits_c F x10 M8) rfl rfl rfl rfl rfl d_Md_sizeOf_46 (fun r11 M12 => ?_)
      refine g_iadd hC d_Md_sizeOf_49 ?_
      exact g_iret hC hR d_Md_sizeOf_50
  · refine g_aload_n hC d_Md_sizeOf_11 rfl ?_
    refine g_iload_n hC d_Md_sizeOf_12 rfl ?_
    refine gv_callVi hC [.int a1] cw_Md_364 (Md_modSize_c F a1 M2) lc_249 rfl rfl rfl rfl rfl rfl rfl d_Md_sizeOf_13 (fun r13 M14 => ?_)
    exact g_iret hC hR d_Md_sizeOf_16
theorem d_Md_ask_0 : decode prog_14_method_78_code 0 = .ok (.aload_n 0, 1) := by decide +kernel
theorem d_Md_ask_1 : decode prog_14_method_78_code 1 = .ok (.iconst 0, 1) := by decide +kernel
theorem d_Md_ask_2 : decode prog_14_method_78_code 2 = .ok (.putfield 1, 3) := by decide +kernel
theorem d_Md_ask_5 : decode prog_14_method_78_code 5 = .ok (.aload_n 0, 1) := by decide +kernel
theorem d_Md_ask_6 : decode prog_14_method_78_code 6 = .ok (.iload_n 1, 1) := by decide +kernel
theorem d_Md_ask_7 : decode prog_14_method_78_code 7 = .ok (.invokevirtual 263, 3) := by decide +kernel
theorem d_Md_ask_10 : decode prog_14_method_78_code 10 = .ok (.ifCond .eq 13, 3) := by decide +kernel
theorem d_Md_ask_13 : decode prog_14_method_78_code 13 = .ok (.iload_n 2, 1) := by decide +kernel
theorem d_Md_ask_14 : decode prog_14_method_78_code 14 = .ok (.i2l, 1) := by decide +kernel
theorem d_Md_ask_15 : decode prog_14_method_78_code 15 = .ok (.lconst 0, 1) := by decide +kernel
theorem d_Md_ask_16 : decode prog_14_method_78_code 16 = .ok (.lconst 1, 1) := by decide +kernel
theorem d_Md_ask_17 : decode prog_14_method_78_code 17 = .ok (.invokestatic 115, 3) := by decide +kernel
theorem d_Md_ask_20 : decode prog_14_method_78_code 20 = .ok (.ifCond .ne 6, 3) := by decide +kernel
theorem d_Md_ask_23 : decode prog_14_method_78_code 23 = .ok (.ldc 127, 2) := by decide +kernel
theorem d_Md_ask_25 : decode prog_14_method_78_code 25 = .ok (.ireturn, 1) := by decide +kernel
theorem d_Md_ask_26 : decode prog_14_method_78_code 26 = .ok (.aload_n 0, 1) := by decide +kernel
theorem d_Md_ask_27 : decode prog_14_method_78_code 27 = .ok (.iconst 0, 1) := by decide +kernel
theorem d_Md_ask_28 : decode prog_14_method_78_code 28 = .ok (.putfield 355, 3) := by decide +kernel
theorem d_Md_ask_31 : decode prog_14_method_78_code 31 = .ok (.iload_n 2, 1) := by decide +kernel
theorem d_Md_ask_32 : decode prog_14_method_78_code 32 = .ok (.ifCond .ne 11, 3) := by decide +kernel
theorem d_Md_ask_35 : decode prog_14_method_78_code 35 = .ok (.aload_n 0, 1) := by decide +kernel
theorem d_Md_ask_36 : decode prog_14_method_78_code 36 = .ok (.iload_n 1, 1) := by decide +kernel
theorem d_Md_ask_37 : decode prog_14_method_78_code 37 = .ok (.invokevirtual 370, 3) := by decide +kernel
theorem d_Md_ask_40 : decode prog_14_method_78_code 40 = .ok (.goto 8, 3) := by decide +kernel
theorem d_Md_ask_43 : decode prog_14_method_78_code 43 = .ok (.aload_n 0, 1) := by decide +kernel
theorem d_Md_ask_44 : decode prog_14_method_78_code 44 = .ok (.iload_n 1, 1) := by decide +kernel
theorem d_Md_ask_45 : decode prog_14_method_78_code 45 = .ok (.invokevirtual 367, 3) := by decide +kernel
theorem d_Md_ask_48 : decode prog_14_method_78_code 48 = .ok (.ireturn, 1) := by decide +kernel
set_option maxHeartbeats 2000000 in
theorem Md_ask_c {l : Launch} {θ : tv_Th} (F : Nat) (a1 : Int32) (a2 : Int32) (M : tv_M) : tv_Ct l θ ⟨"TiedViewsModel", "ask", "(II)I"⟩ prog_14_method_78_code 3 (some .int) 5 tv_ei [.ref (θ.1 + 249), .int a1, .int a2] M (Md_ask F a1 a2 M) := by
  refine tv_ofG [some (.ref (θ.1 + 249)), some (.int a1), some (.int a2)] rfl rfl (tv_ent 0 rfl) ?_
  intro κ hl ht hC hR
  subst hl; subst ht
  unfold Md_ask
  refine g_aload_n hC d_Md_ask_0 rfl ?_
  refine g_iconst hC d_Md_ask_1 k_i0 ?_
  refine fp_Md_1 hC lc_249 d_Md_ask_2 (fun M1 => ?_)
  refine g_aload_n hC d_Md_ask_5 rfl ?_
  refine g_iload_n hC d_Md_ask_6 rfl ?_
  refine gv_callVi hC [.int a1] cw_Md_263 (Md_isEye_c F a1 M1) lc_249 rfl rfl rfl rfl rfl rfl rfl d_Md_ask_7 (fun r2 M3 => ?_)
  refine g_if_eq (tgt := 23) hC d_Md_ask_10 (by decide) (fun _ => ?_) (fun _ => ?_)
  · refine g_ldc hC d_Md_ask_23 wk_Md_127 ?_
    exact g_iret hC hR d_Md_ask_25
  · refine g_iload_n hC d_Md_ask_13 rfl ?_
    refine g_i2l hC d_Md_ask_14 ?_
    refine g_lconst hC d_Md_ask_15 k_l0 ?_
    refine g_lconst hC d_Md_ask_16 k_l1 ?_
    refine gv_callSi hC [.long ((a2 : Int32).toInt64), .long 0, .long 1] cw_Md_115 (Md_in_c F ((a2 : Int32).toInt64) 0 1 M3) rfl rfl rfl rfl rfl d_Md_ask_17 (fun r4 M5 => ?_)
    refine g_if_ne (tgt := 26) hC d_Md_ask_20 (by decide) (fun _ => ?_) (fun _ => ?_)
    · refine g_aload_n hC d_Md_ask_26 rfl ?_
      refine g_iconst hC d_Md_ask_27 k_i0 ?_
      refine fp_Md_355 hC lc_249 d_Md_ask_28 (fun M6 => ?_)
      refine g_iload_n hC d_Md_ask_31 rfl ?_
      refine g_if_ne (tgt := 43) hC d_Md_ask_32 (by decide) (fun _ => ?_) (fun _ => ?_)
      · refine g_aload_n hC d_Md_ask_43 rfl ?_
        refine g_iload_n hC d_Md_ask_44 rfl ?_
        refine gv_callVi hC [.int a1] cw_Md_367 (Md_markOf_c F a1 M6) lc_249 rfl rfl rfl rfl rfl rfl rfl d_Md_ask_45 (fun r7 M8 => ?_)
        exact g_iret hC hR d_Md_ask_48
      · refine g_aload_n hC d_Md_ask_35 rfl ?_
        refine g_iload_n hC d_Md_ask_36 rfl ?_
        refine gv_callVi hC [.int a1] cw_Md_370 (Md_sizeOf_c F a1 M6) lc_249 rfl rfl rfl rfl rfl rfl rfl d_Md_ask_37 (fun r9 M10 => ?_)
        refine g_goto (tgt := 48) hC d_Md_ask_40 (by decide) ?_
        exact g_iret hC hR d_Md_ask_48
    · refine g_ldc hC d_Md_ask_23 wk_Md_127 ?_
      exact g_iret hC hR d_Md_ask_25
theorem d_Md_trace_0 : decode prog_14_method_79_code 0 = .ok (.aload_n 0, 1) := by decide +kernel
theorem d_Md_trace_1 : decode prog_14_method_79_code 1 = .ok (.iconst 0, 1) := by decide +kernel
theorem d_Md_trace_2 : decode prog_14_method_79_code 2 = .ok (.putfield 1, 3) := by decide +kernel
theorem d_Md_trace_5 : decode prog_14_method_79_code 5 = .ok (.iload_n 1, 1) := by decide +kernel
theorem d_Md_trace_6 : decode prog_14_method_79_code 6 = .ok (.i2l, 1) := by decide +kernel
theorem d_Md_trace_7 : decode prog_14_method_79_code 7 = .ok (.lconst 0, 1) := by decide +kernel
theorem d_Md_trace_8 : decode prog_14_method_79_code 8 = .ok (.aload_n 0, 1) := by decide +kernel
theorem d_Md_trace_9 : decode prog_14_method_79_code 9 = .ok (.getfield 355, 3) := by decide +kernel
theorem d_Md_trace_12 : decode prog_14_method_79_code 12 = .ok (.iconst 1, 1) := by decide +kernel
theorem d_Md_trace_13 : decode prog_14_method_79_code 13 = .ok (.isub, 1) := by decide +kernel
theorem d_Md_trace_14 : decode prog_14_method_79_code 14 = .ok (.i2l, 1) := by decide +kernel
theorem d_Md_trace_15 : decode prog_14_method_79_code 15 = .ok (.invokestatic 115, 3) := by decide +kernel
theorem d_Md_trace_18 : decode prog_14_method_79_code 18 = .ok (.ifCond .eq 12, 3) := by decide +kernel
theorem d_Md_trace_21 : decode prog_14_method_79_code 21 = .ok (.aload_n 0, 1) := by decide +kernel
theorem d_Md_trace_22 : decode prog_14_method_79_code 22 = .ok (.getfield 109, 3) := by decide +kernel
theorem d_Md_trace_25 : decode prog_14_method_79_code 25 = .ok (.iload_n 1, 1) := by decide +kernel
theorem d_Md_trace_26 : decode prog_14_method_79_code 26 = .ok (.iaload, 1) := by decide +kernel
theorem d_Md_trace_27 : decode prog_14_method_79_code 27 = .ok (.goto 5, 3) := by decide +kernel
theorem d_Md_trace_30 : decode prog_14_method_79_code 30 = .ok (.ldc 146, 2) := by decide +kernel
theorem d_Md_trace_32 : decode prog_14_method_79_code 32 = .ok (.ireturn, 1) := by decide +kernel
set_option maxHeartbeats 2000000 in
theorem Md_trace_c {l : Launch} {θ : tv_Th} (F : Nat) (a1 : Int32) (M : tv_M) : tv_Ct l θ ⟨"TiedViewsModel", "trace", "(I)I"⟩ prog_14_method_79_code 2 (some .int) 1 tv_ei [.ref (θ.1 + 249), .int a1] M (Md_trace F a1 M) := by
  refine tv_ofG [some (.ref (θ.1 + 249)), some (.int a1)] rfl rfl (tv_ent 0 rfl) ?_
  intro κ hl ht hC hR
  subst hl; subst ht
  unfold Md_trace
  refine g_aload_n hC d_Md_trace_0 rfl ?_
  refine g_iconst hC d_Md_trace_1 k_i0 ?_
  refine fp_Md_1 hC lc_249 d_Md_trace_2 (fun M1 => ?_)
  refine g_iload_n hC d_Md_trace_5 rfl ?_
  refine g_i2l hC d_Md_trace_6 ?_
  refine g_lconst hC d_Md_trace_7 k_l0 ?_
  refine g_aload_n hC d_Md_trace_8 rfl ?_
  refine fg_Md_355 hC lc_249 d_Md_trace_9 ?_
  refine g_iconst hC d_Md_trace_12 k_i1 ?_
  refine g_isub hC d_Md_trace_13 ?_
  refine g_i2l hC d_Md_trace_14 ?_
  refine gv_callSi hC [.long ((a1 : Int32).toInt64), .long 0, .long (((M1.1 249 54) - 1 : Int32).toInt64)] cw_Md_115 (Md_in_c F ((a1 : Int32).toInt64) 0 (((M1.1 249 54) - 1 : Int32).toInt64) M1) rfl rfl rfl rfl rfl d_Md_trace_15 (fun r2 M3 => ?_)
  refine g_if_eq (tgt := 30) hC d_Md_trace_18 (by decide) (fun _ => ?_) (fun _ => ?_)
  · refine g_ldc hC d_Md_trace_30 wk_Md_146 ?_
    exact g_iret hC hR d_Md_trace_32
  · refine g_aload_n hC d_Md_trace_21 rfl ?_
    refine fg_Md_109 hC lc_249 d_Md_trace_22 p0_249_53 ?_
    refine g_iload_n hC d_Md_trace_25 rfl ?_
    refine gv_iald hC ly_280 d_Md_trace_26 (fun x4 => ?_)
    refine g_goto (tgt := 32) hC d_Md_trace_27 (by decide) ?_
    exact g_iret hC hR d_Md_trace_32
theorem d_Md_count_0 : decode prog_14_method_80_code 0 = .ok (.aload_n 0, 1) := by decide +kernel
theorem d_Md_count_1 : decode prog_14_method_80_code 1 = .ok (.iconst 0, 1) := by decide +kernel
theorem d_Md_count_2 : decode prog_14_method_80_code 2 = .ok (.putfield 1, 3) := by decide +kernel
theorem d_Md_count_5 : decode prog_14_method_80_code 5 = .ok (.iconst 0, 1) := by decide +kernel
theorem d_Md_count_6 : decode prog_14_method_80_code 6 = .ok (.istore_n 2, 1) := by decide +kernel
theorem d_Md_count_7 : decode prog_14_method_80_code 7 = .ok (.iload_n 1, 1) := by decide +kernel
theorem d_Md_count_8 : decode prog_14_method_80_code 8 = .ok (.tableswitch 159 0 8 #[52, 85, 90, 95, 100, 108, 113, 149, 154], 52) := by decide +kernel
theorem d_Md_count_60 : decode prog_14_method_80_code 60 = .ok (.iconst 0, 1) := by decide +kernel
theorem d_Md_count_61 : decode prog_14_method_80_code 61 = .ok (.istore_n 3, 1) := by decide +kernel
theorem d_Md_count_62 : decode prog_14_method_80_code 62 = .ok (.iload_n 3, 1) := by decide +kernel
theorem d_Md_count_63 : decode prog_14_method_80_code 63 = .ok (.bipush 8, 2) := by decide +kernel
theorem d_Md_count_65 : decode prog_14_method_80_code 65 = .ok (.if_icmp .ge 26, 3) := by decide +kernel
theorem d_Md_count_68 : decode prog_14_method_80_code 68 = .ok (.iload_n 2, 1) := by decide +kernel
theorem d_Md_count_69 : decode prog_14_method_80_code 69 = .ok (.aload_n 0, 1) := by decide +kernel
theorem d_Md_count_70 : decode prog_14_method_80_code 70 = .ok (.getfield 17, 3) := by decide +kernel
theorem d_Md_count_73 : decode prog_14_method_80_code 73 = .ok (.iload_n 3, 1) := by decide +kernel
theorem d_Md_count_74 : decode prog_14_method_80_code 74 = .ok (.iaload, 1) := by decide +kernel
theorem d_Md_count_75 : decode prog_14_method_80_code 75 = .ok (.ifCond .lt 7, 3) := by decide +kernel
theorem d_Md_count_78 : decode prog_14_method_80_code 78 = .ok (.iconst 1, 1) := by decide +kernel
theorem d_Md_count_79 : decode prog_14_method_80_code 79 = .ok (.goto 4, 3) := by decide +kernel
theorem d_Md_count_82 : decode prog_14_method_80_code 82 = .ok (.iconst 0, 1) := by decide +kernel
theorem d_Md_count_83 : decode prog_14_method_80_code 83 = .ok (.iadd, 1) := by decide +kernel
theorem d_Md_count_84 : decode prog_14_method_80_code 84 = .ok (.istore_n 2, 1) := by decide +kernel
theorem d_Md_count_85 : decode prog_14_method_80_code 85 = .ok (.iinc 3 1, 3) := by decide +kernel
theorem d_Md_count_88 : decode prog_14_method_80_code 88 = .ok (.goto (-26), 3) := by decide +kernel
theorem d_Md_count_91 : decode prog_14_method_80_code 91 = .ok (.iload_n 2, 1) := by decide +kernel
theorem d_Md_count_92 : decode prog_14_method_80_code 92 = .ok (.ireturn, 1) := by decide +kernel
theorem d_Md_count_93 : decode prog_14_method_80_code 93 = .ok (.aload_n 0, 1) := by decide +kernel
theorem d_Md_count_94 : decode prog_14_method_80_code 94 = .ok (.getfield 232, 3) := by decide +kernel
theorem d_Md_count_97 : decode prog_14_method_80_code 97 = .ok (.ireturn, 1) := by decide +kernel
theorem d_Md_count_98 : decode prog_14_method_80_code 98 = .ok (.aload_n 0, 1) := by decide +kernel
theorem d_Md_count_99 : decode prog_14_method_80_code 99 = .ok (.getfield 238, 3) := by decide +kernel
theorem d_Md_count_102 : decode prog_14_method_80_code 102 = .ok (.ireturn, 1) := by decide +kernel
theorem d_Md_count_103 : decode prog_14_method_80_code 103 = .ok (.aload_n 0, 1) := by decide +kernel
theorem d_Md_count_104 : decode prog_14_method_80_code 104 = .ok (.getfield 241, 3) := by decide +kernel
theorem d_Md_count_107 : decode prog_14_method_80_code 107 = .ok (.ireturn, 1) := by decide +kernel
theorem d_Md_count_108 : decode prog_14_method_80_code 108 = .ok (.aload_n 0, 1) := by decide +kernel
theorem d_Md_count_109 : decode prog_14_method_80_code 109 = .ok (.invokevirtual 304, 3) := by decide +kernel
theorem d_Md_count_112 : decode prog_14_method_80_code 112 = .ok (.invokestatic 310, 3) := by decide +kernel
theorem d_Md_count_115 : decode prog_14_method_80_code 115 = .ok (.ireturn, 1) := by decide +kernel
theorem d_Md_count_116 : decode prog_14_method_80_code 116 = .ok (.aload_n 0, 1) := by decide +kernel
theorem d_Md_count_117 : decode prog_14_method_80_code 117 = .ok (.getfield 315, 3) := by decide +kernel
theorem d_Md_count_120 : decode prog_14_method_80_code 120 = .ok (.ireturn, 1) := by decide +kernel
theorem d_Md_count_121 : decode prog_14_method_80_code 121 = .ok (.iconst 0, 1) := by decide +kernel
theorem d_Md_count_122 : decode prog_14_method_80_code 122 = .ok (.istore_n 3, 1) := by decide +kernel
theorem d_Md_count_123 : decode prog_14_method_80_code 123 = .ok (.iload_n 3, 1) := by decide +kernel
theorem d_Md_count_124 : decode prog_14_method_80_code 124 = .ok (.aload_n 0, 1) := by decide +kernel
theorem d_Md_count_125 : decode prog_14_method_80_code 125 = .ok (.getfield 232, 3) := by decide +kernel
theorem d_Md_count_128 : decode prog_14_method_80_code 128 = .ok (.if_icmp .ge 27, 3) := by decide +kernel
theorem d_Md_count_131 : decode prog_14_method_80_code 131 = .ok (.iload_n 2, 1) := by decide +kernel
theorem d_Md_count_132 : decode prog_14_method_80_code 132 = .ok (.aload_n 0, 1) := by decide +kernel
theorem d_Md_count_133 : decode prog_14_method_80_code 133 = .ok (.getfield 27, 3) := by decide +kernel
theorem d_Md_count_136 : decode prog_14_method_80_code 136 = .ok (.iload_n 3, 1) := by decide +kernel
theorem d_Md_count_137 : decode prog_14_method_80_code 137 = .ok (.iaload, 1) := by decide +kernel
theorem d_Md_count_138 : decode prog_14_method_80_code 138 = .ok (.iconst 3, 1) := by decide +kernel
theorem d_Md_count_139 : decode prog_14_method_80_code 139 = .ok (.if_icmp .ne 7, 3) := by decide +kernel
theorem d_Md_count_142 : decode prog_14_method_80_code 142 = .ok (.iconst 1, 1) := by decide +kernel
theorem d_Md_count_143 : decode prog_14_method_80_code 143 = .ok (.goto 4, 3) := by decide +kernel
theorem d_Md_count_146 : decode prog_14_method_80_code 146 = .ok (.iconst 0, 1) := by decide +kernel
theorem d_Md_count_147 : decode prog_14_method_80_code 147 = .ok (.iadd, 1) := by decide +kernel
theorem d_Md_count_148 : decode prog_14_method_80_code 148 = .ok (.istore_n 2, 1) := by decide +kernel
theorem d_Md_count_149 : decode prog_14_method_80_code 149 = .ok (.iinc 3 1, 3) := by decide +kernel
theorem d_Md_count_152 : decode prog_14_method_80_code 152 = .ok (.goto (-29), 3) := by decide +kernel
theorem d_Md_count_155 : decode prog_14_method_80_code 155 = .ok (.iload_n 2, 1) := by decide +kernel
theorem d_Md_count_156 : decode prog_14_method_80_code 156 = .ok (.ireturn, 1) := by decide +kernel
theorem d_Md_count_157 : decode prog_14_method_80_code 157 = .ok (.aload_n 0, 1) := by decide +kernel
theorem d_Md_count_158 : decode prog_14_method_80_code 158 = .ok (.getfield 137, 3) := by decide +kernel
theorem d_Md_count_161 : decode prog_14_method_80_code 161 = .ok (.ireturn, 1) := by decide +kernel
theorem d_Md_count_162 : decode prog_14_method_80_code 162 = .ok (.aload_n 0, 1) := by decide +kernel
theorem d_Md_count_163 : decode prog_14_method_80_code 163 = .ok (.getfield 112, 3) := by decide +kernel
theorem d_Md_count_166 : decode prog_14_method_80_code 166 = .ok (.ireturn, 1) := by decide +kernel
theorem d_Md_count_167 : decode prog_14_method_80_code 167 = .ok (.ldc 127, 2) := by decide +kernel
theorem d_Md_count_169 : decode prog_14_method_80_code 169 = .ok (.ireturn, 1) := by decide +kernel
set_option maxHeartbeats 2000000 in
theorem Md_count_L62_g {κ : tv_Kt} (hC : tv_Cx κ "TiedViewsModel" prog_14_method_80_code 4 1) (hR : tv_Re κ (some .int)) (F : Nat) : ∀ (n : Nat) (l2 : Int32) (l3 : Int32) (M : tv_M), tv_G κ 4 (tv_Qm κ tv_ei) 62 [some (.ref (κ.b + 249)), none, some (.int l2), some (.int l3)] [] M (Md_count_L62 F n l2 l3 M) := by
  intro n
  induction n with
  | zero => intro _ _ _; exact g_none
  | succ nn ih =>
    intro l2 l3 M
    rw [Md_count_L62]
    refine g_iload_n hC d_Md_count_62 rfl ?_
    refine g_bipush hC d_Md_count_63 k_b8 ?_
    refine g_icmp_ge (tgt := 91) hC d_Md_count_65 (by decide) (fun _ => ?_) (fun _ => ?_)
    · refine g_iload_n hC d_Md_count_91 rfl ?_
      exact g_iret hC hR d_Md_count_92
    · refine g_iload_n hC d_Md_count_68 rfl ?_
      refine g_aload_n hC d_Md_count_69 rfl ?_
      refine fg_Md_17 hC lc_249 d_Md_count_70 p0_249_3 ?_
      refine g_iload_n hC d_Md_count_73 rfl ?_
      refine gv_iald hC ly_250 d_Md_count_74 (fun x15 => ?_)
      refine g_if_lt (tgt := 82) hC d_Md_count_75 (by decide) (fun _ => ?_) (fun _ => ?_)
      · refine g_iconst hC d_Md_count_82 k_i0 ?_
        refine g_iadd hC d_Md_count_83 ?_
        refine g_istore_n (ls' := [some (.ref (κ.b + 249)), none, some (.int (l2 + 0)), some (.int l3)]) hC d_Md_count_84 rfl rfl ?_
        refine g_iinc (ls' := [some (.ref (κ.b + 249)), none, some (.int (l2 + 0)), some (.int (l3 + 1))]) hC d_Md_count_85 rfl k_i1 rfl rfl ?_
        refine g_goto (tgt := 62) hC d_Md_count_88 (by decide) ?_
        exact ih (l2 + 0) (l3 + 1) M
      · refine g_iconst hC d_Md_count_78 k_i1 ?_
        refine g_goto (tgt := 83) hC d_Md_count_79 (by decide) ?_
        refine g_iadd hC d_Md_count_83 ?_
        refine g_istore_n (ls' := [some (.ref (κ.b + 249)), none, some (.int (l2 + 1)), some (.int l3)]) hC d_Md_count_84 rfl rfl ?_
        refine g_iinc (ls' := [some (.ref (κ.b + 249)), none, some (.int (l2 + 1)), some (.int (l3 + 1))]) hC d_Md_count_85 rfl k_i1 rfl rfl ?_
        refine g_goto (tgt := 62) hC d_Md_count_88 (by decide) ?_
        exact ih (l2 + 1) (l3 + 1) M
set_option maxHeartbeats 2000000 in
theorem Md_count_L123_g {κ : tv_Kt} (hC : tv_Cx κ "TiedViewsModel" prog_14_method_80_code 4 1) (hR : tv_Re κ (some .int)) (F : Nat) : ∀ (n : Nat) (l2 : Int32) (l3 : Int32) (M : tv_M), tv_G κ 4 (tv_Qm κ tv_ei) 123 [some (.ref (κ.b + 249)), none, some (.int l2), some (.int l3)] [] M (Md_count_L123 F n l2 l3 M) := by
  intro n
  induction n with
  | zero => intro _ _ _; exact g_none
  | succ nn ih =>
    intro l2 l3 M
    rw [Md_count_L123]
    refine g_iload_n hC d_Md_count_123 rfl ?_
    refine g_aload_n hC d_Md_count_124 rfl ?_
    refine fg_Md_232 hC lc_249 d_Md_count_125 ?_
    refine g_icmp_ge (tgt := 155) hC d_Md_count_128 (by decide) (fun _ => ?_) (fun _ => ?_)
    · refine g_iload_n hC d_Md_count_155 rfl ?_
      exact g_iret hC hR d_Md_count_156
    · refine g_iload_n hC d_Md_count_131 rfl ?_
      refine g_aload_n hC d_Md_count_132 rfl ?_
      refine fg_Md_27 hC lc_249 d_Md_count_133 p0_249_7 ?_
      refine g_iload_n hC d_Md_count_136 rfl ?_
      refine gv_iald hC ly_253 d_Md_count_137 (fun x16 => ?_)
      refine g_iconst hC d_Md_count_138 k_i3 ?_
      refine g_icmp_ne (tgt := 146) hC d_Md_count_139 (by decide) (fun _ => ?_) (fun _ => ?_)
      · refine g_iconst hC d_Md_count_146 k_i0 ?_
        refine g_iadd hC d_Md_count_147 ?_
        refine g_istore_n (ls' := [some (.ref (κ.b + 249)), none, some (.int (l2 + 0)), some (.int l3)]) hC d_Md_count_148 rfl rfl ?_
        refine g_iinc (ls' := [some (.ref (κ.b + 249)), none, some (.int (l2 + 0)), some (.int (l3 + 1))]) hC d_Md_count_149 rfl k_i1 rfl rfl ?_
        refine g_goto (tgt := 123) hC d_Md_count_152 (by decide) ?_
        exact ih (l2 + 0) (l3 + 1) M
      · refine g_iconst hC d_Md_count_142 k_i1 ?_
        refine g_goto (tgt := 147) hC d_Md_count_143 (by decide) ?_
        refine g_iadd hC d_Md_count_147 ?_
        refine g_istore_n (ls' := [some (.ref (κ.b + 249)), none, some (.int (l2 + 1)), some (.int l3)]) hC d_Md_count_148 rfl rfl ?_
        refine g_iinc (ls' := [some (.ref (κ.b + 249)), none, some (.int (l2 + 1)), some (.int (l3 + 1))]) hC d_Md_count_149 rfl k_i1 rfl rfl ?_
        refine g_goto (tgt := 123) hC d_Md_count_152 (by decide) ?_
        exact ih (l2 + 1) (l3 + 1) M
set_option maxHeartbeats 2000000 in
theorem Md_count_c {l : Launch} {θ : tv_Th} (F : Nat) (a1 : Int32) (M : tv_M) : tv_Ct l θ ⟨"TiedViewsModel", "count", "(I)I"⟩ prog_14_method_80_code 4 (some .int) 1 tv_ei [.ref (θ.1 + 249), .int a1] M (Md_count F a1 M) := by
  refine tv_ofG [some (.ref (θ.1 + 249)), some (.int a1), none, none] rfl rfl (tv_ent 2 rfl) ?_
  intro κ hl ht hC hR
  subst hl; subst ht
  unfold Md_count
  refine g_aload_n hC d_Md_count_0 rfl ?_
  refine g_iconst hC d_Md_count_1 k_i0 ?_
  refine fp_Md_1 hC lc_249 d_Md_count_2 (fun M1 => ?_)
  refine g_iconst hC d_Md_count_5 k_i0 ?_
  refine g_istore_n (ls' := [some (.ref (κ.b + 249)), some (.int a1), some (.int 0), none]) hC d_Md_count_6 rfl rfl ?_
  refine g_iload_n hC d_Md_count_7 rfl ?_
  refine g_ite (fun e2 => ?_) (fun e2 => ?_)
  · refine g_tabIn (tgt := 60) hC d_Md_count_8 e2 (by decide) (by decide) rfl (by decide) ?_
    refine g_iconst hC d_Md_count_60 k_i0 ?_
    refine g_istore_n (ls' := [some (.ref (κ.b + 249)), some (.int a1), some (.int 0), some (.int 0)]) hC d_Md_count_61 rfl rfl ?_
    refine g_mask [true, false, true, true] (ls' := [some (.ref (κ.b + 249)), none, some (.int 0), some (.int 0)]) rfl ?_
    exact Md_count_L62_g hC hR F F 0 0 M1
  · refine g_ite (fun e3 => ?_) (fun e3 => ?_)
    · refine g_tabIn (tgt := 93) hC d_Md_count_8 e3 (by decide) (by decide) rfl (by decide) ?_
      refine g_aload_n hC d_Md_count_93 rfl ?_
      refine fg_Md_232 hC lc_249 d_Md_count_94 ?_
      exact g_iret hC hR d_Md_count_97
    · refine g_ite (fun e4 => ?_) (fun e4 => ?_)
      · refine g_tabIn (tgt := 98) hC d_Md_count_8 e4 (by decide) (by decide) rfl (by decide) ?_
        refine g_aload_n hC d_Md_count_98 rfl ?_
        refine fg_Md_238 hC lc_249 d_Md_count_99 ?_
        exact g_iret hC hR d_Md_count_102
      · refine g_ite (fun e5 => ?_) (fun e5 => ?_)
        · refine g_tabIn (tgt := 103) hC d_Md_count_8 e5 (by decide) (by decide) rfl (by decide) ?_
          refine g_aload_n hC d_Md_count_103 rfl ?_
          refine fg_Md_241 hC lc_249 d_Md_count_104 ?_
          exact g_iret hC hR d_Md_count_107
        · refine g_ite (fun e10 => ?_) (fun e10 => ?_)
          · refine g_tabIn (tgt := 108) hC d_Md_count_8 e10 (by decide) (by decide) rfl (by decide) ?_
            refine g_aload_n hC d_Md_count_108 rfl ?_
            refine gv_callVi hC [] cw_Md_304 (Md_readingSet_c F M1) lc_249 rfl rfl rfl rfl rfl rfl rfl d_Md_count_109 (fun r6 M7 => ?_)
            refine gv_callSi hC [.int r6] cw_Md_310 (Md_bits_c F r6 M7) rfl rfl rfl rfl rfl d_Md_count_112 (fun r8 M9 => ?_)
            exact g_iret hC hR d_Md_count_115
          · refine g_ite (fun e11 => ?_) (fun e11 => ?_)
            · refine g_tabIn (tgt := 116) hC d_Md_count_8 e11 (by decide) (by decide) rfl (by decide) ?_
              refine g_aload_n hC d_Md_count_116 rfl ?_
              refine fg_Md_315 hC lc_249 d_Md_count_117 ?_
              exact g_iret hC hR d_Md_count_120
            · refine g_ite (fun e12 => ?_) (fun e12 => ?_)
              · refine g_tabIn (tgt := 121) hC d_Md_count_8 e12 (by decide) (by decide) rfl (by decide) ?_
                refine g_iconst hC d_Md_count_121 k_i0 ?_
                refine g_istore_n (ls' := [some (.ref (κ.b + 249)), some (.int a1), some (.int 0), some (.int 0)]) hC d_Md_count_122 rfl rfl ?_
                refine g_mask [true, false, true, true] (ls' := [some (.ref (κ.b + 249)), none, some (.int 0), some (.int 0)]) rfl ?_
                exact Md_count_L123_g hC hR F F 0 0 M1
              · refine g_ite (fun e13 => ?_) (fun e13 => ?_)
                · refine g_tabIn (tgt := 157) hC d_Md_count_8 e13 (by decide) (by decide) rfl (by decide) ?_
                  refine g_aload_n hC d_Md_count_157 rfl ?_
                  refine fg_Md_137 hC lc_249 d_Md_count_158 ?_
                  exact g_iret hC hR d_Md_count_161
                · refine g_ite (fun e14 => ?_) (fun e14 => ?_)
                  · refine g_tabIn (tgt := 162) hC d_Md_count_8 e14 (by decide) (by decide) rfl (by decide) ?_
                    refine g_aload_n hC d_Md_count_162 rfl ?_
                    refine fg_Md_112 hC lc_249 d_Md_count_163 ?_
                    exact g_iret hC hR d_Md_count_166
                  · refine g_tabOut (tgt := 167) hC d_Md_count_8 (by have w0 := lv_neT e2 (a := 0) (by decide); have w1 := lv_neT e3 (a := 1) (by decide); have w2 := lv_neT e4 (a := 2) (by decide); have w3 := lv_neT e5 (a := 3) (by decide); have w4 := lv_neT e10 (a := 4) (by decide); have w5 := lv_neT e11 (a := 5) (by decide); have w6 := lv_neT e12 (a := 6) (by decide); have w7 := lv_neT e13 (a := 7) (by decide); have w8 := lv_neT e14 (a := 8) (by decide); omega) (by decide) ?_
                    refine g_ldc hC d_Md_count_167 wk_Md_127 ?_
                    exact g_iret hC hR d_Md_count_169
theorem d_Md_status_0 : decode prog_14_method_81_code 0 = .ok (.aload_n 0, 1) := by decide +kernel
theorem d_Md_status_1 : decode prog_14_method_81_code 1 = .ok (.iconst 0, 1) := by decide +kernel
theorem d_Md_status_2 : decode prog_14_method_81_code 2 = .ok (.putfield 1, 3) := by decide +kernel
theorem d_Md_status_5 : decode prog_14_method_81_code 5 = .ok (.aload_n 0, 1) := by decide +kernel
theorem d_Md_status_6 : decode prog_14_method_81_code 6 = .ok (.getfield 7, 3) := by decide +kernel
theorem d_Md_status_9 : decode prog_14_method_81_code 9 = .ok (.ireturn, 1) := by decide +kernel
set_option maxHeartbeats 2000000 in
theorem Md_status_c {l : Launch} {θ : tv_Th} (F : Nat) (M : tv_M) : tv_Ct l θ ⟨"TiedViewsModel", "status", "()I"⟩ prog_14_method_81_code 1 (some .int) 0 tv_ei [.ref (θ.1 + 249)] M (Md_status F M) := by
  refine tv_ofG [some (.ref (θ.1 + 249))] rfl rfl (tv_ent 0 rfl) ?_
  intro κ hl ht hC hR
  subst hl; subst ht
  unfold Md_status
  refine g_aload_n hC d_Md_status_0 rfl ?_
  refine g_iconst hC d_Md_status_1 k_i0 ?_
  refine fp_Md_1 hC lc_249 d_Md_status_2 (fun M1 => ?_)
  refine g_aload_n hC d_Md_status_5 rfl ?_
  refine fg_Md_7 hC lc_249 d_Md_status_6 ?_
  exact g_iret hC hR d_Md_status_9
