theorem d_Ch_leavesLaterOpen_0 : decode prog_4_method_12_code 0 = .ok (.aload_n 0, 1) := by decide +kernel
theorem d_Ch_leavesLaterOpen_1 : decode prog_4_method_12_code 1 = .ok (.getfield 11, 3) := by decide +kernel
theorem d_Ch_leavesLaterOpen_4 : decode prog_4_method_12_code 4 = .ok (.iload_n 1, 1) := by decide +kernel
theorem d_Ch_leavesLaterOpen_5 : decode prog_4_method_12_code 5 = .ok (.iconst 4, 1) := by decide +kernel
theorem d_Ch_leavesLaterOpen_6 : decode prog_4_method_12_code 6 = .ok (.imul, 1) := by decide +kernel
theorem d_Ch_leavesLaterOpen_7 : decode prog_4_method_12_code 7 = .ok (.iload_n 2, 1) := by decide +kernel
theorem d_Ch_leavesLaterOpen_8 : decode prog_4_method_12_code 8 = .ok (.iadd, 1) := by decide +kernel
theorem d_Ch_leavesLaterOpen_9 : decode prog_4_method_12_code 9 = .ok (.aaload, 1) := by decide +kernel
theorem d_Ch_leavesLaterOpen_10 : decode prog_4_method_12_code 10 = .ok (.astore_n 3, 1) := by decide +kernel
theorem d_Ch_leavesLaterOpen_11 : decode prog_4_method_12_code 11 = .ok (.iload_n 1, 1) := by decide +kernel
theorem d_Ch_leavesLaterOpen_12 : decode prog_4_method_12_code 12 = .ok (.iconst 1, 1) := by decide +kernel
theorem d_Ch_leavesLaterOpen_13 : decode prog_4_method_12_code 13 = .ok (.iadd, 1) := by decide +kernel
theorem d_Ch_leavesLaterOpen_14 : decode prog_4_method_12_code 14 = .ok (.istore 4, 2) := by decide +kernel
theorem d_Ch_leavesLaterOpen_16 : decode prog_4_method_12_code 16 = .ok (.iload 4, 2) := by decide +kernel
theorem d_Ch_leavesLaterOpen_18 : decode prog_4_method_12_code 18 = .ok (.aload_n 0, 1) := by decide +kernel
theorem d_Ch_leavesLaterOpen_19 : decode prog_4_method_12_code 19 = .ok (.getfield 27, 3) := by decide +kernel
theorem d_Ch_leavesLaterOpen_22 : decode prog_4_method_12_code 22 = .ok (.getfield 60, 3) := by decide +kernel
theorem d_Ch_leavesLaterOpen_25 : decode prog_4_method_12_code 25 = .ok (.if_icmp .ge 61, 3) := by decide +kernel
theorem d_Ch_leavesLaterOpen_28 : decode prog_4_method_12_code 28 = .ok (.aload_n 0, 1) := by decide +kernel
theorem d_Ch_leavesLaterOpen_29 : decode prog_4_method_12_code 29 = .ok (.getfield 20, 3) := by decide +kernel
theorem d_Ch_leavesLaterOpen_32 : decode prog_4_method_12_code 32 = .ok (.iload_n 1, 1) := by decide +kernel
theorem d_Ch_leavesLaterOpen_33 : decode prog_4_method_12_code 33 = .ok (.aaload, 1) := by decide +kernel
theorem d_Ch_leavesLaterOpen_34 : decode prog_4_method_12_code 34 = .ok (.iload 4, 2) := by decide +kernel
theorem d_Ch_leavesLaterOpen_36 : decode prog_4_method_12_code 36 = .ok (.iaload, 1) := by decide +kernel
theorem d_Ch_leavesLaterOpen_37 : decode prog_4_method_12_code 37 = .ok (.aload_n 3, 1) := by decide +kernel
theorem d_Ch_leavesLaterOpen_38 : decode prog_4_method_12_code 38 = .ok (.iload 4, 2) := by decide +kernel
theorem d_Ch_leavesLaterOpen_40 : decode prog_4_method_12_code 40 = .ok (.iaload, 1) := by decide +kernel
theorem d_Ch_leavesLaterOpen_41 : decode prog_4_method_12_code 41 = .ok (.iand, 1) := by decide +kernel
theorem d_Ch_leavesLaterOpen_42 : decode prog_4_method_12_code 42 = .ok (.istore 5, 2) := by decide +kernel
theorem d_Ch_leavesLaterOpen_44 : decode prog_4_method_12_code 44 = .ok (.iload 5, 2) := by decide +kernel
theorem d_Ch_leavesLaterOpen_46 : decode prog_4_method_12_code 46 = .ok (.ifCond .ne 21, 3) := by decide +kernel
theorem d_Ch_leavesLaterOpen_49 : decode prog_4_method_12_code 49 = .ok (.aload_n 0, 1) := by decide +kernel
theorem d_Ch_leavesLaterOpen_50 : decode prog_4_method_12_code 50 = .ok (.getfield 27, 3) := by decide +kernel
theorem d_Ch_leavesLaterOpen_53 : decode prog_4_method_12_code 53 = .ok (.getfield 83, 3) := by decide +kernel
theorem d_Ch_leavesLaterOpen_56 : decode prog_4_method_12_code 56 = .ok (.iload 4, 2) := by decide +kernel
theorem d_Ch_leavesLaterOpen_58 : decode prog_4_method_12_code 58 = .ok (.aaload, 1) := by decide +kernel
theorem d_Ch_leavesLaterOpen_59 : decode prog_4_method_12_code 59 = .ok (.invokevirtual 87, 3) := by decide +kernel
theorem d_Ch_leavesLaterOpen_62 : decode prog_4_method_12_code 62 = .ok (.ifCond .eq 5, 3) := by decide +kernel
theorem d_Ch_leavesLaterOpen_65 : decode prog_4_method_12_code 65 = .ok (.iconst 0, 1) := by decide +kernel
theorem d_Ch_leavesLaterOpen_66 : decode prog_4_method_12_code 66 = .ok (.ireturn, 1) := by decide +kernel
theorem d_Ch_leavesLaterOpen_67 : decode prog_4_method_12_code 67 = .ok (.aload_n 0, 1) := by decide +kernel
theorem d_Ch_leavesLaterOpen_68 : decode prog_4_method_12_code 68 = .ok (.getfield 20, 3) := by decide +kernel
theorem d_Ch_leavesLaterOpen_71 : decode prog_4_method_12_code 71 = .ok (.iload_n 1, 1) := by decide +kernel
theorem d_Ch_leavesLaterOpen_72 : decode prog_4_method_12_code 72 = .ok (.iconst 1, 1) := by decide +kernel
theorem d_Ch_leavesLaterOpen_73 : decode prog_4_method_12_code 73 = .ok (.iadd, 1) := by decide +kernel
theorem d_Ch_leavesLaterOpen_74 : decode prog_4_method_12_code 74 = .ok (.aaload, 1) := by decide +kernel
theorem d_Ch_leavesLaterOpen_75 : decode prog_4_method_12_code 75 = .ok (.iload 4, 2) := by decide +kernel
theorem d_Ch_leavesLaterOpen_77 : decode prog_4_method_12_code 77 = .ok (.iload 5, 2) := by decide +kernel
theorem d_Ch_leavesLaterOpen_79 : decode prog_4_method_12_code 79 = .ok (.iastore, 1) := by decide +kernel
theorem d_Ch_leavesLaterOpen_80 : decode prog_4_method_12_code 80 = .ok (.iinc 4 1, 3) := by decide +kernel
theorem d_Ch_leavesLaterOpen_83 : decode prog_4_method_12_code 83 = .ok (.goto (-67), 3) := by decide +kernel
theorem d_Ch_leavesLaterOpen_86 : decode prog_4_method_12_code 86 = .ok (.iconst 1, 1) := by decide +kernel
theorem d_Ch_leavesLaterOpen_87 : decode prog_4_method_12_code 87 = .ok (.ireturn, 1) := by decide +kernel
set_option maxHeartbeats 2000000 in
theorem Ch_leavesLaterOpen_L16_g {κ : tv_Kt} (hC : tv_Cx κ "TiedViews$Choices" prog_4_method_12_code 6 1) (hR : tv_Re κ (some .boolean)) (F : Nat) : ∀ (n : Nat) (l1 : Int32) (l3 : Nat) (l4 : Int32) (M : tv_M), tv_G κ 6 (tv_Qm κ tv_ei) 16 [some (.ref (κ.b + 201)), some (.int l1), none, some (.ref (κ.b + l3)), some (.int l4), none] [] M (Ch_leavesLaterOpen_L16 F n l1 l3 l4 M) := by
  intro n
  induction n with
  | zero => intro _ _ _ _; exact g_none
  | succ nn ih =>
    intro l1 l3 l4 M
    rw [Ch_leavesLaterOpen_L16]
    refine g_gn (fun n5 h4 => ?_)
    refine g_iload hC d_Ch_leavesLaterOpen_16 rfl ?_
    refine g_aload_n hC d_Ch_leavesLaterOpen_18 rfl ?_
    refine fg_Ch_27 hC lc_201 d_Ch_leavesLaterOpen_19 p0_201_0 ?_
    refine fg_Ch_60 hC lc_18 d_Ch_leavesLaterOpen_22 ?_
    refine g_icmp_ge (tgt := 86) hC d_Ch_leavesLaterOpen_25 (by decide) (fun _ => ?_) (fun _ => ?_)
    · refine g_iconst hC d_Ch_leavesLaterOpen_86 k_i1 ?_
      exact g_zret hC hR tv_z1 d_Ch_leavesLaterOpen_87
    · refine g_aload_n hC d_Ch_leavesLaterOpen_28 rfl ?_
      refine fg_Ch_20 hC lc_201 d_Ch_leavesLaterOpen_29 p0_201_3 ?_
      refine g_iload_n hC d_Ch_leavesLaterOpen_32 rfl ?_
      refine gv_aald hC 3 ly_236 rfl d_Ch_leavesLaterOpen_33 (fun p6 => ?_)
      refine g_gn (fun n8 h7 => ?_)
      refine g_iload hC d_Ch_leavesLaterOpen_34 rfl ?_
      refine gv_iald hC h7 d_Ch_leavesLaterOpen_36 (fun x9 => ?_)
      refine g_aload_n hC d_Ch_leavesLaterOpen_37 rfl ?_
      refine g_iload hC d_Ch_leavesLaterOpen_38 rfl ?_
      refine gv_iald hC h4 d_Ch_leavesLaterOpen_40 (fun x10 => ?_)
      refine g_iand hC d_Ch_leavesLaterOpen_41 ?_
      refine g_istore (ls' := [some (.ref (κ.b + 201)), some (.int l1), none, some (.ref (κ.b + l3)), some (.int l4), some (.int (x9 &&& x10))]) hC d_Ch_leavesLaterOpen_42 rfl rfl ?_
      refine g_iload hC d_Ch_leavesLaterOpen_44 rfl ?_
      refine g_if_ne (tgt := 67) hC d_Ch_leavesLaterOpen_46 (by decide) (fun _ => ?_) (fun _ => ?_)
      · refine g_aload_n hC d_Ch_leavesLaterOpen_67 rfl ?_
        refine fg_Ch_20 hC lc_201 d_Ch_leavesLaterOpen_68 p0_201_3 ?_
        refine g_iload_n hC d_Ch_leavesLaterOpen_71 rfl ?_
        refine g_iconst hC d_Ch_leavesLaterOpen_72 k_i1 ?_
        refine g_iadd hC d_Ch_leavesLaterOpen_73 ?_
        refine gv_aald hC 3 ly_236 rfl d_Ch_leavesLaterOpen_74 (fun p11 => ?_)
        refine g_gn (fun n13 h12 => ?_)
        refine g_iload hC d_Ch_leavesLaterOpen_75 rfl ?_
        refine g_iload hC d_Ch_leavesLaterOpen_77 rfl ?_
        refine gv_iast hC h12 d_Ch_leavesLaterOpen_79 (fun M14 => ?_)
        refine g_iinc (ls' := [some (.ref (κ.b + 201)), some (.int l1), none, some (.ref (κ.b + l3)), some (.int (l4 + 1)), some (.int (x9 &&& x10))]) hC d_Ch_leavesLaterOpen_80 rfl k_i1 rfl rfl ?_
        refine g_goto (tgt := 16) hC d_Ch_leavesLaterOpen_83 (by decide) ?_
        refine g_mask [true, true, false, true, true, false] (ls' := [some (.ref (κ.b + 201)), some (.int l1), none, some (.ref (κ.b + l3)), some (.int (l4 + 1)), none]) rfl ?_
        exact ih l1 l3 (l4 + 1) M14
      · refine g_aload_n hC d_Ch_leavesLaterOpen_49 rfl ?_
        refine fg_Ch_27 hC lc_201 d_Ch_leavesLaterOpen_50 p0_201_0 ?_
        refine fg_Ch_83 hC lc_18 d_Ch_leavesLaterOpen_53 p0_18_1 ?_
        refine g_iload hC d_Ch_leavesLaterOpen_56 rfl ?_
        refine gv_aald hC 1 ly_19 rfl d_Ch_leavesLaterOpen_58 (fun p15 => ?_)
        refine g_gl (fun h16 => ?_)
        refine gv_callVi hC [] cw_Ch_87 (Ey_isChoice_c F p15 M) h16 rfl rfl rfl rfl rfl rfl rfl d_Ch_leavesLaterOpen_59 (fun r17 M18 => ?_)
        refine g_if_eq (tgt := 67) hC d_Ch_leavesLaterOpen_62 (by decide) (fun _ => ?_) (fun _ => ?_)
        · refine g_aload_n hC d_Ch_leavesLaterOpen_67 rfl ?_
          refine fg_Ch_20 hC lc_201 d_Ch_leavesLaterOpen_68 p0_201_3 ?_
          refine g_iload_n hC d_Ch_leavesLaterOpen_71 rfl ?_
          refine g_iconst hC d_Ch_leavesLaterOpen_72 k_i1 ?_
          refine g_iadd hC d_Ch_leavesLaterOpen_73 ?_
          refine gv_aald hC 3 ly_236 rfl d_Ch_leavesLaterOpen_74 (fun p19 => ?_)
          refine g_gn (fun n21 h20 => ?_)
          refine g_iload hC d_Ch_leavesLaterOpen_75 rfl ?_
          refine g_iload hC d_Ch_leavesLaterOpen_77 rfl ?_
          refine gv_iast hC h20 d_Ch_leavesLaterOpen_79 (fun M22 => ?_)
          refine g_iinc (ls' := [some (.ref (κ.b + 201)), some (.int l1), none, some (.ref (κ.b + l3)), some (.int (l4 + 1)), some (.int (x9 &&& x10))]) hC d_Ch_leavesLaterOpen_80 rfl k_i1 rfl rfl ?_
          refine g_goto (tgt := 16) hC d_Ch_leavesLaterOpen_83 (by decide) ?_
          refine g_mask [true, true, false, true, true, false] (ls' := [some (.ref (κ.b + 201)), some (.int l1), none, some (.ref (κ.b + l3)), some (.int (l4 + 1)), none]) rfl ?_
          exact ih l1 l3 (l4 + 1) M22
        · refine g_iconst hC d_Ch_leavesLaterOpen_65 k_i0 ?_
          exact g_zret hC hR tv_z0 d_Ch_leavesLaterOpen_66
set_option maxHeartbeats 2000000 in
theorem Ch_leavesLaterOpen_c {l : Launch} {θ : tv_Th} (F : Nat) (a1 : Int32) (a2 : Int32) (M : tv_M) : tv_Ct l θ ⟨"TiedViews$Choices", "leavesLaterOpen", "(II)Z"⟩ prog_4_method_12_code 6 (some .boolean) 1 tv_ei [.ref (θ.1 + 201), .int a1, .int a2] M (Ch_leavesLaterOpen F a1 a2 M) := by
  refine tv_ofG [some (.ref (θ.1 + 201)), some (.int a1), some (.int a2), none, none, none] rfl rfl (tv_ent 3 rfl) ?_
  intro κ hl ht hC hR
  subst hl; subst ht
  unfold Ch_leavesLaterOpen
  refine g_aload_n hC d_Ch_leavesLaterOpen_0 rfl ?_
  refine fg_Ch_11 hC lc_201 d_Ch_leavesLaterOpen_1 p0_201_1 ?_
  refine g_iload_n hC d_Ch_leavesLaterOpen_4 rfl ?_
  refine g_iconst hC d_Ch_leavesLaterOpen_5 k_i4 ?_
  refine g_imul hC d_Ch_leavesLaterOpen_6 ?_
  refine g_iload_n hC d_Ch_leavesLaterOpen_7 rfl ?_
  refine g_iadd hC d_Ch_leavesLaterOpen_8 ?_
  refine gv_aald hC 3 ly_202 rfl d_Ch_leavesLaterOpen_9 (fun p1 => ?_)
  refine g_gn (fun n3 h2 => ?_)
  refine g_astore_n (ls' := [some (.ref (κ.b + 201)), some (.int a1), some (.int a2), some (.ref (κ.b + p1)), none, none]) hC d_Ch_leavesLaterOpen_10 rfl rfl ?_
  refine g_iload_n hC d_Ch_leavesLaterOpen_11 rfl ?_
  refine g_iconst hC d_Ch_leavesLaterOpen_12 k_i1 ?_
  refine g_iadd hC d_Ch_leavesLaterOpen_13 ?_
  refine g_istore (ls' := [some (.ref (κ.b + 201)), some (.int a1), some (.int a2), some (.ref (κ.b + p1)), some (.int (a1 + 1)), none]) hC d_Ch_leavesLaterOpen_14 rfl rfl ?_
  refine g_mask [true, true, false, true, true, false] (ls' := [some (.ref (κ.b + 201)), some (.int a1), none, some (.ref (κ.b + p1)), some (.int (a1 + 1)), none]) rfl ?_
  exact Ch_leavesLaterOpen_L16_g hC hR F F a1 p1 (a1 + 1) M
theorem d_Ch_waysFrom_0 : decode prog_4_method_10_code 0 = .ok (.aload_n 0, 1) := by decide +kernel
theorem d_Ch_waysFrom_1 : decode prog_4_method_10_code 1 = .ok (.getfield 27, 3) := by decide +kernel
theorem d_Ch_waysFrom_4 : decode prog_4_method_10_code 4 = .ok (.iload_n 1, 1) := by decide +kernel
theorem d_Ch_waysFrom_5 : decode prog_4_method_10_code 5 = .ok (.invokevirtual 102, 3) := by decide +kernel
theorem d_Ch_waysFrom_8 : decode prog_4_method_10_code 8 = .ok (.astore_n 2, 1) := by decide +kernel
theorem d_Ch_waysFrom_9 : decode prog_4_method_10_code 9 = .ok (.aload_n 2, 1) := by decide +kernel
theorem d_Ch_waysFrom_10 : decode prog_4_method_10_code 10 = .ok (.ifnonnull 5, 3) := by decide +kernel
theorem d_Ch_waysFrom_13 : decode prog_4_method_10_code 13 = .ok (.iconst 1, 1) := by decide +kernel
theorem d_Ch_waysFrom_14 : decode prog_4_method_10_code 14 = .ok (.ireturn, 1) := by decide +kernel
theorem d_Ch_waysFrom_15 : decode prog_4_method_10_code 15 = .ok (.aload_n 2, 1) := by decide +kernel
theorem d_Ch_waysFrom_16 : decode prog_4_method_10_code 16 = .ok (.invokevirtual 87, 3) := by decide +kernel
theorem d_Ch_waysFrom_19 : decode prog_4_method_10_code 19 = .ok (.ifCond .eq 12, 3) := by decide +kernel
theorem d_Ch_waysFrom_22 : decode prog_4_method_10_code 22 = .ok (.aload_n 0, 1) := by decide +kernel
theorem d_Ch_waysFrom_23 : decode prog_4_method_10_code 23 = .ok (.getfield 16, 3) := by decide +kernel
theorem d_Ch_waysFrom_26 : decode prog_4_method_10_code 26 = .ok (.iload_n 1, 1) := by decide +kernel
theorem d_Ch_waysFrom_27 : decode prog_4_method_10_code 27 = .ok (.baload, 1) := by decide +kernel
theorem d_Ch_waysFrom_28 : decode prog_4_method_10_code 28 = .ok (.ifCond .ne 65, 3) := by decide +kernel
theorem d_Ch_waysFrom_31 : decode prog_4_method_10_code 31 = .ok (.aload_n 0, 1) := by decide +kernel
theorem d_Ch_waysFrom_32 : decode prog_4_method_10_code 32 = .ok (.getfield 20, 3) := by decide +kernel
theorem d_Ch_waysFrom_35 : decode prog_4_method_10_code 35 = .ok (.iload_n 1, 1) := by decide +kernel
theorem d_Ch_waysFrom_36 : decode prog_4_method_10_code 36 = .ok (.aaload, 1) := by decide +kernel
theorem d_Ch_waysFrom_37 : decode prog_4_method_10_code 37 = .ok (.iconst 0, 1) := by decide +kernel
theorem d_Ch_waysFrom_38 : decode prog_4_method_10_code 38 = .ok (.aload_n 0, 1) := by decide +kernel
theorem d_Ch_waysFrom_39 : decode prog_4_method_10_code 39 = .ok (.getfield 20, 3) := by decide +kernel
theorem d_Ch_waysFrom_42 : decode prog_4_method_10_code 42 = .ok (.iload_n 1, 1) := by decide +kernel
theorem d_Ch_waysFrom_43 : decode prog_4_method_10_code 43 = .ok (.iconst 1, 1) := by decide +kernel
theorem d_Ch_waysFrom_44 : decode prog_4_method_10_code 44 = .ok (.iadd, 1) := by decide +kernel
theorem d_Ch_waysFrom_45 : decode prog_4_method_10_code 45 = .ok (.aaload, 1) := by decide +kernel
theorem d_Ch_waysFrom_46 : decode prog_4_method_10_code 46 = .ok (.iconst 0, 1) := by decide +kernel
theorem d_Ch_waysFrom_47 : decode prog_4_method_10_code 47 = .ok (.bipush 8, 2) := by decide +kernel
theorem d_Ch_waysFrom_49 : decode prog_4_method_10_code 49 = .ok (.invokestatic 105, 3) := by decide +kernel
theorem d_Ch_waysFrom_52 : decode prog_4_method_10_code 52 = .ok (.aload_n 2, 1) := by decide +kernel
theorem d_Ch_waysFrom_53 : decode prog_4_method_10_code 53 = .ok (.invokevirtual 87, 3) := by decide +kernel
theorem d_Ch_waysFrom_56 : decode prog_4_method_10_code 56 = .ok (.ifCond .eq 17, 3) := by decide +kernel
theorem d_Ch_waysFrom_59 : decode prog_4_method_10_code 59 = .ok (.aload_n 0, 1) := by decide +kernel
theorem d_Ch_waysFrom_60 : decode prog_4_method_10_code 60 = .ok (.getfield 20, 3) := by decide +kernel
theorem d_Ch_waysFrom_63 : decode prog_4_method_10_code 63 = .ok (.iload_n 1, 1) := by decide +kernel
theorem d_Ch_waysFrom_64 : decode prog_4_method_10_code 64 = .ok (.aaload, 1) := by decide +kernel
theorem d_Ch_waysFrom_65 : decode prog_4_method_10_code 65 = .ok (.iload_n 1, 1) := by decide +kernel
theorem d_Ch_waysFrom_66 : decode prog_4_method_10_code 66 = .ok (.iaload, 1) := by decide +kernel
theorem d_Ch_waysFrom_67 : decode prog_4_method_10_code 67 = .ok (.invokestatic 111, 3) := by decide +kernel
theorem d_Ch_waysFrom_70 : decode prog_4_method_10_code 70 = .ok (.goto 4, 3) := by decide +kernel
theorem d_Ch_waysFrom_73 : decode prog_4_method_10_code 73 = .ok (.iconst 1, 1) := by decide +kernel
theorem d_Ch_waysFrom_74 : decode prog_4_method_10_code 74 = .ok (.istore_n 3, 1) := by decide +kernel
theorem d_Ch_waysFrom_75 : decode prog_4_method_10_code 75 = .ok (.iload_n 3, 1) := by decide +kernel
theorem d_Ch_waysFrom_76 : decode prog_4_method_10_code 76 = .ok (.ifCond .ne 7, 3) := by decide +kernel
theorem d_Ch_waysFrom_79 : decode prog_4_method_10_code 79 = .ok (.iconst 0, 1) := by decide +kernel
theorem d_Ch_waysFrom_80 : decode prog_4_method_10_code 80 = .ok (.goto 12, 3) := by decide +kernel
theorem d_Ch_waysFrom_83 : decode prog_4_method_10_code 83 = .ok (.iload_n 3, 1) := by decide +kernel
theorem d_Ch_waysFrom_84 : decode prog_4_method_10_code 84 = .ok (.aload_n 0, 1) := by decide +kernel
theorem d_Ch_waysFrom_85 : decode prog_4_method_10_code 85 = .ok (.iload_n 1, 1) := by decide +kernel
theorem d_Ch_waysFrom_86 : decode prog_4_method_10_code 86 = .ok (.iconst 1, 1) := by decide +kernel
theorem d_Ch_waysFrom_87 : decode prog_4_method_10_code 87 = .ok (.iadd, 1) := by decide +kernel
theorem d_Ch_waysFrom_88 : decode prog_4_method_10_code 88 = .ok (.invokevirtual 91, 3) := by decide +kernel
theorem d_Ch_waysFrom_91 : decode prog_4_method_10_code 91 = .ok (.imul, 1) := by decide +kernel
theorem d_Ch_waysFrom_92 : decode prog_4_method_10_code 92 = .ok (.ireturn, 1) := by decide +kernel
theorem d_Ch_waysFrom_93 : decode prog_4_method_10_code 93 = .ok (.iconst 0, 1) := by decide +kernel
theorem d_Ch_waysFrom_94 : decode prog_4_method_10_code 94 = .ok (.istore_n 3, 1) := by decide +kernel
theorem d_Ch_waysFrom_95 : decode prog_4_method_10_code 95 = .ok (.iconst 0, 1) := by decide +kernel
theorem d_Ch_waysFrom_96 : decode prog_4_method_10_code 96 = .ok (.istore 4, 2) := by decide +kernel
theorem d_Ch_waysFrom_98 : decode prog_4_method_10_code 98 = .ok (.iload 4, 2) := by decide +kernel
theorem d_Ch_waysFrom_100 : decode prog_4_method_10_code 100 = .ok (.aload_n 2, 1) := by decide +kernel
theorem d_Ch_waysFrom_101 : decode prog_4_method_10_code 101 = .ok (.getfield 71, 3) := by decide +kernel
theorem d_Ch_waysFrom_104 : decode prog_4_method_10_code 104 = .ok (.if_icmp .ge 46, 3) := by decide +kernel
theorem d_Ch_waysFrom_107 : decode prog_4_method_10_code 107 = .ok (.aload_n 0, 1) := by decide +kernel
theorem d_Ch_waysFrom_108 : decode prog_4_method_10_code 108 = .ok (.getfield 20, 3) := by decide +kernel
theorem d_Ch_waysFrom_111 : decode prog_4_method_10_code 111 = .ok (.iload_n 1, 1) := by decide +kernel
theorem d_Ch_waysFrom_112 : decode prog_4_method_10_code 112 = .ok (.aaload, 1) := by decide +kernel
theorem d_Ch_waysFrom_113 : decode prog_4_method_10_code 113 = .ok (.iload_n 1, 1) := by decide +kernel
theorem d_Ch_waysFrom_114 : decode prog_4_method_10_code 114 = .ok (.iaload, 1) := by decide +kernel
theorem d_Ch_waysFrom_115 : decode prog_4_method_10_code 115 = .ok (.iload 4, 2) := by decide +kernel
theorem d_Ch_waysFrom_117 : decode prog_4_method_10_code 117 = .ok (.ishr, 1) := by decide +kernel
theorem d_Ch_waysFrom_118 : decode prog_4_method_10_code 118 = .ok (.iconst 1, 1) := by decide +kernel
theorem d_Ch_waysFrom_119 : decode prog_4_method_10_code 119 = .ok (.iand, 1) := by decide +kernel
theorem d_Ch_waysFrom_120 : decode prog_4_method_10_code 120 = .ok (.iconst 1, 1) := by decide +kernel
theorem d_Ch_waysFrom_121 : decode prog_4_method_10_code 121 = .ok (.if_icmp .ne 23, 3) := by decide +kernel
theorem d_Ch_waysFrom_124 : decode prog_4_method_10_code 124 = .ok (.aload_n 0, 1) := by decide +kernel
theorem d_Ch_waysFrom_125 : decode prog_4_method_10_code 125 = .ok (.iload_n 1, 1) := by decide +kernel
theorem d_Ch_waysFrom_126 : decode prog_4_method_10_code 126 = .ok (.iload 4, 2) := by decide +kernel
theorem d_Ch_waysFrom_128 : decode prog_4_method_10_code 128 = .ok (.invokevirtual 116, 3) := by decide +kernel
theorem d_Ch_waysFrom_131 : decode prog_4_method_10_code 131 = .ok (.ifCond .eq 13, 3) := by decide +kernel
theorem d_Ch_waysFrom_134 : decode prog_4_method_10_code 134 = .ok (.iload_n 3, 1) := by decide +kernel
theorem d_Ch_waysFrom_135 : decode prog_4_method_10_code 135 = .ok (.aload_n 0, 1) := by decide +kernel
theorem d_Ch_waysFrom_136 : decode prog_4_method_10_code 136 = .ok (.iload_n 1, 1) := by decide +kernel
theorem d_Ch_waysFrom_137 : decode prog_4_method_10_code 137 = .ok (.iconst 1, 1) := by decide +kernel
theorem d_Ch_waysFrom_138 : decode prog_4_method_10_code 138 = .ok (.iadd, 1) := by decide +kernel
theorem d_Ch_waysFrom_139 : decode prog_4_method_10_code 139 = .ok (.invokevirtual 91, 3) := by decide +kernel
theorem d_Ch_waysFrom_142 : decode prog_4_method_10_code 142 = .ok (.iadd, 1) := by decide +kernel
theorem d_Ch_waysFrom_143 : decode prog_4_method_10_code 143 = .ok (.istore_n 3, 1) := by decide +kernel
theorem d_Ch_waysFrom_144 : decode prog_4_method_10_code 144 = .ok (.iinc 4 1, 3) := by decide +kernel
theorem d_Ch_waysFrom_147 : decode prog_4_method_10_code 147 = .ok (.goto (-49), 3) := by decide +kernel
theorem d_Ch_waysFrom_150 : decode prog_4_method_10_code 150 = .ok (.iload_n 3, 1) := by decide +kernel
theorem d_Ch_waysFrom_151 : decode prog_4_method_10_code 151 = .ok (.ireturn, 1) := by decide +kernel
set_option maxHeartbeats 2000000 in
theorem Ch_waysFrom_L74_g {κ : tv_Kt} {d ds : Nat} (hC : tv_Cx κ "TiedViews$Choices" prog_4_method_10_code 5 d) (hR : tv_Re κ (some .int)) (hdd : Nat.ble 2 d = true) (hds : Nat.ble 2 ds = true) (hdp : Nat.ble (ds + 1) d = true) {self : Int32 → tv_M → Option (Int32 × tv_M)} (ihs : ∀ (a1 : Int32) (M : tv_M), tv_Ct κ.l κ.th ⟨"TiedViews$Choices", "waysFrom", "(I)I"⟩ prog_4_method_10_code 5 (some .int) ds tv_ei [.ref (κ.th.1 + 201), .int a1] M (self a1 M)) (F : Nat) (l1 : Int32) (s0 : Int32) (M : tv_M) : tv_G κ 5 (tv_Qm κ tv_ei) 74 [some (.ref (κ.b + 201)), some (.int l1), none, none, none] [.int s0] M (Ch_waysFrom_L74 F self l1 s0 M) := by
  rw [Ch_waysFrom_L74]
  refine g_istore_n (ls' := [some (.ref (κ.b + 201)), some (.int l1), none, some (.int s0), none]) hC d_Ch_waysFrom_74 rfl rfl ?_
  refine g_iload_n hC d_Ch_waysFrom_75 rfl ?_
  refine g_if_ne (tgt := 83) hC d_Ch_waysFrom_76 (by decide) (fun _ => ?_) (fun _ => ?_)
  · refine g_iload_n hC d_Ch_waysFrom_83 rfl ?_
    refine g_aload_n hC d_Ch_waysFrom_84 rfl ?_
    refine g_iload_n hC d_Ch_waysFrom_85 rfl ?_
    refine g_iconst hC d_Ch_waysFrom_86 k_i1 ?_
    refine g_iadd hC d_Ch_waysFrom_87 ?_
    refine gv_callVi hC [.int (l1 + 1)] cw_Ch_91 (ihs (l1 + 1) M) lc_201 rfl rfl rfl rfl rfl hdp rfl d_Ch_waysFrom_88 (fun r24 M25 => ?_)
    refine g_imul hC d_Ch_waysFrom_91 ?_
    exact g_iret hC hR d_Ch_waysFrom_92
  · refine g_iconst hC d_Ch_waysFrom_79 k_i0 ?_
    refine g_goto (tgt := 92) hC d_Ch_waysFrom_80 (by decide) ?_
    exact g_iret hC hR d_Ch_waysFrom_92
set_option maxHeartbeats 2000000 in
theorem Ch_waysFrom_L31_g {κ : tv_Kt} {d ds : Nat} (hC : tv_Cx κ "TiedViews$Choices" prog_4_method_10_code 5 d) (hR : tv_Re κ (some .int)) (hdd : Nat.ble 2 d = true) (hds : Nat.ble 2 ds = true) (hdp : Nat.ble (ds + 1) d = true) {self : Int32 → tv_M → Option (Int32 × tv_M)} (ihs : ∀ (a1 : Int32) (M : tv_M), tv_Ct κ.l κ.th ⟨"TiedViews$Choices", "waysFrom", "(I)I"⟩ prog_4_method_10_code 5 (some .int) ds tv_ei [.ref (κ.th.1 + 201), .int a1] M (self a1 M)) (F : Nat) (l1 : Int32) (l2 : Nat) (M : tv_M) : tv_G κ 5 (tv_Qm κ tv_ei) 31 [some (.ref (κ.b + 201)), some (.int l1), some (.ref (κ.b + l2)), none, none] [] M (Ch_waysFrom_L31 F self l1 l2 M) := by
  rw [Ch_waysFrom_L31]
  refine g_gl (fun h8 => ?_)
  refine g_aload_n hC d_Ch_waysFrom_31 rfl ?_
  refine fg_Ch_20 hC lc_201 d_Ch_waysFrom_32 p0_201_3 ?_
  refine g_iload_n hC d_Ch_waysFrom_35 rfl ?_
  refine gv_aald hC 3 ly_236 rfl d_Ch_waysFrom_36 (fun p9 => ?_)
  refine g_gn (fun n11 h10 => ?_)
  refine g_iconst hC d_Ch_waysFrom_37 k_i0 ?_
  refine g_aload_n hC d_Ch_waysFrom_38 rfl ?_
  refine fg_Ch_20 hC lc_201 d_Ch_waysFrom_39 p0_201_3 ?_
  refine g_iload_n hC d_Ch_waysFrom_42 rfl ?_
  refine g_iconst hC d_Ch_waysFrom_43 k_i1 ?_
  refine g_iadd hC d_Ch_waysFrom_44 ?_
  refine gv_aald hC 3 ly_236 rfl d_Ch_waysFrom_45 (fun p12 => ?_)
  refine g_gn (fun n14 h13 => ?_)
  refine g_iconst hC d_Ch_waysFrom_46 k_i0 ?_
  refine g_bipush hC d_Ch_waysFrom_47 k_b8 ?_
  refine gv_copy hC h10 h13 wc_Ch_105 rfl (tv_dtr hdd rfl) d_Ch_waysFrom_49 (fun M15 => ?_)
  refine g_aload_n hC d_Ch_waysFrom_52 rfl ?_
  refine gv_callVi hC [] cw_Ch_87 (Ey_isChoice_c F l2 M15) h8 rfl rfl rfl rfl rfl (tv_dtr hdd rfl) rfl d_Ch_waysFrom_53 (fun r16 M17 => ?_)
  refine g_if_eq (tgt := 73) hC d_Ch_waysFrom_56 (by decide) (fun _ => ?_) (fun _ => ?_)
  · refine g_iconst hC d_Ch_waysFrom_73 k_i1 ?_
    refine g_mask [true, true, false, false, false] (ls' := [some (.ref (κ.b + 201)), some (.int l1), none, none, none]) rfl ?_
    exact Ch_waysFrom_L74_g hC hR hdd hds hdp ihs F l1 1 M17
  · refine g_aload_n hC d_Ch_waysFrom_59 rfl ?_
    refine fg_Ch_20 hC lc_201 d_Ch_waysFrom_60 p0_201_3 ?_
    refine g_iload_n hC d_Ch_waysFrom_63 rfl ?_
    refine gv_aald hC 3 ly_236 rfl d_Ch_waysFrom_64 (fun p18 => ?_)
    refine g_gn (fun n20 h19 => ?_)
    refine g_iload_n hC d_Ch_waysFrom_65 rfl ?_
    refine gv_iald hC h19 d_Ch_waysFrom_66 (fun x21 => ?_)
    refine gv_callSi hC [.int x21] cw_Ch_111 (Jv_bitCount_c F x21 M17) rfl rfl rfl (tv_dtr hdd rfl) rfl d_Ch_waysFrom_67 (fun r22 M23 => ?_)
    refine g_goto (tgt := 74) hC d_Ch_waysFrom_70 (by decide) ?_
    refine g_mask [true, true, false, false, false] (ls' := [some (.ref (κ.b + 201)), some (.int l1), none, none, none]) rfl ?_
    exact Ch_waysFrom_L74_g hC hR hdd hds hdp ihs F l1 r22 M23
set_option maxHeartbeats 2000000 in
theorem Ch_waysFrom_L98_g {κ : tv_Kt} {d ds : Nat} (hC : tv_Cx κ "TiedViews$Choices" prog_4_method_10_code 5 d) (hR : tv_Re κ (some .int)) (hdd : Nat.ble 2 d = true) (hds : Nat.ble 2 ds = true) (hdp : Nat.ble (ds + 1) d = true) {self : Int32 → tv_M → Option (Int32 × tv_M)} (ihs : ∀ (a1 : Int32) (M : tv_M), tv_Ct κ.l κ.th ⟨"TiedViews$Choices", "waysFrom", "(I)I"⟩ prog_4_method_10_code 5 (some .int) ds tv_ei [.ref (κ.th.1 + 201), .int a1] M (self a1 M)) (F : Nat) : ∀ (n : Nat) (l1 : Int32) (l2 : Nat) (l3 : Int32) (l4 : Int32) (M : tv_M), tv_G κ 5 (tv_Qm κ tv_ei) 98 [some (.ref (κ.b + 201)), some (.int l1), some (.ref (κ.b + l2)), some (.int l3), some (.int l4)] [] M (Ch_waysFrom_L98 F self n l1 l2 l3 l4 M) := by
  intro n
  induction n with
  | zero => intro _ _ _ _ _; exact g_none
  | succ nn ih =>
    intro l1 l2 l3 l4 M
    rw [Ch_waysFrom_L98]
    refine g_gl (fun h26 => ?_)
    refine g_iload hC d_Ch_waysFrom_98 rfl ?_
    refine g_aload_n hC d_Ch_waysFrom_100 rfl ?_
    refine fg_Ch_71 hC h26 d_Ch_waysFrom_101 ?_
    refine g_icmp_ge (tgt := 150) hC d_Ch_waysFrom_104 (by decide) (fun _ => ?_) (fun _ => ?_)
    · refine g_iload_n hC d_Ch_waysFrom_150 rfl ?_
      exact g_iret hC hR d_Ch_waysFrom_151
    · refine g_aload_n hC d_Ch_waysFrom_107 rfl ?_
      refine fg_Ch_20 hC lc_201 d_Ch_waysFrom_108 p0_201_3 ?_
      refine g_iload_n hC d_Ch_waysFrom_111 rfl ?_
      refine gv_aald hC 3 ly_236 rfl d_Ch_waysFrom_112 (fun p27 => ?_)
      refine g_gn (fun n29 h28 => ?_)
      refine g_iload_n hC d_Ch_waysFrom_113 rfl ?_
      refine gv_iald hC h28 d_Ch_waysFrom_114 (fun x30 => ?_)
      refine g_iload hC d_Ch_waysFrom_115 rfl ?_
      refine g_ishr hC d_Ch_waysFrom_117 ?_
      refine g_iconst hC d_Ch_waysFrom_118 k_i1 ?_
      refine g_iand hC d_Ch_waysFrom_119 ?_
      refine g_iconst hC d_Ch_waysFrom_120 k_i1 ?_
      refine g_icmp_ne (tgt := 144) hC d_Ch_waysFrom_121 (by decide) (fun _ => ?_) (fun _ => ?_)
      · refine g_iinc (ls' := [some (.ref (κ.b + 201)), some (.int l1), some (.ref (κ.b + l2)), some (.int l3), some (.int (l4 + 1))]) hC d_Ch_waysFrom_144 rfl k_i1 rfl rfl ?_
        refine g_goto (tgt := 98) hC d_Ch_waysFrom_147 (by decide) ?_
        exact ih l1 l2 l3 (l4 + 1) M
      · refine g_aload_n hC d_Ch_waysFrom_124 rfl ?_
        refine g_iload_n hC d_Ch_waysFrom_125 rfl ?_
        refine g_iload hC d_Ch_waysFrom_126 rfl ?_
        refine gv_callVi hC [.int l1, .int l4] cw_Ch_116 (Ch_leavesLaterOpen_c F l1 l4 M) lc_201 rfl rfl rfl rfl rfl (tv_dtr hdd rfl) rfl d_Ch_waysFrom_128 (fun r31 M32 => ?_)
        refine g_if_eq (tgt := 144) hC d_Ch_waysFrom_131 (by decide) (fun _ => ?_) (fun _ => ?_)
        · refine g_iinc (ls' := [some (.ref (κ.b + 201)), some (.int l1), some (.ref (κ.b + l2)), some (.int l3), some (.int (l4 + 1))]) hC d_Ch_waysFrom_144 rfl k_i1 rfl rfl ?_
          refine g_goto (tgt := 98) hC d_Ch_waysFrom_147 (by decide) ?_
          exact ih l1 l2 l3 (l4 + 1) M32
        · refine g_iload_n hC d_Ch_waysFrom_134 rfl ?_
          refine g_aload_n hC d_Ch_waysFrom_135 rfl ?_
          refine g_iload_n hC d_Ch_waysFrom_136 rfl ?_
          refine g_iconst hC d_Ch_waysFrom_137 k_i1 ?_
          refine g_iadd hC d_Ch_waysFrom_138 ?_
          refine gv_callVi hC [.int (l1 + 1)] cw_Ch_91 (ihs (l1 + 1) M32) lc_201 rfl rfl rfl rfl rfl hdp rfl d_Ch_waysFrom_139 (fun r33 M34 => ?_)
          refine g_iadd hC d_Ch_waysFrom_142 ?_
          refine g_istore_n (ls' := [some (.ref (κ.b + 201)), some (.int l1), some (.ref (κ.b + l2)), some (.int (l3 + r33)), some (.int l4)]) hC d_Ch_waysFrom_143 rfl rfl ?_
          refine g_iinc (ls' := [some (.ref (κ.b + 201)), some (.int l1), some (.ref (κ.b + l2)), some (.int (l3 + r33)), some (.int (l4 + 1))]) hC d_Ch_waysFrom_144 rfl k_i1 rfl rfl ?_
          refine g_goto (tgt := 98) hC d_Ch_waysFrom_147 (by decide) ?_
          exact ih l1 l2 (l3 + r33) (l4 + 1) M34
set_option maxHeartbeats 2000000 in
theorem Ch_waysFrom_c {l : Launch} {θ : tv_Th} (F : Nat) : ∀ (n : Nat) (a1 : Int32) (M : tv_M), tv_Ct l θ ⟨"TiedViews$Choices", "waysFrom", "(I)I"⟩ prog_4_method_10_code 5 (some .int) (2 + 1 * n) tv_ei [.ref (θ.1 + 201), .int a1] M (Ch_waysFrom F n a1 M) := by
  intro n
  induction n with
  | zero => intro a1 M; exact tv_ctn (by rw [Ch_waysFrom])
  | succ nn ihs =>
    intro a1 M
    refine tv_ofG [some (.ref (θ.1 + 201)), some (.int a1), none, none, none] rfl rfl (tv_ent 3 rfl) ?_
    intro κ hl ht hC hR
    subst hl; subst ht
    have hdd : Nat.ble 2 (2 + 1 * (nn + 1)) = true := tv_dge _ _ _
    have hds : Nat.ble 2 (2 + 1 * nn) = true := tv_dge _ _ _
    have hdp : Nat.ble (2 + 1 * nn + 1) (2 + 1 * (nn + 1)) = true := tv_dpm _ _ _
    rw [Ch_waysFrom]
    refine g_aload_n hC d_Ch_waysFrom_0 rfl ?_
    refine fg_Ch_27 hC lc_201 d_Ch_waysFrom_1 p0_201_0 ?_
    refine g_iload_n hC d_Ch_waysFrom_4 rfl ?_
    refine gv_callVr hC [.int a1] cw_Ch_102 (To_eyeAt_c F a1 M) lc_18 rfl rfl rfl rfl rfl (tv_dtr hdd rfl) rfl d_Ch_waysFrom_5 (fun r1 M2 => ?_)
    refine g_astore_nQ (ls' := [some (.ref (κ.b + 201)), some (.int a1), some (tv_re κ.b r1), none, none]) hC d_Ch_waysFrom_8 rfl rfl ?_
    refine g_aload_nQ hC d_Ch_waysFrom_9 rfl ?_
    rcases r1 with _ | p3
    · refine g_nlN ?_
      refine g_ifnonnullN hC d_Ch_waysFrom_10 ?_
      refine g_iconst hC d_Ch_waysFrom_13 k_i1 ?_
      exact g_iret hC hR d_Ch_waysFrom_14
    · refine g_nlS ?_
      refine g_ifnonnullR (tgt := 15) hC d_Ch_waysFrom_10 (by decide) ?_
      refine g_gl (fun h4 => ?_)
      refine g_aload_n hC d_Ch_waysFrom_15 rfl ?_
      refine gv_callVi hC [] cw_Ch_87 (Ey_isChoice_c F p3 M2) h4 rfl rfl rfl rfl rfl (tv_dtr hdd rfl) rfl d_Ch_waysFrom_16 (fun r5 M6 => ?_)
      refine g_if_eq (tgt := 31) hC d_Ch_waysFrom_19 (by decide) (fun _ => ?_) (fun _ => ?_)
      · exact Ch_waysFrom_L31_g hC hR hdd hds hdp ihs F a1 p3 M6
      · refine g_aload_n hC d_Ch_waysFrom_22 rfl ?_
        refine fg_Ch_16 hC lc_201 d_Ch_waysFrom_23 p0_201_2 ?_
        refine g_iload_n hC d_Ch_waysFrom_26 rfl ?_
        refine gv_zald hC ly_235 d_Ch_waysFrom_27 (fun x7 => ?_)
        refine g_if_ne (tgt := 93) hC d_Ch_waysFrom_28 (by decide) (fun _ => ?_) (fun _ => ?_)
        · refine g_iconst hC d_Ch_waysFrom_93 k_i0 ?_
          refine g_istore_n (ls' := [some (.ref (κ.b + 201)), some (.int a1), some (.ref (κ.b + p3)), some (.int 0), none]) hC d_Ch_waysFrom_94 rfl rfl ?_
          refine g_iconst hC d_Ch_waysFrom_95 k_i0 ?_
          refine g_istore (ls' := [some (.ref (κ.b + 201)), some (.int a1), some (.ref (κ.b + p3)), some (.int 0), some (.int 0)]) hC d_Ch_waysFrom_96 rfl rfl ?_
          exact Ch_waysFrom_L98_g hC hR hdd hds hdp ihs F F a1 p3 0 0 M6
        · exact Ch_waysFrom_L31_g hC hR hdd hds hdp ihs F a1 p3 M6
theorem d_Ch_findFirst_0 : decode prog_4_method_11_code 0 = .ok (.aload_n 0, 1) := by decide +kernel
theorem d_Ch_findFirst_1 : decode prog_4_method_11_code 1 = .ok (.getfield 27, 3) := by decide +kernel
theorem d_Ch_findFirst_4 : decode prog_4_method_11_code 4 = .ok (.iload_n 1, 1) := by decide +kernel
theorem d_Ch_findFirst_5 : decode prog_4_method_11_code 5 = .ok (.invokevirtual 102, 3) := by decide +kernel
theorem d_Ch_findFirst_8 : decode prog_4_method_11_code 8 = .ok (.astore_n 2, 1) := by decide +kernel
theorem d_Ch_findFirst_9 : decode prog_4_method_11_code 9 = .ok (.aload_n 2, 1) := by decide +kernel
theorem d_Ch_findFirst_10 : decode prog_4_method_11_code 10 = .ok (.ifnonnull 5, 3) := by decide +kernel
theorem d_Ch_findFirst_13 : decode prog_4_method_11_code 13 = .ok (.iconst 1, 1) := by decide +kernel
theorem d_Ch_findFirst_14 : decode prog_4_method_11_code 14 = .ok (.ireturn, 1) := by decide +kernel
theorem d_Ch_findFirst_15 : decode prog_4_method_11_code 15 = .ok (.aload_n 2, 1) := by decide +kernel
theorem d_Ch_findFirst_16 : decode prog_4_method_11_code 16 = .ok (.invokevirtual 87, 3) := by decide +kernel
theorem d_Ch_findFirst_19 : decode prog_4_method_11_code 19 = .ok (.ifCond .ne 32, 3) := by decide +kernel
theorem d_Ch_findFirst_22 : decode prog_4_method_11_code 22 = .ok (.aload_n 0, 1) := by decide +kernel
theorem d_Ch_findFirst_23 : decode prog_4_method_11_code 23 = .ok (.getfield 20, 3) := by decide +kernel
theorem d_Ch_findFirst_26 : decode prog_4_method_11_code 26 = .ok (.iload_n 1, 1) := by decide +kernel
theorem d_Ch_findFirst_27 : decode prog_4_method_11_code 27 = .ok (.aaload, 1) := by decide +kernel
theorem d_Ch_findFirst_28 : decode prog_4_method_11_code 28 = .ok (.iconst 0, 1) := by decide +kernel
theorem d_Ch_findFirst_29 : decode prog_4_method_11_code 29 = .ok (.aload_n 0, 1) := by decide +kernel
theorem d_Ch_findFirst_30 : decode prog_4_method_11_code 30 = .ok (.getfield 20, 3) := by decide +kernel
theorem d_Ch_findFirst_33 : decode prog_4_method_11_code 33 = .ok (.iload_n 1, 1) := by decide +kernel
theorem d_Ch_findFirst_34 : decode prog_4_method_11_code 34 = .ok (.iconst 1, 1) := by decide +kernel
theorem d_Ch_findFirst_35 : decode prog_4_method_11_code 35 = .ok (.iadd, 1) := by decide +kernel
theorem d_Ch_findFirst_36 : decode prog_4_method_11_code 36 = .ok (.aaload, 1) := by decide +kernel
theorem d_Ch_findFirst_37 : decode prog_4_method_11_code 37 = .ok (.iconst 0, 1) := by decide +kernel
theorem d_Ch_findFirst_38 : decode prog_4_method_11_code 38 = .ok (.bipush 8, 2) := by decide +kernel
theorem d_Ch_findFirst_40 : decode prog_4_method_11_code 40 = .ok (.invokestatic 105, 3) := by decide +kernel
theorem d_Ch_findFirst_43 : decode prog_4_method_11_code 43 = .ok (.aload_n 0, 1) := by decide +kernel
theorem d_Ch_findFirst_44 : decode prog_4_method_11_code 44 = .ok (.iload_n 1, 1) := by decide +kernel
theorem d_Ch_findFirst_45 : decode prog_4_method_11_code 45 = .ok (.iconst 1, 1) := by decide +kernel
theorem d_Ch_findFirst_46 : decode prog_4_method_11_code 46 = .ok (.iadd, 1) := by decide +kernel
theorem d_Ch_findFirst_47 : decode prog_4_method_11_code 47 = .ok (.invokevirtual 97, 3) := by decide +kernel
theorem d_Ch_findFirst_50 : decode prog_4_method_11_code 50 = .ok (.ireturn, 1) := by decide +kernel
theorem d_Ch_findFirst_51 : decode prog_4_method_11_code 51 = .ok (.iconst 0, 1) := by decide +kernel
theorem d_Ch_findFirst_52 : decode prog_4_method_11_code 52 = .ok (.istore_n 3, 1) := by decide +kernel
theorem d_Ch_findFirst_53 : decode prog_4_method_11_code 53 = .ok (.iload_n 3, 1) := by decide +kernel
theorem d_Ch_findFirst_54 : decode prog_4_method_11_code 54 = .ok (.aload_n 2, 1) := by decide +kernel
theorem d_Ch_findFirst_55 : decode prog_4_method_11_code 55 = .ok (.getfield 71, 3) := by decide +kernel
theorem d_Ch_findFirst_58 : decode prog_4_method_11_code 58 = .ok (.if_icmp .ge 53, 3) := by decide +kernel
theorem d_Ch_findFirst_61 : decode prog_4_method_11_code 61 = .ok (.aload_n 0, 1) := by decide +kernel
theorem d_Ch_findFirst_62 : decode prog_4_method_11_code 62 = .ok (.getfield 20, 3) := by decide +kernel
theorem d_Ch_findFirst_65 : decode prog_4_method_11_code 65 = .ok (.iload_n 1, 1) := by decide +kernel
theorem d_Ch_findFirst_66 : decode prog_4_method_11_code 66 = .ok (.aaload, 1) := by decide +kernel
theorem d_Ch_findFirst_67 : decode prog_4_method_11_code 67 = .ok (.iload_n 1, 1) := by decide +kernel
theorem d_Ch_findFirst_68 : decode prog_4_method_11_code 68 = .ok (.iaload, 1) := by decide +kernel
theorem d_Ch_findFirst_69 : decode prog_4_method_11_code 69 = .ok (.iload_n 3, 1) := by decide +kernel
theorem d_Ch_findFirst_70 : decode prog_4_method_11_code 70 = .ok (.ishr, 1) := by decide +kernel
theorem d_Ch_findFirst_71 : decode prog_4_method_11_code 71 = .ok (.iconst 1, 1) := by decide +kernel
theorem d_Ch_findFirst_72 : decode prog_4_method_11_code 72 = .ok (.iand, 1) := by decide +kernel
theorem d_Ch_findFirst_73 : decode prog_4_method_11_code 73 = .ok (.iconst 1, 1) := by decide +kernel
theorem d_Ch_findFirst_74 : decode prog_4_method_11_code 74 = .ok (.if_icmp .ne 31, 3) := by decide +kernel
theorem d_Ch_findFirst_77 : decode prog_4_method_11_code 77 = .ok (.aload_n 0, 1) := by decide +kernel
theorem d_Ch_findFirst_78 : decode prog_4_method_11_code 78 = .ok (.iload_n 1, 1) := by decide +kernel
theorem d_Ch_findFirst_79 : decode prog_4_method_11_code 79 = .ok (.iload_n 3, 1) := by decide +kernel
theorem d_Ch_findFirst_80 : decode prog_4_method_11_code 80 = .ok (.invokevirtual 116, 3) := by decide +kernel
theorem d_Ch_findFirst_83 : decode prog_4_method_11_code 83 = .ok (.ifCond .eq 22, 3) := by decide +kernel
theorem d_Ch_findFirst_86 : decode prog_4_method_11_code 86 = .ok (.aload_n 0, 1) := by decide +kernel
theorem d_Ch_findFirst_87 : decode prog_4_method_11_code 87 = .ok (.getfield 23, 3) := by decide +kernel
theorem d_Ch_findFirst_90 : decode prog_4_method_11_code 90 = .ok (.iload_n 1, 1) := by decide +kernel
theorem d_Ch_findFirst_91 : decode prog_4_method_11_code 91 = .ok (.iload_n 3, 1) := by decide +kernel
theorem d_Ch_findFirst_92 : decode prog_4_method_11_code 92 = .ok (.iastore, 1) := by decide +kernel
theorem d_Ch_findFirst_93 : decode prog_4_method_11_code 93 = .ok (.aload_n 0, 1) := by decide +kernel
theorem d_Ch_findFirst_94 : decode prog_4_method_11_code 94 = .ok (.iload_n 1, 1) := by decide +kernel
theorem d_Ch_findFirst_95 : decode prog_4_method_11_code 95 = .ok (.iconst 1, 1) := by decide +kernel
theorem d_Ch_findFirst_96 : decode prog_4_method_11_code 96 = .ok (.iadd, 1) := by decide +kernel
theorem d_Ch_findFirst_97 : decode prog_4_method_11_code 97 = .ok (.invokevirtual 97, 3) := by decide +kernel
theorem d_Ch_findFirst_100 : decode prog_4_method_11_code 100 = .ok (.ifCond .eq 5, 3) := by decide +kernel
theorem d_Ch_findFirst_103 : decode prog_4_method_11_code 103 = .ok (.iconst 1, 1) := by decide +kernel
theorem d_Ch_findFirst_104 : decode prog_4_method_11_code 104 = .ok (.ireturn, 1) := by decide +kernel
theorem d_Ch_findFirst_105 : decode prog_4_method_11_code 105 = .ok (.iinc 3 1, 3) := by decide +kernel
theorem d_Ch_findFirst_108 : decode prog_4_method_11_code 108 = .ok (.goto (-55), 3) := by decide +kernel
theorem d_Ch_findFirst_111 : decode prog_4_method_11_code 111 = .ok (.iconst 0, 1) := by decide +kernel
theorem d_Ch_findFirst_112 : decode prog_4_method_11_code 112 = .ok (.ireturn, 1) := by decide +kernel
set_option maxHeartbeats 2000000 in
theorem Ch_findFirst_L53_g {κ : tv_Kt} {d ds : Nat} (hC : tv_Cx κ "TiedViews$Choices" prog_4_method_11_code 4 d) (hR : tv_Re κ (some .boolean)) (hdd : Nat.ble 2 d = true) (hds : Nat.ble 2 ds = true) (hdp : Nat.ble (ds + 1) d = true) {self : Int32 → tv_M → Option (Int32 × tv_M)} (ihs : ∀ (a1 : Int32) (M : tv_M), tv_Ct κ.l κ.th ⟨"TiedViews$Choices", "findFirst", "(I)Z"⟩ prog_4_method_11_code 4 (some .boolean) ds tv_ei [.ref (κ.th.1 + 201), .int a1] M (self a1 M)) (F : Nat) : ∀ (n : Nat) (l1 : Int32) (l2 : Nat) (l3 : Int32) (M : tv_M), tv_G κ 4 (tv_Qm κ tv_ei) 53 [some (.ref (κ.b + 201)), some (.int l1), some (.ref (κ.b + l2)), some (.int l3)] [] M (Ch_findFirst_L53 F self n l1 l2 l3 M) := by
  intro n
  induction n with
  | zero => intro _ _ _ _; exact g_none
  | succ nn ih =>
    intro l1 l2 l3 M
    rw [Ch_findFirst_L53]
    refine g_gl (fun h17 => ?_)
    refine g_iload_n hC d_Ch_findFirst_53 rfl ?_
    refine g_aload_n hC d_Ch_findFirst_54 rfl ?_
    refine fg_Ch_71 hC h17 d_Ch_findFirst_55 ?_
    refine g_icmp_ge (tgt := 111) hC d_Ch_findFirst_58 (by decide) (fun _ => ?_) (fun _ => ?_)
    · refine g_iconst hC d_Ch_findFirst_111 k_i0 ?_
      exact g_zret hC hR tv_z0 d_Ch_findFirst_112
    · refine g_aload_n hC d_Ch_findFirst_61 rfl ?_
      refine fg_Ch_20 hC lc_201 d_Ch_findFirst_62 p0_201_3 ?_
      refine g_iload_n hC d_Ch_findFirst_65 rfl ?_
      refine gv_aald hC 3 ly_236 rfl d_Ch_findFirst_66 (fun p18 => ?_)
      refine g_gn (fun n20 h19 => ?_)
      refine g_iload_n hC d_Ch_findFirst_67 rfl ?_
      refine gv_iald hC h19 d_Ch_findFirst_68 (fun x21 => ?_)
      refine g_iload_n hC d_Ch_findFirst_69 rfl ?_
      refine g_ishr hC d_Ch_findFirst_70 ?_
      refine g_iconst hC d_Ch_findFirst_71 k_i1 ?_
      refine g_iand hC d_Ch_findFirst_72 ?_
      refine g_iconst hC d_Ch_findFirst_73 k_i1 ?_
      refine g_icmp_ne (tgt := 105) hC d_Ch_findFirst_74 (by decide) (fun _ => ?_) (fun _ => ?_)
      · refine g_iinc (ls' := [some (.ref (κ.b + 201)), some (.int l1), some (.ref (κ.b + l2)), some (.int (l3 + 1))]) hC d_Ch_findFirst_105 rfl k_i1 rfl rfl ?_
        refine g_goto (tgt := 53) hC d_Ch_findFirst_108 (by decide) ?_
        exact ih l1 l2 (l3 + 1) M
      · refine g_aload_n hC d_Ch_findFirst_77 rfl ?_
        refine g_iload_n hC d_Ch_findFirst_78 rfl ?_
        refine g_iload_n hC d_Ch_findFirst_79 rfl ?_
        refine gv_callVi hC [.int l1, .int l3] cw_Ch_116 (Ch_leavesLaterOpen_c F l1 l3 M) lc_201 rfl rfl rfl rfl rfl (tv_dtr hdd rfl) rfl d_Ch_findFirst_80 (fun r22 M23 => ?_)
        refine g_if_eq (tgt := 105) hC d_Ch_findFirst_83 (by decide) (fun _ => ?_) (fun _ => ?_)
        · refine g_iinc (ls' := [some (.ref (κ.b + 201)), some (.int l1), some (.ref (κ.b + l2)), some (.int (l3 + 1))]) hC d_Ch_findFirst_105 rfl k_i1 rfl rfl ?_
          refine g_goto (tgt := 53) hC d_Ch_findFirst_108 (by decide) ?_
          exact ih l1 l2 (l3 + 1) M23
        · refine g_aload_n hC d_Ch_findFirst_86 rfl ?_
          refine fg_Ch_23 hC lc_201 d_Ch_findFirst_87 p0_201_4 ?_
          refine g_iload_n hC d_Ch_findFirst_90 rfl ?_
          refine g_iload_n hC d_Ch_findFirst_91 rfl ?_
          refine gv_iast hC ly_246 d_Ch_findFirst_92 (fun M24 => ?_)
          refine g_aload_n hC d_Ch_findFirst_93 rfl ?_
          refine g_iload_n hC d_Ch_findFirst_94 rfl ?_
          refine g_iconst hC d_Ch_findFirst_95 k_i1 ?_
          refine g_iadd hC d_Ch_findFirst_96 ?_
          refine gv_callVi hC [.int (l1 + 1)] cw_Ch_97 (ihs (l1 + 1) M24) lc_201 rfl rfl rfl rfl rfl hdp rfl d_Ch_findFirst_97 (fun r25 M26 => ?_)
          refine g_if_eq (tgt := 105) hC d_Ch_findFirst_100 (by decide) (fun _ => ?_) (fun _ => ?_)
          · refine g_iinc (ls' := [some (.ref (κ.b + 201)), some (.int l1), some (.ref (κ.b + l2)), some (.int (l3 + 1))]) hC d_Ch_findFirst_105 rfl k_i1 rfl rfl ?_
            refine g_goto (tgt := 53) hC d_Ch_findFirst_108 (by decide) ?_
            exact ih l1 l2 (l3 + 1) M26
          · refine g_iconst hC d_Ch_findFirst_103 k_i1 ?_
            exact g_zret hC hR tv_z1 d_Ch_findFirst_104
set_option maxHeartbeats 2000000 in
theorem Ch_findFirst_c {l : Launch} {θ : tv_Th} (F : Nat) : ∀ (n : Nat) (a1 : Int32) (M : tv_M), tv_Ct l θ ⟨"TiedViews$Choices", "findFirst", "(I)Z"⟩ prog_4_method_11_code 4 (some .boolean) (2 + 1 * n) tv_ei [.ref (θ.1 + 201), .int a1] M (Ch_findFirst F n a1 M) := by
  intro n
  induction n with
  | zero => intro a1 M; exact tv_ctn (by rw [Ch_findFirst])
  | succ nn ihs =>
    intro a1 M
    refine tv_ofG [some (.ref (θ.1 + 201)), some (.int a1), none, none] rfl rfl (tv_ent 2 rfl) ?_
    intro κ hl ht hC hR
    subst hl; subst ht
    have hdd : Nat.ble 2 (2 + 1 * (nn + 1)) = true := tv_dge _ _ _
    have hds : Nat.ble 2 (2 + 1 * nn) = true := tv_dge _ _ _
    have hdp : Nat.ble (2 + 1 * nn + 1) (2 + 1 * (nn + 1)) = true := tv_dpm _ _ _
    rw [Ch_findFirst]
    refine g_aload_n hC d_Ch_findFirst_0 rfl ?_
    refine fg_Ch_27 hC lc_201 d_Ch_findFirst_1 p0_201_0 ?_
    refine g_iload_n hC d_Ch_findFirst_4 rfl ?_
    refine gv_callVr hC [.int a1] cw_Ch_102 (To_eyeAt_c F a1 M) lc_18 rfl rfl rfl rfl rfl (tv_dtr hdd rfl) rfl d_Ch_findFirst_5 (fun r1 M2 => ?_)
    refine g_astore_nQ (ls' := [some (.ref (κ.b + 201)), some (.int a1), some (tv_re κ.b r1), none]) hC d_Ch_findFirst_8 rfl rfl ?_
    refine g_aload_nQ hC d_Ch_findFirst_9 rfl ?_
    rcases r1 with _ | p3
    · refine g_nlN ?_
      refine g_ifnonnullN hC d_Ch_findFirst_10 ?_
      refine g_iconst hC d_Ch_findFirst_13 k_i1 ?_
      exact g_zret hC hR tv_z1 d_Ch_findFirst_14
    · refine g_nlS ?_
      refine g_ifnonnullR (tgt := 15) hC d_Ch_findFirst_10 (by decide) ?_
      refine g_gl (fun h4 => ?_)
      refine g_aload_n hC d_Ch_findFirst_15 rfl ?_
      refine gv_callVi hC [] cw_Ch_87 (Ey_isChoice_c F p3 M2) h4 rfl rfl rfl rfl rfl (tv_dtr hdd rfl) rfl d_Ch_findFirst_16 (fun r5 M6 => ?_)
      refine g_if_ne (tgt := 51) hC d_Ch_findFirst_19 (by decide) (fun _ => ?_) (fun _ => ?_)
      · refine g_iconst hC d_Ch_findFirst_51 k_i0 ?_
        refine g_istore_n (ls' := [some (.ref (κ.b + 201)), some (.int a1), some (.ref (κ.b + p3)), some (.int 0)]) hC d_Ch_findFirst_52 rfl rfl ?_
        exact Ch_findFirst_L53_g hC hR hdd hds hdp ihs F F a1 p3 0 M6
      · refine g_aload_n hC d_Ch_findFirst_22 rfl ?_
        refine fg_Ch_20 hC lc_201 d_Ch_findFirst_23 p0_201_3 ?_
        refine g_iload_n hC d_Ch_findFirst_26 rfl ?_
        refine gv_aald hC 3 ly_236 rfl d_Ch_findFirst_27 (fun p7 => ?_)
        refine g_gn (fun n9 h8 => ?_)
        refine g_iconst hC d_Ch_findFirst_28 k_i0 ?_
        refine g_aload_n hC d_Ch_findFirst_29 rfl ?_
        refine fg_Ch_20 hC lc_201 d_Ch_findFirst_30 p0_201_3 ?_
        refine g_iload_n hC d_Ch_findFirst_33 rfl ?_
        refine g_iconst hC d_Ch_findFirst_34 k_i1 ?_
        refine g_iadd hC d_Ch_findFirst_35 ?_
        refine gv_aald hC 3 ly_236 rfl d_Ch_findFirst_36 (fun p10 => ?_)
        refine g_gn (fun n12 h11 => ?_)
        refine g_iconst hC d_Ch_findFirst_37 k_i0 ?_
        refine g_bipush hC d_Ch_findFirst_38 k_b8 ?_
        refine gv_copy hC h8 h11 wc_Ch_105 rfl (tv_dtr hdd rfl) d_Ch_findFirst_40 (fun M13 => ?_)
        refine g_aload_n hC d_Ch_findFirst_43 rfl ?_
        refine g_iload_n hC d_Ch_findFirst_44 rfl ?_
        refine g_iconst hC d_Ch_findFirst_45 k_i1 ?_
        refine g_iadd hC d_Ch_findFirst_46 ?_
        refine gv_callVi hC [.int (a1 + 1)] cw_Ch_97 (ihs (a1 + 1) M13) lc_201 rfl rfl rfl rfl rfl hdp rfl d_Ch_findFirst_47 (fun r14 M15 => ?_)
        refine g_zo (fun z16 => ?_)
        exact g_zret hC hR z16 d_Ch_findFirst_50
theorem d_Ch_ways_0 : decode prog_4_method_8_code 0 = .ok (.aload_n 0, 1) := by decide +kernel
theorem d_Ch_ways_1 : decode prog_4_method_8_code 1 = .ok (.getfield 31, 3) := by decide +kernel
theorem d_Ch_ways_4 : decode prog_4_method_8_code 4 = .ok (.ifCond .ne 69, 3) := by decide +kernel
theorem d_Ch_ways_7 : decode prog_4_method_8_code 7 = .ok (.iconst 0, 1) := by decide +kernel
theorem d_Ch_ways_8 : decode prog_4_method_8_code 8 = .ok (.istore_n 1, 1) := by decide +kernel
theorem d_Ch_ways_9 : decode prog_4_method_8_code 9 = .ok (.iload_n 1, 1) := by decide +kernel
theorem d_Ch_ways_10 : decode prog_4_method_8_code 10 = .ok (.aload_n 0, 1) := by decide +kernel
theorem d_Ch_ways_11 : decode prog_4_method_8_code 11 = .ok (.getfield 27, 3) := by decide +kernel
theorem d_Ch_ways_14 : decode prog_4_method_8_code 14 = .ok (.getfield 60, 3) := by decide +kernel
theorem d_Ch_ways_17 : decode prog_4_method_8_code 17 = .ok (.if_icmp .ge 29, 3) := by decide +kernel
theorem d_Ch_ways_20 : decode prog_4_method_8_code 20 = .ok (.aload_n 0, 1) := by decide +kernel
theorem d_Ch_ways_21 : decode prog_4_method_8_code 21 = .ok (.getfield 20, 3) := by decide +kernel
theorem d_Ch_ways_24 : decode prog_4_method_8_code 24 = .ok (.iconst 0, 1) := by decide +kernel
theorem d_Ch_ways_25 : decode prog_4_method_8_code 25 = .ok (.aaload, 1) := by decide +kernel
theorem d_Ch_ways_26 : decode prog_4_method_8_code 26 = .ok (.iload_n 1, 1) := by decide +kernel
theorem d_Ch_ways_27 : decode prog_4_method_8_code 27 = .ok (.aload_n 0, 1) := by decide +kernel
theorem d_Ch_ways_28 : decode prog_4_method_8_code 28 = .ok (.getfield 27, 3) := by decide +kernel
theorem d_Ch_ways_31 : decode prog_4_method_8_code 31 = .ok (.getfield 83, 3) := by decide +kernel
theorem d_Ch_ways_34 : decode prog_4_method_8_code 34 = .ok (.iload_n 1, 1) := by decide +kernel
theorem d_Ch_ways_35 : decode prog_4_method_8_code 35 = .ok (.aaload, 1) := by decide +kernel
theorem d_Ch_ways_36 : decode prog_4_method_8_code 36 = .ok (.getfield 76, 3) := by decide +kernel
theorem d_Ch_ways_39 : decode prog_4_method_8_code 39 = .ok (.iastore, 1) := by decide +kernel
theorem d_Ch_ways_40 : decode prog_4_method_8_code 40 = .ok (.iinc 1 1, 3) := by decide +kernel
theorem d_Ch_ways_43 : decode prog_4_method_8_code 43 = .ok (.goto (-34), 3) := by decide +kernel
theorem d_Ch_ways_46 : decode prog_4_method_8_code 46 = .ok (.aload_n 0, 1) := by decide +kernel
theorem d_Ch_ways_47 : decode prog_4_method_8_code 47 = .ok (.aload_n 0, 1) := by decide +kernel
theorem d_Ch_ways_48 : decode prog_4_method_8_code 48 = .ok (.iconst 0, 1) := by decide +kernel
theorem d_Ch_ways_49 : decode prog_4_method_8_code 49 = .ok (.invokevirtual 91, 3) := by decide +kernel
theorem d_Ch_ways_52 : decode prog_4_method_8_code 52 = .ok (.putfield 94, 3) := by decide +kernel
theorem d_Ch_ways_55 : decode prog_4_method_8_code 55 = .ok (.aload_n 0, 1) := by decide +kernel
theorem d_Ch_ways_56 : decode prog_4_method_8_code 56 = .ok (.getfield 94, 3) := by decide +kernel
theorem d_Ch_ways_59 : decode prog_4_method_8_code 59 = .ok (.ifCond .le 9, 3) := by decide +kernel
theorem d_Ch_ways_62 : decode prog_4_method_8_code 62 = .ok (.aload_n 0, 1) := by decide +kernel
theorem d_Ch_ways_63 : decode prog_4_method_8_code 63 = .ok (.iconst 0, 1) := by decide +kernel
theorem d_Ch_ways_64 : decode prog_4_method_8_code 64 = .ok (.invokevirtual 97, 3) := by decide +kernel
theorem d_Ch_ways_67 : decode prog_4_method_8_code 67 = .ok (.pop, 1) := by decide +kernel
theorem d_Ch_ways_68 : decode prog_4_method_8_code 68 = .ok (.aload_n 0, 1) := by decide +kernel
theorem d_Ch_ways_69 : decode prog_4_method_8_code 69 = .ok (.iconst 1, 1) := by decide +kernel
theorem d_Ch_ways_70 : decode prog_4_method_8_code 70 = .ok (.putfield 31, 3) := by decide +kernel
theorem d_Ch_ways_73 : decode prog_4_method_8_code 73 = .ok (.aload_n 0, 1) := by decide +kernel
theorem d_Ch_ways_74 : decode prog_4_method_8_code 74 = .ok (.getfield 94, 3) := by decide +kernel
theorem d_Ch_ways_77 : decode prog_4_method_8_code 77 = .ok (.ireturn, 1) := by decide +kernel
set_option maxHeartbeats 2000000 in
theorem Ch_ways_L9_g {κ : tv_Kt} (hC : tv_Cx κ "TiedViews$Choices" prog_4_method_8_code 2 15) (hR : tv_Re κ (some .int)) (F : Nat) : ∀ (n : Nat) (l1 : Int32) (M : tv_M), tv_G κ 2 (tv_Qm κ tv_ei) 9 [some (.ref (κ.b + 201)), some (.int l1)] [] M (Ch_ways_L9 F n l1 M) := by
  intro n
  induction n with
  | zero => intro _ _; exact g_none
  | succ nn ih =>
    intro l1 M
    rw [Ch_ways_L9]
    refine g_iload_n hC d_Ch_ways_9 rfl ?_
    refine g_aload_n hC d_Ch_ways_10 rfl ?_
    refine fg_Ch_27 hC lc_201 d_Ch_ways_11 p0_201_0 ?_
    refine fg_Ch_60 hC lc_18 d_Ch_ways_14 ?_
    refine g_icmp_ge (tgt := 46) hC d_Ch_ways_17 (by decide) (fun _ => ?_) (fun _ => ?_)
    · refine g_aload_n hC d_Ch_ways_46 rfl ?_
      refine g_aload_n hC d_Ch_ways_47 rfl ?_
      refine g_iconst hC d_Ch_ways_48 k_i0 ?_
      refine gv_callVi hC [.int 0] cw_Ch_91 (Ch_waysFrom_c F 12 0 M) lc_201 rfl rfl rfl rfl rfl rfl rfl d_Ch_ways_49 (fun r1 M2 => ?_)
      refine fp_Ch_94 hC lc_201 d_Ch_ways_52 (fun M3 => ?_)
      refine g_aload_n hC d_Ch_ways_55 rfl ?_
      refine fg_Ch_94 hC lc_201 d_Ch_ways_56 ?_
      refine g_if_le (tgt := 68) hC d_Ch_ways_59 (by decide) (fun _ => ?_) (fun _ => ?_)
      · refine g_aload_n hC d_Ch_ways_68 rfl ?_
        refine g_iconst hC d_Ch_ways_69 k_i1 ?_
        refine fp_Ch_31 hC lc_201 tv_z1 d_Ch_ways_70 (fun M4 => ?_)
        refine g_aload_n hC d_Ch_ways_73 rfl ?_
        refine fg_Ch_94 hC lc_201 d_Ch_ways_74 ?_
        exact g_iret hC hR d_Ch_ways_77
      · refine g_aload_n hC d_Ch_ways_62 rfl ?_
        refine g_iconst hC d_Ch_ways_63 k_i0 ?_
        refine gv_callVi hC [.int 0] cw_Ch_97 (Ch_findFirst_c F 12 0 M3) lc_201 rfl rfl rfl rfl rfl rfl rfl d_Ch_ways_64 (fun r5 M6 => ?_)
        refine g_pop hC d_Ch_ways_67 rfl ?_
        refine g_aload_n hC d_Ch_ways_68 rfl ?_
        refine g_iconst hC d_Ch_ways_69 k_i1 ?_
        refine fp_Ch_31 hC lc_201 tv_z1 d_Ch_ways_70 (fun M7 => ?_)
        refine g_aload_n hC d_Ch_ways_73 rfl ?_
        refine fg_Ch_94 hC lc_201 d_Ch_ways_74 ?_
        exact g_iret hC hR d_Ch_ways_77
    · refine g_aload_n hC d_Ch_ways_20 rfl ?_
      refine fg_Ch_20 hC lc_201 d_Ch_ways_21 p0_201_3 ?_
      refine g_iconst hC d_Ch_ways_24 k_i0 ?_
      refine gv_aald hC 3 ly_236 rfl d_Ch_ways_25 (fun p8 => ?_)
      refine g_gn (fun n10 h9 => ?_)
      refine g_iload_n hC d_Ch_ways_26 rfl ?_
      refine g_aload_n hC d_Ch_ways_27 rfl ?_
      refine fg_Ch_27 hC lc_201 d_Ch_ways_28 p0_201_0 ?_
      refine fg_Ch_83 hC lc_18 d_Ch_ways_31 p0_18_1 ?_
      refine g_iload_n hC d_Ch_ways_34 rfl ?_
      refine gv_aald hC 1 ly_19 rfl d_Ch_ways_35 (fun p11 => ?_)
      refine g_gl (fun h12 => ?_)
      refine fg_Ch_76 hC h12 d_Ch_ways_36 ?_
      refine gv_iast hC h9 d_Ch_ways_39 (fun M13 => ?_)
      refine g_iinc (ls' := [some (.ref (κ.b + 201)), some (.int (l1 + 1))]) hC d_Ch_ways_40 rfl k_i1 rfl rfl ?_
      refine g_goto (tgt := 9) hC d_Ch_ways_43 (by decide) ?_
      exact ih (l1 + 1) M13
set_option maxHeartbeats 2000000 in
theorem Ch_ways_c {l : Launch} {θ : tv_Th} (F : Nat) (M : tv_M) : tv_Ct l θ ⟨"TiedViews$Choices", "ways", "()I"⟩ prog_4_method_8_code 2 (some .int) 15 tv_ei [.ref (θ.1 + 201)] M (Ch_ways F M) := by
  refine tv_ofG [some (.ref (θ.1 + 201)), none] rfl rfl (tv_ent 1 rfl) ?_
  intro κ hl ht hC hR
  subst hl; subst ht
  unfold Ch_ways
  refine g_aload_n hC d_Ch_ways_0 rfl ?_
  refine fg_Ch_31 hC lc_201 d_Ch_ways_1 ?_
  refine g_if_ne (tgt := 73) hC d_Ch_ways_4 (by decide) (fun _ => ?_) (fun _ => ?_)
  · refine g_aload_n hC d_Ch_ways_73 rfl ?_
    refine fg_Ch_94 hC lc_201 d_Ch_ways_74 ?_
    exact g_iret hC hR d_Ch_ways_77
  · refine g_iconst hC d_Ch_ways_7 k_i0 ?_
    refine g_istore_n (ls' := [some (.ref (κ.b + 201)), some (.int 0)]) hC d_Ch_ways_8 rfl rfl ?_
    exact Ch_ways_L9_g hC hR F F 0 M
theorem d_Ch_firstValue_0 : decode prog_4_method_9_code 0 = .ok (.iload_n 1, 1) := by decide +kernel
theorem d_Ch_firstValue_1 : decode prog_4_method_9_code 1 = .ok (.ifCond .lt 9, 3) := by decide +kernel
theorem d_Ch_firstValue_4 : decode prog_4_method_9_code 4 = .ok (.iload_n 1, 1) := by decide +kernel
theorem d_Ch_firstValue_5 : decode prog_4_method_9_code 5 = .ok (.bipush 8, 2) := by decide +kernel
theorem d_Ch_firstValue_7 : decode prog_4_method_9_code 7 = .ok (.if_icmp .lt 8, 3) := by decide +kernel
theorem d_Ch_firstValue_10 : decode prog_4_method_9_code 10 = .ok (.ldc 101, 2) := by decide +kernel
theorem d_Ch_firstValue_12 : decode prog_4_method_9_code 12 = .ok (.goto 9, 3) := by decide +kernel
theorem d_Ch_firstValue_15 : decode prog_4_method_9_code 15 = .ok (.aload_n 0, 1) := by decide +kernel
theorem d_Ch_firstValue_16 : decode prog_4_method_9_code 16 = .ok (.getfield 23, 3) := by decide +kernel
theorem d_Ch_firstValue_19 : decode prog_4_method_9_code 19 = .ok (.iload_n 1, 1) := by decide +kernel
theorem d_Ch_firstValue_20 : decode prog_4_method_9_code 20 = .ok (.iaload, 1) := by decide +kernel
theorem d_Ch_firstValue_21 : decode prog_4_method_9_code 21 = .ok (.ireturn, 1) := by decide +kernel
set_option maxHeartbeats 2000000 in
theorem Ch_firstValue_c {l : Launch} {θ : tv_Th} (F : Nat) (a1 : Int32) (M : tv_M) : tv_Ct l θ ⟨"TiedViews$Choices", "firstValue", "(I)I"⟩ prog_4_method_9_code 2 (some .int) 0 tv_ei [.ref (θ.1 + 201), .int a1] M (Ch_firstValue F a1 M) := by
  refine tv_ofG [some (.ref (θ.1 + 201)), some (.int a1)] rfl rfl (tv_ent 0 rfl) ?_
  intro κ hl ht hC hR
  subst hl; subst ht
  unfold Ch_firstValue
  refine g_iload_n hC d_Ch_firstValue_0 rfl ?_
  refine g_if_lt (tgt := 10) hC d_Ch_firstValue_1 (by decide) (fun _ => ?_) (fun _ => ?_)
  · refine g_ldc hC d_Ch_firstValue_10 wk_Ch_101 ?_
    refine g_goto (tgt := 21) hC d_Ch_firstValue_12 (by decide) ?_
    exact g_iret hC hR d_Ch_firstValue_21
  · refine g_iload_n hC d_Ch_firstValue_4 rfl ?_
    refine g_bipush hC d_Ch_firstValue_5 k_b8 ?_
    refine g_icmp_lt (tgt := 15) hC d_Ch_firstValue_7 (by decide) (fun _ => ?_) (fun _ => ?_)
    · refine g_aload_n hC d_Ch_firstValue_15 rfl ?_
      refine fg_Ch_23 hC lc_201 d_Ch_firstValue_16 p0_201_4 ?_
      refine g_iload_n hC d_Ch_firstValue_19 rfl ?_
      refine gv_iald hC ly_246 d_Ch_firstValue_20 (fun x1 => ?_)
      exact g_iret hC hR d_Ch_firstValue_21
    · refine g_ldc hC d_Ch_firstValue_10 wk_Ch_101 ?_
      refine g_goto (tgt := 21) hC d_Ch_firstValue_12 (by decide) ?_
      exact g_iret hC hR d_Ch_firstValue_21
theorem d_Xx_fills_0 : decode prog_1_method_26_code 0 = .ok (.iload_n 1, 1) := by decide +kernel
theorem d_Xx_fills_1 : decode prog_1_method_26_code 1 = .ok (.iconst (-1), 1) := by decide +kernel
theorem d_Xx_fills_2 : decode prog_1_method_26_code 2 = .ok (.if_icmp .ne 11, 3) := by decide +kernel
theorem d_Xx_fills_5 : decode prog_1_method_26_code 5 = .ok (.aload_n 0, 1) := by decide +kernel
theorem d_Xx_fills_6 : decode prog_1_method_26_code 6 = .ok (.getfield 68, 3) := by decide +kernel
theorem d_Xx_fills_9 : decode prog_1_method_26_code 9 = .ok (.invokevirtual 281, 3) := by decide +kernel
theorem d_Xx_fills_12 : decode prog_1_method_26_code 12 = .ok (.ireturn, 1) := by decide +kernel
theorem d_Xx_fills_13 : decode prog_1_method_26_code 13 = .ok (.aload_n 0, 1) := by decide +kernel
theorem d_Xx_fills_14 : decode prog_1_method_26_code 14 = .ok (.getfield 29, 3) := by decide +kernel
theorem d_Xx_fills_17 : decode prog_1_method_26_code 17 = .ok (.iload_n 1, 1) := by decide +kernel
theorem d_Xx_fills_18 : decode prog_1_method_26_code 18 = .ok (.invokevirtual 271, 3) := by decide +kernel
theorem d_Xx_fills_21 : decode prog_1_method_26_code 21 = .ok (.ifnonnull 6, 3) := by decide +kernel
theorem d_Xx_fills_24 : decode prog_1_method_26_code 24 = .ok (.ldc 83, 2) := by decide +kernel
theorem d_Xx_fills_26 : decode prog_1_method_26_code 26 = .ok (.ireturn, 1) := by decide +kernel
theorem d_Xx_fills_27 : decode prog_1_method_26_code 27 = .ok (.aload_n 0, 1) := by decide +kernel
theorem d_Xx_fills_28 : decode prog_1_method_26_code 28 = .ok (.getfield 68, 3) := by decide +kernel
theorem d_Xx_fills_31 : decode prog_1_method_26_code 31 = .ok (.invokevirtual 281, 3) := by decide +kernel
theorem d_Xx_fills_34 : decode prog_1_method_26_code 34 = .ok (.ifCond .ne 8, 3) := by decide +kernel
theorem d_Xx_fills_37 : decode prog_1_method_26_code 37 = .ok (.ldc 166, 2) := by decide +kernel
theorem d_Xx_fills_39 : decode prog_1_method_26_code 39 = .ok (.goto 11, 3) := by decide +kernel
theorem d_Xx_fills_42 : decode prog_1_method_26_code 42 = .ok (.aload_n 0, 1) := by decide +kernel
theorem d_Xx_fills_43 : decode prog_1_method_26_code 43 = .ok (.getfield 68, 3) := by decide +kernel
theorem d_Xx_fills_46 : decode prog_1_method_26_code 46 = .ok (.iload_n 1, 1) := by decide +kernel
theorem d_Xx_fills_47 : decode prog_1_method_26_code 47 = .ok (.invokevirtual 284, 3) := by decide +kernel
theorem d_Xx_fills_50 : decode prog_1_method_26_code 50 = .ok (.ireturn, 1) := by decide +kernel
set_option maxHeartbeats 2000000 in
theorem Xx_fills_c {l : Launch} {θ : tv_Th} (F : Nat) (a1 : Int32) (M : tv_M) : tv_Ct l θ ⟨"TiedViews", "fills", "(I)I"⟩ prog_1_method_26_code 2 (some .int) 16 tv_ei [.ref (θ.1 + 0), .int a1] M (Xx_fills F a1 M) := by
  refine tv_ofG [some (.ref (θ.1 + 0)), some (.int a1)] rfl rfl (tv_ent 0 rfl) ?_
  intro κ hl ht hC hR
  subst hl; subst ht
  unfold Xx_fills
  refine g_iload_n hC d_Xx_fills_0 rfl ?_
  refine g_iconst hC d_Xx_fills_1 k_im1 ?_
  refine g_icmp_ne (tgt := 13) hC d_Xx_fills_2 (by decide) (fun _ => ?_) (fun _ => ?_)
  · refine g_aload_n hC d_Xx_fills_13 rfl ?_
    refine fg_Xx_29 hC lc_0 d_Xx_fills_14 p0_0_2 ?_
    refine g_iload_n hC d_Xx_fills_17 rfl ?_
    refine gv_callVr hC [.int a1] cw_Xx_271 (To_choiceAt_c F a1 M) lc_18 rfl rfl rfl rfl rfl rfl rfl d_Xx_fills_18 (fun r1 M2 => ?_)
    rcases r1 with _ | p3
    · refine g_nlN ?_
      refine g_ifnonnullN hC d_Xx_fills_21 ?_
      refine g_ldc hC d_Xx_fills_24 wk_Xx_83 ?_
      exact g_iret hC hR d_Xx_fills_26
    · refine g_nlS ?_
      refine g_ifnonnullR (tgt := 27) hC d_Xx_fills_21 (by decide) ?_
      refine g_gl (fun h4 => ?_)
      refine g_aload_n hC d_Xx_fills_27 rfl ?_
      refine fg_Xx_68 hC lc_0 d_Xx_fills_28 p0_0_7 ?_
      refine gv_callVi hC [] cw_Xx_281 (Ch_ways_c F M2) lc_201 rfl rfl rfl rfl rfl rfl rfl d_Xx_fills_31 (fun r5 M6 => ?_)
      refine g_if_ne (tgt := 42) hC d_Xx_fills_34 (by decide) (fun _ => ?_) (fun _ => ?_)
      · refine g_aload_n hC d_Xx_fills_42 rfl ?_
        refine fg_Xx_68 hC lc_0 d_Xx_fills_43 p0_0_7 ?_
        refine g_iload_n hC d_Xx_fills_46 rfl ?_
        refine gv_callVi hC [.int a1] cw_Xx_284 (Ch_firstValue_c F a1 M6) lc_201 rfl rfl rfl rfl rfl rfl rfl d_Xx_fills_47 (fun r7 M8 => ?_)
        exact g_iret hC hR d_Xx_fills_50
      · refine g_ldc hC d_Xx_fills_37 wk_Xx_166 ?_
        refine g_goto (tgt := 50) hC d_Xx_fills_39 (by decide) ?_
        exact g_iret hC hR d_Xx_fills_50
  · refine g_aload_n hC d_Xx_fills_5 rfl ?_
    refine fg_Xx_68 hC lc_0 d_Xx_fills_6 p0_0_7 ?_
    refine gv_callVi hC [] cw_Xx_281 (Ch_ways_c F M) lc_201 rfl rfl rfl rfl rfl rfl rfl d_Xx_fills_9 (fun r9 M10 => ?_)
    exact g_iret hC hR d_Xx_fills_12
theorem d_Bo_kindOf_0 : decode prog_3_method_2_code 0 = .ok (.aload_n 0, 1) := by decide +kernel
theorem d_Bo_kindOf_1 : decode prog_3_method_2_code 1 = .ok (.getfield 19, 3) := by decide +kernel
theorem d_Bo_kindOf_4 : decode prog_3_method_2_code 4 = .ok (.ifCond .lt 14, 3) := by decide +kernel
theorem d_Bo_kindOf_7 : decode prog_3_method_2_code 7 = .ok (.aload_n 0, 1) := by decide +kernel
theorem d_Bo_kindOf_8 : decode prog_3_method_2_code 8 = .ok (.getfield 19, 3) := by decide +kernel
theorem d_Bo_kindOf_11 : decode prog_3_method_2_code 11 = .ok (.getstatic 25, 3) := by decide +kernel
theorem d_Bo_kindOf_14 : decode prog_3_method_2_code 14 = .ok (.arraylength, 1) := by decide +kernel
theorem d_Bo_kindOf_15 : decode prog_3_method_2_code 15 = .ok (.if_icmp .lt 7, 3) := by decide +kernel
theorem d_Bo_kindOf_18 : decode prog_3_method_2_code 18 = .ok (.iconst 0, 1) := by decide +kernel
theorem d_Bo_kindOf_19 : decode prog_3_method_2_code 19 = .ok (.goto 11, 3) := by decide +kernel
theorem d_Bo_kindOf_22 : decode prog_3_method_2_code 22 = .ok (.getstatic 25, 3) := by decide +kernel
theorem d_Bo_kindOf_25 : decode prog_3_method_2_code 25 = .ok (.aload_n 0, 1) := by decide +kernel
theorem d_Bo_kindOf_26 : decode prog_3_method_2_code 26 = .ok (.getfield 19, 3) := by decide +kernel
theorem d_Bo_kindOf_29 : decode prog_3_method_2_code 29 = .ok (.iaload, 1) := by decide +kernel
theorem d_Bo_kindOf_30 : decode prog_3_method_2_code 30 = .ok (.ireturn, 1) := by decide +kernel
set_option maxHeartbeats 2000000 in
theorem Bo_kindOf_c {l : Launch} {θ : tv_Th} (F : Nat) (a0 : Nat) (M : tv_M) : tv_Ct l θ ⟨"TiedViews$Bodies", "kindOf", "(LTiedViews$Eye;)I"⟩ prog_3_method_2_code 1 (some .int) 0 tv_ei [.ref (θ.1 + a0)] M (Bo_kindOf F a0 M) := by
  refine tv_ofG [some (.ref (θ.1 + a0))] rfl rfl (tv_ent 0 rfl) ?_
  intro κ hl ht hC hR
  subst hl; subst ht
  unfold Bo_kindOf
  refine g_gl (fun h1 => ?_)
  refine g_aload_n hC d_Bo_kindOf_0 rfl ?_
  refine fg_Bo_19 hC h1 d_Bo_kindOf_1 ?_
  refine g_if_lt (tgt := 18) hC d_Bo_kindOf_4 (by decide) (fun _ => ?_) (fun _ => ?_)
  · refine g_iconst hC d_Bo_kindOf_18 k_i0 ?_
    refine g_goto (tgt := 30) hC d_Bo_kindOf_19 (by decide) ?_
    exact g_iret hC hR d_Bo_kindOf_30
  · refine g_aload_n hC d_Bo_kindOf_7 rfl ?_
    refine fg_Bo_19 hC h1 d_Bo_kindOf_8 ?_
    refine g_gets hC 0 rfl ws_Bo_25 d_Bo_kindOf_11 ?_
    refine g_slen (x := 4) hC 0 rfl d_Bo_kindOf_14 (by decide) ?_
    refine g_icmp_lt (tgt := 22) hC d_Bo_kindOf_15 (by decide) (fun _ => ?_) (fun _ => ?_)
    · refine g_gets hC 0 rfl ws_Bo_25 d_Bo_kindOf_22 ?_
      refine g_aload_n hC d_Bo_kindOf_25 rfl ?_
      refine fg_Bo_19 hC h1 d_Bo_kindOf_26 ?_
      refine gv_sald hC 0 rfl d_Bo_kindOf_29 (fun x2 => ?_)
      exact g_iret hC hR d_Bo_kindOf_30
    · refine g_iconst hC d_Bo_kindOf_18 k_i0 ?_
      refine g_goto (tgt := 30) hC d_Bo_kindOf_19 (by decide) ?_
      exact g_iret hC hR d_Bo_kindOf_30
theorem d_Xx_kind_0 : decode prog_1_method_27_code 0 = .ok (.aload_n 0, 1) := by decide +kernel
theorem d_Xx_kind_1 : decode prog_1_method_27_code 1 = .ok (.getfield 29, 3) := by decide +kernel
theorem d_Xx_kind_4 : decode prog_1_method_27_code 4 = .ok (.iload_n 1, 1) := by decide +kernel
theorem d_Xx_kind_5 : decode prog_1_method_27_code 5 = .ok (.invokevirtual 151, 3) := by decide +kernel
theorem d_Xx_kind_8 : decode prog_1_method_27_code 8 = .ok (.astore_n 2, 1) := by decide +kernel
theorem d_Xx_kind_9 : decode prog_1_method_27_code 9 = .ok (.aload_n 2, 1) := by decide +kernel
theorem d_Xx_kind_10 : decode prog_1_method_27_code 10 = .ok (.ifnonnull 8, 3) := by decide +kernel
theorem d_Xx_kind_13 : decode prog_1_method_27_code 13 = .ok (.ldc 83, 2) := by decide +kernel
theorem d_Xx_kind_15 : decode prog_1_method_27_code 15 = .ok (.goto 7, 3) := by decide +kernel
theorem d_Xx_kind_18 : decode prog_1_method_27_code 18 = .ok (.aload_n 2, 1) := by decide +kernel
theorem d_Xx_kind_19 : decode prog_1_method_27_code 19 = .ok (.invokestatic 287, 3) := by decide +kernel
theorem d_Xx_kind_22 : decode prog_1_method_27_code 22 = .ok (.ireturn, 1) := by decide +kernel
set_option maxHeartbeats 2000000 in
theorem Xx_kind_c {l : Launch} {θ : tv_Th} (F : Nat) (a1 : Int32) (M : tv_M) : tv_Ct l θ ⟨"TiedViews", "kind", "(I)I"⟩ prog_1_method_27_code 3 (some .int) 1 tv_ei [.ref (θ.1 + 0), .int a1] M (Xx_kind F a1 M) := by
  refine tv_ofG [some (.ref (θ.1 + 0)), some (.int a1), none] rfl rfl (tv_ent 1 rfl) ?_
  intro κ hl ht hC hR
  subst hl; subst ht
  unfold Xx_kind
  refine g_aload_n hC d_Xx_kind_0 rfl ?_
  refine fg_Xx_29 hC lc_0 d_Xx_kind_1 p0_0_2 ?_
  refine g_iload_n hC d_Xx_kind_4 rfl ?_
  refine gv_callVr hC [.int a1] cw_Xx_151 (To_eyeAt_c F a1 M) lc_18 rfl rfl rfl rfl rfl rfl rfl d_Xx_kind_5 (fun r1 M2 => ?_)
  refine g_astore_nQ (ls' := [some (.ref (κ.b + 0)), some (.int a1), some (tv_re κ.b r1)]) hC d_Xx_kind_8 rfl rfl ?_
  refine g_aload_nQ hC d_Xx_kind_9 rfl ?_
  rcases r1 with _ | p3
  · refine g_nlN ?_
    refine g_ifnonnullN hC d_Xx_kind_10 ?_
    refine g_ldc hC d_Xx_kind_13 wk_Xx_83 ?_
    refine g_goto (tgt := 22) hC d_Xx_kind_15 (by decide) ?_
    exact g_iret hC hR d_Xx_kind_22
  · refine g_nlS ?_
    refine g_ifnonnullR (tgt := 18) hC d_Xx_kind_10 (by decide) ?_
    refine g_gl (fun h4 => ?_)
    refine g_aload_n hC d_Xx_kind_18 rfl ?_
    refine gv_callSi hC [.ref (κ.b + p3)] cw_Xx_287 (Bo_kindOf_c F p3 M2) rfl rfl rfl rfl rfl d_Xx_kind_19 (fun r5 M6 => ?_)
    exact g_iret hC hR d_Xx_kind_22
theorem d_Bo_isOfKind_0 : decode prog_3_method_3_code 0 = .ok (.aload_n 0, 1) := by decide +kernel
theorem d_Bo_isOfKind_1 : decode prog_3_method_3_code 1 = .ok (.invokestatic 28, 3) := by decide +kernel
theorem d_Bo_isOfKind_4 : decode prog_3_method_3_code 4 = .ok (.istore_n 2, 1) := by decide +kernel
theorem d_Bo_isOfKind_5 : decode prog_3_method_3_code 5 = .ok (.iconst 0, 1) := by decide +kernel
theorem d_Bo_isOfKind_6 : decode prog_3_method_3_code 6 = .ok (.istore_n 3, 1) := by decide +kernel
theorem d_Bo_isOfKind_7 : decode prog_3_method_3_code 7 = .ok (.iload_n 3, 1) := by decide +kernel
theorem d_Bo_isOfKind_8 : decode prog_3_method_3_code 8 = .ok (.iconst 4, 1) := by decide +kernel
theorem d_Bo_isOfKind_9 : decode prog_3_method_3_code 9 = .ok (.if_icmp .gt 26, 3) := by decide +kernel
theorem d_Bo_isOfKind_12 : decode prog_3_method_3_code 12 = .ok (.iload_n 2, 1) := by decide +kernel
theorem d_Bo_isOfKind_13 : decode prog_3_method_3_code 13 = .ok (.ifCond .lt 22, 3) := by decide +kernel
theorem d_Bo_isOfKind_16 : decode prog_3_method_3_code 16 = .ok (.iload_n 2, 1) := by decide +kernel
theorem d_Bo_isOfKind_17 : decode prog_3_method_3_code 17 = .ok (.iload_n 1, 1) := by decide +kernel
theorem d_Bo_isOfKind_18 : decode prog_3_method_3_code 18 = .ok (.if_icmp .ne 5, 3) := by decide +kernel
theorem d_Bo_isOfKind_21 : decode prog_3_method_3_code 21 = .ok (.iconst 1, 1) := by decide +kernel
theorem d_Bo_isOfKind_22 : decode prog_3_method_3_code 22 = .ok (.ireturn, 1) := by decide +kernel
theorem d_Bo_isOfKind_23 : decode prog_3_method_3_code 23 = .ok (.getstatic 32, 3) := by decide +kernel
theorem d_Bo_isOfKind_26 : decode prog_3_method_3_code 26 = .ok (.iload_n 2, 1) := by decide +kernel
theorem d_Bo_isOfKind_27 : decode prog_3_method_3_code 27 = .ok (.iaload, 1) := by decide +kernel
theorem d_Bo_isOfKind_28 : decode prog_3_method_3_code 28 = .ok (.istore_n 2, 1) := by decide +kernel
theorem d_Bo_isOfKind_29 : decode prog_3_method_3_code 29 = .ok (.iinc 3 1, 3) := by decide +kernel
theorem d_Bo_isOfKind_32 : decode prog_3_method_3_code 32 = .ok (.goto (-25), 3) := by decide +kernel
theorem d_Bo_isOfKind_35 : decode prog_3_method_3_code 35 = .ok (.iconst 0, 1) := by decide +kernel
theorem d_Bo_isOfKind_36 : decode prog_3_method_3_code 36 = .ok (.ireturn, 1) := by decide +kernel
set_option maxHeartbeats 2000000 in
theorem Bo_isOfKind_L7_g {κ : tv_Kt} (hC : tv_Cx κ "TiedViews$Bodies" prog_3_method_3_code 4 1) (hR : tv_Re κ (some .boolean)) (F : Nat) : ∀ (n : Nat) (l1 : Int32) (l2 : Int32) (l3 : Int32) (M : tv_M), tv_G κ 4 (tv_Qm κ tv_ei) 7 [none, some (.int l1), some (.int l2), some (.int l3)] [] M (Bo_isOfKind_L7 F n l1 l2 l3 M) := by
  intro n
  induction n with
  | zero => intro _ _ _ _; exact g_none
  | succ nn ih =>
    intro l1 l2 l3 M
    rw [Bo_isOfKind_L7]
    refine g_iload_n hC d_Bo_isOfKind_7 rfl ?_
    refine g_iconst hC d_Bo_isOfKind_8 k_i4 ?_
    refine g_icmp_gt (tgt := 35) hC d_Bo_isOfKind_9 (by decide) (fun _ => ?_) (fun _ => ?_)
    · refine g_iconst hC d_Bo_isOfKind_35 k_i0 ?_
      exact g_zret hC hR tv_z0 d_Bo_isOfKind_36
    · refine g_iload_n hC d_Bo_isOfKind_12 rfl ?_
      refine g_if_lt (tgt := 35) hC d_Bo_isOfKind_13 (by decide) (fun _ => ?_) (fun _ => ?_)
      · refine g_iconst hC d_Bo_isOfKind_35 k_i0 ?_
        exact g_zret hC hR tv_z0 d_Bo_isOfKind_36
      · refine g_iload_n hC d_Bo_isOfKind_16 rfl ?_
        refine g_iload_n hC d_Bo_isOfKind_17 rfl ?_
        refine g_icmp_ne (tgt := 23) hC d_Bo_isOfKind_18 (by decide) (fun _ => ?_) (fun _ => ?_)
        · refine g_gets hC 1 rfl ws_Bo_32 d_Bo_isOfKind_23 ?_
          refine g_iload_n hC d_Bo_isOfKind_26 rfl ?_
          refine gv_sald hC 1 rfl d_Bo_isOfKind_27 (fun x4 => ?_)
          refine g_istore_n (ls' := [none, some (.int l1), some (.int x4), some (.int l3)]) hC d_Bo_isOfKind_28 rfl rfl ?_
          refine g_iinc (ls' := [none, some (.int l1), some (.int x4), some (.int (l3 + 1))]) hC d_Bo_isOfKind_29 rfl k_i1 rfl rfl ?_
          refine g_goto (tgt := 7) hC d_Bo_isOfKind_32 (by decide) ?_
          exact ih l1 x4 (l3 + 1) M
        · refine g_iconst hC d_Bo_isOfKind_21 k_i1 ?_
          exact g_zret hC hR tv_z1 d_Bo_isOfKind_22
set_option maxHeartbeats 2000000 in
theorem Bo_isOfKind_c {l : Launch} {θ : tv_Th} (F : Nat) (a0 : Nat) (a1 : Int32) (M : tv_M) : tv_Ct l θ ⟨"TiedViews$Bodies", "isOfKind", "(LTiedViews$Eye;I)Z"⟩ prog_3_method_3_code 4 (some .boolean) 1 tv_ei [.ref (θ.1 + a0), .int a1] M (Bo_isOfKind F a0 a1 M) := by
  refine tv_ofG [some (.ref (θ.1 + a0)), some (.int a1), none, none] rfl rfl (tv_ent 2 rfl) ?_
  intro κ hl ht hC hR
  subst hl; subst ht
  unfold Bo_isOfKind
  refine g_gl (fun h1 => ?_)
  refine g_aload_n hC d_Bo_isOfKind_0 rfl ?_
  refine gv_callSi hC [.ref (κ.b + a0)] cw_Bo_28 (Bo_kindOf_c F a0 M) rfl rfl rfl rfl rfl d_Bo_isOfKind_1 (fun r2 M3 => ?_)
  refine g_istore_n (ls' := [some (.ref (κ.b + a0)), some (.int a1), some (.int r2), none]) hC d_Bo_isOfKind_4 rfl rfl ?_
  refine g_iconst hC d_Bo_isOfKind_5 k_i0 ?_
  refine g_istore_n (ls' := [some (.ref (κ.b + a0)), some (.int a1), some (.int r2), some (.int 0)]) hC d_Bo_isOfKind_6 rfl rfl ?_
  refine g_mask [false, true, true, true] (ls' := [none, some (.int a1), some (.int r2), some (.int 0)]) rfl ?_
  exact Bo_isOfKind_L7_g hC hR F F a1 r2 0 M3
theorem d_Xx_as_0 : decode prog_1_method_28_code 0 = .ok (.aload_n 0, 1) := by decide +kernel
theorem d_Xx_as_1 : decode prog_1_method_28_code 1 = .ok (.getfield 29, 3) := by decide +kernel
theorem d_Xx_as_4 : decode prog_1_method_28_code 4 = .ok (.iload_n 1, 1) := by decide +kernel
theorem d_Xx_as_5 : decode prog_1_method_28_code 5 = .ok (.invokevirtual 151, 3) := by decide +kernel
theorem d_Xx_as_8 : decode prog_1_method_28_code 8 = .ok (.astore_n 3, 1) := by decide +kernel
theorem d_Xx_as_9 : decode prog_1_method_28_code 9 = .ok (.aload_n 3, 1) := by decide +kernel
theorem d_Xx_as_10 : decode prog_1_method_28_code 10 = .ok (.ifnull 12, 3) := by decide +kernel
theorem d_Xx_as_13 : decode prog_1_method_28_code 13 = .ok (.iload_n 2, 1) := by decide +kernel
theorem d_Xx_as_14 : decode prog_1_method_28_code 14 = .ok (.ifCond .lt 8, 3) := by decide +kernel
theorem d_Xx_as_17 : decode prog_1_method_28_code 17 = .ok (.iload_n 2, 1) := by decide +kernel
theorem d_Xx_as_18 : decode prog_1_method_28_code 18 = .ok (.iconst 4, 1) := by decide +kernel
theorem d_Xx_as_19 : decode prog_1_method_28_code 19 = .ok (.if_icmp .le 6, 3) := by decide +kernel
theorem d_Xx_as_22 : decode prog_1_method_28_code 22 = .ok (.ldc 83, 2) := by decide +kernel
theorem d_Xx_as_24 : decode prog_1_method_28_code 24 = .ok (.ireturn, 1) := by decide +kernel
theorem d_Xx_as_25 : decode prog_1_method_28_code 25 = .ok (.aload_n 3, 1) := by decide +kernel
theorem d_Xx_as_26 : decode prog_1_method_28_code 26 = .ok (.iload_n 2, 1) := by decide +kernel
theorem d_Xx_as_27 : decode prog_1_method_28_code 27 = .ok (.invokestatic 291, 3) := by decide +kernel
theorem d_Xx_as_30 : decode prog_1_method_28_code 30 = .ok (.ifCond .ne 9, 3) := by decide +kernel
theorem d_Xx_as_33 : decode prog_1_method_28_code 33 = .ok (.aload_n 0, 1) := by decide +kernel
theorem d_Xx_as_34 : decode prog_1_method_28_code 34 = .ok (.iconst 3, 1) := by decide +kernel
theorem d_Xx_as_35 : decode prog_1_method_28_code 35 = .ok (.invokevirtual 84, 3) := by decide +kernel
theorem d_Xx_as_38 : decode prog_1_method_28_code 38 = .ok (.ireturn, 1) := by decide +kernel
theorem d_Xx_as_39 : decode prog_1_method_28_code 39 = .ok (.aload_n 0, 1) := by decide +kernel
theorem d_Xx_as_40 : decode prog_1_method_28_code 40 = .ok (.aload_n 3, 1) := by decide +kernel
theorem d_Xx_as_41 : decode prog_1_method_28_code 41 = .ok (.getfield 160, 3) := by decide +kernel
theorem d_Xx_as_44 : decode prog_1_method_28_code 44 = .ok (.invokevirtual 91, 3) := by decide +kernel
theorem d_Xx_as_47 : decode prog_1_method_28_code 47 = .ok (.ireturn, 1) := by decide +kernel
set_option maxHeartbeats 2000000 in
theorem Xx_as_c {l : Launch} {θ : tv_Th} (F : Nat) (a1 : Int32) (a2 : Int32) (M : tv_M) : tv_Ct l θ ⟨"TiedViews", "as", "(II)I"⟩ prog_1_method_28_code 4 (some .int) 2 tv_ei [.ref (θ.1 + 0), .int a1, .int a2] M (Xx_as F a1 a2 M) := by
  refine tv_ofG [some (.ref (θ.1 + 0)), some (.int a1), some (.int a2), none] rfl rfl (tv_ent 1 rfl) ?_
  intro κ hl ht hC hR
  subst hl; subst ht
  unfold Xx_as
  refine g_aload_n hC d_Xx_as_0 rfl ?_
  refine fg_Xx_29 hC lc_0 d_Xx_as_1 p0_0_2 ?_
  refine g_iload_n hC d_Xx_as_4 rfl ?_
  refine gv_callVr hC [.int a1] cw_Xx_151 (To_eyeAt_c F a1 M) lc_18 rfl rfl rfl rfl rfl rfl rfl d_Xx_as_5 (fun r1 M2 => ?_)
  refine g_astore_nQ (ls' := [some (.ref (κ.b + 0)), some (.int a1), some (.int a2), some (tv_re κ.b r1)]) hC d_Xx_as_8 rfl rfl ?_
  refine g_aload_nQ hC d_Xx_as_9 rfl ?_
  rcases r1 with _ | p3
  · refine g_nlN ?_
    refine g_ifnullN (tgt := 22) hC d_Xx_as_10 (by decide) ?_
    refine g_ldc hC d_Xx_as_22 wk_Xx_83 ?_
    exact g_iret hC hR d_Xx_as_24
  · refine g_nlS ?_
    refine g_ifnullR hC d_Xx_as_10 ?_
    refine g_gl (fun h4 => ?_)
    refine g_iload_n hC d_Xx_as_13 rfl ?_
    refine g_if_lt (tgt := 22) hC d_Xx_as_14 (by decide) (fun _ => ?_) (fun _ => ?_)
    · refine g_ldc hC d_Xx_as_22 wk_Xx_83 ?_
      exact g_iret hC hR d_Xx_as_24
    · refine g_iload_n hC d_Xx_as_17 rfl ?_
      refine g_iconst hC d_Xx_as_18 k_i4 ?_
      refine g_icmp_le (tgt := 25) hC d_Xx_as_19 (by decide) (fun _ => ?_) (fun _ => ?_)
      · refine g_aload_n hC d_Xx_as_25 rfl ?_
        refine g_iload_n hC d_Xx_as_26 rfl ?_
        refine gv_callSi hC [.ref (κ.b + p3), .int a2] cw_Xx_291 (Bo_isOfKind_c F p3 a2 M2) rfl rfl rfl rfl rfl d_Xx_as_27 (fun r5 M6 => ?_)
        refine g_if_ne (tgt := 39) hC d_Xx_as_30 (by decide) (fun _ => ?_) (fun _ => ?_)
        · refine g_aload_n hC d_Xx_as_39 rfl ?_
          refine g_aload_n hC d_Xx_as_40 rfl ?_
          refine fg_Xx_160 hC h4 d_Xx_as_41 ?_
          refine gv_callVi hC [.int (M6.1 p3 2)] cw_Xx_91 (Xx_passed_c F (M6.1 p3 2) M6) lc_0 rfl rfl rfl rfl rfl rfl rfl d_Xx_as_44 (fun r7 M8 => ?_)
          exact g_iret hC hR d_Xx_as_47
        · refine g_aload_n hC d_Xx_as_33 rfl ?_
          refine g_iconst hC d_Xx_as_34 k_i3 ?_
          refine gv_callVi hC [.int 3] cw_Xx_84 (Xx_found_c F 3 M6) lc_0 rfl rfl rfl rfl rfl rfl rfl d_Xx_as_35 (fun r9 M10 => ?_)
          exact g_iret hC hR d_Xx_as_38
      · refine g_ldc hC d_Xx_as_22 wk_Xx_83 ?_
        exact g_iret hC hR d_Xx_as_24
theorem d_Bo_bodyFor_0 : decode prog_3_method_7_code 0 = .ok (.iload_n 0, 1) := by decide +kernel
theorem d_Bo_bodyFor_1 : decode prog_3_method_7_code 1 = .ok (.istore_n 2, 1) := by decide +kernel
theorem d_Bo_bodyFor_2 : decode prog_3_method_7_code 2 = .ok (.iconst 0, 1) := by decide +kernel
theorem d_Bo_bodyFor_3 : decode prog_3_method_7_code 3 = .ok (.istore_n 3, 1) := by decide +kernel
theorem d_Bo_bodyFor_4 : decode prog_3_method_7_code 4 = .ok (.iload_n 3, 1) := by decide +kernel
theorem d_Bo_bodyFor_5 : decode prog_3_method_7_code 5 = .ok (.iconst 4, 1) := by decide +kernel
theorem d_Bo_bodyFor_6 : decode prog_3_method_7_code 6 = .ok (.if_icmp .gt 46, 3) := by decide +kernel
theorem d_Bo_bodyFor_9 : decode prog_3_method_7_code 9 = .ok (.iload_n 2, 1) := by decide +kernel
theorem d_Bo_bodyFor_10 : decode prog_3_method_7_code 10 = .ok (.ifCond .le 42, 3) := by decide +kernel
theorem d_Bo_bodyFor_13 : decode prog_3_method_7_code 13 = .ok (.iload_n 1, 1) := by decide +kernel
theorem d_Bo_bodyFor_14 : decode prog_3_method_7_code 14 = .ok (.ifCond .ne 11, 3) := by decide +kernel
theorem d_Bo_bodyFor_17 : decode prog_3_method_7_code 17 = .ok (.getstatic 50, 3) := by decide +kernel
theorem d_Bo_bodyFor_20 : decode prog_3_method_7_code 20 = .ok (.iload_n 2, 1) := by decide +kernel
theorem d_Bo_bodyFor_21 : decode prog_3_method_7_code 21 = .ok (.iaload, 1) := by decide +kernel
theorem d_Bo_bodyFor_22 : decode prog_3_method_7_code 22 = .ok (.goto 8, 3) := by decide +kernel
theorem d_Bo_bodyFor_25 : decode prog_3_method_7_code 25 = .ok (.getstatic 53, 3) := by decide +kernel
theorem d_Bo_bodyFor_28 : decode prog_3_method_7_code 28 = .ok (.iload_n 2, 1) := by decide +kernel
theorem d_Bo_bodyFor_29 : decode prog_3_method_7_code 29 = .ok (.iaload, 1) := by decide +kernel
theorem d_Bo_bodyFor_30 : decode prog_3_method_7_code 30 = .ok (.istore 4, 2) := by decide +kernel
theorem d_Bo_bodyFor_32 : decode prog_3_method_7_code 32 = .ok (.iload 4, 2) := by decide +kernel
theorem d_Bo_bodyFor_34 : decode prog_3_method_7_code 34 = .ok (.ifCond .eq 6, 3) := by decide +kernel
theorem d_Bo_bodyFor_37 : decode prog_3_method_7_code 37 = .ok (.iload 4, 2) := by decide +kernel
theorem d_Bo_bodyFor_39 : decode prog_3_method_7_code 39 = .ok (.ireturn, 1) := by decide +kernel
theorem d_Bo_bodyFor_40 : decode prog_3_method_7_code 40 = .ok (.getstatic 32, 3) := by decide +kernel
theorem d_Bo_bodyFor_43 : decode prog_3_method_7_code 43 = .ok (.iload_n 2, 1) := by decide +kernel
theorem d_Bo_bodyFor_44 : decode prog_3_method_7_code 44 = .ok (.iaload, 1) := by decide +kernel
theorem d_Bo_bodyFor_45 : decode prog_3_method_7_code 45 = .ok (.istore_n 2, 1) := by decide +kernel
theorem d_Bo_bodyFor_46 : decode prog_3_method_7_code 46 = .ok (.iinc 3 1, 3) := by decide +kernel
theorem d_Bo_bodyFor_49 : decode prog_3_method_7_code 49 = .ok (.goto (-45), 3) := by decide +kernel
theorem d_Bo_bodyFor_52 : decode prog_3_method_7_code 52 = .ok (.iload_n 1, 1) := by decide +kernel
theorem d_Bo_bodyFor_53 : decode prog_3_method_7_code 53 = .ok (.ifCond .ne 11, 3) := by decide +kernel
theorem d_Bo_bodyFor_56 : decode prog_3_method_7_code 56 = .ok (.getstatic 50, 3) := by decide +kernel
theorem d_Bo_bodyFor_59 : decode prog_3_method_7_code 59 = .ok (.iconst 0, 1) := by decide +kernel
theorem d_Bo_bodyFor_60 : decode prog_3_method_7_code 60 = .ok (.iaload, 1) := by decide +kernel
theorem d_Bo_bodyFor_61 : decode prog_3_method_7_code 61 = .ok (.goto 8, 3) := by decide +kernel
theorem d_Bo_bodyFor_64 : decode prog_3_method_7_code 64 = .ok (.getstatic 53, 3) := by decide +kernel
theorem d_Bo_bodyFor_67 : decode prog_3_method_7_code 67 = .ok (.iconst 0, 1) := by decide +kernel
theorem d_Bo_bodyFor_68 : decode prog_3_method_7_code 68 = .ok (.iaload, 1) := by decide +kernel
theorem d_Bo_bodyFor_69 : decode prog_3_method_7_code 69 = .ok (.ireturn, 1) := by decide +kernel
set_option maxHeartbeats 2000000 in
theorem Bo_bodyFor_L4_g {κ : tv_Kt} (hC : tv_Cx κ "TiedViews$Bodies" prog_3_method_7_code 5 0) (hR : tv_Re κ (some .int)) (F : Nat) : ∀ (n : Nat) (l1 : Int32) (l2 : Int32) (l3 : Int32) (M : tv_M), tv_G κ 5 (tv_Qm κ tv_ei) 4 [none, some (.int l1), some (.int l2), some (.int l3), none] [] M (Bo_bodyFor_L4 F n l1 l2 l3 M) := by
  intro n
  induction n with
  | zero => intro _ _ _ _; exact g_none
  | succ nn ih =>
    intro l1 l2 l3 M
    rw [Bo_bodyFor_L4]
    refine g_iload_n hC d_Bo_bodyFor_4 rfl ?_
    refine g_iconst hC d_Bo_bodyFor_5 k_i4 ?_
    refine g_icmp_gt (tgt := 52) hC d_Bo_bodyFor_6 (by decide) (fun _ => ?_) (fun _ => ?_)
    · refine g_iload_n hC d_Bo_bodyFor_52 rfl ?_
      refine g_if_ne (tgt := 64) hC d_Bo_bodyFor_53 (by decide) (fun _ => ?_) (fun _ => ?_)
      · refine g_gets hC 3 rfl ws_Bo_53 d_Bo_bodyFor_64 ?_
        refine g_iconst hC d_Bo_bodyFor_67 k_i0 ?_
        refine gv_sald hC 3 rfl d_Bo_bodyFor_68 (fun x1 => ?_)
        exact g_iret hC hR d_Bo_bodyFor_69
      · refine g_gets hC 2 rfl ws_Bo_50 d_Bo_bodyFor_56 ?_
        refine g_iconst hC d_Bo_bodyFor_59 k_i0 ?_
        refine gv_sald hC 2 rfl d_Bo_bodyFor_60 (fun x2 => ?_)
        refine g_goto (tgt := 69) hC d_Bo_bodyFor_61 (by decide) ?_
        exact g_iret hC hR d_Bo_bodyFor_69
    · refine g_iload_n hC d_Bo_bodyFor_9 rfl ?_
      refine g_if_le (tgt := 52) hC d_Bo_bodyFor_10 (by decide) (fun _ => ?_) (fun _ => ?_)
      · refine g_iload_n hC d_Bo_bodyFor_52 rfl ?_
        refine g_if_ne (tgt := 64) hC d_Bo_bodyFor_53 (by decide) (fun _ => ?_) (fun _ => ?_)
        · refine g_gets hC 3 rfl ws_Bo_53 d_Bo_bodyFor_64 ?_
          refine g_iconst hC d_Bo_bodyFor_67 k_i0 ?_
          refine gv_sald hC 3 rfl d_Bo_bodyFor_68 (fun x3 => ?_)
          exact g_iret hC hR d_Bo_bodyFor_69
        · refine g_gets hC 2 rfl ws_Bo_50 d_Bo_bodyFor_56 ?_
          refine g_iconst hC d_Bo_bodyFor_59 k_i0 ?_
          refine gv_sald hC 2 rfl d_Bo_bodyFor_60 (fun x4 => ?_)
          refine g_goto (tgt := 69) hC d_Bo_bodyFor_61 (by decide) ?_
          exact g_iret hC hR d_Bo_bodyFor_69
      · refine g_iload_n hC d_Bo_bodyFor_13 rfl ?_
        refine g_if_ne (tgt := 25) hC d_Bo_bodyFor_14 (by decide) (fun _ => ?_) (fun _ => ?_)
        · refine g_gets hC 3 rfl ws_Bo_53 d_Bo_bodyFor_25 ?_
          refine g_iload_n hC d_Bo_bodyFor_28 rfl ?_
          refine gv_sald hC 3 rfl d_Bo_bodyFor_29 (fun x5 => ?_)
          refine g_istore (ls' := [none, some (.int l1), some (.int l2), some (.int l3), some (.int x5)]) hC d_Bo_bodyFor_30 rfl rfl ?_
          refine g_iload hC d_Bo_bodyFor_32 rfl ?_
          refine g_if_eq (tgt := 40) hC d_Bo_bodyFor_34 (by decide) (fun _ => ?_) (fun _ => ?_)
          · refine g_gets hC 1 rfl ws_Bo_32 d_Bo_bodyFor_40 ?_
            refine g_iload_n hC d_Bo_bodyFor_43 rfl ?_
            refine gv_sald hC 1 rfl d_Bo_bodyFor_44 (fun x6 => ?_)
            refine g_istore_n (ls' := [none, some (.int l1), some (.int x6), some (.int l3), some (.int x5)]) hC d_Bo_bodyFor_45 rfl rfl ?_
            refine g_iinc (ls' := [none, some (.int l1), some (.int x6), some (.int (l3 + 1)), some (.int x5)]) hC d_Bo_bodyFor_46 rfl k_i1 rfl rfl ?_
            refine g_goto (tgt := 4) hC d_Bo_bodyFor_49 (by decide) ?_
            refine g_mask [false, true, true, true, false] (ls' := [none, some (.int l1), some (.int x6), some (.int (l3 + 1)), none]) rfl ?_
            exact ih l1 x6 (l3 + 1) M
          · refine g_iload hC d_Bo_bodyFor_37 rfl ?_
            exact g_iret hC hR d_Bo_bodyFor_39
        · refine g_gets hC 2 rfl ws_Bo_50 d_Bo_bodyFor_17 ?_
          refine g_iload_n hC d_Bo_bodyFor_20 rfl ?_
          refine gv_sald hC 2 rfl d_Bo_bodyFor_21 (fun x7 => ?_)
          refine g_goto (tgt := 30) hC d_Bo_bodyFor_22 (by decide) ?_
          refine g_istore (ls' := [none, some (.int l1), some (.int l2), some (.int l3), some (.int x7)]) hC d_Bo_bodyFor_30 rfl rfl ?_
          refine g_iload hC d_Bo_bodyFor_32 rfl ?_
          refine g_if_eq (tgt := 40) hC d_Bo_bodyFor_34 (by decide) (fun _ => ?_) (fun _ => ?_)
          · refine g_gets hC 1 rfl ws_Bo_32 d_Bo_bodyFor_40 ?_
            refine g_iload_n hC d_Bo_bodyFor_43 rfl ?_
            refine gv_sald hC 1 rfl d_Bo_bodyFor_44 (fun x8 => ?_)
            refine g_istore_n (ls' := [none, some (.int l1), some (.int x8), some (.int l3), some (.int x7)]) hC d_Bo_bodyFor_45 rfl rfl ?_
            refine g_iinc (ls' := [none, some (.int l1), some (.int x8), some (.int (l3 + 1)), some (.int x7)]) hC d_Bo_bodyFor_46 rfl k_i1 rfl rfl ?_
            refine g_goto (tgt := 4) hC d_Bo_bodyFor_49 (by decide) ?_
            refine g_mask [false, true, true, true, false] (ls' := [none, some (.int l1), some (.int x8), some (.int (l3 + 1)), none]) rfl ?_
            exact ih l1 x8 (l3 + 1) M
          · refine g_iload hC d_Bo_bodyFor_37 rfl ?_
            exact g_iret hC hR d_Bo_bodyFor_39
set_option maxHeartbeats 2000000 in
theorem Bo_bodyFor_c {l : Launch} {θ : tv_Th} (F : Nat) (a0 : Int32) (a1 : Int32) (M : tv_M) : tv_Ct l θ ⟨"TiedViews$Bodies", "bodyFor", "(II)I"⟩ prog_3_method_7_code 5 (some .int) 0 tv_ei [.int a0, .int a1] M (Bo_bodyFor F a0 a1 M) := by
  refine tv_ofG [some (.int a0), some (.int a1), none, none, none] rfl rfl (tv_ent 3 rfl) ?_
  intro κ hl ht hC hR
  subst hl; subst ht
  unfold Bo_bodyFor
  refine g_iload_n hC d_Bo_bodyFor_0 rfl ?_
  refine g_istore_n (ls' := [some (.int a0), some (.int a1), some (.int a0), none, none]) hC d_Bo_bodyFor_1 rfl rfl ?_
  refine g_iconst hC d_Bo_bodyFor_2 k_i0 ?_
  refine g_istore_n (ls' := [some (.int a0), some (.int a1), some (.int a0), some (.int 0), none]) hC d_Bo_bodyFor_3 rfl rfl ?_
  refine g_mask [false, true, true, true, false] (ls' := [none, some (.int a1), some (.int a0), some (.int 0), none]) rfl ?_
  exact Bo_bodyFor_L4_g hC hR F F a1 a0 0 M
theorem d_Bo_answerAnew_0 : decode prog_3_method_6_code 0 = .ok (.aload_n 0, 1) := by decide +kernel
theorem d_Bo_answerAnew_1 : decode prog_3_method_6_code 1 = .ok (.aload_n 1, 1) := by decide +kernel
theorem d_Bo_answerAnew_2 : decode prog_3_method_6_code 2 = .ok (.aload_n 1, 1) := by decide +kernel
theorem d_Bo_answerAnew_3 : decode prog_3_method_6_code 3 = .ok (.invokestatic 28, 3) := by decide +kernel
theorem d_Bo_answerAnew_6 : decode prog_3_method_6_code 6 = .ok (.iload_n 2, 1) := by decide +kernel
theorem d_Bo_answerAnew_7 : decode prog_3_method_6_code 7 = .ok (.invokestatic 43, 3) := by decide +kernel
theorem d_Bo_answerAnew_10 : decode prog_3_method_6_code 10 = .ok (.iload_n 3, 1) := by decide +kernel
theorem d_Bo_answerAnew_11 : decode prog_3_method_6_code 11 = .ok (.iconst 1, 1) := by decide +kernel
theorem d_Bo_answerAnew_12 : decode prog_3_method_6_code 12 = .ok (.iadd, 1) := by decide +kernel
theorem d_Bo_answerAnew_13 : decode prog_3_method_6_code 13 = .ok (.invokevirtual 47, 3) := by decide +kernel
theorem d_Bo_answerAnew_16 : decode prog_3_method_6_code 16 = .ok (.ireturn, 1) := by decide +kernel
set_option maxHeartbeats 2000000 in
theorem Bo_answerAnew_c {l : Launch} {θ : tv_Th} (F : Nat) {dg : Nat} (hdg : Nat.ble 1 dg = true) {give : Nat → Int32 → Int32 → tv_M → Option (Int32 × tv_M)} (hg : ∀ (a1 : Nat) (a2 : Int32) (a3 : Int32) (M : tv_M), tv_Ct l θ ⟨"TiedViews$Bodies", "give", "(LTiedViews$Eye;II)I"⟩ prog_3_method_8_code 5 (some .int) dg tv_ei [.ref (θ.1 + 247), .ref (θ.1 + a1), .int a2, .int a3] M (give a1 a2 a3 M)) (a1 : Nat) (a2 : Int32) (a3 : Int32) (M : tv_M) : tv_Ct l θ ⟨"TiedViews$Bodies", "answerAnew", "(LTiedViews$Eye;II)I"⟩ prog_3_method_6_code 4 (some .int) (dg + 1) tv_ei [.ref (θ.1 + 247), .ref (θ.1 + a1), .int a2, .int a3] M (Bo_answerAnew F give a1 a2 a3 M) := by
  refine tv_ofG [some (.ref (θ.1 + 247)), some (.ref (θ.1 + a1)), some (.int a2), some (.int a3)] rfl rfl (tv_ent 0 rfl) ?_
  intro κ hl ht hC hR
  subst hl; subst ht
  have hdd : Nat.ble (1 + 1) (dg + 1) = true := hdg
  unfold Bo_answerAnew
  refine g_gl (fun h1 => ?_)
  refine g_aload_n hC d_Bo_answerAnew_0 rfl ?_
  refine g_aload_n hC d_Bo_answerAnew_1 rfl ?_
  refine g_aload_n hC d_Bo_answerAnew_2 rfl ?_
  refine gv_callSi hC [.ref (κ.b + a1)] cw_Bo_28 (Bo_kindOf_c F a1 M) rfl rfl rfl (tv_dtr hdd rfl) rfl d_Bo_answerAnew_3 (fun r2 M3 => ?_)
  refine g_iload_n hC d_Bo_answerAnew_6 rfl ?_
  refine gv_callSi hC [.int r2, .int a2] cw_Bo_43 (Bo_bodyFor_c F r2 a2 M3) rfl rfl rfl (tv_dtr hdd rfl) rfl d_Bo_answerAnew_7 (fun r4 M5 => ?_)
  refine g_iload_n hC d_Bo_answerAnew_10 rfl ?_
  refine g_iconst hC d_Bo_answerAnew_11 k_i1 ?_
  refine g_iadd hC d_Bo_answerAnew_12 ?_
  refine gv_callVi hC [.ref (κ.b + a1), .int r4, .int (a3 + 1)] cw_Bo_47 (hg a1 r4 (a3 + 1) M5) lc_247 rfl rfl rfl rfl rfl (tv_dse _) rfl d_Bo_answerAnew_13 (fun r6 M7 => ?_)
  exact g_iret hC hR d_Bo_answerAnew_16
theorem d_Bo_leaveTrace_0 : decode prog_3_method_9_code 0 = .ok (.aload_n 0, 1) := by decide +kernel
theorem d_Bo_leaveTrace_1 : decode prog_3_method_9_code 1 = .ok (.getfield 35, 3) := by decide +kernel
theorem d_Bo_leaveTrace_4 : decode prog_3_method_9_code 4 = .ok (.bipush 16, 2) := by decide +kernel
theorem d_Bo_leaveTrace_6 : decode prog_3_method_9_code 6 = .ok (.if_icmp .ge 23, 3) := by decide +kernel
theorem d_Bo_leaveTrace_9 : decode prog_3_method_9_code 9 = .ok (.aload_n 0, 1) := by decide +kernel
theorem d_Bo_leaveTrace_10 : decode prog_3_method_9_code 10 = .ok (.getfield 11, 3) := by decide +kernel
theorem d_Bo_leaveTrace_13 : decode prog_3_method_9_code 13 = .ok (.aload_n 0, 1) := by decide +kernel
theorem d_Bo_leaveTrace_14 : decode prog_3_method_9_code 14 = .ok (.getfield 35, 3) := by decide +kernel
theorem d_Bo_leaveTrace_17 : decode prog_3_method_9_code 17 = .ok (.iload_n 1, 1) := by decide +kernel
theorem d_Bo_leaveTrace_18 : decode prog_3_method_9_code 18 = .ok (.iastore, 1) := by decide +kernel
theorem d_Bo_leaveTrace_19 : decode prog_3_method_9_code 19 = .ok (.aload_n 0, 1) := by decide +kernel
theorem d_Bo_leaveTrace_20 : decode prog_3_method_9_code 20 = .ok (.dup, 1) := by decide +kernel
theorem d_Bo_leaveTrace_21 : decode prog_3_method_9_code 21 = .ok (.getfield 35, 3) := by decide +kernel
theorem d_Bo_leaveTrace_24 : decode prog_3_method_9_code 24 = .ok (.iconst 1, 1) := by decide +kernel
theorem d_Bo_leaveTrace_25 : decode prog_3_method_9_code 25 = .ok (.iadd, 1) := by decide +kernel
theorem d_Bo_leaveTrace_26 : decode prog_3_method_9_code 26 = .ok (.putfield 35, 3) := by decide +kernel
theorem d_Bo_leaveTrace_29 : decode prog_3_method_9_code 29 = .ok (.return_, 1) := by decide +kernel
set_option maxHeartbeats 2000000 in
theorem Bo_leaveTrace_c {l : Launch} {θ : tv_Th} (F : Nat) (a1 : Int32) (M : tv_M) : tv_Ct l θ ⟨"TiedViews$Bodies", "leaveTrace", "(I)V"⟩ prog_3_method_9_code 2 none 0 tv_ev [.ref (θ.1 + 247), .int a1] M (Bo_leaveTrace F a1 M) := by
  refine tv_ofG [some (.ref (θ.1 + 247)), some (.int a1)] rfl rfl (tv_ent 0 rfl) ?_
  intro κ hl ht hC hR
  subst hl; subst ht
  unfold Bo_leaveTrace
  refine g_aload_n hC d_Bo_leaveTrace_0 rfl ?_
  refine fg_Bo_35 hC lc_247 d_Bo_leaveTrace_1 ?_
  refine g_bipush hC d_Bo_leaveTrace_4 k_b16 ?_
  refine g_icmp_ge (tgt := 29) hC d_Bo_leaveTrace_6 (by decide) (fun _ => ?_) (fun _ => ?_)
  · exact g_vret hC hR d_Bo_leaveTrace_29
  · refine g_aload_n hC d_Bo_leaveTrace_9 rfl ?_
    refine fg_Bo_11 hC lc_247 d_Bo_leaveTrace_10 p0_247_1 ?_
    refine g_aload_n hC d_Bo_leaveTrace_13 rfl ?_
    refine fg_Bo_35 hC lc_247 d_Bo_leaveTrace_14 ?_
    refine g_iload_n hC d_Bo_leaveTrace_17 rfl ?_
    refine gv_iast hC ly_248 d_Bo_leaveTrace_18 (fun M1 => ?_)
    refine g_aload_n hC d_Bo_leaveTrace_19 rfl ?_
    refine g_dup hC d_Bo_leaveTrace_20 rfl ?_
    refine fg_Bo_35 hC lc_247 d_Bo_leaveTrace_21 ?_
    refine g_iconst hC d_Bo_leaveTrace_24 k_i1 ?_
    refine g_iadd hC d_Bo_leaveTrace_25 ?_
    refine fp_Bo_35 hC lc_247 d_Bo_leaveTrace_26 (fun M2 => ?_)
    exact g_vret hC hR d_Bo_leaveTrace_29
theorem d_Bo_give_0 : decode prog_3_method_8_code 0 = .ok (.iload_n 3, 1) := by decide +kernel
theorem d_Bo_give_1 : decode prog_3_method_8_code 1 = .ok (.bipush 40, 2) := by decide +kernel
theorem d_Bo_give_3 : decode prog_3_method_8_code 3 = .ok (.if_icmp .le 5, 3) := by decide +kernel
theorem d_Bo_give_6 : decode prog_3_method_8_code 6 = .ok (.iconst 0, 1) := by decide +kernel
theorem d_Bo_give_7 : decode prog_3_method_8_code 7 = .ok (.ireturn, 1) := by decide +kernel
theorem d_Bo_give_8 : decode prog_3_method_8_code 8 = .ok (.aload_n 0, 1) := by decide +kernel
theorem d_Bo_give_9 : decode prog_3_method_8_code 9 = .ok (.iload_n 2, 1) := by decide +kernel
theorem d_Bo_give_10 : decode prog_3_method_8_code 10 = .ok (.invokevirtual 56, 3) := by decide +kernel
theorem d_Bo_give_13 : decode prog_3_method_8_code 13 = .ok (.iload_n 3, 1) := by decide +kernel
theorem d_Bo_give_14 : decode prog_3_method_8_code 14 = .ok (.iconst 1, 1) := by decide +kernel
theorem d_Bo_give_15 : decode prog_3_method_8_code 15 = .ok (.iadd, 1) := by decide +kernel
theorem d_Bo_give_16 : decode prog_3_method_8_code 16 = .ok (.istore 4, 2) := by decide +kernel
theorem d_Bo_give_18 : decode prog_3_method_8_code 18 = .ok (.iload_n 2, 1) := by decide +kernel
theorem d_Bo_give_19 : decode prog_3_method_8_code 19 = .ok (.tableswitch 213 10 23 #[69, 74, 96, 114, 133, 213, 213, 213, 213, 213, 151, 156, 180, 199], 69) := by decide +kernel
theorem d_Bo_give_88 : decode prog_3_method_8_code 88 = .ok (.aload_n 1, 1) := by decide +kernel
theorem d_Bo_give_89 : decode prog_3_method_8_code 89 = .ok (.getfield 60, 3) := by decide +kernel
theorem d_Bo_give_92 : decode prog_3_method_8_code 92 = .ok (.ireturn, 1) := by decide +kernel
theorem d_Bo_give_93 : decode prog_3_method_8_code 93 = .ok (.aload_n 0, 1) := by decide +kernel
theorem d_Bo_give_94 : decode prog_3_method_8_code 94 = .ok (.aload_n 1, 1) := by decide +kernel
theorem d_Bo_give_95 : decode prog_3_method_8_code 95 = .ok (.bipush 10, 2) := by decide +kernel
theorem d_Bo_give_97 : decode prog_3_method_8_code 97 = .ok (.iload 4, 2) := by decide +kernel
theorem d_Bo_give_99 : decode prog_3_method_8_code 99 = .ok (.invokevirtual 47, 3) := by decide +kernel
theorem d_Bo_give_102 : decode prog_3_method_8_code 102 = .ok (.aload_n 0, 1) := by decide +kernel
theorem d_Bo_give_103 : decode prog_3_method_8_code 103 = .ok (.getfield 15, 3) := by decide +kernel
theorem d_Bo_give_106 : decode prog_3_method_8_code 106 = .ok (.aload_n 1, 1) := by decide +kernel
theorem d_Bo_give_107 : decode prog_3_method_8_code 107 = .ok (.getfield 63, 3) := by decide +kernel
theorem d_Bo_give_110 : decode prog_3_method_8_code 110 = .ok (.invokevirtual 66, 3) := by decide +kernel
theorem d_Bo_give_113 : decode prog_3_method_8_code 113 = .ok (.iadd, 1) := by decide +kernel
theorem d_Bo_give_114 : decode prog_3_method_8_code 114 = .ok (.ireturn, 1) := by decide +kernel
theorem d_Bo_give_115 : decode prog_3_method_8_code 115 = .ok (.aload_n 0, 1) := by decide +kernel
theorem d_Bo_give_116 : decode prog_3_method_8_code 116 = .ok (.aload_n 1, 1) := by decide +kernel
theorem d_Bo_give_117 : decode prog_3_method_8_code 117 = .ok (.bipush 11, 2) := by decide +kernel
theorem d_Bo_give_119 : decode prog_3_method_8_code 119 = .ok (.iload 4, 2) := by decide +kernel
theorem d_Bo_give_121 : decode prog_3_method_8_code 121 = .ok (.invokevirtual 47, 3) := by decide +kernel
theorem d_Bo_give_124 : decode prog_3_method_8_code 124 = .ok (.aload_n 0, 1) := by decide +kernel
theorem d_Bo_give_125 : decode prog_3_method_8_code 125 = .ok (.getfield 15, 3) := by decide +kernel
theorem d_Bo_give_128 : decode prog_3_method_8_code 128 = .ok (.getfield 72, 3) := by decide +kernel
theorem d_Bo_give_131 : decode prog_3_method_8_code 131 = .ok (.imul, 1) := by decide +kernel
theorem d_Bo_give_132 : decode prog_3_method_8_code 132 = .ok (.ireturn, 1) := by decide +kernel
theorem d_Bo_give_133 : decode prog_3_method_8_code 133 = .ok (.aload_n 0, 1) := by decide +kernel
theorem d_Bo_give_134 : decode prog_3_method_8_code 134 = .ok (.aload_n 1, 1) := by decide +kernel
theorem d_Bo_give_135 : decode prog_3_method_8_code 135 = .ok (.bipush 11, 2) := by decide +kernel
theorem d_Bo_give_137 : decode prog_3_method_8_code 137 = .ok (.iload 4, 2) := by decide +kernel
theorem d_Bo_give_139 : decode prog_3_method_8_code 139 = .ok (.invokevirtual 47, 3) := by decide +kernel
theorem d_Bo_give_142 : decode prog_3_method_8_code 142 = .ok (.aload_n 0, 1) := by decide +kernel
theorem d_Bo_give_143 : decode prog_3_method_8_code 143 = .ok (.aload_n 1, 1) := by decide +kernel
theorem d_Bo_give_144 : decode prog_3_method_8_code 144 = .ok (.iconst 1, 1) := by decide +kernel
theorem d_Bo_give_145 : decode prog_3_method_8_code 145 = .ok (.iload 4, 2) := by decide +kernel
theorem d_Bo_give_147 : decode prog_3_method_8_code 147 = .ok (.invokevirtual 39, 3) := by decide +kernel
theorem d_Bo_give_150 : decode prog_3_method_8_code 150 = .ok (.isub, 1) := by decide +kernel
theorem d_Bo_give_151 : decode prog_3_method_8_code 151 = .ok (.ireturn, 1) := by decide +kernel
theorem d_Bo_give_152 : decode prog_3_method_8_code 152 = .ok (.aload_n 0, 1) := by decide +kernel
theorem d_Bo_give_153 : decode prog_3_method_8_code 153 = .ok (.aload_n 1, 1) := by decide +kernel
theorem d_Bo_give_154 : decode prog_3_method_8_code 154 = .ok (.bipush 10, 2) := by decide +kernel
theorem d_Bo_give_156 : decode prog_3_method_8_code 156 = .ok (.iload 4, 2) := by decide +kernel
theorem d_Bo_give_158 : decode prog_3_method_8_code 158 = .ok (.invokevirtual 47, 3) := by decide +kernel
theorem d_Bo_give_161 : decode prog_3_method_8_code 161 = .ok (.aload_n 1, 1) := by decide +kernel
theorem d_Bo_give_162 : decode prog_3_method_8_code 162 = .ok (.getfield 75, 3) := by decide +kernel
theorem d_Bo_give_165 : decode prog_3_method_8_code 165 = .ok (.invokestatic 78, 3) := by decide +kernel
theorem d_Bo_give_168 : decode prog_3_method_8_code 168 = .ok (.iadd, 1) := by decide +kernel
theorem d_Bo_give_169 : decode prog_3_method_8_code 169 = .ok (.ireturn, 1) := by decide +kernel
theorem d_Bo_give_170 : decode prog_3_method_8_code 170 = .ok (.aload_n 1, 1) := by decide +kernel
theorem d_Bo_give_171 : decode prog_3_method_8_code 171 = .ok (.getfield 63, 3) := by decide +kernel
theorem d_Bo_give_174 : decode prog_3_method_8_code 174 = .ok (.ireturn, 1) := by decide +kernel
theorem d_Bo_give_175 : decode prog_3_method_8_code 175 = .ok (.aload_n 0, 1) := by decide +kernel
theorem d_Bo_give_176 : decode prog_3_method_8_code 176 = .ok (.aload_n 1, 1) := by decide +kernel
theorem d_Bo_give_177 : decode prog_3_method_8_code 177 = .ok (.bipush 20, 2) := by decide +kernel
theorem d_Bo_give_179 : decode prog_3_method_8_code 179 = .ok (.iload 4, 2) := by decide +kernel
theorem d_Bo_give_181 : decode prog_3_method_8_code 181 = .ok (.invokevirtual 47, 3) := by decide +kernel
theorem d_Bo_give_184 : decode prog_3_method_8_code 184 = .ok (.aload_n 1, 1) := by decide +kernel
theorem d_Bo_give_185 : decode prog_3_method_8_code 185 = .ok (.getfield 83, 3) := by decide +kernel
theorem d_Bo_give_188 : decode prog_3_method_8_code 188 = .ok (.ifCond .eq 8, 3) := by decide +kernel
theorem d_Bo_give_191 : decode prog_3_method_8_code 191 = .ok (.bipush 100, 2) := by decide +kernel
theorem d_Bo_give_193 : decode prog_3_method_8_code 193 = .ok (.goto 4, 3) := by decide +kernel
theorem d_Bo_give_196 : decode prog_3_method_8_code 196 = .ok (.iconst 0, 1) := by decide +kernel
theorem d_Bo_give_197 : decode prog_3_method_8_code 197 = .ok (.iadd, 1) := by decide +kernel
theorem d_Bo_give_198 : decode prog_3_method_8_code 198 = .ok (.ireturn, 1) := by decide +kernel
theorem d_Bo_give_199 : decode prog_3_method_8_code 199 = .ok (.aload_n 0, 1) := by decide +kernel
theorem d_Bo_give_200 : decode prog_3_method_8_code 200 = .ok (.aload_n 1, 1) := by decide +kernel
theorem d_Bo_give_201 : decode prog_3_method_8_code 201 = .ok (.bipush 21, 2) := by decide +kernel
theorem d_Bo_give_203 : decode prog_3_method_8_code 203 = .ok (.iload 4, 2) := by decide +kernel
theorem d_Bo_give_205 : decode prog_3_method_8_code 205 = .ok (.invokevirtual 47, 3) := by decide +kernel
theorem d_Bo_give_208 : decode prog_3_method_8_code 208 = .ok (.aload_n 0, 1) := by decide +kernel
theorem d_Bo_give_209 : decode prog_3_method_8_code 209 = .ok (.aload_n 1, 1) := by decide +kernel
theorem d_Bo_give_210 : decode prog_3_method_8_code 210 = .ok (.iconst 0, 1) := by decide +kernel
theorem d_Bo_give_211 : decode prog_3_method_8_code 211 = .ok (.iload 4, 2) := by decide +kernel
theorem d_Bo_give_213 : decode prog_3_method_8_code 213 = .ok (.invokevirtual 39, 3) := by decide +kernel
theorem d_Bo_give_216 : decode prog_3_method_8_code 216 = .ok (.iadd, 1) := by decide +kernel
theorem d_Bo_give_217 : decode prog_3_method_8_code 217 = .ok (.ireturn, 1) := by decide +kernel
theorem d_Bo_give_218 : decode prog_3_method_8_code 218 = .ok (.aload_n 0, 1) := by decide +kernel
theorem d_Bo_give_219 : decode prog_3_method_8_code 219 = .ok (.aload_n 1, 1) := by decide +kernel
theorem d_Bo_give_220 : decode prog_3_method_8_code 220 = .ok (.bipush 20, 2) := by decide +kernel
theorem d_Bo_give_222 : decode prog_3_method_8_code 222 = .ok (.iload 4, 2) := by decide +kernel
theorem d_Bo_give_224 : decode prog_3_method_8_code 224 = .ok (.invokevirtual 47, 3) := by decide +kernel
theorem d_Bo_give_227 : decode prog_3_method_8_code 227 = .ok (.sipush 1000, 3) := by decide +kernel
theorem d_Bo_give_230 : decode prog_3_method_8_code 230 = .ok (.iadd, 1) := by decide +kernel
theorem d_Bo_give_231 : decode prog_3_method_8_code 231 = .ok (.ireturn, 1) := by decide +kernel
theorem d_Bo_give_232 : decode prog_3_method_8_code 232 = .ok (.iconst 0, 1) := by decide +kernel
theorem d_Bo_give_233 : decode prog_3_method_8_code 233 = .ok (.ireturn, 1) := by decide +kernel
set_option maxHeartbeats 2000000 in
theorem Bo_give_c {l : Launch} {θ : tv_Th} (F : Nat) : ∀ (n : Nat) (a1 : Nat) (a2 : Int32) (a3 : Int32) (M : tv_M), tv_Ct l θ ⟨"TiedViews$Bodies", "give", "(LTiedViews$Eye;II)I"⟩ prog_3_method_8_code 5 (some .int) (2 + 2 * n) tv_ei [.ref (θ.1 + 247), .ref (θ.1 + a1), .int a2, .int a3] M (Bo_give F n a1 a2 a3 M) := by
  intro n
  induction n with
  | zero => intro a1 a2 a3 M; exact tv_ctn (by rw [Bo_give])
  | succ nn ihs =>
    intro a1 a2 a3 M
    refine tv_ofG [some (.ref (θ.1 + 247)), some (.ref (θ.1 + a1)), some (.int a2), some (.int a3), none] rfl rfl (tv_ent 1 rfl) ?_
    intro κ hl ht hC hR
    subst hl; subst ht
    have hdd : Nat.ble 2 (2 + 2 * (nn + 1)) = true := tv_dge _ _ _
    have hds : Nat.ble 2 (2 + 2 * nn) = true := tv_dge _ _ _
    have hdp : Nat.ble (2 + 2 * nn + 2) (2 + 2 * (nn + 1)) = true := tv_dpm _ _ _
    rw [Bo_give]
    refine g_gl (fun h1 => ?_)
    refine g_iload_n hC d_Bo_give_0 rfl ?_
    refine g_bipush hC d_Bo_give_1 k_b40 ?_
    refine g_icmp_le (tgt := 8) hC d_Bo_give_3 (by decide) (fun _ => ?_) (fun _ => ?_)
    · refine g_aload_n hC d_Bo_give_8 rfl ?_
      refine g_iload_n hC d_Bo_give_9 rfl ?_
      refine gv_callVv hC [.int a2] cw_Bo_56 (Bo_leaveTrace_c F a2 M) lc_247 rfl rfl rfl rfl rfl (tv_dtr hdd rfl) rfl d_Bo_give_10 (fun r2 M3 => ?_)
      refine g_iload_n hC d_Bo_give_13 rfl ?_
      refine g_iconst hC d_Bo_give_14 k_i1 ?_
      refine g_iadd hC d_Bo_give_15 ?_
      refine g_istore (ls' := [some (.ref (κ.b + 247)), some (.ref (κ.b + a1)), some (.int a2), some (.int a3), some (.int (a3 + 1))]) hC d_Bo_give_16 rfl rfl ?_
      refine g_iload_n hC d_Bo_give_18 rfl ?_
      refine g_ite (fun e4 => ?_) (fun e4 => ?_)
      · refine g_tabIn (tgt := 88) hC d_Bo_give_19 e4 (by decide) (by decide) rfl (by decide) ?_
        refine g_aload_n hC d_Bo_give_88 rfl ?_
        refine fg_Bo_60 hC h1 d_Bo_give_89 ?_
        exact g_iret hC hR d_Bo_give_92
      · refine g_ite (fun e9 => ?_) (fun e9 => ?_)
        · refine g_tabIn (tgt := 93) hC d_Bo_give_19 e9 (by decide) (by decide) rfl (by decide) ?_
          refine g_aload_n hC d_Bo_give_93 rfl ?_
          refine g_aload_n hC d_Bo_give_94 rfl ?_
          refine g_bipush hC d_Bo_give_95 k_b10 ?_
          refine g_iload hC d_Bo_give_97 rfl ?_
          refine gv_callVi hC [.ref (κ.b + a1), .int 10, .int (a3 + 1)] cw_Bo_47 (ihs a1 10 (a3 + 1) M3) lc_247 rfl rfl rfl rfl rfl (tv_dt1 hdp) rfl d_Bo_give_99 (fun r5 M6 => ?_)
          refine g_aload_n hC d_Bo_give_102 rfl ?_
          refine fg_Bo_15 hC lc_247 d_Bo_give_103 p0_247_0 ?_
          refine g_aload_n hC d_Bo_give_106 rfl ?_
          refine fg_Bo_63 hC h1 d_Bo_give_107 ?_
          refine gv_callVi hC [.int (M6.1 a1 0)] cw_Bo_66 (To_tiesOf_c F (M6.1 a1 0) M6) lc_18 rfl rfl rfl rfl rfl (tv_dtr hdd rfl) rfl d_Bo_give_110 (fun r7 M8 => ?_)
          refine g_iadd hC d_Bo_give_113 ?_
          exact g_iret hC hR d_Bo_give_114
        · refine g_ite (fun e12 => ?_) (fun e12 => ?_)
          · refine g_tabIn (tgt := 115) hC d_Bo_give_19 e12 (by decide) (by decide) rfl (by decide) ?_
            refine g_aload_n hC d_Bo_give_115 rfl ?_
            refine g_aload_n hC d_Bo_give_116 rfl ?_
            refine g_bipush hC d_Bo_give_117 k_b11 ?_
            refine g_iload hC d_Bo_give_119 rfl ?_
            refine gv_callVi hC [.ref (κ.b + a1), .int 11, .int (a3 + 1)] cw_Bo_47 (ihs a1 11 (a3 + 1) M3) lc_247 rfl rfl rfl rfl rfl (tv_dt1 hdp) rfl d_Bo_give_121 (fun r10 M11 => ?_)
            refine g_aload_n hC d_Bo_give_124 rfl ?_
            refine fg_Bo_15 hC lc_247 d_Bo_give_125 p0_247_0 ?_
            refine fg_Bo_72 hC lc_18 d_Bo_give_128 ?_
            refine g_imul hC d_Bo_give_131 ?_
            exact g_iret hC hR d_Bo_give_132
          · refine g_ite (fun e17 => ?_) (fun e17 => ?_)
            · refine g_tabIn (tgt := 133) hC d_Bo_give_19 e17 (by decide) (by decide) rfl (by decide) ?_
              refine g_aload_n hC d_Bo_give_133 rfl ?_
              refine g_aload_n hC d_Bo_give_134 rfl ?_
              refine g_bipush hC d_Bo_give_135 k_b11 ?_
              refine g_iload hC d_Bo_give_137 rfl ?_
              refine gv_callVi hC [.ref (κ.b + a1), .int 11, .int (a3 + 1)] cw_Bo_47 (ihs a1 11 (a3 + 1) M3) lc_247 rfl rfl rfl rfl rfl (tv_dt1 hdp) rfl d_Bo_give_139 (fun r13 M14 => ?_)
              refine g_aload_n hC d_Bo_give_142 rfl ?_
              refine g_aload_n hC d_Bo_give_143 rfl ?_
              refine g_iconst hC d_Bo_give_144 k_i1 ?_
              refine g_iload hC d_Bo_give_145 rfl ?_
              refine gv_callVi hC [.ref (κ.b + a1), .int 1, .int (a3 + 1)] cw_Bo_39 (Bo_answerAnew_c F (tv_dtr hds rfl) ihs a1 1 (a3 + 1) M14) lc_247 rfl rfl rfl rfl rfl hdp rfl d_Bo_give_147 (fun r15 M16 => ?_)
              refine g_isub hC d_Bo_give_150 ?_
              exact g_iret hC hR d_Bo_give_151
            · refine g_ite (fun e22 => ?_) (fun e22 => ?_)
              · refine g_tabIn (tgt := 152) hC d_Bo_give_19 e22 (by decide) (by decide) rfl (by decide) ?_
                refine g_aload_n hC d_Bo_give_152 rfl ?_
                refine g_aload_n hC d_Bo_give_153 rfl ?_
                refine g_bipush hC d_Bo_give_154 k_b10 ?_
                refine g_iload hC d_Bo_give_156 rfl ?_
                refine gv_callVi hC [.ref (κ.b + a1), .int 10, .int (a3 + 1)] cw_Bo_47 (ihs a1 10 (a3 + 1) M3) lc_247 rfl rfl rfl rfl rfl (tv_dt1 hdp) rfl d_Bo_give_158 (fun r18 M19 => ?_)
                refine g_aload_n hC d_Bo_give_161 rfl ?_
                refine fg_Bo_75 hC h1 d_Bo_give_162 ?_
                refine gv_callSi hC [.int (M19.1 a1 4)] cw_Bo_78 (Jv_bitCount_c F (M19.1 a1 4) M19) rfl rfl rfl (tv_dtr hdd rfl) rfl d_Bo_give_165 (fun r20 M21 => ?_)
                refine g_iadd hC d_Bo_give_168 ?_
                exact g_iret hC hR d_Bo_give_169
              · refine g_ite (fun e23 => ?_) (fun e23 => ?_)
                · refine g_tabIn (tgt := 232) hC d_Bo_give_19 e23 (by decide) (by decide) rfl (by decide) ?_
                  refine g_iconst hC d_Bo_give_232 k_i0 ?_
                  exact g_iret hC hR d_Bo_give_233
                · refine g_ite (fun e24 => ?_) (fun e24 => ?_)
                  · refine g_tabIn (tgt := 232) hC d_Bo_give_19 e24 (by decide) (by decide) rfl (by decide) ?_
                    refine g_iconst hC d_Bo_give_232 k_i0 ?_
                    exact g_iret hC hR d_Bo_give_233
                  · refine g_ite (fun e25 => ?_) (fun e25 => ?_)
                    · refine g_tabIn (tgt := 232) hC d_Bo_give_19 e25 (by decide) (by decide) rfl (by decide) ?_
                      refine g_iconst hC d_Bo_give_232 k_i0 ?_
                      exact g_iret hC hR d_Bo_give_233
                    · refine g_ite (fun e26 => ?_) (fun e26 => ?_)
                      · refine g_tabIn (tgt := 232) hC d_Bo_give_19 e26 (by decide) (by decide) rfl (by decide) ?_
                        refine g_iconst hC d_Bo_give_232 k_i0 ?_
                        exact g_iret hC hR d_Bo_give_233
                      · refine g_ite (fun e27 => ?_) (fun e27 => ?_)
                        · refine g_tabIn (tgt := 232) hC d_Bo_give_19 e27 (by decide) (by decide) rfl (by decide) ?_
                          refine g_iconst hC d_Bo_give_232 k_i0 ?_
                          exact g_iret hC hR d_Bo_give_233
                        · refine g_ite (fun e28 => ?_) (fun e28 => ?_)
                          · refine g_tabIn (tgt := 170) hC d_Bo_give_19 e28 (by decide) (by decide) rfl (by decide) ?_
                            refine g_aload_n hC d_Bo_give_170 rfl ?_
                            refine fg_Bo_63 hC h1 d_Bo_give_171 ?_
                            exact g_iret hC hR d_Bo_give_174
                          · refine g_ite (fun e31 => ?_) (fun e31 => ?_)
                            · refine g_tabIn (tgt := 175) hC d_Bo_give_19 e31 (by decide) (by decide) rfl (by decide) ?_
                              refine g_aload_n hC d_Bo_give_175 rfl ?_
                              refine g_aload_n hC d_Bo_give_176 rfl ?_
                              refine g_bipush hC d_Bo_give_177 k_b20 ?_
                              refine g_iload hC d_Bo_give_179 rfl ?_
                              refine gv_callVi hC [.ref (κ.b + a1), .int 20, .int (a3 + 1)] cw_Bo_47 (ihs a1 20 (a3 + 1) M3) lc_247 rfl rfl rfl rfl rfl (tv_dt1 hdp) rfl d_Bo_give_181 (fun r29 M30 => ?_)
                              refine g_aload_n hC d_Bo_give_184 rfl ?_
                              refine fg_Bo_83 hC h1 d_Bo_give_185 ?_
                              refine g_if_eq (tgt := 196) hC d_Bo_give_188 (by decide) (fun _ => ?_) (fun _ => ?_)
                              · refine g_iconst hC d_Bo_give_196 k_i0 ?_
                                refine g_iadd hC d_Bo_give_197 ?_
                                exact g_iret hC hR d_Bo_give_198
                              · refine g_bipush hC d_Bo_give_191 k_b100 ?_
                                refine g_goto (tgt := 197) hC d_Bo_give_193 (by decide) ?_
                                refine g_iadd hC d_Bo_give_197 ?_
                                exact g_iret hC hR d_Bo_give_198
                            · refine g_ite (fun e36 => ?_) (fun e36 => ?_)
                              · refine g_tabIn (tgt := 199) hC d_Bo_give_19 e36 (by decide) (by decide) rfl (by decide) ?_
                                refine g_aload_n hC d_Bo_give_199 rfl ?_
                                refine g_aload_n hC d_Bo_give_200 rfl ?_
                                refine g_bipush hC d_Bo_give_201 k_b21 ?_
                                refine g_iload hC d_Bo_give_203 rfl ?_
                                refine gv_callVi hC [.ref (κ.b + a1), .int 21, .int (a3 + 1)] cw_Bo_47 (ihs a1 21 (a3 + 1) M3) lc_247 rfl rfl rfl rfl rfl (tv_dt1 hdp) rfl d_Bo_give_205 (fun r32 M33 => ?_)
                                refine g_aload_n hC d_Bo_give_208 rfl ?_
                                refine g_aload_n hC d_Bo_give_209 rfl ?_
                                refine g_iconst hC d_Bo_give_210 k_i0 ?_
                                refine g_iload hC d_Bo_give_211 rfl ?_
                                refine gv_callVi hC [.ref (κ.b + a1), .int 0, .int (a3 + 1)] cw_Bo_39 (Bo_answerAnew_c F (tv_dtr hds rfl) ihs a1 0 (a3 + 1) M33) lc_247 rfl rfl rfl rfl rfl hdp rfl d_Bo_give_213 (fun r34 M35 => ?_)
                                refine g_iadd hC d_Bo_give_216 ?_
                                exact g_iret hC hR d_Bo_give_217
                              · refine g_ite (fun e39 => ?_) (fun e39 => ?_)
                                · refine g_tabIn (tgt := 218) hC d_Bo_give_19 e39 (by decide) (by decide) rfl (by decide) ?_
                                  refine g_aload_n hC d_Bo_give_218 rfl ?_
                                  refine g_aload_n hC d_Bo_give_219 rfl ?_
                                  refine g_bipush hC d_Bo_give_220 k_b20 ?_
                                  refine g_iload hC d_Bo_give_222 rfl ?_
                                  refine gv_callVi hC [.ref (κ.b + a1), .int 20, .int (a3 + 1)] cw_Bo_47 (ihs a1 20 (a3 + 1) M3) lc_247 rfl rfl rfl rfl rfl (tv_dt1 hdp) rfl d_Bo_give_224 (fun r37 M38 => ?_)
                                  refine g_sipush hC d_Bo_give_227 k_s1000 ?_
                                  refine g_iadd hC d_Bo_give_230 ?_
                                  exact g_iret hC hR d_Bo_give_231
                                · refine g_tabOut (tgt := 232) hC d_Bo_give_19 (by have w0 := lv_neT e4 (a := 10) (by decide); have w1 := lv_neT e9 (a := 11) (by decide); have w2 := lv_neT e12 (a := 12) (by decide); have w3 := lv_neT e17 (a := 13) (by decide); have w4 := lv_neT e22 (a := 14) (by decide); have w5 := lv_neT e23 (a := 15) (by decide); have w6 := lv_neT e24 (a := 16) (by decide); have w7 := lv_neT e25 (a := 17) (by decide); have w8 := lv_neT e26 (a := 18) (by decide); have w9 := lv_neT e27 (a := 19) (by decide); have w10 := lv_neT e28 (a := 20) (by decide); have w11 := lv_neT e31 (a := 21) (by decide); have w12 := lv_neT e36 (a := 22) (by decide); have w13 := lv_neT e39 (a := 23) (by decide); omega) (by decide) ?_
                                  refine g_iconst hC d_Bo_give_232 k_i0 ?_
                                  exact g_iret hC hR d_Bo_give_233
    · refine g_iconst hC d_Bo_give_6 k_i0 ?_
      exact g_iret hC hR d_Bo_give_7
theorem d_Bo_answer_0 : decode prog_3_method_5_code 0 = .ok (.aload_n 0, 1) := by decide +kernel
theorem d_Bo_answer_1 : decode prog_3_method_5_code 1 = .ok (.iconst 0, 1) := by decide +kernel
theorem d_Bo_answer_2 : decode prog_3_method_5_code 2 = .ok (.putfield 35, 3) := by decide +kernel
theorem d_Bo_answer_5 : decode prog_3_method_5_code 5 = .ok (.aload_n 0, 1) := by decide +kernel
theorem d_Bo_answer_6 : decode prog_3_method_5_code 6 = .ok (.aload_n 1, 1) := by decide +kernel
theorem d_Bo_answer_7 : decode prog_3_method_5_code 7 = .ok (.iload_n 2, 1) := by decide +kernel
theorem d_Bo_answer_8 : decode prog_3_method_5_code 8 = .ok (.iconst 0, 1) := by decide +kernel
theorem d_Bo_answer_9 : decode prog_3_method_5_code 9 = .ok (.invokevirtual 39, 3) := by decide +kernel
theorem d_Bo_answer_12 : decode prog_3_method_5_code 12 = .ok (.ireturn, 1) := by decide +kernel
set_option maxHeartbeats 2000000 in
theorem Bo_answer_c {l : Launch} {θ : tv_Th} (F : Nat) (a1 : Nat) (a2 : Int32) (M : tv_M) : tv_Ct l θ ⟨"TiedViews$Bodies", "answer", "(LTiedViews$Eye;I)I"⟩ prog_3_method_5_code 3 (some .int) 104 tv_ei [.ref (θ.1 + 247), .ref (θ.1 + a1), .int a2] M (Bo_answer F a1 a2 M) := by
  refine tv_ofG [some (.ref (θ.1 + 247)), some (.ref (θ.1 + a1)), some (.int a2)] rfl rfl (tv_ent 0 rfl) ?_
  intro κ hl ht hC hR
  subst hl; subst ht
  unfold Bo_answer
  refine g_gl (fun h1 => ?_)
  refine g_aload_n hC d_Bo_answer_0 rfl ?_
  refine g_iconst hC d_Bo_answer_1 k_i0 ?_
  refine fp_Bo_35 hC lc_247 d_Bo_answer_2 (fun M2 => ?_)
  refine g_aload_n hC d_Bo_answer_5 rfl ?_
  refine g_aload_n hC d_Bo_answer_6 rfl ?_
  refine g_iload_n hC d_Bo_answer_7 rfl ?_
  refine g_iconst hC d_Bo_answer_8 k_i0 ?_
  refine gv_callVi hC [.ref (κ.b + a1), .int a2, .int 0] cw_Bo_39 (Bo_answerAnew_c F rfl (Bo_give_c F 50) a1 a2 0 M2) lc_247 rfl rfl rfl rfl rfl rfl rfl d_Bo_answer_9 (fun r3 M4 => ?_)
  exact g_iret hC hR d_Bo_answer_12
theorem d_Xx_ask_0 : decode prog_1_method_29_code 0 = .ok (.aload_n 0, 1) := by decide +kernel
theorem d_Xx_ask_1 : decode prog_1_method_29_code 1 = .ok (.getfield 29, 3) := by decide +kernel
theorem d_Xx_ask_4 : decode prog_1_method_29_code 4 = .ok (.iload_n 1, 1) := by decide +kernel
theorem d_Xx_ask_5 : decode prog_1_method_29_code 5 = .ok (.invokevirtual 151, 3) := by decide +kernel
theorem d_Xx_ask_8 : decode prog_1_method_29_code 8 = .ok (.astore_n 3, 1) := by decide +kernel
theorem d_Xx_ask_9 : decode prog_1_method_29_code 9 = .ok (.aload_n 3, 1) := by decide +kernel
theorem d_Xx_ask_10 : decode prog_1_method_29_code 10 = .ok (.ifnull 12, 3) := by decide +kernel
theorem d_Xx_ask_13 : decode prog_1_method_29_code 13 = .ok (.iload_n 2, 1) := by decide +kernel
theorem d_Xx_ask_14 : decode prog_1_method_29_code 14 = .ok (.ifCond .eq 11, 3) := by decide +kernel
theorem d_Xx_ask_17 : decode prog_1_method_29_code 17 = .ok (.iload_n 2, 1) := by decide +kernel
theorem d_Xx_ask_18 : decode prog_1_method_29_code 18 = .ok (.iconst 1, 1) := by decide +kernel
theorem d_Xx_ask_19 : decode prog_1_method_29_code 19 = .ok (.if_icmp .eq 6, 3) := by decide +kernel
theorem d_Xx_ask_22 : decode prog_1_method_29_code 22 = .ok (.ldc 83, 2) := by decide +kernel
theorem d_Xx_ask_24 : decode prog_1_method_29_code 24 = .ok (.ireturn, 1) := by decide +kernel
theorem d_Xx_ask_25 : decode prog_1_method_29_code 25 = .ok (.aload_n 0, 1) := by decide +kernel
theorem d_Xx_ask_26 : decode prog_1_method_29_code 26 = .ok (.getfield 75, 3) := by decide +kernel
theorem d_Xx_ask_29 : decode prog_1_method_29_code 29 = .ok (.aload_n 3, 1) := by decide +kernel
theorem d_Xx_ask_30 : decode prog_1_method_29_code 30 = .ok (.iload_n 2, 1) := by decide +kernel
theorem d_Xx_ask_31 : decode prog_1_method_29_code 31 = .ok (.invokevirtual 295, 3) := by decide +kernel
theorem d_Xx_ask_34 : decode prog_1_method_29_code 34 = .ok (.ireturn, 1) := by decide +kernel
set_option maxHeartbeats 2000000 in
theorem Xx_ask_c {l : Launch} {θ : tv_Th} (F : Nat) (a1 : Int32) (a2 : Int32) (M : tv_M) : tv_Ct l θ ⟨"TiedViews", "ask", "(II)I"⟩ prog_1_method_29_code 4 (some .int) 105 tv_ei [.ref (θ.1 + 0), .int a1, .int a2] M (Xx_ask F a1 a2 M) := by
  refine tv_ofG [some (.ref (θ.1 + 0)), some (.int a1), some (.int a2), none] rfl rfl (tv_ent 1 rfl) ?_
  intro κ hl ht hC hR
  subst hl; subst ht
  unfold Xx_ask
  refine g_aload_n hC d_Xx_ask_0 rfl ?_
  refine fg_Xx_29 hC lc_0 d_Xx_ask_1 p0_0_2 ?_
  refine g_iload_n hC d_Xx_ask_4 rfl ?_
  refine gv_callVr hC [.int a1] cw_Xx_151 (To_eyeAt_c F a1 M) lc_18 rfl rfl rfl rfl rfl rfl rfl d_Xx_ask_5 (fun r1 M2 => ?_)
  refine g_astore_nQ (ls' := [some (.ref (κ.b + 0)), some (.int a1), some (.int a2), some (tv_re κ.b r1)]) hC d_Xx_ask_8 rfl rfl ?_
  refine g_aload_nQ hC d_Xx_ask_9 rfl ?_
  rcases r1 with _ | p3
  · refine g_nlN ?_
    refine g_ifnullN (tgt := 22) hC d_Xx_ask_10 (by decide) ?_
    refine g_ldc hC d_Xx_ask_22 wk_Xx_83 ?_
    exact g_iret hC hR d_Xx_ask_24
  · refine g_nlS ?_
    refine g_ifnullR hC d_Xx_ask_10 ?_
    refine g_gl (fun h4 => ?_)
    refine g_iload_n hC d_Xx_ask_13 rfl ?_
    refine g_if_eq (tgt := 25) hC d_Xx_ask_14 (by decide) (fun _ => ?_) (fun _ => ?_)
    · refine g_aload_n hC d_Xx_ask_25 rfl ?_
      refine fg_Xx_75 hC lc_0 d_Xx_ask_26 p0_0_8 ?_
      refine g_aload_n hC d_Xx_ask_29 rfl ?_
      refine g_iload_n hC d_Xx_ask_30 rfl ?_
      refine gv_callVi hC [.ref (κ.b + p3), .int a2] cw_Xx_295 (Bo_answer_c F p3 a2 M2) lc_247 rfl rfl rfl rfl rfl rfl rfl d_Xx_ask_31 (fun r5 M6 => ?_)
      exact g_iret hC hR d_Xx_ask_34
    · refine g_iload_n hC d_Xx_ask_17 rfl ?_
      refine g_iconst hC d_Xx_ask_18 k_i1 ?_
      refine g_icmp_eq (tgt := 25) hC d_Xx_ask_19 (by decide) (fun _ => ?_) (fun _ => ?_)
      · refine g_aload_n hC d_Xx_ask_25 rfl ?_
        refine fg_Xx_75 hC lc_0 d_Xx_ask_26 p0_0_8 ?_
        refine g_aload_n hC d_Xx_ask_29 rfl ?_
        refine g_iload_n hC d_Xx_ask_30 rfl ?_
        refine gv_callVi hC [.ref (κ.b + p3), .int a2] cw_Xx_295 (Bo_answer_c F p3 a2 M2) lc_247 rfl rfl rfl rfl rfl rfl rfl d_Xx_ask_31 (fun r7 M8 => ?_)
        exact g_iret hC hR d_Xx_ask_34
      · refine g_ldc hC d_Xx_ask_22 wk_Xx_83 ?_
        exact g_iret hC hR d_Xx_ask_24
theorem d_Bo_traceNumber_0 : decode prog_3_method_4_code 0 = .ok (.iload_n 1, 1) := by decide +kernel
theorem d_Bo_traceNumber_1 : decode prog_3_method_4_code 1 = .ok (.ifCond .lt 11, 3) := by decide +kernel
theorem d_Bo_traceNumber_4 : decode prog_3_method_4_code 4 = .ok (.iload_n 1, 1) := by decide +kernel
theorem d_Bo_traceNumber_5 : decode prog_3_method_4_code 5 = .ok (.aload_n 0, 1) := by decide +kernel
theorem d_Bo_traceNumber_6 : decode prog_3_method_4_code 6 = .ok (.getfield 35, 3) := by decide +kernel
theorem d_Bo_traceNumber_9 : decode prog_3_method_4_code 9 = .ok (.if_icmp .lt 8, 3) := by decide +kernel
theorem d_Bo_traceNumber_12 : decode prog_3_method_4_code 12 = .ok (.ldc 38, 2) := by decide +kernel
theorem d_Bo_traceNumber_14 : decode prog_3_method_4_code 14 = .ok (.goto 9, 3) := by decide +kernel
theorem d_Bo_traceNumber_17 : decode prog_3_method_4_code 17 = .ok (.aload_n 0, 1) := by decide +kernel
theorem d_Bo_traceNumber_18 : decode prog_3_method_4_code 18 = .ok (.getfield 11, 3) := by decide +kernel
theorem d_Bo_traceNumber_21 : decode prog_3_method_4_code 21 = .ok (.iload_n 1, 1) := by decide +kernel
theorem d_Bo_traceNumber_22 : decode prog_3_method_4_code 22 = .ok (.iaload, 1) := by decide +kernel
theorem d_Bo_traceNumber_23 : decode prog_3_method_4_code 23 = .ok (.ireturn, 1) := by decide +kernel
set_option maxHeartbeats 2000000 in
theorem Bo_traceNumber_c {l : Launch} {θ : tv_Th} (F : Nat) (a1 : Int32) (M : tv_M) : tv_Ct l θ ⟨"TiedViews$Bodies", "traceNumber", "(I)I"⟩ prog_3_method_4_code 2 (some .int) 0 tv_ei [.ref (θ.1 + 247), .int a1] M (Bo_traceNumber F a1 M) := by
  refine tv_ofG [some (.ref (θ.1 + 247)), some (.int a1)] rfl rfl (tv_ent 0 rfl) ?_
  intro κ hl ht hC hR
  subst hl; subst ht
  unfold Bo_traceNumber
  refine g_iload_n hC d_Bo_traceNumber_0 rfl ?_
  refine g_if_lt (tgt := 12) hC d_Bo_traceNumber_1 (by decide) (fun _ => ?_) (fun _ => ?_)
  · refine g_ldc hC d_Bo_traceNumber_12 wk_Bo_38 ?_
    refine g_goto (tgt := 23) hC d_Bo_traceNumber_14 (by decide) ?_
    exact g_iret hC hR d_Bo_traceNumber_23
  · refine g_iload_n hC d_Bo_traceNumber_4 rfl ?_
    refine g_aload_n hC d_Bo_traceNumber_5 rfl ?_
    refine fg_Bo_35 hC lc_247 d_Bo_traceNumber_6 ?_
    refine g_icmp_lt (tgt := 17) hC d_Bo_traceNumber_9 (by decide) (fun _ => ?_) (fun _ => ?_)
    · refine g_aload_n hC d_Bo_traceNumber_17 rfl ?_
      refine fg_Bo_11 hC lc_247 d_Bo_traceNumber_18 p0_247_1 ?_
      refine g_iload_n hC d_Bo_traceNumber_21 rfl ?_
      refine gv_iald hC ly_248 d_Bo_traceNumber_22 (fun x1 => ?_)
      exact g_iret hC hR d_Bo_traceNumber_23
    · refine g_ldc hC d_Bo_traceNumber_12 wk_Bo_38 ?_
      refine g_goto (tgt := 23) hC d_Bo_traceNumber_14 (by decide) ?_
      exact g_iret hC hR d_Bo_traceNumber_23
theorem d_Xx_trace_0 : decode prog_1_method_30_code 0 = .ok (.aload_n 0, 1) := by decide +kernel
theorem d_Xx_trace_1 : decode prog_1_method_30_code 1 = .ok (.getfield 75, 3) := by decide +kernel
theorem d_Xx_trace_4 : decode prog_1_method_30_code 4 = .ok (.iload_n 1, 1) := by decide +kernel
theorem d_Xx_trace_5 : decode prog_1_method_30_code 5 = .ok (.invokevirtual 299, 3) := by decide +kernel
theorem d_Xx_trace_8 : decode prog_1_method_30_code 8 = .ok (.ireturn, 1) := by decide +kernel
set_option maxHeartbeats 2000000 in
theorem Xx_trace_c {l : Launch} {θ : tv_Th} (F : Nat) (a1 : Int32) (M : tv_M) : tv_Ct l θ ⟨"TiedViews", "trace", "(I)I"⟩ prog_1_method_30_code 2 (some .int) 1 tv_ei [.ref (θ.1 + 0), .int a1] M (Xx_trace F a1 M) := by
  refine tv_ofG [some (.ref (θ.1 + 0)), some (.int a1)] rfl rfl (tv_ent 0 rfl) ?_
  intro κ hl ht hC hR
  subst hl; subst ht
  unfold Xx_trace
  refine g_aload_n hC d_Xx_trace_0 rfl ?_
  refine fg_Xx_75 hC lc_0 d_Xx_trace_1 p0_0_8 ?_
  refine g_iload_n hC d_Xx_trace_4 rfl ?_
  refine gv_callVi hC [.int a1] cw_Xx_299 (Bo_traceNumber_c F a1 M) lc_247 rfl rfl rfl rfl rfl rfl rfl d_Xx_trace_5 (fun r1 M2 => ?_)
  exact g_iret hC hR d_Xx_trace_8
theorem d_Xx_sheetsThere_0 : decode prog_1_method_35_code 0 = .ok (.iconst 0, 1) := by decide +kernel
theorem d_Xx_sheetsThere_1 : decode prog_1_method_35_code 1 = .ok (.istore_n 1, 1) := by decide +kernel
theorem d_Xx_sheetsThere_2 : decode prog_1_method_35_code 2 = .ok (.iconst 0, 1) := by decide +kernel
theorem d_Xx_sheetsThere_3 : decode prog_1_method_35_code 3 = .ok (.istore_n 2, 1) := by decide +kernel
theorem d_Xx_sheetsThere_4 : decode prog_1_method_35_code 4 = .ok (.iload_n 2, 1) := by decide +kernel
theorem d_Xx_sheetsThere_5 : decode prog_1_method_35_code 5 = .ok (.bipush 8, 2) := by decide +kernel
theorem d_Xx_sheetsThere_7 : decode prog_1_method_35_code 7 = .ok (.if_icmp .ge 24, 3) := by decide +kernel
theorem d_Xx_sheetsThere_10 : decode prog_1_method_35_code 10 = .ok (.aload_n 0, 1) := by decide +kernel
theorem d_Xx_sheetsThere_11 : decode prog_1_method_35_code 11 = .ok (.getfield 11, 3) := by decide +kernel
theorem d_Xx_sheetsThere_14 : decode prog_1_method_35_code 14 = .ok (.iload_n 2, 1) := by decide +kernel
theorem d_Xx_sheetsThere_15 : decode prog_1_method_35_code 15 = .ok (.aaload, 1) := by decide +kernel
theorem d_Xx_sheetsThere_16 : decode prog_1_method_35_code 16 = .ok (.invokevirtual 94, 3) := by decide +kernel
theorem d_Xx_sheetsThere_19 : decode prog_1_method_35_code 19 = .ok (.ifCond .ne 6, 3) := by decide +kernel
theorem d_Xx_sheetsThere_22 : decode prog_1_method_35_code 22 = .ok (.iinc 1 1, 3) := by decide +kernel
theorem d_Xx_sheetsThere_25 : decode prog_1_method_35_code 25 = .ok (.iinc 2 1, 3) := by decide +kernel
theorem d_Xx_sheetsThere_28 : decode prog_1_method_35_code 28 = .ok (.goto (-24), 3) := by decide +kernel
theorem d_Xx_sheetsThere_31 : decode prog_1_method_35_code 31 = .ok (.iload_n 1, 1) := by decide +kernel
theorem d_Xx_sheetsThere_32 : decode prog_1_method_35_code 32 = .ok (.ireturn, 1) := by decide +kernel
set_option maxHeartbeats 2000000 in
theorem Xx_sheetsThere_L4_g {κ : tv_Kt} (hC : tv_Cx κ "TiedViews" prog_1_method_35_code 3 1) (hR : tv_Re κ (some .int)) (F : Nat) : ∀ (n : Nat) (l1 : Int32) (l2 : Int32) (M : tv_M), tv_G κ 3 (tv_Qm κ tv_ei) 4 [some (.ref (κ.b + 0)), some (.int l1), some (.int l2)] [] M (Xx_sheetsThere_L4 F n l1 l2 M) := by
  intro n
  induction n with
  | zero => intro _ _ _; exact g_none
  | succ nn ih =>
    intro l1 l2 M
    rw [Xx_sheetsThere_L4]
    refine g_iload_n hC d_Xx_sheetsThere_4 rfl ?_
    refine g_bipush hC d_Xx_sheetsThere_5 k_b8 ?_
    refine g_icmp_ge (tgt := 31) hC d_Xx_sheetsThere_7 (by decide) (fun _ => ?_) (fun _ => ?_)
    · refine g_iload_n hC d_Xx_sheetsThere_31 rfl ?_
      exact g_iret hC hR d_Xx_sheetsThere_32
    · refine g_aload_n hC d_Xx_sheetsThere_10 rfl ?_
      refine fg_Xx_11 hC lc_0 d_Xx_sheetsThere_11 p0_0_1 ?_
      refine g_iload_n hC d_Xx_sheetsThere_14 rfl ?_
      refine gv_aald hC 0 ly_1 rfl d_Xx_sheetsThere_15 (fun p1 => ?_)
      refine g_gl (fun h2 => ?_)
      refine gv_callVi hC [] cw_Xx_94 (Sh_isMissing_c F p1 M) h2 rfl rfl rfl rfl rfl rfl rfl d_Xx_sheetsThere_16 (fun r3 M4 => ?_)
      refine g_if_ne (tgt := 25) hC d_Xx_sheetsThere_19 (by decide) (fun _ => ?_) (fun _ => ?_)
      · refine g_iinc (ls' := [some (.ref (κ.b + 0)), some (.int l1), some (.int (l2 + 1))]) hC d_Xx_sheetsThere_25 rfl k_i1 rfl rfl ?_
        refine g_goto (tgt := 4) hC d_Xx_sheetsThere_28 (by decide) ?_
        exact ih l1 (l2 + 1) M4
      · refine g_iinc (ls' := [some (.ref (κ.b + 0)), some (.int (l1 + 1)), some (.int l2)]) hC d_Xx_sheetsThere_22 rfl k_i1 rfl rfl ?_
        refine g_iinc (ls' := [some (.ref (κ.b + 0)), some (.int (l1 + 1)), some (.int (l2 + 1))]) hC d_Xx_sheetsThere_25 rfl k_i1 rfl rfl ?_
        refine g_goto (tgt := 4) hC d_Xx_sheetsThere_28 (by decide) ?_
        exact ih (l1 + 1) (l2 + 1) M4
set_option maxHeartbeats 2000000 in
theorem Xx_sheetsThere_c {l : Launch} {θ : tv_Th} (F : Nat) (M : tv_M) : tv_Ct l θ ⟨"TiedViews", "sheetsThere", "()I"⟩ prog_1_method_35_code 3 (some .int) 1 tv_ei [.ref (θ.1 + 0)] M (Xx_sheetsThere F M) := by
  refine tv_ofG [some (.ref (θ.1 + 0)), none, none] rfl rfl (tv_ent 2 rfl) ?_
  intro κ hl ht hC hR
  subst hl; subst ht
  unfold Xx_sheetsThere
  refine g_iconst hC d_Xx_sheetsThere_0 k_i0 ?_
  refine g_istore_n (ls' := [some (.ref (κ.b + 0)), some (.int 0), none]) hC d_Xx_sheetsThere_1 rfl rfl ?_
  refine g_iconst hC d_Xx_sheetsThere_2 k_i0 ?_
  refine g_istore_n (ls' := [some (.ref (κ.b + 0)), some (.int 0), some (.int 0)]) hC d_Xx_sheetsThere_3 rfl rfl ?_
  exact Xx_sheetsThere_L4_g hC hR F F 0 0 M
theorem d_To_readings_0 : decode prog_12_method_10_code 0 = .ok (.iconst 0, 1) := by decide +kernel
theorem d_To_readings_1 : decode prog_12_method_10_code 1 = .ok (.istore_n 1, 1) := by decide +kernel
theorem d_To_readings_2 : decode prog_12_method_10_code 2 = .ok (.iconst 0, 1) := by decide +kernel
theorem d_To_readings_3 : decode prog_12_method_10_code 3 = .ok (.istore_n 2, 1) := by decide +kernel
theorem d_To_readings_4 : decode prog_12_method_10_code 4 = .ok (.iload_n 2, 1) := by decide +kernel
theorem d_To_readings_5 : decode prog_12_method_10_code 5 = .ok (.aload_n 0, 1) := by decide +kernel
theorem d_To_readings_6 : decode prog_12_method_10_code 6 = .ok (.getfield 35, 3) := by decide +kernel
theorem d_To_readings_9 : decode prog_12_method_10_code 9 = .ok (.if_icmp .ge 24, 3) := by decide +kernel
theorem d_To_readings_12 : decode prog_12_method_10_code 12 = .ok (.aload_n 0, 1) := by decide +kernel
theorem d_To_readings_13 : decode prog_12_method_10_code 13 = .ok (.getfield 11, 3) := by decide +kernel
theorem d_To_readings_16 : decode prog_12_method_10_code 16 = .ok (.iload_n 2, 1) := by decide +kernel
theorem d_To_readings_17 : decode prog_12_method_10_code 17 = .ok (.aaload, 1) := by decide +kernel
theorem d_To_readings_18 : decode prog_12_method_10_code 18 = .ok (.getfield 77, 3) := by decide +kernel
theorem d_To_readings_21 : decode prog_12_method_10_code 21 = .ok (.ifCond .eq 6, 3) := by decide +kernel
theorem d_To_readings_24 : decode prog_12_method_10_code 24 = .ok (.iinc 1 1, 3) := by decide +kernel
theorem d_To_readings_27 : decode prog_12_method_10_code 27 = .ok (.iinc 2 1, 3) := by decide +kernel
theorem d_To_readings_30 : decode prog_12_method_10_code 30 = .ok (.goto (-26), 3) := by decide +kernel
theorem d_To_readings_33 : decode prog_12_method_10_code 33 = .ok (.iload_n 1, 1) := by decide +kernel
theorem d_To_readings_34 : decode prog_12_method_10_code 34 = .ok (.ireturn, 1) := by decide +kernel
set_option maxHeartbeats 2000000 in
theorem To_readings_L4_g {κ : tv_Kt} (hC : tv_Cx κ "TiedViews$Told" prog_12_method_10_code 3 0) (hR : tv_Re κ (some .int)) (F : Nat) : ∀ (n : Nat) (l1 : Int32) (l2 : Int32) (M : tv_M), tv_G κ 3 (tv_Qm κ tv_ei) 4 [some (.ref (κ.b + 18)), some (.int l1), some (.int l2)] [] M (To_readings_L4 F n l1 l2 M) := by
  intro n
  induction n with
  | zero => intro _ _ _; exact g_none
  | succ nn ih =>
    intro l1 l2 M
    rw [To_readings_L4]
    refine g_iload_n hC d_To_readings_4 rfl ?_
    refine g_aload_n hC d_To_readings_5 rfl ?_
    refine fg_To_35 hC lc_18 d_To_readings_6 ?_
    refine g_icmp_ge (tgt := 33) hC d_To_readings_9 (by decide) (fun _ => ?_) (fun _ => ?_)
    · refine g_iload_n hC d_To_readings_33 rfl ?_
      exact g_iret hC hR d_To_readings_34
    · refine g_aload_n hC d_To_readings_12 rfl ?_
      refine fg_To_11 hC lc_18 d_To_readings_13 p0_18_1 ?_
      refine g_iload_n hC d_To_readings_16 rfl ?_
      refine gv_aald hC 1 ly_19 rfl d_To_readings_17 (fun p1 => ?_)
      refine g_gl (fun h2 => ?_)
      refine fg_To_77 hC h2 d_To_readings_18 ?_
      refine g_if_eq (tgt := 27) hC d_To_readings_21 (by decide) (fun _ => ?_) (fun _ => ?_)
      · refine g_iinc (ls' := [some (.ref (κ.b + 18)), some (.int l1), some (.int (l2 + 1))]) hC d_To_readings_27 rfl k_i1 rfl rfl ?_
        refine g_goto (tgt := 4) hC d_To_readings_30 (by decide) ?_
        exact ih l1 (l2 + 1) M
      · refine g_iinc (ls' := [some (.ref (κ.b + 18)), some (.int (l1 + 1)), some (.int l2)]) hC d_To_readings_24 rfl k_i1 rfl rfl ?_
        refine g_iinc (ls' := [some (.ref (κ.b + 18)), some (.int (l1 + 1)), some (.int (l2 + 1))]) hC d_To_readings_27 rfl k_i1 rfl rfl ?_
        refine g_goto (tgt := 4) hC d_To_readings_30 (by decide) ?_
        exact ih (l1 + 1) (l2 + 1) M
set_option maxHeartbeats 2000000 in
theorem To_readings_c {l : Launch} {θ : tv_Th} (F : Nat) (M : tv_M) : tv_Ct l θ ⟨"TiedViews$Told", "readings", "()I"⟩ prog_12_method_10_code 3 (some .int) 0 tv_ei [.ref (θ.1 + 18)] M (To_readings F M) := by
  refine tv_ofG [some (.ref (θ.1 + 18)), none, none] rfl rfl (tv_ent 2 rfl) ?_
  intro κ hl ht hC hR
  subst hl; subst ht
  unfold To_readings
  refine g_iconst hC d_To_readings_0 k_i0 ?_
  refine g_istore_n (ls' := [some (.ref (κ.b + 18)), some (.int 0), none]) hC d_To_readings_1 rfl rfl ?_
  refine g_iconst hC d_To_readings_2 k_i0 ?_
  refine g_istore_n (ls' := [some (.ref (κ.b + 18)), some (.int 0), some (.int 0)]) hC d_To_readings_3 rfl rfl ?_
  exact To_readings_L4_g hC hR F F 0 0 M
theorem d_To_choiceCount_0 : decode prog_12_method_11_code 0 = .ok (.iconst 0, 1) := by decide +kernel
theorem d_To_choiceCount_1 : decode prog_12_method_11_code 1 = .ok (.istore_n 1, 1) := by decide +kernel
theorem d_To_choiceCount_2 : decode prog_12_method_11_code 2 = .ok (.iconst 0, 1) := by decide +kernel
theorem d_To_choiceCount_3 : decode prog_12_method_11_code 3 = .ok (.istore_n 2, 1) := by decide +kernel
theorem d_To_choiceCount_4 : decode prog_12_method_11_code 4 = .ok (.iload_n 2, 1) := by decide +kernel
theorem d_To_choiceCount_5 : decode prog_12_method_11_code 5 = .ok (.aload_n 0, 1) := by decide +kernel
theorem d_To_choiceCount_6 : decode prog_12_method_11_code 6 = .ok (.getfield 35, 3) := by decide +kernel
theorem d_To_choiceCount_9 : decode prog_12_method_11_code 9 = .ok (.if_icmp .ge 24, 3) := by decide +kernel
theorem d_To_choiceCount_12 : decode prog_12_method_11_code 12 = .ok (.aload_n 0, 1) := by decide +kernel
theorem d_To_choiceCount_13 : decode prog_12_method_11_code 13 = .ok (.getfield 11, 3) := by decide +kernel
theorem d_To_choiceCount_16 : decode prog_12_method_11_code 16 = .ok (.iload_n 2, 1) := by decide +kernel
theorem d_To_choiceCount_17 : decode prog_12_method_11_code 17 = .ok (.aaload, 1) := by decide +kernel
theorem d_To_choiceCount_18 : decode prog_12_method_11_code 18 = .ok (.invokevirtual 69, 3) := by decide +kernel
theorem d_To_choiceCount_21 : decode prog_12_method_11_code 21 = .ok (.ifCond .eq 6, 3) := by decide +kernel
theorem d_To_choiceCount_24 : decode prog_12_method_11_code 24 = .ok (.iinc 1 1, 3) := by decide +kernel
theorem d_To_choiceCount_27 : decode prog_12_method_11_code 27 = .ok (.iinc 2 1, 3) := by decide +kernel
theorem d_To_choiceCount_30 : decode prog_12_method_11_code 30 = .ok (.goto (-26), 3) := by decide +kernel
theorem d_To_choiceCount_33 : decode prog_12_method_11_code 33 = .ok (.iload_n 1, 1) := by decide +kernel
theorem d_To_choiceCount_34 : decode prog_12_method_11_code 34 = .ok (.ireturn, 1) := by decide +kernel
set_option maxHeartbeats 2000000 in
theorem To_choiceCount_L4_g {κ : tv_Kt} (hC : tv_Cx κ "TiedViews$Told" prog_12_method_11_code 3 1) (hR : tv_Re κ (some .int)) (F : Nat) : ∀ (n : Nat) (l1 : Int32) (l2 : Int32) (M : tv_M), tv_G κ 3 (tv_Qm κ tv_ei) 4 [some (.ref (κ.b + 18)), some (.int l1), some (.int l2)] [] M (To_choiceCount_L4 F n l1 l2 M) := by
  intro n
  induction n with
  | zero => intro _ _ _; exact g_none
  | succ nn ih =>
    intro l1 l2 M
    rw [To_choiceCount_L4]
    refine g_iload_n hC d_To_choiceCount_4 rfl ?_
    refine g_aload_n hC d_To_choiceCount_5 rfl ?_
    refine fg_To_35 hC lc_18 d_To_choiceCount_6 ?_
    refine g_icmp_ge (tgt := 33) hC d_To_choiceCount_9 (by decide) (fun _ => ?_) (fun _ => ?_)
    · refine g_iload_n hC d_To_choiceCount_33 rfl ?_
      exact g_iret hC hR d_To_choiceCount_34
    · refine g_aload_n hC d_To_choiceCount_12 rfl ?_
      refine fg_To_11 hC lc_18 d_To_choiceCount_13 p0_18_1 ?_
      refine g_iload_n hC d_To_choiceCount_16 rfl ?_
      refine gv_aald hC 1 ly_19 rfl d_To_choiceCount_17 (fun p1 => ?_)
      refine g_gl (fun h2 => ?_)
      refine gv_callVi hC [] cw_To_69 (Ey_isChoice_c F p1 M) h2 rfl rfl rfl rfl rfl rfl rfl d_To_choiceCount_18 (fun r3 M4 => ?_)
      refine g_if_eq (tgt := 27) hC d_To_choiceCount_21 (by decide) (fun _ => ?_) (fun _ => ?_)
      · refine g_iinc (ls' := [some (.ref (κ.b + 18)), some (.int l1), some (.int (l2 + 1))]) hC d_To_choiceCount_27 rfl k_i1 rfl rfl ?_
        refine g_goto (tgt := 4) hC d_To_choiceCount_30 (by decide) ?_
        exact ih l1 (l2 + 1) M4
      · refine g_iinc (ls' := [some (.ref (κ.b + 18)), some (.int (l1 + 1)), some (.int l2)]) hC d_To_choiceCount_24 rfl k_i1 rfl rfl ?_
        refine g_iinc (ls' := [some (.ref (κ.b + 18)), some (.int (l1 + 1)), some (.int (l2 + 1))]) hC d_To_choiceCount_27 rfl k_i1 rfl rfl ?_
        refine g_goto (tgt := 4) hC d_To_choiceCount_30 (by decide) ?_
        exact ih (l1 + 1) (l2 + 1) M4
set_option maxHeartbeats 2000000 in
theorem To_choiceCount_c {l : Launch} {θ : tv_Th} (F : Nat) (M : tv_M) : tv_Ct l θ ⟨"TiedViews$Told", "choiceCount", "()I"⟩ prog_12_method_11_code 3 (some .int) 1 tv_ei [.ref (θ.1 + 18)] M (To_choiceCount F M) := by
  refine tv_ofG [some (.ref (θ.1 + 18)), none, none] rfl rfl (tv_ent 2 rfl) ?_
  intro κ hl ht hC hR
  subst hl; subst ht
  unfold To_choiceCount
  refine g_iconst hC d_To_choiceCount_0 k_i0 ?_
  refine g_istore_n (ls' := [some (.ref (κ.b + 18)), some (.int 0), none]) hC d_To_choiceCount_1 rfl rfl ?_
  refine g_iconst hC d_To_choiceCount_2 k_i0 ?_
  refine g_istore_n (ls' := [some (.ref (κ.b + 18)), some (.int 0), some (.int 0)]) hC d_To_choiceCount_3 rfl rfl ?_
  exact To_choiceCount_L4_g hC hR F F 0 0 M
theorem d_Xx_count_0 : decode prog_1_method_31_code 0 = .ok (.iload_n 1, 1) := by decide +kernel
theorem d_Xx_count_1 : decode prog_1_method_31_code 1 = .ok (.tableswitch 117 0 8 #[51, 56, 64, 72, 80, 88, 96, 104, 112], 51) := by decide +kernel
theorem d_Xx_count_52 : decode prog_1_method_31_code 52 = .ok (.aload_n 0, 1) := by decide +kernel
theorem d_Xx_count_53 : decode prog_1_method_31_code 53 = .ok (.invokevirtual 302, 3) := by decide +kernel
theorem d_Xx_count_56 : decode prog_1_method_31_code 56 = .ok (.ireturn, 1) := by decide +kernel
theorem d_Xx_count_57 : decode prog_1_method_31_code 57 = .ok (.aload_n 0, 1) := by decide +kernel
theorem d_Xx_count_58 : decode prog_1_method_31_code 58 = .ok (.getfield 29, 3) := by decide +kernel
theorem d_Xx_count_61 : decode prog_1_method_31_code 61 = .ok (.getfield 145, 3) := by decide +kernel
theorem d_Xx_count_64 : decode prog_1_method_31_code 64 = .ok (.ireturn, 1) := by decide +kernel
theorem d_Xx_count_65 : decode prog_1_method_31_code 65 = .ok (.aload_n 0, 1) := by decide +kernel
theorem d_Xx_count_66 : decode prog_1_method_31_code 66 = .ok (.getfield 29, 3) := by decide +kernel
theorem d_Xx_count_69 : decode prog_1_method_31_code 69 = .ok (.getfield 305, 3) := by decide +kernel
theorem d_Xx_count_72 : decode prog_1_method_31_code 72 = .ok (.ireturn, 1) := by decide +kernel
theorem d_Xx_count_73 : decode prog_1_method_31_code 73 = .ok (.aload_n 0, 1) := by decide +kernel
theorem d_Xx_count_74 : decode prog_1_method_31_code 74 = .ok (.getfield 29, 3) := by decide +kernel
theorem d_Xx_count_77 : decode prog_1_method_31_code 77 = .ok (.getfield 308, 3) := by decide +kernel
theorem d_Xx_count_80 : decode prog_1_method_31_code 80 = .ok (.ireturn, 1) := by decide +kernel
theorem d_Xx_count_81 : decode prog_1_method_31_code 81 = .ok (.aload_n 0, 1) := by decide +kernel
theorem d_Xx_count_82 : decode prog_1_method_31_code 82 = .ok (.getfield 29, 3) := by decide +kernel
theorem d_Xx_count_85 : decode prog_1_method_31_code 85 = .ok (.invokevirtual 311, 3) := by decide +kernel
theorem d_Xx_count_88 : decode prog_1_method_31_code 88 = .ok (.ireturn, 1) := by decide +kernel
theorem d_Xx_count_89 : decode prog_1_method_31_code 89 = .ok (.aload_n 0, 1) := by decide +kernel
theorem d_Xx_count_90 : decode prog_1_method_31_code 90 = .ok (.getfield 61, 3) := by decide +kernel
theorem d_Xx_count_93 : decode prog_1_method_31_code 93 = .ok (.getfield 314, 3) := by decide +kernel
theorem d_Xx_count_96 : decode prog_1_method_31_code 96 = .ok (.ireturn, 1) := by decide +kernel
theorem d_Xx_count_97 : decode prog_1_method_31_code 97 = .ok (.aload_n 0, 1) := by decide +kernel
theorem d_Xx_count_98 : decode prog_1_method_31_code 98 = .ok (.getfield 29, 3) := by decide +kernel
theorem d_Xx_count_101 : decode prog_1_method_31_code 101 = .ok (.invokevirtual 317, 3) := by decide +kernel
theorem d_Xx_count_104 : decode prog_1_method_31_code 104 = .ok (.ireturn, 1) := by decide +kernel
theorem d_Xx_count_105 : decode prog_1_method_31_code 105 = .ok (.aload_n 0, 1) := by decide +kernel
theorem d_Xx_count_106 : decode prog_1_method_31_code 106 = .ok (.getfield 38, 3) := by decide +kernel
theorem d_Xx_count_109 : decode prog_1_method_31_code 109 = .ok (.getfield 320, 3) := by decide +kernel
theorem d_Xx_count_112 : decode prog_1_method_31_code 112 = .ok (.ireturn, 1) := by decide +kernel
theorem d_Xx_count_113 : decode prog_1_method_31_code 113 = .ok (.aload_n 0, 1) := by decide +kernel
theorem d_Xx_count_114 : decode prog_1_method_31_code 114 = .ok (.getfield 19, 3) := by decide +kernel
theorem d_Xx_count_117 : decode prog_1_method_31_code 117 = .ok (.ireturn, 1) := by decide +kernel
theorem d_Xx_count_118 : decode prog_1_method_31_code 118 = .ok (.ldc 83, 2) := by decide +kernel
theorem d_Xx_count_120 : decode prog_1_method_31_code 120 = .ok (.ireturn, 1) := by decide +kernel
set_option maxHeartbeats 2000000 in
theorem Xx_count_c {l : Launch} {θ : tv_Th} (F : Nat) (a1 : Int32) (M : tv_M) : tv_Ct l θ ⟨"TiedViews", "count", "(I)I"⟩ prog_1_method_31_code 2 (some .int) 2 tv_ei [.ref (θ.1 + 0), .int a1] M (Xx_count F a1 M) := by
  refine tv_ofG [some (.ref (θ.1 + 0)), some (.int a1)] rfl rfl (tv_ent 0 rfl) ?_
  intro κ hl ht hC hR
  subst hl; subst ht
  unfold Xx_count
  refine g_iload_n hC d_Xx_count_0 rfl ?_
  refine g_ite (fun e3 => ?_) (fun e3 => ?_)
  · refine g_tabIn (tgt := 52) hC d_Xx_count_1 e3 (by decide) (by decide) rfl (by decide) ?_
    refine g_aload_n hC d_Xx_count_52 rfl ?_
    refine gv_callVi hC [] cw_Xx_302 (Xx_sheetsThere_c F M) lc_0 rfl rfl rfl rfl rfl rfl rfl d_Xx_count_53 (fun r1 M2 => ?_)
    exact g_iret hC hR d_Xx_count_56
  · refine g_ite (fun e4 => ?_) (fun e4 => ?_)
    · refine g_tabIn (tgt := 57) hC d_Xx_count_1 e4 (by decide) (by decide) rfl (by decide) ?_
      refine g_aload_n hC d_Xx_count_57 rfl ?_
      refine fg_Xx_29 hC lc_0 d_Xx_count_58 p0_0_2 ?_
      refine fg_Xx_145 hC lc_18 d_Xx_count_61 ?_
      exact g_iret hC hR d_Xx_count_64
    · refine g_ite (fun e5 => ?_) (fun e5 => ?_)
      · refine g_tabIn (tgt := 65) hC d_Xx_count_1 e5 (by decide) (by decide) rfl (by decide) ?_
        refine g_aload_n hC d_Xx_count_65 rfl ?_
        refine fg_Xx_29 hC lc_0 d_Xx_count_66 p0_0_2 ?_
        refine fg_Xx_305 hC lc_18 d_Xx_count_69 ?_
        exact g_iret hC hR d_Xx_count_72
      · refine g_ite (fun e6 => ?_) (fun e6 => ?_)
        · refine g_tabIn (tgt := 73) hC d_Xx_count_1 e6 (by decide) (by decide) rfl (by decide) ?_
          refine g_aload_n hC d_Xx_count_73 rfl ?_
          refine fg_Xx_29 hC lc_0 d_Xx_count_74 p0_0_2 ?_
          refine fg_Xx_308 hC lc_18 d_Xx_count_77 ?_
          exact g_iret hC hR d_Xx_count_80
        · refine g_ite (fun e9 => ?_) (fun e9 => ?_)
          · refine g_tabIn (tgt := 81) hC d_Xx_count_1 e9 (by decide) (by decide) rfl (by decide) ?_
            refine g_aload_n hC d_Xx_count_81 rfl ?_
            refine fg_Xx_29 hC lc_0 d_Xx_count_82 p0_0_2 ?_
            refine gv_callVi hC [] cw_Xx_311 (To_readings_c F M) lc_18 rfl rfl rfl rfl rfl rfl rfl d_Xx_count_85 (fun r7 M8 => ?_)
            exact g_iret hC hR d_Xx_count_88
          · refine g_ite (fun e10 => ?_) (fun e10 => ?_)
            · refine g_tabIn (tgt := 89) hC d_Xx_count_1 e10 (by decide) (by decide) rfl (by decide) ?_
              refine g_aload_n hC d_Xx_count_89 rfl ?_
              refine fg_Xx_61 hC lc_0 d_Xx_count_90 p0_0_6 ?_
              refine fg_Xx_314 hC lc_193 d_Xx_count_93 ?_
              exact g_iret hC hR d_Xx_count_96
            · refine g_ite (fun e13 => ?_) (fun e13 => ?_)
              · refine g_tabIn (tgt := 97) hC d_Xx_count_1 e13 (by decide) (by decide) rfl (by decide) ?_
                refine g_aload_n hC d_Xx_count_97 rfl ?_
                refine fg_Xx_29 hC lc_0 d_Xx_count_98 p0_0_2 ?_
                refine gv_callVi hC [] cw_Xx_317 (To_choiceCount_c F M) lc_18 rfl rfl rfl rfl rfl rfl rfl d_Xx_count_101 (fun r11 M12 => ?_)
                exact g_iret hC hR d_Xx_count_104
              · refine g_ite (fun e14 => ?_) (fun e14 => ?_)
                · refine g_tabIn (tgt := 105) hC d_Xx_count_1 e14 (by decide) (by decide) rfl (by decide) ?_
                  refine g_aload_n hC d_Xx_count_105 rfl ?_
                  refine fg_Xx_38 hC lc_0 d_Xx_count_106 p0_0_3 ?_
                  refine fg_Xx_320 hC lc_68 d_Xx_count_109 ?_
                  exact g_iret hC hR d_Xx_count_112
                · refine g_ite (fun e15 => ?_) (fun e15 => ?_)
                  · refine g_tabIn (tgt := 113) hC d_Xx_count_1 e15 (by decide) (by decide) rfl (by decide) ?_
                    refine g_aload_n hC d_Xx_count_113 rfl ?_
                    refine fg_Xx_19 hC lc_0 d_Xx_count_114 ?_
                    exact g_iret hC hR d_Xx_count_117
                  · refine g_tabOut (tgt := 118) hC d_Xx_count_1 (by have w0 := lv_neT e3 (a := 0) (by decide); have w1 := lv_neT e4 (a := 1) (by decide); have w2 := lv_neT e5 (a := 2) (by decide); have w3 := lv_neT e6 (a := 3) (by decide); have w4 := lv_neT e9 (a := 4) (by decide); have w5 := lv_neT e10 (a := 5) (by decide); have w6 := lv_neT e13 (a := 6) (by decide); have w7 := lv_neT e14 (a := 7) (by decide); have w8 := lv_neT e15 (a := 8) (by decide); omega) (by decide) ?_
                    refine g_ldc hC d_Xx_count_118 wk_Xx_83 ?_
                    exact g_iret hC hR d_Xx_count_120
theorem d_Xx_status_0 : decode prog_1_method_32_code 0 = .ok (.aload_n 0, 1) := by decide +kernel
theorem d_Xx_status_1 : decode prog_1_method_32_code 1 = .ok (.getfield 321, 3) := by decide +kernel
theorem d_Xx_status_4 : decode prog_1_method_32_code 4 = .ok (.ireturn, 1) := by decide +kernel
set_option maxHeartbeats 2000000 in
theorem Xx_status_c {l : Launch} {θ : tv_Th} (F : Nat) (M : tv_M) : tv_Ct l θ ⟨"TiedViews", "status", "()I"⟩ prog_1_method_32_code 1 (some .int) 0 tv_ei [.ref (θ.1 + 0)] M (Xx_status F M) := by
  refine tv_ofG [some (.ref (θ.1 + 0))] rfl rfl (tv_ent 0 rfl) ?_
  intro κ hl ht hC hR
  subst hl; subst ht
  unfold Xx_status
  refine g_aload_n hC d_Xx_status_0 rfl ?_
  refine fg_Xx_321 hC lc_0 d_Xx_status_1 ?_
  exact g_iret hC hR d_Xx_status_4
theorem d_Md_in_0 : decode prog_14_method_2_code 0 = .ok (.lload_n 0, 1) := by decide +kernel
theorem d_Md_in_1 : decode prog_14_method_2_code 1 = .ok (.lload_n 2, 1) := by decide +kernel
theorem d_Md_in_2 : decode prog_14_method_2_code 2 = .ok (.lcmp, 1) := by decide +kernel
theorem d_Md_in_3 : decode prog_14_method_2_code 3 = .ok (.ifCond .lt 14, 3) := by decide +kernel
theorem d_Md_in_6 : decode prog_14_method_2_code 6 = .ok (.lload_n 0, 1) := by decide +kernel
theorem d_Md_in_7 : decode prog_14_method_2_code 7 = .ok (.lload 4, 2) := by decide +kernel
theorem d_Md_in_9 : decode prog_14_method_2_code 9 = .ok (.lcmp, 1) := by decide +kernel
theorem d_Md_in_10 : decode prog_14_method_2_code 10 = .ok (.ifCond .gt 7, 3) := by decide +kernel
theorem d_Md_in_13 : decode prog_14_method_2_code 13 = .ok (.iconst 1, 1) := by decide +kernel
theorem d_Md_in_14 : decode prog_14_method_2_code 14 = .ok (.goto 4, 3) := by decide +kernel
theorem d_Md_in_17 : decode prog_14_method_2_code 17 = .ok (.iconst 0, 1) := by decide +kernel
theorem d_Md_in_18 : decode prog_14_method_2_code 18 = .ok (.ireturn, 1) := by decide +kernel
set_option maxHeartbeats 2000000 in
theorem Md_in_c {l : Launch} {θ : tv_Th} (F : Nat) (a0 : Int64) (a2 : Int64) (a4 : Int64) (M : tv_M) : tv_Ct l θ ⟨"TiedViewsModel", "in", "(JJJ)Z"⟩ prog_14_method_2_code 6 (some .boolean) 0 tv_ei [.long a0, .long a2, .long a4] M (Md_in F a0 a2 a4 M) := by
  refine tv_ofG [some (.long a0), none, some (.long a2), none, some (.long a4), none] rfl rfl (tv_ent 0 rfl) ?_
  intro κ hl ht hC hR
  subst hl; subst ht
  unfold Md_in
  refine g_lload_n hC d_Md_in_0 rfl ?_
  refine g_lload_n hC d_Md_in_1 rfl ?_
  refine g_lcmp hC d_Md_in_2 ?_
  refine g_if_lt (tgt := 17) hC d_Md_in_3 (by decide) (fun _ => ?_) (fun _ => ?_)
  · refine g_iconst hC d_Md_in_17 k_i0 ?_
    exact g_zret hC hR tv_z0 d_Md_in_18
  · refine g_lload_n hC d_Md_in_6 rfl ?_
    refine g_lload hC d_Md_in_7 rfl ?_
    refine g_lcmp hC d_Md_in_9 ?_
    refine g_if_gt (tgt := 17) hC d_Md_in_10 (by decide) (fun _ => ?_) (fun _ => ?_)
    · refine g_iconst hC d_Md_in_17 k_i0 ?_
      exact g_zret hC hR tv_z0 d_Md_in_18
    · refine g_iconst hC d_Md_in_13 k_i1 ?_
      refine g_goto (tgt := 18) hC d_Md_in_14 (by decide) ?_
      exact g_zret hC hR tv_z1 d_Md_in_18
theorem d_Md_isSheet_0 : decode prog_14_method_7_code 0 = .ok (.iload_n 0, 1) := by decide +kernel
theorem d_Md_isSheet_1 : decode prog_14_method_7_code 1 = .ok (.i2l, 1) := by decide +kernel
theorem d_Md_isSheet_2 : decode prog_14_method_7_code 2 = .ok (.lconst 0, 1) := by decide +kernel
theorem d_Md_isSheet_3 : decode prog_14_method_7_code 3 = .ok (.ldc2_w 119, 3) := by decide +kernel
theorem d_Md_isSheet_6 : decode prog_14_method_7_code 6 = .ok (.invokestatic 115, 3) := by decide +kernel
theorem d_Md_isSheet_9 : decode prog_14_method_7_code 9 = .ok (.ireturn, 1) := by decide +kernel
set_option maxHeartbeats 2000000 in
theorem Md_isSheet_c {l : Launch} {θ : tv_Th} (F : Nat) (a0 : Int32) (M : tv_M) : tv_Ct l θ ⟨"TiedViewsModel", "isSheet", "(I)Z"⟩ prog_14_method_7_code 1 (some .boolean) 1 tv_ei [.int a0] M (Md_isSheet F a0 M) := by
  refine tv_ofG [some (.int a0)] rfl rfl (tv_ent 0 rfl) ?_
  intro κ hl ht hC hR
  subst hl; subst ht
  unfold Md_isSheet
  refine g_iload_n hC d_Md_isSheet_0 rfl ?_
  refine g_i2l hC d_Md_isSheet_1 ?_
  refine g_lconst hC d_Md_isSheet_2 k_l0 ?_
  refine g_ldc2 hC d_Md_isSheet_3 wl_Md_119 ?_
  refine gv_callSi hC [.long ((a0 : Int32).toInt64), .long 0, .long 7] cw_Md_115 (Md_in_c F ((a0 : Int32).toInt64) 0 7 M) rfl rfl rfl rfl rfl d_Md_isSheet_6 (fun r1 M2 => ?_)
  refine g_zo (fun z3 => ?_)
  exact g_zret hC hR z3 d_Md_isSheet_9
theorem d_Md_finding_0 : decode prog_14_method_3_code 0 = .ok (.aload_n 0, 1) := by decide +kernel
theorem d_Md_finding_1 : decode prog_14_method_3_code 1 = .ok (.iload_n 1, 1) := by decide +kernel
theorem d_Md_finding_2 : decode prog_14_method_3_code 2 = .ok (.putfield 7, 3) := by decide +kernel
theorem d_Md_finding_5 : decode prog_14_method_3_code 5 = .ok (.ldc 10, 2) := by decide +kernel
theorem d_Md_finding_7 : decode prog_14_method_3_code 7 = .ok (.iload_n 1, 1) := by decide +kernel
theorem d_Md_finding_8 : decode prog_14_method_3_code 8 = .ok (.isub, 1) := by decide +kernel
theorem d_Md_finding_9 : decode prog_14_method_3_code 9 = .ok (.ireturn, 1) := by decide +kernel
set_option maxHeartbeats 2000000 in
theorem Md_finding_c {l : Launch} {θ : tv_Th} (F : Nat) (a1 : Int32) (M : tv_M) : tv_Ct l θ ⟨"TiedViewsModel", "finding", "(I)I"⟩ prog_14_method_3_code 2 (some .int) 0 tv_ei [.ref (θ.1 + 249), .int a1] M (Md_finding F a1 M) := by
  refine tv_ofG [some (.ref (θ.1 + 249)), some (.int a1)] rfl rfl (tv_ent 0 rfl) ?_
  intro κ hl ht hC hR
  subst hl; subst ht
  unfold Md_finding
  refine g_aload_n hC d_Md_finding_0 rfl ?_
  refine g_iload_n hC d_Md_finding_1 rfl ?_
  refine fp_Md_7 hC lc_249 d_Md_finding_2 (fun M1 => ?_)
  refine g_ldc hC d_Md_finding_5 wk_Md_10 ?_
  refine g_iload_n hC d_Md_finding_7 rfl ?_
  refine g_isub hC d_Md_finding_8 ?_
  exact g_iret hC hR d_Md_finding_9
theorem d_Md_sheet_0 : decode prog_14_method_8_code 0 = .ok (.aload_n 0, 1) := by decide +kernel
theorem d_Md_sheet_1 : decode prog_14_method_8_code 1 = .ok (.iconst 0, 1) := by decide +kernel
theorem d_Md_sheet_2 : decode prog_14_method_8_code 2 = .ok (.putfield 1, 3) := by decide +kernel
theorem d_Md_sheet_5 : decode prog_14_method_8_code 5 = .ok (.iload_n 1, 1) := by decide +kernel
theorem d_Md_sheet_6 : decode prog_14_method_8_code 6 = .ok (.invokestatic 121, 3) := by decide +kernel
theorem d_Md_sheet_9 : decode prog_14_method_8_code 9 = .ok (.ifCond .eq 21, 3) := by decide +kernel
theorem d_Md_sheet_12 : decode prog_14_method_8_code 12 = .ok (.iload_n 2, 1) := by decide +kernel
theorem d_Md_sheet_13 : decode prog_14_method_8_code 13 = .ok (.i2l, 1) := by decide +kernel
theorem d_Md_sheet_14 : decode prog_14_method_8_code 14 = .ok (.lconst 0, 1) := by decide +kernel
theorem d_Md_sheet_15 : decode prog_14_method_8_code 15 = .ok (.ldc2_w 125, 3) := by decide +kernel
theorem d_Md_sheet_18 : decode prog_14_method_8_code 18 = .ok (.invokestatic 115, 3) := by decide +kernel
theorem d_Md_sheet_21 : decode prog_14_method_8_code 21 = .ok (.ifCond .eq 9, 3) := by decide +kernel
theorem d_Md_sheet_24 : decode prog_14_method_8_code 24 = .ok (.iload_n 3, 1) := by decide +kernel
theorem d_Md_sheet_25 : decode prog_14_method_8_code 25 = .ok (.bipush 40, 2) := by decide +kernel
theorem d_Md_sheet_27 : decode prog_14_method_8_code 27 = .ok (.if_icmp .le 6, 3) := by decide +kernel
theorem d_Md_sheet_30 : decode prog_14_method_8_code 30 = .ok (.ldc 127, 2) := by decide +kernel
theorem d_Md_sheet_32 : decode prog_14_method_8_code 32 = .ok (.ireturn, 1) := by decide +kernel
theorem d_Md_sheet_33 : decode prog_14_method_8_code 33 = .ok (.aload_n 0, 1) := by decide +kernel
theorem d_Md_sheet_34 : decode prog_14_method_8_code 34 = .ok (.iconst 0, 1) := by decide +kernel
theorem d_Md_sheet_35 : decode prog_14_method_8_code 35 = .ok (.putfield 7, 3) := by decide +kernel
theorem d_Md_sheet_38 : decode prog_14_method_8_code 38 = .ok (.iload_n 3, 1) := by decide +kernel
theorem d_Md_sheet_39 : decode prog_14_method_8_code 39 = .ok (.ifCond .ge 9, 3) := by decide +kernel
theorem d_Md_sheet_42 : decode prog_14_method_8_code 42 = .ok (.aload_n 0, 1) := by decide +kernel
theorem d_Md_sheet_43 : decode prog_14_method_8_code 43 = .ok (.iconst 4, 1) := by decide +kernel
theorem d_Md_sheet_44 : decode prog_14_method_8_code 44 = .ok (.invokevirtual 128, 3) := by decide +kernel
theorem d_Md_sheet_47 : decode prog_14_method_8_code 47 = .ok (.ireturn, 1) := by decide +kernel
theorem d_Md_sheet_48 : decode prog_14_method_8_code 48 = .ok (.aload_n 0, 1) := by decide +kernel
theorem d_Md_sheet_49 : decode prog_14_method_8_code 49 = .ok (.getfield 17, 3) := by decide +kernel
theorem d_Md_sheet_52 : decode prog_14_method_8_code 52 = .ok (.iload_n 1, 1) := by decide +kernel
theorem d_Md_sheet_53 : decode prog_14_method_8_code 53 = .ok (.iload_n 2, 1) := by decide +kernel
theorem d_Md_sheet_54 : decode prog_14_method_8_code 54 = .ok (.iastore, 1) := by decide +kernel
theorem d_Md_sheet_55 : decode prog_14_method_8_code 55 = .ok (.aload_n 0, 1) := by decide +kernel
theorem d_Md_sheet_56 : decode prog_14_method_8_code 56 = .ok (.getfield 21, 3) := by decide +kernel
theorem d_Md_sheet_59 : decode prog_14_method_8_code 59 = .ok (.iload_n 1, 1) := by decide +kernel
theorem d_Md_sheet_60 : decode prog_14_method_8_code 60 = .ok (.iload_n 3, 1) := by decide +kernel
theorem d_Md_sheet_61 : decode prog_14_method_8_code 61 = .ok (.iastore, 1) := by decide +kernel
theorem d_Md_sheet_62 : decode prog_14_method_8_code 62 = .ok (.iconst 0, 1) := by decide +kernel
theorem d_Md_sheet_63 : decode prog_14_method_8_code 63 = .ok (.istore 4, 2) := by decide +kernel
theorem d_Md_sheet_65 : decode prog_14_method_8_code 65 = .ok (.iload 4, 2) := by decide +kernel
theorem d_Md_sheet_67 : decode prog_14_method_8_code 67 = .ok (.bipush 40, 2) := by decide +kernel
theorem d_Md_sheet_69 : decode prog_14_method_8_code 69 = .ok (.if_icmp .ge 22, 3) := by decide +kernel
theorem d_Md_sheet_72 : decode prog_14_method_8_code 72 = .ok (.aload_n 0, 1) := by decide +kernel
theorem d_Md_sheet_73 : decode prog_14_method_8_code 73 = .ok (.getfield 24, 3) := by decide +kernel
theorem d_Md_sheet_76 : decode prog_14_method_8_code 76 = .ok (.bipush 40, 2) := by decide +kernel
theorem d_Md_sheet_78 : decode prog_14_method_8_code 78 = .ok (.iload_n 1, 1) := by decide +kernel
theorem d_Md_sheet_79 : decode prog_14_method_8_code 79 = .ok (.imul, 1) := by decide +kernel
theorem d_Md_sheet_80 : decode prog_14_method_8_code 80 = .ok (.iload 4, 2) := by decide +kernel
theorem d_Md_sheet_82 : decode prog_14_method_8_code 82 = .ok (.iadd, 1) := by decide +kernel
theorem d_Md_sheet_83 : decode prog_14_method_8_code 83 = .ok (.iconst 0, 1) := by decide +kernel
theorem d_Md_sheet_84 : decode prog_14_method_8_code 84 = .ok (.iastore, 1) := by decide +kernel
theorem d_Md_sheet_85 : decode prog_14_method_8_code 85 = .ok (.iinc 4 1, 3) := by decide +kernel
theorem d_Md_sheet_88 : decode prog_14_method_8_code 88 = .ok (.goto (-23), 3) := by decide +kernel
theorem d_Md_sheet_91 : decode prog_14_method_8_code 91 = .ok (.iload_n 3, 1) := by decide +kernel
theorem d_Md_sheet_92 : decode prog_14_method_8_code 92 = .ok (.ireturn, 1) := by decide +kernel
set_option maxHeartbeats 2000000 in
theorem Md_sheet_L65_g {κ : tv_Kt} (hC : tv_Cx κ "TiedViewsModel" prog_14_method_8_code 5 2) (hR : tv_Re κ (some .int)) (F : Nat) : ∀ (n : Nat) (l1 : Int32) (l3 : Int32) (l4 : Int32) (M : tv_M), tv_G κ 5 (tv_Qm κ tv_ei) 65 [some (.ref (κ.b + 249)), some (.int l1), none, some (.int l3), some (.int l4)] [] M (Md_sheet_L65 F n l1 l3 l4 M) := by
  intro n
  induction n with
  | zero => intro _ _ _ _; exact g_none
  | succ nn ih =>
    intro l1 l3 l4 M
    rw [Md_sheet_L65]
    refine g_iload hC d_Md_sheet_65 rfl ?_
    refine g_bipush hC d_Md_sheet_67 k_b40 ?_
    refine g_icmp_ge (tgt := 91) hC d_Md_sheet_69 (by decide) (fun _ => ?_) (fun _ => ?_)
    · refine g_iload_n hC d_Md_sheet_91 rfl ?_
      exact g_iret hC hR d_Md_sheet_92
    · refine g_aload_n hC d_Md_sheet_72 rfl ?_
      refine fg_Md_24 hC lc_249 d_Md_sheet_73 p0_249_5 ?_
      refine g_bipush hC d_Md_sheet_76 k_b40 ?_
      refine g_iload_n hC d_Md_sheet_78 rfl ?_
      refine g_imul hC d_Md_sheet_79 ?_
      refine g_iload hC d_Md_sheet_80 rfl ?_
      refine g_iadd hC d_Md_sheet_82 ?_
      refine g_iconst hC d_Md_sheet_83 k_i0 ?_
      refine gv_iast hC ly_252 d_Md_sheet_84 (fun M11 => ?_)
      refine g_iinc (ls' := [some (.ref (κ.b + 249)), some (.int l1), none, some (.int l3), some (.int (l4 + 1))]) hC d_Md_sheet_85 rfl k_i1 rfl rfl ?_
      refine g_goto (tgt := 65) hC d_Md_sheet_88 (by decide) ?_
      exact ih l1 l3 (l4 + 1) M11
set_option maxHeartbeats 2000000 in
theorem Md_sheet_c {l : Launch} {θ : tv_Th} (F : Nat) (a1 : Int32) (a2 : Int32) (a3 : Int32) (M : tv_M) : tv_Ct l θ ⟨"TiedViewsModel", "sheet", "(III)I"⟩ prog_14_method_8_code 5 (some .int) 2 tv_ei [.ref (θ.1 + 249), .int a1, .int a2, .int a3] M (Md_sheet F a1 a2 a3 M) := by
  refine tv_ofG [some (.ref (θ.1 + 249)), some (.int a1), some (.int a2), some (.int a3), none] rfl rfl (tv_ent 1 rfl) ?_
  intro κ hl ht hC hR
  subst hl; subst ht
  unfold Md_sheet
  refine g_aload_n hC d_Md_sheet_0 rfl ?_
  refine g_iconst hC d_Md_sheet_1 k_i0 ?_
  refine fp_Md_1 hC lc_249 d_Md_sheet_2 (fun M1 => ?_)
  refine g_iload_n hC d_Md_sheet_5 rfl ?_
  refine gv_callSi hC [.int a1] cw_Md_121 (Md_isSheet_c F a1 M1) rfl rfl rfl rfl rfl d_Md_sheet_6 (fun r2 M3 => ?_)
  refine g_if_eq (tgt := 30) hC d_Md_sheet_9 (by decide) (fun _ => ?_) (fun _ => ?_)
  · refine g_ldc hC d_Md_sheet_30 wk_Md_127 ?_
    exact g_iret hC hR d_Md_sheet_32
  · refine g_iload_n hC d_Md_sheet_12 rfl ?_
    refine g_i2l hC d_Md_sheet_13 ?_
    refine g_lconst hC d_Md_sheet_14 k_l0 ?_
    refine g_ldc2 hC d_Md_sheet_15 wl_Md_125 ?_
    refine gv_callSi hC [.long ((a2 : Int32).toInt64), .long 0, .long 2] cw_Md_115 (Md_in_c F ((a2 : Int32).toInt64) 0 2 M3) rfl rfl rfl rfl rfl d_Md_sheet_18 (fun r4 M5 => ?_)
    refine g_if_eq (tgt := 30) hC d_Md_sheet_21 (by decide) (fun _ => ?_) (fun _ => ?_)
    · refine g_ldc hC d_Md_sheet_30 wk_Md_127 ?_
      exact g_iret hC hR d_Md_sheet_32
    · refine g_iload_n hC d_Md_sheet_24 rfl ?_
      refine g_bipush hC d_Md_sheet_25 k_b40 ?_
      refine g_icmp_le (tgt := 33) hC d_Md_sheet_27 (by decide) (fun _ => ?_) (fun _ => ?_)
      · refine g_aload_n hC d_Md_sheet_33 rfl ?_
        refine g_iconst hC d_Md_sheet_34 k_i0 ?_
        refine fp_Md_7 hC lc_249 d_Md_sheet_35 (fun M6 => ?_)
        refine g_iload_n hC d_Md_sheet_38 rfl ?_
        refine g_if_ge (tgt := 48) hC d_Md_sheet_39 (by decide) (fun _ => ?_) (fun _ => ?_)
        · refine g_aload_n hC d_Md_sheet_48 rfl ?_
          refine fg_Md_17 hC lc_249 d_Md_sheet_49 p0_249_3 ?_
          refine g_iload_n hC d_Md_sheet_52 rfl ?_
          refine g_iload_n hC d_Md_sheet_53 rfl ?_
          refine gv_iast hC ly_250 d_Md_sheet_54 (fun M7 => ?_)
          refine g_aload_n hC d_Md_sheet_55 rfl ?_
          refine fg_Md_21 hC lc_249 d_Md_sheet_56 p0_249_4 ?_
          refine g_iload_n hC d_Md_sheet_59 rfl ?_
          refine g_iload_n hC d_Md_sheet_60 rfl ?_
          refine gv_iast hC ly_251 d_Md_sheet_61 (fun M8 => ?_)
          refine g_iconst hC d_Md_sheet_62 k_i0 ?_
          refine g_istore (ls' := [some (.ref (κ.b + 249)), some (.int a1), some (.int a2), some (.int a3), some (.int 0)]) hC d_Md_sheet_63 rfl rfl ?_
          refine g_mask [true, true, false, true, true] (ls' := [some (.ref (κ.b + 249)), some (.int a1), none, some (.int a3), some (.int 0)]) rfl ?_
          exact Md_sheet_L65_g hC hR F F a1 a3 0 M8
        · refine g_aload_n hC d_Md_sheet_42 rfl ?_
          refine g_iconst hC d_Md_sheet_43 k_i4 ?_
          refine gv_callVi hC [.int 4] cw_Md_128 (Md_finding_c F 4 M6) lc_249 rfl rfl rfl rfl rfl rfl rfl d_Md_sheet_44 (fun r9 M10 => ?_)
          exact g_iret hC hR d_Md_sheet_47
      · refine g_ldc hC d_Md_sheet_30 wk_Md_127 ?_
        exact g_iret hC hR d_Md_sheet_32
theorem d_Md_set_0 : decode prog_14_method_9_code 0 = .ok (.aload_n 0, 1) := by decide +kernel
theorem d_Md_set_1 : decode prog_14_method_9_code 1 = .ok (.iconst 0, 1) := by decide +kernel
theorem d_Md_set_2 : decode prog_14_method_9_code 2 = .ok (.putfield 1, 3) := by decide +kernel
theorem d_Md_set_5 : decode prog_14_method_9_code 5 = .ok (.iload_n 1, 1) := by decide +kernel
theorem d_Md_set_6 : decode prog_14_method_9_code 6 = .ok (.invokestatic 121, 3) := by decide +kernel
theorem d_Md_set_9 : decode prog_14_method_9_code 9 = .ok (.ifCond .ne 6, 3) := by decide +kernel
theorem d_Md_set_12 : decode prog_14_method_9_code 12 = .ok (.ldc 127, 2) := by decide +kernel
theorem d_Md_set_14 : decode prog_14_method_9_code 14 = .ok (.ireturn, 1) := by decide +kernel
theorem d_Md_set_15 : decode prog_14_method_9_code 15 = .ok (.aload_n 0, 1) := by decide +kernel
theorem d_Md_set_16 : decode prog_14_method_9_code 16 = .ok (.iconst 0, 1) := by decide +kernel
theorem d_Md_set_17 : decode prog_14_method_9_code 17 = .ok (.putfield 7, 3) := by decide +kernel
theorem d_Md_set_20 : decode prog_14_method_9_code 20 = .ok (.aload_n 0, 1) := by decide +kernel
theorem d_Md_set_21 : decode prog_14_method_9_code 21 = .ok (.getfield 17, 3) := by decide +kernel
theorem d_Md_set_24 : decode prog_14_method_9_code 24 = .ok (.iload_n 1, 1) := by decide +kernel
theorem d_Md_set_25 : decode prog_14_method_9_code 25 = .ok (.iaload, 1) := by decide +kernel
theorem d_Md_set_26 : decode prog_14_method_9_code 26 = .ok (.ifCond .ge 9, 3) := by decide +kernel
theorem d_Md_set_29 : decode prog_14_method_9_code 29 = .ok (.aload_n 0, 1) := by decide +kernel
theorem d_Md_set_30 : decode prog_14_method_9_code 30 = .ok (.iconst 1, 1) := by decide +kernel
theorem d_Md_set_31 : decode prog_14_method_9_code 31 = .ok (.invokevirtual 128, 3) := by decide +kernel
theorem d_Md_set_34 : decode prog_14_method_9_code 34 = .ok (.ireturn, 1) := by decide +kernel
theorem d_Md_set_35 : decode prog_14_method_9_code 35 = .ok (.iload_n 2, 1) := by decide +kernel
theorem d_Md_set_36 : decode prog_14_method_9_code 36 = .ok (.i2l, 1) := by decide +kernel
theorem d_Md_set_37 : decode prog_14_method_9_code 37 = .ok (.lconst 0, 1) := by decide +kernel
theorem d_Md_set_38 : decode prog_14_method_9_code 38 = .ok (.aload_n 0, 1) := by decide +kernel
theorem d_Md_set_39 : decode prog_14_method_9_code 39 = .ok (.getfield 21, 3) := by decide +kernel
theorem d_Md_set_42 : decode prog_14_method_9_code 42 = .ok (.iload_n 1, 1) := by decide +kernel
theorem d_Md_set_43 : decode prog_14_method_9_code 43 = .ok (.iaload, 1) := by decide +kernel
theorem d_Md_set_44 : decode prog_14_method_9_code 44 = .ok (.iconst 1, 1) := by decide +kernel
theorem d_Md_set_45 : decode prog_14_method_9_code 45 = .ok (.isub, 1) := by decide +kernel
theorem d_Md_set_46 : decode prog_14_method_9_code 46 = .ok (.i2l, 1) := by decide +kernel
theorem d_Md_set_47 : decode prog_14_method_9_code 47 = .ok (.invokestatic 115, 3) := by decide +kernel
theorem d_Md_set_50 : decode prog_14_method_9_code 50 = .ok (.ifCond .ne 9, 3) := by decide +kernel
theorem d_Md_set_53 : decode prog_14_method_9_code 53 = .ok (.aload_n 0, 1) := by decide +kernel
theorem d_Md_set_54 : decode prog_14_method_9_code 54 = .ok (.iconst 2, 1) := by decide +kernel
theorem d_Md_set_55 : decode prog_14_method_9_code 55 = .ok (.invokevirtual 128, 3) := by decide +kernel
theorem d_Md_set_58 : decode prog_14_method_9_code 58 = .ok (.ireturn, 1) := by decide +kernel
theorem d_Md_set_59 : decode prog_14_method_9_code 59 = .ok (.aload_n 0, 1) := by decide +kernel
theorem d_Md_set_60 : decode prog_14_method_9_code 60 = .ok (.getfield 24, 3) := by decide +kernel
theorem d_Md_set_63 : decode prog_14_method_9_code 63 = .ok (.bipush 40, 2) := by decide +kernel
theorem d_Md_set_65 : decode prog_14_method_9_code 65 = .ok (.iload_n 1, 1) := by decide +kernel
theorem d_Md_set_66 : decode prog_14_method_9_code 66 = .ok (.imul, 1) := by decide +kernel
theorem d_Md_set_67 : decode prog_14_method_9_code 67 = .ok (.iload_n 2, 1) := by decide +kernel
theorem d_Md_set_68 : decode prog_14_method_9_code 68 = .ok (.iadd, 1) := by decide +kernel
theorem d_Md_set_69 : decode prog_14_method_9_code 69 = .ok (.aload_n 0, 1) := by decide +kernel
theorem d_Md_set_70 : decode prog_14_method_9_code 70 = .ok (.getfield 17, 3) := by decide +kernel
theorem d_Md_set_73 : decode prog_14_method_9_code 73 = .ok (.iload_n 1, 1) := by decide +kernel
theorem d_Md_set_74 : decode prog_14_method_9_code 74 = .ok (.iaload, 1) := by decide +kernel
theorem d_Md_set_75 : decode prog_14_method_9_code 75 = .ok (.ifCond .ne 8, 3) := by decide +kernel
theorem d_Md_set_78 : decode prog_14_method_9_code 78 = .ok (.iload_n 3, 1) := by decide +kernel
theorem d_Md_set_79 : decode prog_14_method_9_code 79 = .ok (.i2b, 1) := by decide +kernel
theorem d_Md_set_80 : decode prog_14_method_9_code 80 = .ok (.goto 19, 3) := by decide +kernel
theorem d_Md_set_83 : decode prog_14_method_9_code 83 = .ok (.aload_n 0, 1) := by decide +kernel
theorem d_Md_set_84 : decode prog_14_method_9_code 84 = .ok (.getfield 17, 3) := by decide +kernel
theorem d_Md_set_87 : decode prog_14_method_9_code 87 = .ok (.iload_n 1, 1) := by decide +kernel
theorem d_Md_set_88 : decode prog_14_method_9_code 88 = .ok (.iaload, 1) := by decide +kernel
theorem d_Md_set_89 : decode prog_14_method_9_code 89 = .ok (.iconst 1, 1) := by decide +kernel
theorem d_Md_set_90 : decode prog_14_method_9_code 90 = .ok (.if_icmp .ne 8, 3) := by decide +kernel
theorem d_Md_set_93 : decode prog_14_method_9_code 93 = .ok (.iload_n 3, 1) := by decide +kernel
theorem d_Md_set_94 : decode prog_14_method_9_code 94 = .ok (.i2s, 1) := by decide +kernel
theorem d_Md_set_95 : decode prog_14_method_9_code 95 = .ok (.goto 4, 3) := by decide +kernel
theorem d_Md_set_98 : decode prog_14_method_9_code 98 = .ok (.iload_n 3, 1) := by decide +kernel
theorem d_Md_set_99 : decode prog_14_method_9_code 99 = .ok (.iastore, 1) := by decide +kernel
theorem d_Md_set_100 : decode prog_14_method_9_code 100 = .ok (.aload_n 0, 1) := by decide +kernel
theorem d_Md_set_101 : decode prog_14_method_9_code 101 = .ok (.getfield 24, 3) := by decide +kernel
theorem d_Md_set_104 : decode prog_14_method_9_code 104 = .ok (.bipush 40, 2) := by decide +kernel
theorem d_Md_set_106 : decode prog_14_method_9_code 106 = .ok (.iload_n 1, 1) := by decide +kernel
theorem d_Md_set_107 : decode prog_14_method_9_code 107 = .ok (.imul, 1) := by decide +kernel
theorem d_Md_set_108 : decode prog_14_method_9_code 108 = .ok (.iload_n 2, 1) := by decide +kernel
theorem d_Md_set_109 : decode prog_14_method_9_code 109 = .ok (.iadd, 1) := by decide +kernel
theorem d_Md_set_110 : decode prog_14_method_9_code 110 = .ok (.iaload, 1) := by decide +kernel
theorem d_Md_set_111 : decode prog_14_method_9_code 111 = .ok (.ireturn, 1) := by decide +kernel
set_option maxHeartbeats 2000000 in
theorem Md_set_c {l : Launch} {θ : tv_Th} (F : Nat) (a1 : Int32) (a2 : Int32) (a3 : Int32) (M : tv_M) : tv_Ct l θ ⟨"TiedViewsModel", "set", "(III)I"⟩ prog_14_method_9_code 4 (some .int) 2 tv_ei [.ref (θ.1 + 249), .int a1, .int a2, .int a3] M (Md_set F a1 a2 a3 M) := by
  refine tv_ofG [some (.ref (θ.1 + 249)), some (.int a1), some (.int a2), some (.int a3)] rfl rfl (tv_ent 0 rfl) ?_
  intro κ hl ht hC hR
  subst hl; subst ht
  unfold Md_set
  refine g_aload_n hC d_Md_set_0 rfl ?_
  refine g_iconst hC d_Md_set_1 k_i0 ?_
  refine fp_Md_1 hC lc_249 d_Md_set_2 (fun M1 => ?_)
  refine g_iload_n hC d_Md_set_5 rfl ?_
  refine gv_callSi hC [.int a1] cw_Md_121 (Md_isSheet_c F a1 M1) rfl rfl rfl rfl rfl d_Md_set_6 (fun r2 M3 => ?_)
  refine g_if_ne (tgt := 15) hC d_Md_set_9 (by decide) (fun _ => ?_) (fun _ => ?_)
  · refine g_aload_n hC d_Md_set_15 rfl ?_
    refine g_iconst hC d_Md_set_16 k_i0 ?_
    refine fp_Md_7 hC lc_249 d_Md_set_17 (fun M4 => ?_)
    refine g_aload_n hC d_Md_set_20 rfl ?_
    refine fg_Md_17 hC lc_249 d_Md_set_21 p0_249_3 ?_
    refine g_iload_n hC d_Md_set_24 rfl ?_
    refine gv_iald hC ly_250 d_Md_set_25 (fun x5 => ?_)
    refine g_if_ge (tgt := 35) hC d_Md_set_26 (by decide) (fun _ => ?_) (fun _ => ?_)
    · refine g_iload_n hC d_Md_set_35 rfl ?_
      refine g_i2l hC d_Md_set_36 ?_
      refine g_lconst hC d_Md_set_37 k_l0 ?_
      refine g_aload_n hC d_Md_set_38 rfl ?_
      refine fg_Md_21 hC lc_249 d_Md_set_39 p0_249_4 ?_
      refine g_iload_n hC d_Md_set_42 rfl ?_
      refine gv_iald hC ly_251 d_Md_set_43 (fun x6 => ?_)
      refine g_iconst hC d_Md_set_44 k_i1 ?_
      refine g_isub hC d_Md_set_45 ?_
      refine g_i2l hC d_Md_set_46 ?_
      refine gv_callSi hC [.long ((a2 : Int32).toInt64), .long 0, .long ((x6 - 1 : Int32).toInt64)] cw_Md_115 (Md_in_c F ((a2 : Int32).toInt64) 0 ((x6 - 1 : Int32).toInt64) M4) rfl rfl rfl rfl rfl d_Md_set_47 (fun r7 M8 => ?_)
      refine g_if_ne (tgt := 59) hC d_Md_set_50 (by decide) (fun _ => ?_) (fun _ => ?_)
      · refine g_aload_n hC d_Md_set_59 rfl ?_
        refine fg_Md_24 hC lc_249 d_Md_set_60 p0_249_5 ?_
        refine g_bipush hC d_Md_set_63 k_b40 ?_
        refine g_iload_n hC d_Md_set_65 rfl ?_
        refine g_imul hC d_Md_set_66 ?_
        refine g_iload_n hC d_Md_set_67 rfl ?_
        refine g_iadd hC d_Md_set_68 ?_
        refine g_aload_n hC d_Md_set_69 rfl ?_
        refine fg_Md_17 hC lc_249 d_Md_set_70 p0_249_3 ?_
        refine g_iload_n hC d_Md_set_73 rfl ?_
        refine gv_iald hC ly_250 d_Md_set_74 (fun x9 => ?_)
        refine g_if_ne (tgt := 83) hC d_Md_set_75 (by decide) (fun _ => ?_) (fun _ => ?_)
        · refine g_aload_n hC d_Md_set_83 rfl ?_
          refine fg_Md_17 hC lc_249 d_Md_set_84 p0_249_3 ?_
          refine g_iload_n hC d_Md_set_87 rfl ?_
          refine gv_iald hC ly_250 d_Md_set_88 (fun x10 => ?_)
          refine g_iconst hC d_Md_set_89 k_i1 ?_
          refine g_icmp_ne (tgt := 98) hC d_Md_set_90 (by decide) (fun _ => ?_) (fun _ => ?_)
          · refine g_iload_n hC d_Md_set_98 rfl ?_
            refine gv_iast hC ly_252 d_Md_set_99 (fun M11 => ?_)
            refine g_aload_n hC d_Md_set_100 rfl ?_
            refine fg_Md_24 hC lc_249 d_Md_set_101 p0_249_5 ?_
            refine g_bipush hC d_Md_set_104 k_b40 ?_
            refine g_iload_n hC d_Md_set_106 rfl ?_
            refine g_imul hC d_Md_set_107 ?_
            refine g_iload_n hC d_Md_set_108 rfl ?_
            refine g_iadd hC d_Md_set_109 ?_
            refine gv_iald hC ly_252 d_Md_set_110 (fun x12 => ?_)
            exact g_iret hC hR d_Md_set_111
          · refine g_iload_n hC d_Md_set_93 rfl ?_
            refine g_i2s hC d_Md_set_94 ?_
            refine g_goto (tgt := 99) hC d_Md_set_95 (by decide) ?_
            refine gv_iast hC ly_252 d_Md_set_99 (fun M13 => ?_)
            refine g_aload_n hC d_Md_set_100 rfl ?_
            refine fg_Md_24 hC lc_249 d_Md_set_101 p0_249_5 ?_
            refine g_bipush hC d_Md_set_104 k_b40 ?_
            refine g_iload_n hC d_Md_set_106 rfl ?_
            refine g_imul hC d_Md_set_107 ?_
            refine g_iload_n hC d_Md_set_108 rfl ?_
            refine g_iadd hC d_Md_set_109 ?_
            refine gv_iald hC ly_252 d_Md_set_110 (fun x14 => ?_)
            exact g_iret hC hR d_Md_set_111
        · refine g_iload_n hC d_Md_set_78 rfl ?_
          refine g_i2b hC d_Md_set_79 ?_
          refine g_goto (tgt := 99) hC d_Md_set_80 (by decide) ?_
          refine gv_iast hC ly_252 d_Md_set_99 (fun M15 => ?_)
          refine g_aload_n hC d_Md_set_100 rfl ?_
          refine fg_Md_24 hC lc_249 d_Md_set_101 p0_249_5 ?_
          refine g_bipush hC d_Md_set_104 k_b40 ?_
          refine g_iload_n hC d_Md_set_106 rfl ?_
          refine g_imul hC d_Md_set_107 ?_
          refine g_iload_n hC d_Md_set_108 rfl ?_
          refine g_iadd hC d_Md_set_109 ?_
          refine gv_iald hC ly_252 d_Md_set_110 (fun x16 => ?_)
          exact g_iret hC hR d_Md_set_111
      · refine g_aload_n hC d_Md_set_53 rfl ?_
        refine g_iconst hC d_Md_set_54 k_i2 ?_
        refine gv_callVi hC [.int 2] cw_Md_128 (Md_finding_c F 2 M8) lc_249 rfl rfl rfl rfl rfl rfl rfl d_Md_set_55 (fun r17 M18 => ?_)
        exact g_iret hC hR d_Md_set_58
    · refine g_aload_n hC d_Md_set_29 rfl ?_
      refine g_iconst hC d_Md_set_30 k_i1 ?_
      refine gv_callVi hC [.int 1] cw_Md_128 (Md_finding_c F 1 M4) lc_249 rfl rfl rfl rfl rfl rfl rfl d_Md_set_31 (fun r19 M20 => ?_)
      exact g_iret hC hR d_Md_set_34
  · refine g_ldc hC d_Md_set_12 wk_Md_127 ?_
    exact g_iret hC hR d_Md_set_14
