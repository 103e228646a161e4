theorem d_Dr_leastSet_0 : decode prog_5_method_3_code 0 = .ok (.aload_n 0, 1) := by decide +kernel
theorem d_Dr_leastSet_1 : decode prog_5_method_3_code 1 = .ok (.getfield 28, 3) := by decide +kernel
theorem d_Dr_leastSet_4 : decode prog_5_method_3_code 4 = .ok (.ifCond .ne 54, 3) := by decide +kernel
theorem d_Dr_leastSet_7 : decode prog_5_method_3_code 7 = .ok (.aload_n 0, 1) := by decide +kernel
theorem d_Dr_leastSet_8 : decode prog_5_method_3_code 8 = .ok (.aload_n 0, 1) := by decide +kernel
theorem d_Dr_leastSet_9 : decode prog_5_method_3_code 9 = .ok (.getfield 24, 3) := by decide +kernel
theorem d_Dr_leastSet_12 : decode prog_5_method_3_code 12 = .ok (.invokevirtual 32, 3) := by decide +kernel
theorem d_Dr_leastSet_15 : decode prog_5_method_3_code 15 = .ok (.bipush 24, 2) := by decide +kernel
theorem d_Dr_leastSet_17 : decode prog_5_method_3_code 17 = .ok (.invokestatic 38, 3) := by decide +kernel
theorem d_Dr_leastSet_20 : decode prog_5_method_3_code 20 = .ok (.putfield 44, 3) := by decide +kernel
theorem d_Dr_leastSet_23 : decode prog_5_method_3_code 23 = .ok (.aload_n 0, 1) := by decide +kernel
theorem d_Dr_leastSet_24 : decode prog_5_method_3_code 24 = .ok (.iconst 0, 1) := by decide +kernel
theorem d_Dr_leastSet_25 : decode prog_5_method_3_code 25 = .ok (.putfield 48, 3) := by decide +kernel
theorem d_Dr_leastSet_28 : decode prog_5_method_3_code 28 = .ok (.aload_n 0, 1) := by decide +kernel
theorem d_Dr_leastSet_29 : decode prog_5_method_3_code 29 = .ok (.iconst 0, 1) := by decide +kernel
theorem d_Dr_leastSet_30 : decode prog_5_method_3_code 30 = .ok (.putfield 51, 3) := by decide +kernel
theorem d_Dr_leastSet_33 : decode prog_5_method_3_code 33 = .ok (.aload_n 0, 1) := by decide +kernel
theorem d_Dr_leastSet_34 : decode prog_5_method_3_code 34 = .ok (.bipush 9, 2) := by decide +kernel
theorem d_Dr_leastSet_36 : decode prog_5_method_3_code 36 = .ok (.putfield 54, 3) := by decide +kernel
theorem d_Dr_leastSet_39 : decode prog_5_method_3_code 39 = .ok (.aload_n 0, 1) := by decide +kernel
theorem d_Dr_leastSet_40 : decode prog_5_method_3_code 40 = .ok (.aload_n 0, 1) := by decide +kernel
theorem d_Dr_leastSet_41 : decode prog_5_method_3_code 41 = .ok (.getfield 20, 3) := by decide +kernel
theorem d_Dr_leastSet_44 : decode prog_5_method_3_code 44 = .ok (.getfield 57, 3) := by decide +kernel
theorem d_Dr_leastSet_47 : decode prog_5_method_3_code 47 = .ok (.iconst 1, 1) := by decide +kernel
theorem d_Dr_leastSet_48 : decode prog_5_method_3_code 48 = .ok (.isub, 1) := by decide +kernel
theorem d_Dr_leastSet_49 : decode prog_5_method_3_code 49 = .ok (.iconst 0, 1) := by decide +kernel
theorem d_Dr_leastSet_50 : decode prog_5_method_3_code 50 = .ok (.invokevirtual 62, 3) := by decide +kernel
theorem d_Dr_leastSet_53 : decode prog_5_method_3_code 53 = .ok (.aload_n 0, 1) := by decide +kernel
theorem d_Dr_leastSet_54 : decode prog_5_method_3_code 54 = .ok (.iconst 1, 1) := by decide +kernel
theorem d_Dr_leastSet_55 : decode prog_5_method_3_code 55 = .ok (.putfield 28, 3) := by decide +kernel
theorem d_Dr_leastSet_58 : decode prog_5_method_3_code 58 = .ok (.aload_n 0, 1) := by decide +kernel
theorem d_Dr_leastSet_59 : decode prog_5_method_3_code 59 = .ok (.getfield 51, 3) := by decide +kernel
theorem d_Dr_leastSet_62 : decode prog_5_method_3_code 62 = .ok (.ireturn, 1) := by decide +kernel
set_option maxHeartbeats 2000000 in
theorem Dr_leastSet_c {l : Launch} {θ : tv_Th} (F : Nat) (M : tv_M) : tv_Ct l θ ⟨"TiedViews$Dropping", "leastSet", "()I"⟩ prog_5_method_3_code 1 (some .int) 17 tv_ei [.ref (θ.1 + 165)] M (Dr_leastSet F M) := by
  refine tv_ofG [some (.ref (θ.1 + 165))] rfl rfl (tv_ent 0 rfl) ?_
  intro κ hl ht hC hR
  subst hl; subst ht
  unfold Dr_leastSet
  refine g_aload_n hC d_Dr_leastSet_0 rfl ?_
  refine fg_Dr_28 hC lc_165 d_Dr_leastSet_1 ?_
  refine g_if_ne (tgt := 58) hC d_Dr_leastSet_4 (by decide) (fun _ => ?_) (fun _ => ?_)
  · refine g_aload_n hC d_Dr_leastSet_58 rfl ?_
    refine fg_Dr_51 hC lc_165 d_Dr_leastSet_59 ?_
    exact g_iret hC hR d_Dr_leastSet_62
  · refine g_aload_n hC d_Dr_leastSet_7 rfl ?_
    refine g_aload_n hC d_Dr_leastSet_8 rfl ?_
    refine fg_Dr_24 hC lc_165 d_Dr_leastSet_9 p0_165_1 ?_
    refine gv_callVi hC [] cw_Dr_32 (Ag_freeColumns_c F M) lc_70 rfl rfl rfl rfl rfl rfl rfl d_Dr_leastSet_12 (fun r1 M2 => ?_)
    refine g_bipush hC d_Dr_leastSet_15 k_b24 ?_
    refine gv_callSi hC [.int r1, .int 24] cw_Dr_38 (Jv_min_c F r1 24 M2) rfl rfl rfl rfl rfl d_Dr_leastSet_17 (fun r3 M4 => ?_)
    refine fp_Dr_44 hC lc_165 d_Dr_leastSet_20 (fun M5 => ?_)
    refine g_aload_n hC d_Dr_leastSet_23 rfl ?_
    refine g_iconst hC d_Dr_leastSet_24 k_i0 ?_
    refine fp_Dr_48 hC lc_165 d_Dr_leastSet_25 (fun M6 => ?_)
    refine g_aload_n hC d_Dr_leastSet_28 rfl ?_
    refine g_iconst hC d_Dr_leastSet_29 k_i0 ?_
    refine fp_Dr_51 hC lc_165 d_Dr_leastSet_30 (fun M7 => ?_)
    refine g_aload_n hC d_Dr_leastSet_33 rfl ?_
    refine g_bipush hC d_Dr_leastSet_34 k_b9 ?_
    refine fp_Dr_54 hC lc_165 d_Dr_leastSet_36 (fun M8 => ?_)
    refine g_aload_n hC d_Dr_leastSet_39 rfl ?_
    refine g_aload_n hC d_Dr_leastSet_40 rfl ?_
    refine fg_Dr_20 hC lc_165 d_Dr_leastSet_41 p0_165_0 ?_
    refine fg_Dr_57 hC lc_18 d_Dr_leastSet_44 ?_
    refine g_iconst hC d_Dr_leastSet_47 k_i1 ?_
    refine g_isub hC d_Dr_leastSet_48 ?_
    refine g_iconst hC d_Dr_leastSet_49 k_i0 ?_
    refine gv_callVv hC [.int ((M8.1 18 4) - 1), .int 0] cw_Dr_62 (Dr_searchFrom_c F 12 ((M8.1 18 4) - 1) 0 M8) lc_165 rfl rfl rfl rfl rfl rfl rfl d_Dr_leastSet_50 (fun r9 M10 => ?_)
    refine g_aload_n hC d_Dr_leastSet_53 rfl ?_
    refine g_iconst hC d_Dr_leastSet_54 k_i1 ?_
    refine fp_Dr_28 hC lc_165 tv_z1 d_Dr_leastSet_55 (fun M11 => ?_)
    refine g_aload_n hC d_Dr_leastSet_58 rfl ?_
    refine fg_Dr_51 hC lc_165 d_Dr_leastSet_59 ?_
    exact g_iret hC hR d_Dr_leastSet_62
theorem d_Xx_fewest_0 : decode prog_1_method_16_code 0 = .ok (.aload_n 0, 1) := by decide +kernel
theorem d_Xx_fewest_1 : decode prog_1_method_16_code 1 = .ok (.getfield 54, 3) := by decide +kernel
theorem d_Xx_fewest_4 : decode prog_1_method_16_code 4 = .ok (.invokevirtual 221, 3) := by decide +kernel
theorem d_Xx_fewest_7 : decode prog_1_method_16_code 7 = .ok (.ireturn, 1) := by decide +kernel
set_option maxHeartbeats 2000000 in
theorem Xx_fewest_c {l : Launch} {θ : tv_Th} (F : Nat) (M : tv_M) : tv_Ct l θ ⟨"TiedViews", "fewest", "()I"⟩ prog_1_method_16_code 1 (some .int) 18 tv_ei [.ref (θ.1 + 0)] M (Xx_fewest F M) := by
  refine tv_ofG [some (.ref (θ.1 + 0))] rfl rfl (tv_ent 0 rfl) ?_
  intro κ hl ht hC hR
  subst hl; subst ht
  unfold Xx_fewest
  refine g_aload_n hC d_Xx_fewest_0 rfl ?_
  refine fg_Xx_54 hC lc_0 d_Xx_fewest_1 p0_0_5 ?_
  refine gv_callVi hC [] cw_Xx_221 (Dr_leastSet_c F M) lc_165 rfl rfl rfl rfl rfl rfl rfl d_Xx_fewest_4 (fun r1 M2 => ?_)
  exact g_iret hC hR d_Xx_fewest_7
theorem d_Ag_wantOf_0 : decode prog_2_method_15_code 0 = .ok (.iconst 0, 1) := by decide +kernel
theorem d_Ag_wantOf_1 : decode prog_2_method_15_code 1 = .ok (.istore 4, 2) := by decide +kernel
theorem d_Ag_wantOf_3 : decode prog_2_method_15_code 3 = .ok (.iconst 0, 1) := by decide +kernel
theorem d_Ag_wantOf_4 : decode prog_2_method_15_code 4 = .ok (.istore 5, 2) := by decide +kernel
theorem d_Ag_wantOf_6 : decode prog_2_method_15_code 6 = .ok (.iload 5, 2) := by decide +kernel
theorem d_Ag_wantOf_8 : decode prog_2_method_15_code 8 = .ok (.aload_n 0, 1) := by decide +kernel
theorem d_Ag_wantOf_9 : decode prog_2_method_15_code 9 = .ok (.getfield 9, 3) := by decide +kernel
theorem d_Ag_wantOf_12 : decode prog_2_method_15_code 12 = .ok (.getfield 61, 3) := by decide +kernel
theorem d_Ag_wantOf_15 : decode prog_2_method_15_code 15 = .ok (.if_icmp .ge 34, 3) := by decide +kernel
theorem d_Ag_wantOf_18 : decode prog_2_method_15_code 18 = .ok (.iload 4, 2) := by decide +kernel
theorem d_Ag_wantOf_20 : decode prog_2_method_15_code 20 = .ok (.aload_n 0, 1) := by decide +kernel
theorem d_Ag_wantOf_21 : decode prog_2_method_15_code 21 = .ok (.getfield 26, 3) := by decide +kernel
theorem d_Ag_wantOf_24 : decode prog_2_method_15_code 24 = .ok (.iload_n 1, 1) := by decide +kernel
theorem d_Ag_wantOf_25 : decode prog_2_method_15_code 25 = .ok (.iload 5, 2) := by decide +kernel
theorem d_Ag_wantOf_27 : decode prog_2_method_15_code 27 = .ok (.invokevirtual 103, 3) := by decide +kernel
theorem d_Ag_wantOf_30 : decode prog_2_method_15_code 30 = .ok (.aload_n 2, 1) := by decide +kernel
theorem d_Ag_wantOf_31 : decode prog_2_method_15_code 31 = .ok (.getfield 149, 3) := by decide +kernel
theorem d_Ag_wantOf_34 : decode prog_2_method_15_code 34 = .ok (.iload_n 3, 1) := by decide +kernel
theorem d_Ag_wantOf_35 : decode prog_2_method_15_code 35 = .ok (.iload 5, 2) := by decide +kernel
theorem d_Ag_wantOf_37 : decode prog_2_method_15_code 37 = .ok (.iadd, 1) := by decide +kernel
theorem d_Ag_wantOf_38 : decode prog_2_method_15_code 38 = .ok (.iaload, 1) := by decide +kernel
theorem d_Ag_wantOf_39 : decode prog_2_method_15_code 39 = .ok (.imul, 1) := by decide +kernel
theorem d_Ag_wantOf_40 : decode prog_2_method_15_code 40 = .ok (.iadd, 1) := by decide +kernel
theorem d_Ag_wantOf_41 : decode prog_2_method_15_code 41 = .ok (.istore 4, 2) := by decide +kernel
theorem d_Ag_wantOf_43 : decode prog_2_method_15_code 43 = .ok (.iinc 5 1, 3) := by decide +kernel
theorem d_Ag_wantOf_46 : decode prog_2_method_15_code 46 = .ok (.goto (-40), 3) := by decide +kernel
theorem d_Ag_wantOf_49 : decode prog_2_method_15_code 49 = .ok (.iload 4, 2) := by decide +kernel
theorem d_Ag_wantOf_51 : decode prog_2_method_15_code 51 = .ok (.aload_n 0, 1) := by decide +kernel
theorem d_Ag_wantOf_52 : decode prog_2_method_15_code 52 = .ok (.getfield 9, 3) := by decide +kernel
theorem d_Ag_wantOf_55 : decode prog_2_method_15_code 55 = .ok (.getfield 17, 3) := by decide +kernel
theorem d_Ag_wantOf_58 : decode prog_2_method_15_code 58 = .ok (.invokestatic 58, 3) := by decide +kernel
theorem d_Ag_wantOf_61 : decode prog_2_method_15_code 61 = .ok (.ireturn, 1) := by decide +kernel
set_option maxHeartbeats 2000000 in
theorem Ag_wantOf_L6_g {κ : tv_Kt} (hC : tv_Cx κ "TiedViews$Agreement" prog_2_method_15_code 6 2) (hR : tv_Re κ (some .int)) (F : Nat) : ∀ (n : Nat) (l1 : Int32) (l2 : Nat) (l3 : Int32) (l4 : Int32) (l5 : Int32) (M : tv_M), tv_G κ 6 (tv_Qm κ tv_ei) 6 [some (.ref (κ.b + 70)), some (.int l1), some (.ref (κ.b + l2)), some (.int l3), some (.int l4), some (.int l5)] [] M (Ag_wantOf_L6 F n l1 l2 l3 l4 l5 M) := by
  intro n
  induction n with
  | zero => intro _ _ _ _ _ _; exact g_none
  | succ nn ih =>
    intro l1 l2 l3 l4 l5 M
    rw [Ag_wantOf_L6]
    refine g_gl (fun h2 => ?_)
    refine g_iload hC d_Ag_wantOf_6 rfl ?_
    refine g_aload_n hC d_Ag_wantOf_8 rfl ?_
    refine fg_Ag_9 hC lc_70 d_Ag_wantOf_9 p0_70_0 ?_
    refine fg_Ag_61 hC lc_18 d_Ag_wantOf_12 ?_
    refine g_icmp_ge (tgt := 49) hC d_Ag_wantOf_15 (by decide) (fun _ => ?_) (fun _ => ?_)
    · refine g_iload hC d_Ag_wantOf_49 rfl ?_
      refine g_aload_n hC d_Ag_wantOf_51 rfl ?_
      refine fg_Ag_9 hC lc_70 d_Ag_wantOf_52 p0_70_0 ?_
      refine fg_Ag_17 hC lc_18 d_Ag_wantOf_55 ?_
      refine gv_callNi hC [.int l4, .int (M.1 18 0)] cw_Ag_58 (Xx_restOf_c F l4 (M.1 18 0) M) rfl rfl rfl rfl rfl d_Ag_wantOf_58 (fun r3 M4 => ?_)
      exact g_iret hC hR d_Ag_wantOf_61
    · refine g_iload hC d_Ag_wantOf_18 rfl ?_
      refine g_aload_n hC d_Ag_wantOf_20 rfl ?_
      refine fg_Ag_26 hC lc_70 d_Ag_wantOf_21 p0_70_1 ?_
      refine g_iload_n hC d_Ag_wantOf_24 rfl ?_
      refine g_iload hC d_Ag_wantOf_25 rfl ?_
      refine gv_callVi hC [.int l1, .int l5] cw_Ag_103 (St_extraAt_c F 71 l1 l5 M) lc_71 rfl rfl rfl rfl rfl rfl rfl d_Ag_wantOf_27 (fun r5 M6 => ?_)
      refine g_aload_n hC d_Ag_wantOf_30 rfl ?_
      refine g_nn (fun p7 e11 => ?_)
      refine fg_Ag_149 hC h2 d_Ag_wantOf_31 e11 ?_
      refine g_gn (fun n9 h8 => ?_)
      refine g_iload_n hC d_Ag_wantOf_34 rfl ?_
      refine g_iload hC d_Ag_wantOf_35 rfl ?_
      refine g_iadd hC d_Ag_wantOf_37 ?_
      refine gv_iald hC h8 d_Ag_wantOf_38 (fun x10 => ?_)
      refine g_imul hC d_Ag_wantOf_39 ?_
      refine g_iadd hC d_Ag_wantOf_40 ?_
      refine g_istore (ls' := [some (.ref (κ.b + 70)), some (.int l1), some (.ref (κ.b + l2)), some (.int l3), some (.int (l4 + (r5 * x10))), some (.int l5)]) hC d_Ag_wantOf_41 rfl rfl ?_
      refine g_iinc (ls' := [some (.ref (κ.b + 70)), some (.int l1), some (.ref (κ.b + l2)), some (.int l3), some (.int (l4 + (r5 * x10))), some (.int (l5 + 1))]) hC d_Ag_wantOf_43 rfl k_i1 rfl rfl ?_
      refine g_goto (tgt := 6) hC d_Ag_wantOf_46 (by decide) ?_
      exact ih l1 l2 l3 (l4 + (r5 * x10)) (l5 + 1) M6
set_option maxHeartbeats 2000000 in
theorem Ag_wantOf_c {l : Launch} {θ : tv_Th} (F : Nat) (a1 : Int32) (a2 : Nat) (a3 : Int32) (M : tv_M) : tv_Ct l θ ⟨"TiedViews$Agreement", "wantOf", "(ILTiedViews$Sheet;I)I"⟩ prog_2_method_15_code 6 (some .int) 2 tv_ei [.ref (θ.1 + 70), .int a1, .ref (θ.1 + a2), .int a3] M (Ag_wantOf F a1 a2 a3 M) := by
  refine tv_ofG [some (.ref (θ.1 + 70)), some (.int a1), some (.ref (θ.1 + a2)), some (.int a3), none, none] rfl rfl (tv_ent 2 rfl) ?_
  intro κ hl ht hC hR
  subst hl; subst ht
  unfold Ag_wantOf
  refine g_gl (fun h1 => ?_)
  refine g_iconst hC d_Ag_wantOf_0 k_i0 ?_
  refine g_istore (ls' := [some (.ref (κ.b + 70)), some (.int a1), some (.ref (κ.b + a2)), some (.int a3), some (.int 0), none]) hC d_Ag_wantOf_1 rfl rfl ?_
  refine g_iconst hC d_Ag_wantOf_3 k_i0 ?_
  refine g_istore (ls' := [some (.ref (κ.b + 70)), some (.int a1), some (.ref (κ.b + a2)), some (.int a3), some (.int 0), some (.int 0)]) hC d_Ag_wantOf_4 rfl rfl ?_
  exact Ag_wantOf_L6_g hC hR F F a1 a2 a3 0 0 M
theorem d_Ag_proofLine_0 : decode prog_2_method_14_code 0 = .ok (.aload_n 1, 1) := by decide +kernel
theorem d_Ag_proofLine_1 : decode prog_2_method_14_code 1 = .ok (.iload_n 2, 1) := by decide +kernel
theorem d_Ag_proofLine_2 : decode prog_2_method_14_code 2 = .ok (.aload_n 0, 1) := by decide +kernel
theorem d_Ag_proofLine_3 : decode prog_2_method_14_code 3 = .ok (.getfield 9, 3) := by decide +kernel
theorem d_Ag_proofLine_6 : decode prog_2_method_14_code 6 = .ok (.getfield 61, 3) := by decide +kernel
theorem d_Ag_proofLine_9 : decode prog_2_method_14_code 9 = .ok (.invokevirtual 139, 3) := by decide +kernel
theorem d_Ag_proofLine_12 : decode prog_2_method_14_code 12 = .ok (.ifCond .ne 5, 3) := by decide +kernel
theorem d_Ag_proofLine_15 : decode prog_2_method_14_code 15 = .ok (.iconst (-1), 1) := by decide +kernel
theorem d_Ag_proofLine_16 : decode prog_2_method_14_code 16 = .ok (.ireturn, 1) := by decide +kernel
theorem d_Ag_proofLine_17 : decode prog_2_method_14_code 17 = .ok (.iconst 0, 1) := by decide +kernel
theorem d_Ag_proofLine_18 : decode prog_2_method_14_code 18 = .ok (.istore_n 3, 1) := by decide +kernel
theorem d_Ag_proofLine_19 : decode prog_2_method_14_code 19 = .ok (.iload_n 3, 1) := by decide +kernel
theorem d_Ag_proofLine_20 : decode prog_2_method_14_code 20 = .ok (.aload_n 0, 1) := by decide +kernel
theorem d_Ag_proofLine_21 : decode prog_2_method_14_code 21 = .ok (.getfield 9, 3) := by decide +kernel
theorem d_Ag_proofLine_24 : decode prog_2_method_14_code 24 = .ok (.getfield 61, 3) := by decide +kernel
theorem d_Ag_proofLine_27 : decode prog_2_method_14_code 27 = .ok (.if_icmp .ge 32, 3) := by decide +kernel
theorem d_Ag_proofLine_30 : decode prog_2_method_14_code 30 = .ok (.aload_n 0, 1) := by decide +kernel
theorem d_Ag_proofLine_31 : decode prog_2_method_14_code 31 = .ok (.getfield 26, 3) := by decide +kernel
theorem d_Ag_proofLine_34 : decode prog_2_method_14_code 34 = .ok (.iload_n 3, 1) := by decide +kernel
theorem d_Ag_proofLine_35 : decode prog_2_method_14_code 35 = .ok (.invokevirtual 135, 3) := by decide +kernel
theorem d_Ag_proofLine_38 : decode prog_2_method_14_code 38 = .ok (.ifCond .ne 15, 3) := by decide +kernel
theorem d_Ag_proofLine_41 : decode prog_2_method_14_code 41 = .ok (.aload_n 0, 1) := by decide +kernel
theorem d_Ag_proofLine_42 : decode prog_2_method_14_code 42 = .ok (.iload_n 3, 1) := by decide +kernel
theorem d_Ag_proofLine_43 : decode prog_2_method_14_code 43 = .ok (.aload_n 1, 1) := by decide +kernel
theorem d_Ag_proofLine_44 : decode prog_2_method_14_code 44 = .ok (.iload_n 2, 1) := by decide +kernel
theorem d_Ag_proofLine_45 : decode prog_2_method_14_code 45 = .ok (.invokevirtual 145, 3) := by decide +kernel
theorem d_Ag_proofLine_48 : decode prog_2_method_14_code 48 = .ok (.ifCond .eq 5, 3) := by decide +kernel
theorem d_Ag_proofLine_51 : decode prog_2_method_14_code 51 = .ok (.iload_n 3, 1) := by decide +kernel
theorem d_Ag_proofLine_52 : decode prog_2_method_14_code 52 = .ok (.ireturn, 1) := by decide +kernel
theorem d_Ag_proofLine_53 : decode prog_2_method_14_code 53 = .ok (.iinc 3 1, 3) := by decide +kernel
theorem d_Ag_proofLine_56 : decode prog_2_method_14_code 56 = .ok (.goto (-37), 3) := by decide +kernel
theorem d_Ag_proofLine_59 : decode prog_2_method_14_code 59 = .ok (.iconst (-1), 1) := by decide +kernel
theorem d_Ag_proofLine_60 : decode prog_2_method_14_code 60 = .ok (.ireturn, 1) := by decide +kernel
set_option maxHeartbeats 2000000 in
theorem Ag_proofLine_L19_g {κ : tv_Kt} (hC : tv_Cx κ "TiedViews$Agreement" prog_2_method_14_code 4 3) (hR : tv_Re κ (some .int)) (F : Nat) : ∀ (n : Nat) (l1 : Nat) (l2 : Int32) (l3 : Int32) (M : tv_M), tv_G κ 4 (tv_Qm κ tv_ei) 19 [some (.ref (κ.b + 70)), some (.ref (κ.b + l1)), some (.int l2), some (.int l3)] [] M (Ag_proofLine_L19 F n l1 l2 l3 M) := by
  intro n
  induction n with
  | zero => intro _ _ _ _; exact g_none
  | succ nn ih =>
    intro l1 l2 l3 M
    rw [Ag_proofLine_L19]
    refine g_gl (fun h4 => ?_)
    refine g_iload_n hC d_Ag_proofLine_19 rfl ?_
    refine g_aload_n hC d_Ag_proofLine_20 rfl ?_
    refine fg_Ag_9 hC lc_70 d_Ag_proofLine_21 p0_70_0 ?_
    refine fg_Ag_61 hC lc_18 d_Ag_proofLine_24 ?_
    refine g_icmp_ge (tgt := 59) hC d_Ag_proofLine_27 (by decide) (fun _ => ?_) (fun _ => ?_)
    · refine g_iconst hC d_Ag_proofLine_59 k_im1 ?_
      exact g_iret hC hR d_Ag_proofLine_60
    · refine g_aload_n hC d_Ag_proofLine_30 rfl ?_
      refine fg_Ag_26 hC lc_70 d_Ag_proofLine_31 p0_70_1 ?_
      refine g_iload_n hC d_Ag_proofLine_34 rfl ?_
      refine gv_callVi hC [.int l3] cw_Ag_135 (St_isLeader_c F 71 l3 M) lc_71 rfl rfl rfl rfl rfl rfl rfl d_Ag_proofLine_35 (fun r5 M6 => ?_)
      refine g_if_ne (tgt := 53) hC d_Ag_proofLine_38 (by decide) (fun _ => ?_) (fun _ => ?_)
      · refine g_iinc (ls' := [some (.ref (κ.b + 70)), some (.ref (κ.b + l1)), some (.int l2), some (.int (l3 + 1))]) hC d_Ag_proofLine_53 rfl k_i1 rfl rfl ?_
        refine g_goto (tgt := 19) hC d_Ag_proofLine_56 (by decide) ?_
        exact ih l1 l2 (l3 + 1) M6
      · refine g_aload_n hC d_Ag_proofLine_41 rfl ?_
        refine g_iload_n hC d_Ag_proofLine_42 rfl ?_
        refine g_aload_n hC d_Ag_proofLine_43 rfl ?_
        refine g_iload_n hC d_Ag_proofLine_44 rfl ?_
        refine gv_callVi hC [.int l3, .ref (κ.b + l1), .int l2] cw_Ag_145 (Ag_wantOf_c F l3 l1 l2 M6) lc_70 rfl rfl rfl rfl rfl rfl rfl d_Ag_proofLine_45 (fun r7 M8 => ?_)
        refine g_if_eq (tgt := 53) hC d_Ag_proofLine_48 (by decide) (fun _ => ?_) (fun _ => ?_)
        · refine g_iinc (ls' := [some (.ref (κ.b + 70)), some (.ref (κ.b + l1)), some (.int l2), some (.int (l3 + 1))]) hC d_Ag_proofLine_53 rfl k_i1 rfl rfl ?_
          refine g_goto (tgt := 19) hC d_Ag_proofLine_56 (by decide) ?_
          exact ih l1 l2 (l3 + 1) M8
        · refine g_iload_n hC d_Ag_proofLine_51 rfl ?_
          exact g_iret hC hR d_Ag_proofLine_52
set_option maxHeartbeats 2000000 in
theorem Ag_proofLine_c {l : Launch} {θ : tv_Th} (F : Nat) (a1 : Nat) (a2 : Int32) (M : tv_M) : tv_Ct l θ ⟨"TiedViews$Agreement", "proofLine", "(LTiedViews$Sheet;I)I"⟩ prog_2_method_14_code 4 (some .int) 3 tv_ei [.ref (θ.1 + 70), .ref (θ.1 + a1), .int a2] M (Ag_proofLine F a1 a2 M) := by
  refine tv_ofG [some (.ref (θ.1 + 70)), some (.ref (θ.1 + a1)), some (.int a2), none] rfl rfl (tv_ent 1 rfl) ?_
  intro κ hl ht hC hR
  subst hl; subst ht
  unfold Ag_proofLine
  refine g_gl (fun h1 => ?_)
  refine g_aload_n hC d_Ag_proofLine_0 rfl ?_
  refine g_iload_n hC d_Ag_proofLine_1 rfl ?_
  refine g_aload_n hC d_Ag_proofLine_2 rfl ?_
  refine fg_Ag_9 hC lc_70 d_Ag_proofLine_3 p0_70_0 ?_
  refine fg_Ag_61 hC lc_18 d_Ag_proofLine_6 ?_
  refine gv_callVi hC [.int a2, .int (M.1 18 8)] cw_Ag_139 (Sh_reaches_c F a1 a2 (M.1 18 8) M) h1 rfl rfl rfl rfl rfl rfl rfl d_Ag_proofLine_9 (fun r2 M3 => ?_)
  refine g_if_ne (tgt := 17) hC d_Ag_proofLine_12 (by decide) (fun _ => ?_) (fun _ => ?_)
  · refine g_iconst hC d_Ag_proofLine_17 k_i0 ?_
    refine g_istore_n (ls' := [some (.ref (κ.b + 70)), some (.ref (κ.b + a1)), some (.int a2), some (.int 0)]) hC d_Ag_proofLine_18 rfl rfl ?_
    exact Ag_proofLine_L19_g hC hR F F a1 a2 0 M3
  · refine g_iconst hC d_Ag_proofLine_15 k_im1 ?_
    exact g_iret hC hR d_Ag_proofLine_16
theorem d_Ag_madeOf_0 : decode prog_2_method_16_code 0 = .ok (.aload_n 0, 1) := by decide +kernel
theorem d_Ag_madeOf_1 : decode prog_2_method_16_code 1 = .ok (.getfield 26, 3) := by decide +kernel
theorem d_Ag_madeOf_4 : decode prog_2_method_16_code 4 = .ok (.iload_n 1, 1) := by decide +kernel
theorem d_Ag_madeOf_5 : decode prog_2_method_16_code 5 = .ok (.iload_n 2, 1) := by decide +kernel
theorem d_Ag_madeOf_6 : decode prog_2_method_16_code 6 = .ok (.invokevirtual 103, 3) := by decide +kernel
theorem d_Ag_madeOf_9 : decode prog_2_method_16_code 9 = .ok (.ireturn, 1) := by decide +kernel
set_option maxHeartbeats 2000000 in
theorem Ag_madeOf_c {l : Launch} {θ : tv_Th} (F : Nat) (a1 : Int32) (a2 : Int32) (M : tv_M) : tv_Ct l θ ⟨"TiedViews$Agreement", "madeOf", "(II)I"⟩ prog_2_method_16_code 3 (some .int) 2 tv_ei [.ref (θ.1 + 70), .int a1, .int a2] M (Ag_madeOf F a1 a2 M) := by
  refine tv_ofG [some (.ref (θ.1 + 70)), some (.int a1), some (.int a2)] rfl rfl (tv_ent 0 rfl) ?_
  intro κ hl ht hC hR
  subst hl; subst ht
  unfold Ag_madeOf
  refine g_aload_n hC d_Ag_madeOf_0 rfl ?_
  refine fg_Ag_26 hC lc_70 d_Ag_madeOf_1 p0_70_1 ?_
  refine g_iload_n hC d_Ag_madeOf_4 rfl ?_
  refine g_iload_n hC d_Ag_madeOf_5 rfl ?_
  refine gv_callVi hC [.int a1, .int a2] cw_Ag_103 (St_extraAt_c F 71 a1 a2 M) lc_71 rfl rfl rfl rfl rfl rfl rfl d_Ag_madeOf_6 (fun r1 M2 => ?_)
  exact g_iret hC hR d_Ag_madeOf_9
theorem d_Xx_met_0 : decode prog_1_method_17_code 0 = .ok (.aload_n 0, 1) := by decide +kernel
theorem d_Xx_met_1 : decode prog_1_method_17_code 1 = .ok (.iload_n 1, 1) := by decide +kernel
theorem d_Xx_met_2 : decode prog_1_method_17_code 2 = .ok (.invokevirtual 79, 3) := by decide +kernel
theorem d_Xx_met_5 : decode prog_1_method_17_code 5 = .ok (.astore 4, 2) := by decide +kernel
theorem d_Xx_met_7 : decode prog_1_method_17_code 7 = .ok (.aload 4, 2) := by decide +kernel
theorem d_Xx_met_9 : decode prog_1_method_17_code 9 = .ok (.ifnull 19, 3) := by decide +kernel
theorem d_Xx_met_12 : decode prog_1_method_17_code 12 = .ok (.iload_n 3, 1) := by decide +kernel
theorem d_Xx_met_13 : decode prog_1_method_17_code 13 = .ok (.iconst (-1), 1) := by decide +kernel
theorem d_Xx_met_14 : decode prog_1_method_17_code 14 = .ok (.if_icmp .lt 14, 3) := by decide +kernel
theorem d_Xx_met_17 : decode prog_1_method_17_code 17 = .ok (.iload_n 3, 1) := by decide +kernel
theorem d_Xx_met_18 : decode prog_1_method_17_code 18 = .ok (.aload_n 0, 1) := by decide +kernel
theorem d_Xx_met_19 : decode prog_1_method_17_code 19 = .ok (.getfield 29, 3) := by decide +kernel
theorem d_Xx_met_22 : decode prog_1_method_17_code 22 = .ok (.getfield 186, 3) := by decide +kernel
theorem d_Xx_met_25 : decode prog_1_method_17_code 25 = .ok (.if_icmp .lt 6, 3) := by decide +kernel
theorem d_Xx_met_28 : decode prog_1_method_17_code 28 = .ok (.ldc 83, 2) := by decide +kernel
theorem d_Xx_met_30 : decode prog_1_method_17_code 30 = .ok (.ireturn, 1) := by decide +kernel
theorem d_Xx_met_31 : decode prog_1_method_17_code 31 = .ok (.aload 4, 2) := by decide +kernel
theorem d_Xx_met_33 : decode prog_1_method_17_code 33 = .ok (.invokevirtual 94, 3) := by decide +kernel
theorem d_Xx_met_36 : decode prog_1_method_17_code 36 = .ok (.ifCond .eq 9, 3) := by decide +kernel
theorem d_Xx_met_39 : decode prog_1_method_17_code 39 = .ok (.aload_n 0, 1) := by decide +kernel
theorem d_Xx_met_40 : decode prog_1_method_17_code 40 = .ok (.iconst 1, 1) := by decide +kernel
theorem d_Xx_met_41 : decode prog_1_method_17_code 41 = .ok (.invokevirtual 84, 3) := by decide +kernel
theorem d_Xx_met_44 : decode prog_1_method_17_code 44 = .ok (.ireturn, 1) := by decide +kernel
theorem d_Xx_met_45 : decode prog_1_method_17_code 45 = .ok (.aload 4, 2) := by decide +kernel
theorem d_Xx_met_47 : decode prog_1_method_17_code 47 = .ok (.iload_n 2, 1) := by decide +kernel
theorem d_Xx_met_48 : decode prog_1_method_17_code 48 = .ok (.aload_n 0, 1) := by decide +kernel
theorem d_Xx_met_49 : decode prog_1_method_17_code 49 = .ok (.getfield 29, 3) := by decide +kernel
theorem d_Xx_met_52 : decode prog_1_method_17_code 52 = .ok (.getfield 186, 3) := by decide +kernel
theorem d_Xx_met_55 : decode prog_1_method_17_code 55 = .ok (.invokevirtual 98, 3) := by decide +kernel
theorem d_Xx_met_58 : decode prog_1_method_17_code 58 = .ok (.ifCond .ne 9, 3) := by decide +kernel
theorem d_Xx_met_61 : decode prog_1_method_17_code 61 = .ok (.aload_n 0, 1) := by decide +kernel
theorem d_Xx_met_62 : decode prog_1_method_17_code 62 = .ok (.iconst 2, 1) := by decide +kernel
theorem d_Xx_met_63 : decode prog_1_method_17_code 63 = .ok (.invokevirtual 84, 3) := by decide +kernel
theorem d_Xx_met_66 : decode prog_1_method_17_code 66 = .ok (.ireturn, 1) := by decide +kernel
theorem d_Xx_met_67 : decode prog_1_method_17_code 67 = .ok (.aload 4, 2) := by decide +kernel
theorem d_Xx_met_69 : decode prog_1_method_17_code 69 = .ok (.iload_n 2, 1) := by decide +kernel
theorem d_Xx_met_70 : decode prog_1_method_17_code 70 = .ok (.aload_n 0, 1) := by decide +kernel
theorem d_Xx_met_71 : decode prog_1_method_17_code 71 = .ok (.getfield 29, 3) := by decide +kernel
theorem d_Xx_met_74 : decode prog_1_method_17_code 74 = .ok (.getfield 186, 3) := by decide +kernel
theorem d_Xx_met_77 : decode prog_1_method_17_code 77 = .ok (.aload_n 0, 1) := by decide +kernel
theorem d_Xx_met_78 : decode prog_1_method_17_code 78 = .ok (.getfield 19, 3) := by decide +kernel
theorem d_Xx_met_81 : decode prog_1_method_17_code 81 = .ok (.invokevirtual 201, 3) := by decide +kernel
theorem d_Xx_met_84 : decode prog_1_method_17_code 84 = .ok (.ifCond .ne 6, 3) := by decide +kernel
theorem d_Xx_met_87 : decode prog_1_method_17_code 87 = .ok (.ldc 83, 2) := by decide +kernel
theorem d_Xx_met_89 : decode prog_1_method_17_code 89 = .ok (.ireturn, 1) := by decide +kernel
theorem d_Xx_met_90 : decode prog_1_method_17_code 90 = .ok (.aload_n 0, 1) := by decide +kernel
theorem d_Xx_met_91 : decode prog_1_method_17_code 91 = .ok (.getfield 45, 3) := by decide +kernel
theorem d_Xx_met_94 : decode prog_1_method_17_code 94 = .ok (.aload 4, 2) := by decide +kernel
theorem d_Xx_met_96 : decode prog_1_method_17_code 96 = .ok (.iload_n 2, 1) := by decide +kernel
theorem d_Xx_met_97 : decode prog_1_method_17_code 97 = .ok (.invokevirtual 224, 3) := by decide +kernel
theorem d_Xx_met_100 : decode prog_1_method_17_code 100 = .ok (.istore 5, 2) := by decide +kernel
theorem d_Xx_met_102 : decode prog_1_method_17_code 102 = .ok (.iload_n 3, 1) := by decide +kernel
theorem d_Xx_met_103 : decode prog_1_method_17_code 103 = .ok (.iconst (-1), 1) := by decide +kernel
theorem d_Xx_met_104 : decode prog_1_method_17_code 104 = .ok (.if_icmp .ne 18, 3) := by decide +kernel
theorem d_Xx_met_107 : decode prog_1_method_17_code 107 = .ok (.aload_n 0, 1) := by decide +kernel
theorem d_Xx_met_108 : decode prog_1_method_17_code 108 = .ok (.iload 5, 2) := by decide +kernel
theorem d_Xx_met_110 : decode prog_1_method_17_code 110 = .ok (.ifCond .ge 7, 3) := by decide +kernel
theorem d_Xx_met_113 : decode prog_1_method_17_code 113 = .ok (.iconst 1, 1) := by decide +kernel
theorem d_Xx_met_114 : decode prog_1_method_17_code 114 = .ok (.goto 4, 3) := by decide +kernel
theorem d_Xx_met_117 : decode prog_1_method_17_code 117 = .ok (.iconst 0, 1) := by decide +kernel
theorem d_Xx_met_118 : decode prog_1_method_17_code 118 = .ok (.invokevirtual 91, 3) := by decide +kernel
theorem d_Xx_met_121 : decode prog_1_method_17_code 121 = .ok (.ireturn, 1) := by decide +kernel
theorem d_Xx_met_122 : decode prog_1_method_17_code 122 = .ok (.aload_n 0, 1) := by decide +kernel
theorem d_Xx_met_123 : decode prog_1_method_17_code 123 = .ok (.iload 5, 2) := by decide +kernel
theorem d_Xx_met_125 : decode prog_1_method_17_code 125 = .ok (.ifCond .ge 8, 3) := by decide +kernel
theorem d_Xx_met_128 : decode prog_1_method_17_code 128 = .ok (.ldc 166, 2) := by decide +kernel
theorem d_Xx_met_130 : decode prog_1_method_17_code 130 = .ok (.goto 13, 3) := by decide +kernel
theorem d_Xx_met_133 : decode prog_1_method_17_code 133 = .ok (.aload_n 0, 1) := by decide +kernel
theorem d_Xx_met_134 : decode prog_1_method_17_code 134 = .ok (.getfield 45, 3) := by decide +kernel
theorem d_Xx_met_137 : decode prog_1_method_17_code 137 = .ok (.iload 5, 2) := by decide +kernel
theorem d_Xx_met_139 : decode prog_1_method_17_code 139 = .ok (.iload_n 3, 1) := by decide +kernel
theorem d_Xx_met_140 : decode prog_1_method_17_code 140 = .ok (.invokevirtual 228, 3) := by decide +kernel
theorem d_Xx_met_143 : decode prog_1_method_17_code 143 = .ok (.invokevirtual 91, 3) := by decide +kernel
theorem d_Xx_met_146 : decode prog_1_method_17_code 146 = .ok (.ireturn, 1) := by decide +kernel
set_option maxHeartbeats 2000000 in
theorem Xx_met_c {l : Launch} {θ : tv_Th} (F : Nat) (a1 : Int32) (a2 : Int32) (a3 : Int32) (M : tv_M) : tv_Ct l θ ⟨"TiedViews", "met", "(III)I"⟩ prog_1_method_17_code 6 (some .int) 4 tv_ei [.ref (θ.1 + 0), .int a1, .int a2, .int a3] M (Xx_met F a1 a2 a3 M) := by
  refine tv_ofG [some (.ref (θ.1 + 0)), some (.int a1), some (.int a2), some (.int a3), none, none] rfl rfl (tv_ent 2 rfl) ?_
  intro κ hl ht hC hR
  subst hl; subst ht
  unfold Xx_met
  refine g_aload_n hC d_Xx_met_0 rfl ?_
  refine g_iload_n hC d_Xx_met_1 rfl ?_
  refine gv_callVr hC [.int a1] cw_Xx_79 (Xx_sheetAt_c F a1 M) lc_0 rfl rfl rfl rfl rfl rfl rfl d_Xx_met_2 (fun r1 M2 => ?_)
  refine g_astoreQ (ls' := [some (.ref (κ.b + 0)), some (.int a1), some (.int a2), some (.int a3), some (tv_re κ.b r1), none]) hC d_Xx_met_5 rfl rfl ?_
  refine g_aloadQ hC d_Xx_met_7 rfl ?_
  rcases r1 with _ | p3
  · refine g_nlN ?_
    refine g_ifnullN (tgt := 28) hC d_Xx_met_9 (by decide) ?_
    refine g_ldc hC d_Xx_met_28 wk_Xx_83 ?_
    exact g_iret hC hR d_Xx_met_30
  · refine g_nlS ?_
    refine g_ifnullR hC d_Xx_met_9 ?_
    refine g_gl (fun h4 => ?_)
    refine g_iload_n hC d_Xx_met_12 rfl ?_
    refine g_iconst hC d_Xx_met_13 k_im1 ?_
    refine g_icmp_lt (tgt := 28) hC d_Xx_met_14 (by decide) (fun _ => ?_) (fun _ => ?_)
    · refine g_ldc hC d_Xx_met_28 wk_Xx_83 ?_
      exact g_iret hC hR d_Xx_met_30
    · refine g_iload_n hC d_Xx_met_17 rfl ?_
      refine g_aload_n hC d_Xx_met_18 rfl ?_
      refine fg_Xx_29 hC lc_0 d_Xx_met_19 p0_0_2 ?_
      refine fg_Xx_186 hC lc_18 d_Xx_met_22 ?_
      refine g_icmp_lt (tgt := 31) hC d_Xx_met_25 (by decide) (fun _ => ?_) (fun _ => ?_)
      · refine g_aload hC d_Xx_met_31 rfl ?_
        refine gv_callVi hC [] cw_Xx_94 (Sh_isMissing_c F p3 M2) h4 rfl rfl rfl rfl rfl rfl rfl d_Xx_met_33 (fun r5 M6 => ?_)
        refine g_if_eq (tgt := 45) hC d_Xx_met_36 (by decide) (fun _ => ?_) (fun _ => ?_)
        · refine g_aload hC d_Xx_met_45 rfl ?_
          refine g_iload_n hC d_Xx_met_47 rfl ?_
          refine g_aload_n hC d_Xx_met_48 rfl ?_
          refine fg_Xx_29 hC lc_0 d_Xx_met_49 p0_0_2 ?_
          refine fg_Xx_186 hC lc_18 d_Xx_met_52 ?_
          refine gv_callVi hC [.int a2, .int (M6.1 18 8)] cw_Xx_98 (Sh_reaches_c F p3 a2 (M6.1 18 8) M6) h4 rfl rfl rfl rfl rfl rfl rfl d_Xx_met_55 (fun r7 M8 => ?_)
          refine g_if_ne (tgt := 67) hC d_Xx_met_58 (by decide) (fun _ => ?_) (fun _ => ?_)
          · refine g_aload hC d_Xx_met_67 rfl ?_
            refine g_iload_n hC d_Xx_met_69 rfl ?_
            refine g_aload_n hC d_Xx_met_70 rfl ?_
            refine fg_Xx_29 hC lc_0 d_Xx_met_71 p0_0_2 ?_
            refine fg_Xx_186 hC lc_18 d_Xx_met_74 ?_
            refine g_aload_n hC d_Xx_met_77 rfl ?_
            refine fg_Xx_19 hC lc_0 d_Xx_met_78 ?_
            refine gv_callVi hC [.int a2, .int (M8.1 18 8), .int (M8.1 0 0)] cw_Xx_201 (Sh_holdsRests_c F p3 a2 (M8.1 18 8) (M8.1 0 0) M8) h4 rfl rfl rfl rfl rfl rfl rfl d_Xx_met_81 (fun r9 M10 => ?_)
            refine g_if_ne (tgt := 90) hC d_Xx_met_84 (by decide) (fun _ => ?_) (fun _ => ?_)
            · refine g_aload_n hC d_Xx_met_90 rfl ?_
              refine fg_Xx_45 hC lc_0 d_Xx_met_91 p0_0_4 ?_
              refine g_aload hC d_Xx_met_94 rfl ?_
              refine g_iload_n hC d_Xx_met_96 rfl ?_
              refine gv_callVi hC [.ref (κ.b + p3), .int a2] cw_Xx_224 (Ag_proofLine_c F p3 a2 M10) lc_70 rfl rfl rfl rfl rfl rfl rfl d_Xx_met_97 (fun r11 M12 => ?_)
              refine g_istore (ls' := [some (.ref (κ.b + 0)), some (.int a1), some (.int a2), some (.int a3), some (.ref (κ.b + p3)), some (.int r11)]) hC d_Xx_met_100 rfl rfl ?_
              refine g_iload_n hC d_Xx_met_102 rfl ?_
              refine g_iconst hC d_Xx_met_103 k_im1 ?_
              refine g_icmp_ne (tgt := 122) hC d_Xx_met_104 (by decide) (fun _ => ?_) (fun _ => ?_)
              · refine g_aload_n hC d_Xx_met_122 rfl ?_
                refine g_iload hC d_Xx_met_123 rfl ?_
                refine g_if_ge (tgt := 133) hC d_Xx_met_125 (by decide) (fun _ => ?_) (fun _ => ?_)
                · refine g_aload_n hC d_Xx_met_133 rfl ?_
                  refine fg_Xx_45 hC lc_0 d_Xx_met_134 p0_0_4 ?_
                  refine g_iload hC d_Xx_met_137 rfl ?_
                  refine g_iload_n hC d_Xx_met_139 rfl ?_
                  refine gv_callVi hC [.int r11, .int a3] cw_Xx_228 (Ag_madeOf_c F r11 a3 M12) lc_70 rfl rfl rfl rfl rfl rfl rfl d_Xx_met_140 (fun r13 M14 => ?_)
                  refine gv_callVi hC [.int r13] cw_Xx_91 (Xx_passed_c F r13 M14) lc_0 rfl rfl rfl rfl rfl rfl rfl d_Xx_met_143 (fun r15 M16 => ?_)
                  exact g_iret hC hR d_Xx_met_146
                · refine g_ldc hC d_Xx_met_128 wk_Xx_166 ?_
                  refine g_goto (tgt := 143) hC d_Xx_met_130 (by decide) ?_
                  refine gv_callVi hC [.int (-1000000)] cw_Xx_91 (Xx_passed_c F (-1000000) M12) lc_0 rfl rfl rfl rfl rfl rfl rfl d_Xx_met_143 (fun r17 M18 => ?_)
                  exact g_iret hC hR d_Xx_met_146
              · refine g_aload_n hC d_Xx_met_107 rfl ?_
                refine g_iload hC d_Xx_met_108 rfl ?_
                refine g_if_ge (tgt := 117) hC d_Xx_met_110 (by decide) (fun _ => ?_) (fun _ => ?_)
                · refine g_iconst hC d_Xx_met_117 k_i0 ?_
                  refine gv_callVi hC [.int 0] cw_Xx_91 (Xx_passed_c F 0 M12) lc_0 rfl rfl rfl rfl rfl rfl rfl d_Xx_met_118 (fun r19 M20 => ?_)
                  exact g_iret hC hR d_Xx_met_121
                · refine g_iconst hC d_Xx_met_113 k_i1 ?_
                  refine g_goto (tgt := 118) hC d_Xx_met_114 (by decide) ?_
                  refine gv_callVi hC [.int 1] cw_Xx_91 (Xx_passed_c F 1 M12) lc_0 rfl rfl rfl rfl rfl rfl rfl d_Xx_met_118 (fun r21 M22 => ?_)
                  exact g_iret hC hR d_Xx_met_121
            · refine g_ldc hC d_Xx_met_87 wk_Xx_83 ?_
              exact g_iret hC hR d_Xx_met_89
          · refine g_aload_n hC d_Xx_met_61 rfl ?_
            refine g_iconst hC d_Xx_met_62 k_i2 ?_
            refine gv_callVi hC [.int 2] cw_Xx_84 (Xx_found_c F 2 M8) lc_0 rfl rfl rfl rfl rfl rfl rfl d_Xx_met_63 (fun r23 M24 => ?_)
            exact g_iret hC hR d_Xx_met_66
        · refine g_aload_n hC d_Xx_met_39 rfl ?_
          refine g_iconst hC d_Xx_met_40 k_i1 ?_
          refine gv_callVi hC [.int 1] cw_Xx_84 (Xx_found_c F 1 M6) lc_0 rfl rfl rfl rfl rfl rfl rfl d_Xx_met_41 (fun r25 M26 => ?_)
          exact g_iret hC hR d_Xx_met_44
      · refine g_ldc hC d_Xx_met_28 wk_Xx_83 ?_
        exact g_iret hC hR d_Xx_met_30
theorem d_To_tieAt_0 : decode prog_12_method_7_code 0 = .ok (.iload_n 1, 1) := by decide +kernel
theorem d_To_tieAt_1 : decode prog_12_method_7_code 1 = .ok (.ifCond .lt 11, 3) := by decide +kernel
theorem d_To_tieAt_4 : decode prog_12_method_7_code 4 = .ok (.iload_n 1, 1) := by decide +kernel
theorem d_To_tieAt_5 : decode prog_12_method_7_code 5 = .ok (.aload_n 0, 1) := by decide +kernel
theorem d_To_tieAt_6 : decode prog_12_method_7_code 6 = .ok (.getfield 41, 3) := by decide +kernel
theorem d_To_tieAt_9 : decode prog_12_method_7_code 9 = .ok (.if_icmp .lt 7, 3) := by decide +kernel
theorem d_To_tieAt_12 : decode prog_12_method_7_code 12 = .ok (.aconst_null, 1) := by decide +kernel
theorem d_To_tieAt_13 : decode prog_12_method_7_code 13 = .ok (.goto 9, 3) := by decide +kernel
theorem d_To_tieAt_16 : decode prog_12_method_7_code 16 = .ok (.aload_n 0, 1) := by decide +kernel
theorem d_To_tieAt_17 : decode prog_12_method_7_code 17 = .ok (.getfield 19, 3) := by decide +kernel
theorem d_To_tieAt_20 : decode prog_12_method_7_code 20 = .ok (.iload_n 1, 1) := by decide +kernel
theorem d_To_tieAt_21 : decode prog_12_method_7_code 21 = .ok (.aaload, 1) := by decide +kernel
theorem d_To_tieAt_22 : decode prog_12_method_7_code 22 = .ok (.areturn, 1) := by decide +kernel
set_option maxHeartbeats 2000000 in
theorem To_tieAt_c {l : Launch} {θ : tv_Th} (F : Nat) (a1 : Int32) (M : tv_M) : tv_Ct l θ ⟨"TiedViews$Told", "tieAt", "(I)LTiedViews$Tie;"⟩ prog_12_method_7_code 2 (some (.object "TiedViews$Tie")) 0 (tv_er θ.1) [.ref (θ.1 + 18), .int a1] M (To_tieAt F a1 M) := by
  refine tv_ofG [some (.ref (θ.1 + 18)), some (.int a1)] rfl rfl (tv_ent 0 rfl) ?_
  intro κ hl ht hC hR
  subst hl; subst ht
  unfold To_tieAt
  refine g_iload_n hC d_To_tieAt_0 rfl ?_
  refine g_if_lt (tgt := 12) hC d_To_tieAt_1 (by decide) (fun _ => ?_) (fun _ => ?_)
  · refine g_null hC d_To_tieAt_12 ?_
    refine g_goto (tgt := 22) hC d_To_tieAt_13 (by decide) ?_
    exact g_aret hC hR (Or.inl ⟨_, rfl⟩) (none) d_To_tieAt_22
  · refine g_iload_n hC d_To_tieAt_4 rfl ?_
    refine g_aload_n hC d_To_tieAt_5 rfl ?_
    refine fg_To_41 hC lc_18 d_To_tieAt_6 ?_
    refine g_icmp_lt (tgt := 16) hC d_To_tieAt_9 (by decide) (fun _ => ?_) (fun _ => ?_)
    · refine g_aload_n hC d_To_tieAt_16 rfl ?_
      refine fg_To_19 hC lc_18 d_To_tieAt_17 p0_18_2 ?_
      refine g_iload_n hC d_To_tieAt_20 rfl ?_
      refine gv_aald hC 2 ly_20 rfl d_To_tieAt_21 (fun p1 => ?_)
      refine g_gl (fun h2 => ?_)
      exact g_aret hC hR (Or.inl ⟨_, rfl⟩) (some p1) d_To_tieAt_22
    · refine g_null hC d_To_tieAt_12 ?_
      refine g_goto (tgt := 22) hC d_To_tieAt_13 (by decide) ?_
      exact g_aret hC hR (Or.inl ⟨_, rfl⟩) (none) d_To_tieAt_22
theorem d_Ag_costOf_0 : decode prog_2_method_17_code 0 = .ok (.aload_n 0, 1) := by decide +kernel
theorem d_Ag_costOf_1 : decode prog_2_method_17_code 1 = .ok (.invokevirtual 43, 3) := by decide +kernel
theorem d_Ag_costOf_4 : decode prog_2_method_17_code 4 = .ok (.istore_n 2, 1) := by decide +kernel
theorem d_Ag_costOf_5 : decode prog_2_method_17_code 5 = .ok (.aload_n 0, 1) := by decide +kernel
theorem d_Ag_costOf_6 : decode prog_2_method_17_code 6 = .ok (.iconst 0, 1) := by decide +kernel
theorem d_Ag_costOf_7 : decode prog_2_method_17_code 7 = .ok (.putfield 33, 3) := by decide +kernel
theorem d_Ag_costOf_10 : decode prog_2_method_17_code 10 = .ok (.aload_n 0, 1) := by decide +kernel
theorem d_Ag_costOf_11 : decode prog_2_method_17_code 11 = .ok (.getfield 30, 3) := by decide +kernel
theorem d_Ag_costOf_14 : decode prog_2_method_17_code 14 = .ok (.aload_n 0, 1) := by decide +kernel
theorem d_Ag_costOf_15 : decode prog_2_method_17_code 15 = .ok (.getfield 9, 3) := by decide +kernel
theorem d_Ag_costOf_18 : decode prog_2_method_17_code 18 = .ok (.getfield 40, 3) := by decide +kernel
theorem d_Ag_costOf_21 : decode prog_2_method_17_code 21 = .ok (.iconst 0, 1) := by decide +kernel
theorem d_Ag_costOf_22 : decode prog_2_method_17_code 22 = .ok (.invokevirtual 63, 3) := by decide +kernel
theorem d_Ag_costOf_25 : decode prog_2_method_17_code 25 = .ok (.aload_n 0, 1) := by decide +kernel
theorem d_Ag_costOf_26 : decode prog_2_method_17_code 26 = .ok (.aload_n 0, 1) := by decide +kernel
theorem d_Ag_costOf_27 : decode prog_2_method_17_code 27 = .ok (.getfield 30, 3) := by decide +kernel
theorem d_Ag_costOf_30 : decode prog_2_method_17_code 30 = .ok (.iload_n 1, 1) := by decide +kernel
theorem d_Ag_costOf_31 : decode prog_2_method_17_code 31 = .ok (.iconst 0, 1) := by decide +kernel
theorem d_Ag_costOf_32 : decode prog_2_method_17_code 32 = .ok (.invokevirtual 67, 3) := by decide +kernel
theorem d_Ag_costOf_35 : decode prog_2_method_17_code 35 = .ok (.aload_n 0, 1) := by decide +kernel
theorem d_Ag_costOf_36 : decode prog_2_method_17_code 36 = .ok (.getfield 30, 3) := by decide +kernel
theorem d_Ag_costOf_39 : decode prog_2_method_17_code 39 = .ok (.invokevirtual 71, 3) := by decide +kernel
theorem d_Ag_costOf_42 : decode prog_2_method_17_code 42 = .ok (.iload_n 2, 1) := by decide +kernel
theorem d_Ag_costOf_43 : decode prog_2_method_17_code 43 = .ok (.aload_n 0, 1) := by decide +kernel
theorem d_Ag_costOf_44 : decode prog_2_method_17_code 44 = .ok (.getfield 30, 3) := by decide +kernel
theorem d_Ag_costOf_47 : decode prog_2_method_17_code 47 = .ok (.getfield 37, 3) := by decide +kernel
theorem d_Ag_costOf_50 : decode prog_2_method_17_code 50 = .ok (.isub, 1) := by decide +kernel
theorem d_Ag_costOf_51 : decode prog_2_method_17_code 51 = .ok (.ireturn, 1) := by decide +kernel
set_option maxHeartbeats 2000000 in
theorem Ag_costOf_c {l : Launch} {θ : tv_Th} (F : Nat) (a1 : Int32) (M : tv_M) : tv_Ct l θ ⟨"TiedViews$Agreement", "costOf", "(I)I"⟩ prog_2_method_17_code 3 (some .int) 4 tv_ei [.ref (θ.1 + 70), .int a1] M (Ag_costOf F a1 M) := by
  refine tv_ofG [some (.ref (θ.1 + 70)), some (.int a1), none] rfl rfl (tv_ent 1 rfl) ?_
  intro κ hl ht hC hR
  subst hl; subst ht
  unfold Ag_costOf
  refine g_aload_n hC d_Ag_costOf_0 rfl ?_
  refine gv_callVi hC [] cw_Ag_43 (Ag_leaders_c F M) lc_70 rfl rfl rfl rfl rfl rfl rfl d_Ag_costOf_1 (fun r1 M2 => ?_)
  refine g_istore_n (ls' := [some (.ref (κ.b + 70)), some (.int a1), some (.int r1)]) hC d_Ag_costOf_4 rfl rfl ?_
  refine g_aload_n hC d_Ag_costOf_5 rfl ?_
  refine g_iconst hC d_Ag_costOf_6 k_i0 ?_
  refine fp_Ag_33 hC lc_70 tv_z0 d_Ag_costOf_7 (fun M3 => ?_)
  refine g_aload_n hC d_Ag_costOf_10 rfl ?_
  refine fg_Ag_30 hC lc_70 d_Ag_costOf_11 p0_70_2 ?_
  refine g_aload_n hC d_Ag_costOf_14 rfl ?_
  refine fg_Ag_9 hC lc_70 d_Ag_costOf_15 p0_70_0 ?_
  refine fg_Ag_40 hC lc_18 d_Ag_costOf_18 ?_
  refine g_iconst hC d_Ag_costOf_21 k_i0 ?_
  refine gv_callVv hC [.int (M3.1 18 7), .int 0] cw_Ag_63 (St_begin_c F 106 (M3.1 18 7) 0 M3) lc_106 rfl rfl rfl rfl rfl rfl rfl d_Ag_costOf_22 (fun r4 M5 => ?_)
  refine g_aload_n hC d_Ag_costOf_25 rfl ?_
  refine g_aload_n hC d_Ag_costOf_26 rfl ?_
  refine fg_Ag_30 hC lc_70 d_Ag_costOf_27 p0_70_2 ?_
  refine g_iload_n hC d_Ag_costOf_30 rfl ?_
  refine g_iconst hC d_Ag_costOf_31 k_i0 ?_
  refine gv_callVv hC [.ref (κ.b + 106), .int a1, .int 0] cw_Ag_67 (Ag_addLines_c F 106 a1 0 M5) lc_70 rfl rfl rfl rfl rfl rfl rfl d_Ag_costOf_32 (fun r6 M7 => ?_)
  refine g_aload_n hC d_Ag_costOf_35 rfl ?_
  refine fg_Ag_30 hC lc_70 d_Ag_costOf_36 p0_70_2 ?_
  refine gv_callVv hC [] cw_Ag_71 (St_putInSteps_c F 106 M7) lc_106 rfl rfl rfl rfl rfl rfl rfl d_Ag_costOf_39 (fun r8 M9 => ?_)
  refine g_iload_n hC d_Ag_costOf_42 rfl ?_
  refine g_aload_n hC d_Ag_costOf_43 rfl ?_
  refine fg_Ag_30 hC lc_70 d_Ag_costOf_44 p0_70_2 ?_
  refine fg_Ag_37 hC lc_106 d_Ag_costOf_47 ?_
  refine g_isub hC d_Ag_costOf_50 ?_
  exact g_iret hC hR d_Ag_costOf_51
theorem d_Xx_cost_0 : decode prog_1_method_18_code 0 = .ok (.aload_n 0, 1) := by decide +kernel
theorem d_Xx_cost_1 : decode prog_1_method_18_code 1 = .ok (.getfield 29, 3) := by decide +kernel
theorem d_Xx_cost_4 : decode prog_1_method_18_code 4 = .ok (.iload_n 1, 1) := by decide +kernel
theorem d_Xx_cost_5 : decode prog_1_method_18_code 5 = .ok (.invokevirtual 231, 3) := by decide +kernel
theorem d_Xx_cost_8 : decode prog_1_method_18_code 8 = .ok (.ifnonnull 8, 3) := by decide +kernel
theorem d_Xx_cost_11 : decode prog_1_method_18_code 11 = .ok (.ldc 83, 2) := by decide +kernel
theorem d_Xx_cost_13 : decode prog_1_method_18_code 13 = .ok (.goto 11, 3) := by decide +kernel
theorem d_Xx_cost_16 : decode prog_1_method_18_code 16 = .ok (.aload_n 0, 1) := by decide +kernel
theorem d_Xx_cost_17 : decode prog_1_method_18_code 17 = .ok (.getfield 45, 3) := by decide +kernel
theorem d_Xx_cost_20 : decode prog_1_method_18_code 20 = .ok (.iload_n 1, 1) := by decide +kernel
theorem d_Xx_cost_21 : decode prog_1_method_18_code 21 = .ok (.invokevirtual 235, 3) := by decide +kernel
theorem d_Xx_cost_24 : decode prog_1_method_18_code 24 = .ok (.ireturn, 1) := by decide +kernel
set_option maxHeartbeats 2000000 in
theorem Xx_cost_c {l : Launch} {θ : tv_Th} (F : Nat) (a1 : Int32) (M : tv_M) : tv_Ct l θ ⟨"TiedViews", "cost", "(I)I"⟩ prog_1_method_18_code 2 (some .int) 5 tv_ei [.ref (θ.1 + 0), .int a1] M (Xx_cost F a1 M) := by
  refine tv_ofG [some (.ref (θ.1 + 0)), some (.int a1)] rfl rfl (tv_ent 0 rfl) ?_
  intro κ hl ht hC hR
  subst hl; subst ht
  unfold Xx_cost
  refine g_aload_n hC d_Xx_cost_0 rfl ?_
  refine fg_Xx_29 hC lc_0 d_Xx_cost_1 p0_0_2 ?_
  refine g_iload_n hC d_Xx_cost_4 rfl ?_
  refine gv_callVr hC [.int a1] cw_Xx_231 (To_tieAt_c F a1 M) lc_18 rfl rfl rfl rfl rfl rfl rfl d_Xx_cost_5 (fun r1 M2 => ?_)
  rcases r1 with _ | p3
  · refine g_nlN ?_
    refine g_ifnonnullN hC d_Xx_cost_8 ?_
    refine g_ldc hC d_Xx_cost_11 wk_Xx_83 ?_
    refine g_goto (tgt := 24) hC d_Xx_cost_13 (by decide) ?_
    exact g_iret hC hR d_Xx_cost_24
  · refine g_nlS ?_
    refine g_ifnonnullR (tgt := 16) hC d_Xx_cost_8 (by decide) ?_
    refine g_gl (fun h4 => ?_)
    refine g_aload_n hC d_Xx_cost_16 rfl ?_
    refine fg_Xx_45 hC lc_0 d_Xx_cost_17 p0_0_4 ?_
    refine g_iload_n hC d_Xx_cost_20 rfl ?_
    refine gv_callVi hC [.int a1] cw_Xx_235 (Ag_costOf_c F a1 M2) lc_70 rfl rfl rfl rfl rfl rfl rfl d_Xx_cost_21 (fun r5 M6 => ?_)
    exact g_iret hC hR d_Xx_cost_24
theorem d_He_isFull_0 : decode prog_7_method_2_code 0 = .ok (.aload_n 0, 1) := by decide +kernel
theorem d_He_isFull_1 : decode prog_7_method_2_code 1 = .ok (.getfield 44, 3) := by decide +kernel
theorem d_He_isFull_4 : decode prog_7_method_2_code 4 = .ok (.bipush 16, 2) := by decide +kernel
theorem d_He_isFull_6 : decode prog_7_method_2_code 6 = .ok (.if_icmp .lt 7, 3) := by decide +kernel
theorem d_He_isFull_9 : decode prog_7_method_2_code 9 = .ok (.iconst 1, 1) := by decide +kernel
theorem d_He_isFull_10 : decode prog_7_method_2_code 10 = .ok (.goto 4, 3) := by decide +kernel
theorem d_He_isFull_13 : decode prog_7_method_2_code 13 = .ok (.iconst 0, 1) := by decide +kernel
theorem d_He_isFull_14 : decode prog_7_method_2_code 14 = .ok (.ireturn, 1) := by decide +kernel
set_option maxHeartbeats 2000000 in
theorem He_isFull_c {l : Launch} {θ : tv_Th} (F : Nat) (M : tv_M) : tv_Ct l θ ⟨"TiedViews$Hearsay", "isFull", "()Z"⟩ prog_7_method_2_code 1 (some .boolean) 0 tv_ei [.ref (θ.1 + 193)] M (He_isFull F M) := by
  refine tv_ofG [some (.ref (θ.1 + 193))] rfl rfl (tv_ent 0 rfl) ?_
  intro κ hl ht hC hR
  subst hl; subst ht
  unfold He_isFull
  refine g_aload_n hC d_He_isFull_0 rfl ?_
  refine fg_He_44 hC lc_193 d_He_isFull_1 ?_
  refine g_bipush hC d_He_isFull_4 k_b16 ?_
  refine g_icmp_lt (tgt := 13) hC d_He_isFull_6 (by decide) (fun _ => ?_) (fun _ => ?_)
  · refine g_iconst hC d_He_isFull_13 k_i0 ?_
    exact g_zret hC hR tv_z0 d_He_isFull_14
  · refine g_iconst hC d_He_isFull_9 k_i1 ?_
    refine g_goto (tgt := 14) hC d_He_isFull_10 (by decide) ?_
    exact g_zret hC hR tv_z1 d_He_isFull_14
theorem d_He_addRule_0 : decode prog_7_method_3_code 0 = .ok (.aload_n 0, 1) := by decide +kernel
theorem d_He_addRule_1 : decode prog_7_method_3_code 1 = .ok (.invokevirtual 48, 3) := by decide +kernel
theorem d_He_addRule_4 : decode prog_7_method_3_code 4 = .ok (.ifCond .ne 13, 3) := by decide +kernel
theorem d_He_addRule_7 : decode prog_7_method_3_code 7 = .ok (.iload_n 1, 1) := by decide +kernel
theorem d_He_addRule_8 : decode prog_7_method_3_code 8 = .ok (.ifCond .lt 9, 3) := by decide +kernel
theorem d_He_addRule_11 : decode prog_7_method_3_code 11 = .ok (.iload_n 1, 1) := by decide +kernel
theorem d_He_addRule_12 : decode prog_7_method_3_code 12 = .ok (.bipush 8, 2) := by decide +kernel
theorem d_He_addRule_14 : decode prog_7_method_3_code 14 = .ok (.if_icmp .lt 6, 3) := by decide +kernel
theorem d_He_addRule_17 : decode prog_7_method_3_code 17 = .ok (.ldc 52, 2) := by decide +kernel
theorem d_He_addRule_19 : decode prog_7_method_3_code 19 = .ok (.ireturn, 1) := by decide +kernel
theorem d_He_addRule_20 : decode prog_7_method_3_code 20 = .ok (.aload_n 0, 1) := by decide +kernel
theorem d_He_addRule_21 : decode prog_7_method_3_code 21 = .ok (.getfield 9, 3) := by decide +kernel
theorem d_He_addRule_24 : decode prog_7_method_3_code 24 = .ok (.iload_n 1, 1) := by decide +kernel
theorem d_He_addRule_25 : decode prog_7_method_3_code 25 = .ok (.iload_n 2, 1) := by decide +kernel
theorem d_He_addRule_26 : decode prog_7_method_3_code 26 = .ok (.iastore, 1) := by decide +kernel
theorem d_He_addRule_27 : decode prog_7_method_3_code 27 = .ok (.aload_n 0, 1) := by decide +kernel
theorem d_He_addRule_28 : decode prog_7_method_3_code 28 = .ok (.getfield 15, 3) := by decide +kernel
theorem d_He_addRule_31 : decode prog_7_method_3_code 31 = .ok (.iload_n 1, 1) := by decide +kernel
theorem d_He_addRule_32 : decode prog_7_method_3_code 32 = .ok (.iload_n 3, 1) := by decide +kernel
theorem d_He_addRule_33 : decode prog_7_method_3_code 33 = .ok (.iastore, 1) := by decide +kernel
theorem d_He_addRule_34 : decode prog_7_method_3_code 34 = .ok (.aload_n 0, 1) := by decide +kernel
theorem d_He_addRule_35 : decode prog_7_method_3_code 35 = .ok (.dup, 1) := by decide +kernel
theorem d_He_addRule_36 : decode prog_7_method_3_code 36 = .ok (.getfield 44, 3) := by decide +kernel
theorem d_He_addRule_39 : decode prog_7_method_3_code 39 = .ok (.iconst 1, 1) := by decide +kernel
theorem d_He_addRule_40 : decode prog_7_method_3_code 40 = .ok (.iadd, 1) := by decide +kernel
theorem d_He_addRule_41 : decode prog_7_method_3_code 41 = .ok (.putfield 44, 3) := by decide +kernel
theorem d_He_addRule_44 : decode prog_7_method_3_code 44 = .ok (.aload_n 0, 1) := by decide +kernel
theorem d_He_addRule_45 : decode prog_7_method_3_code 45 = .ok (.iconst 0, 1) := by decide +kernel
theorem d_He_addRule_46 : decode prog_7_method_3_code 46 = .ok (.putfield 53, 3) := by decide +kernel
theorem d_He_addRule_49 : decode prog_7_method_3_code 49 = .ok (.aload_n 0, 1) := by decide +kernel
theorem d_He_addRule_50 : decode prog_7_method_3_code 50 = .ok (.getfield 44, 3) := by decide +kernel
theorem d_He_addRule_53 : decode prog_7_method_3_code 53 = .ok (.ireturn, 1) := by decide +kernel
set_option maxHeartbeats 2000000 in
theorem He_addRule_c {l : Launch} {θ : tv_Th} (F : Nat) (a1 : Int32) (a2 : Int32) (a3 : Int32) (M : tv_M) : tv_Ct l θ ⟨"TiedViews$Hearsay", "addRule", "(III)I"⟩ prog_7_method_3_code 4 (some .int) 1 tv_ei [.ref (θ.1 + 193), .int a1, .int a2, .int a3] M (He_addRule F a1 a2 a3 M) := by
  refine tv_ofG [some (.ref (θ.1 + 193)), some (.int a1), some (.int a2), some (.int a3)] rfl rfl (tv_ent 0 rfl) ?_
  intro κ hl ht hC hR
  subst hl; subst ht
  unfold He_addRule
  refine g_aload_n hC d_He_addRule_0 rfl ?_
  refine gv_callVi hC [] cw_He_48 (He_isFull_c F M) lc_193 rfl rfl rfl rfl rfl rfl rfl d_He_addRule_1 (fun r1 M2 => ?_)
  refine g_if_ne (tgt := 17) hC d_He_addRule_4 (by decide) (fun _ => ?_) (fun _ => ?_)
  · refine g_ldc hC d_He_addRule_17 wk_He_52 ?_
    exact g_iret hC hR d_He_addRule_19
  · refine g_iload_n hC d_He_addRule_7 rfl ?_
    refine g_if_lt (tgt := 17) hC d_He_addRule_8 (by decide) (fun _ => ?_) (fun _ => ?_)
    · refine g_ldc hC d_He_addRule_17 wk_He_52 ?_
      exact g_iret hC hR d_He_addRule_19
    · refine g_iload_n hC d_He_addRule_11 rfl ?_
      refine g_bipush hC d_He_addRule_12 k_b8 ?_
      refine g_icmp_lt (tgt := 20) hC d_He_addRule_14 (by decide) (fun _ => ?_) (fun _ => ?_)
      · refine g_aload_n hC d_He_addRule_20 rfl ?_
        refine fg_He_9 hC lc_193 d_He_addRule_21 p0_193_1 ?_
        refine g_iload_n hC d_He_addRule_24 rfl ?_
        refine g_iload_n hC d_He_addRule_25 rfl ?_
        refine gv_iast hC ly_194 d_He_addRule_26 (fun M3 => ?_)
        refine g_aload_n hC d_He_addRule_27 rfl ?_
        refine fg_He_15 hC lc_193 d_He_addRule_28 p0_193_2 ?_
        refine g_iload_n hC d_He_addRule_31 rfl ?_
        refine g_iload_n hC d_He_addRule_32 rfl ?_
        refine gv_iast hC ly_195 d_He_addRule_33 (fun M4 => ?_)
        refine g_aload_n hC d_He_addRule_34 rfl ?_
        refine g_dup hC d_He_addRule_35 rfl ?_
        refine fg_He_44 hC lc_193 d_He_addRule_36 ?_
        refine g_iconst hC d_He_addRule_39 k_i1 ?_
        refine g_iadd hC d_He_addRule_40 ?_
        refine fp_He_44 hC lc_193 d_He_addRule_41 (fun M5 => ?_)
        refine g_aload_n hC d_He_addRule_44 rfl ?_
        refine g_iconst hC d_He_addRule_45 k_i0 ?_
        refine fp_He_53 hC lc_193 tv_z0 d_He_addRule_46 (fun M6 => ?_)
        refine g_aload_n hC d_He_addRule_49 rfl ?_
        refine fg_He_44 hC lc_193 d_He_addRule_50 ?_
        exact g_iret hC hR d_He_addRule_53
      · refine g_ldc hC d_He_addRule_17 wk_He_52 ?_
        exact g_iret hC hR d_He_addRule_19
theorem d_Xx_hear_0 : decode prog_1_method_19_code 0 = .ok (.aload_n 0, 1) := by decide +kernel
theorem d_Xx_hear_1 : decode prog_1_method_19_code 1 = .ok (.getfield 29, 3) := by decide +kernel
theorem d_Xx_hear_4 : decode prog_1_method_19_code 4 = .ok (.iload_n 1, 1) := by decide +kernel
theorem d_Xx_hear_5 : decode prog_1_method_19_code 5 = .ok (.invokevirtual 198, 3) := by decide +kernel
theorem d_Xx_hear_8 : decode prog_1_method_19_code 8 = .ok (.astore 4, 2) := by decide +kernel
theorem d_Xx_hear_10 : decode prog_1_method_19_code 10 = .ok (.aload_n 0, 1) := by decide +kernel
theorem d_Xx_hear_11 : decode prog_1_method_19_code 11 = .ok (.getfield 29, 3) := by decide +kernel
theorem d_Xx_hear_14 : decode prog_1_method_19_code 14 = .ok (.iload_n 2, 1) := by decide +kernel
theorem d_Xx_hear_15 : decode prog_1_method_19_code 15 = .ok (.invokevirtual 198, 3) := by decide +kernel
theorem d_Xx_hear_18 : decode prog_1_method_19_code 18 = .ok (.astore 5, 2) := by decide +kernel
theorem d_Xx_hear_20 : decode prog_1_method_19_code 20 = .ok (.aload_n 0, 1) := by decide +kernel
theorem d_Xx_hear_21 : decode prog_1_method_19_code 21 = .ok (.getfield 29, 3) := by decide +kernel
theorem d_Xx_hear_24 : decode prog_1_method_19_code 24 = .ok (.iload_n 3, 1) := by decide +kernel
theorem d_Xx_hear_25 : decode prog_1_method_19_code 25 = .ok (.invokevirtual 231, 3) := by decide +kernel
theorem d_Xx_hear_28 : decode prog_1_method_19_code 28 = .ok (.astore 6, 2) := by decide +kernel
theorem d_Xx_hear_30 : decode prog_1_method_19_code 30 = .ok (.aload 4, 2) := by decide +kernel
theorem d_Xx_hear_32 : decode prog_1_method_19_code 32 = .ok (.ifnull 13, 3) := by decide +kernel
theorem d_Xx_hear_35 : decode prog_1_method_19_code 35 = .ok (.aload 5, 2) := by decide +kernel
theorem d_Xx_hear_37 : decode prog_1_method_19_code 37 = .ok (.ifnull 8, 3) := by decide +kernel
theorem d_Xx_hear_40 : decode prog_1_method_19_code 40 = .ok (.aload 6, 2) := by decide +kernel
theorem d_Xx_hear_42 : decode prog_1_method_19_code 42 = .ok (.ifnonnull 6, 3) := by decide +kernel
theorem d_Xx_hear_45 : decode prog_1_method_19_code 45 = .ok (.ldc 83, 2) := by decide +kernel
theorem d_Xx_hear_47 : decode prog_1_method_19_code 47 = .ok (.ireturn, 1) := by decide +kernel
theorem d_Xx_hear_48 : decode prog_1_method_19_code 48 = .ok (.aload 6, 2) := by decide +kernel
theorem d_Xx_hear_50 : decode prog_1_method_19_code 50 = .ok (.iload_n 2, 1) := by decide +kernel
theorem d_Xx_hear_51 : decode prog_1_method_19_code 51 = .ok (.invokevirtual 238, 3) := by decide +kernel
theorem d_Xx_hear_54 : decode prog_1_method_19_code 54 = .ok (.ifCond .eq 16, 3) := by decide +kernel
theorem d_Xx_hear_57 : decode prog_1_method_19_code 57 = .ok (.aload 6, 2) := by decide +kernel
theorem d_Xx_hear_59 : decode prog_1_method_19_code 59 = .ok (.getfield 243, 3) := by decide +kernel
theorem d_Xx_hear_62 : decode prog_1_method_19_code 62 = .ok (.aload 4, 2) := by decide +kernel
theorem d_Xx_hear_64 : decode prog_1_method_19_code 64 = .ok (.getfield 160, 3) := by decide +kernel
theorem d_Xx_hear_67 : decode prog_1_method_19_code 67 = .ok (.if_icmp .eq 6, 3) := by decide +kernel
theorem d_Xx_hear_70 : decode prog_1_method_19_code 70 = .ok (.ldc 83, 2) := by decide +kernel
theorem d_Xx_hear_72 : decode prog_1_method_19_code 72 = .ok (.ireturn, 1) := by decide +kernel
theorem d_Xx_hear_73 : decode prog_1_method_19_code 73 = .ok (.aload_n 0, 1) := by decide +kernel
theorem d_Xx_hear_74 : decode prog_1_method_19_code 74 = .ok (.getfield 61, 3) := by decide +kernel
theorem d_Xx_hear_77 : decode prog_1_method_19_code 77 = .ok (.invokevirtual 246, 3) := by decide +kernel
theorem d_Xx_hear_80 : decode prog_1_method_19_code 80 = .ok (.ifCond .eq 8, 3) := by decide +kernel
theorem d_Xx_hear_83 : decode prog_1_method_19_code 83 = .ok (.ldc 126, 2) := by decide +kernel
theorem d_Xx_hear_85 : decode prog_1_method_19_code 85 = .ok (.goto 13, 3) := by decide +kernel
theorem d_Xx_hear_88 : decode prog_1_method_19_code 88 = .ok (.aload_n 0, 1) := by decide +kernel
theorem d_Xx_hear_89 : decode prog_1_method_19_code 89 = .ok (.getfield 61, 3) := by decide +kernel
theorem d_Xx_hear_92 : decode prog_1_method_19_code 92 = .ok (.iload_n 1, 1) := by decide +kernel
theorem d_Xx_hear_93 : decode prog_1_method_19_code 93 = .ok (.iload_n 2, 1) := by decide +kernel
theorem d_Xx_hear_94 : decode prog_1_method_19_code 94 = .ok (.iload_n 3, 1) := by decide +kernel
theorem d_Xx_hear_95 : decode prog_1_method_19_code 95 = .ok (.invokevirtual 249, 3) := by decide +kernel
theorem d_Xx_hear_98 : decode prog_1_method_19_code 98 = .ok (.ireturn, 1) := by decide +kernel
set_option maxHeartbeats 2000000 in
theorem Xx_hear_c {l : Launch} {θ : tv_Th} (F : Nat) (a1 : Int32) (a2 : Int32) (a3 : Int32) (M : tv_M) : tv_Ct l θ ⟨"TiedViews", "hear", "(III)I"⟩ prog_1_method_19_code 7 (some .int) 2 tv_ei [.ref (θ.1 + 0), .int a1, .int a2, .int a3] M (Xx_hear F a1 a2 a3 M) := by
  refine tv_ofG [some (.ref (θ.1 + 0)), some (.int a1), some (.int a2), some (.int a3), none, none, none] rfl rfl (tv_ent 3 rfl) ?_
  intro κ hl ht hC hR
  subst hl; subst ht
  unfold Xx_hear
  refine g_aload_n hC d_Xx_hear_0 rfl ?_
  refine fg_Xx_29 hC lc_0 d_Xx_hear_1 p0_0_2 ?_
  refine g_iload_n hC d_Xx_hear_4 rfl ?_
  refine gv_callVr hC [.int a1] cw_Xx_198 (To_linearAt_c F a1 M) lc_18 rfl rfl rfl rfl rfl rfl rfl d_Xx_hear_5 (fun r1 M2 => ?_)
  refine g_astoreQ (ls' := [some (.ref (κ.b + 0)), some (.int a1), some (.int a2), some (.int a3), some (tv_re κ.b r1), none, none]) hC d_Xx_hear_8 rfl rfl ?_
  refine g_aload_n hC d_Xx_hear_10 rfl ?_
  refine fg_Xx_29 hC lc_0 d_Xx_hear_11 p0_0_2 ?_
  refine g_iload_n hC d_Xx_hear_14 rfl ?_
  refine gv_callVr hC [.int a2] cw_Xx_198 (To_linearAt_c F a2 M2) lc_18 rfl rfl rfl rfl rfl rfl rfl d_Xx_hear_15 (fun r3 M4 => ?_)
  refine g_astoreQ (ls' := [some (.ref (κ.b + 0)), some (.int a1), some (.int a2), some (.int a3), some (tv_re κ.b r1), some (tv_re κ.b r3), none]) hC d_Xx_hear_18 (by simp [tv_sto, tv_sto2, tv_clr, tv_re_cat]) rfl ?_
  refine g_aload_n hC d_Xx_hear_20 rfl ?_
  refine fg_Xx_29 hC lc_0 d_Xx_hear_21 p0_0_2 ?_
  refine g_iload_n hC d_Xx_hear_24 rfl ?_
  refine gv_callVr hC [.int a3] cw_Xx_231 (To_tieAt_c F a3 M4) lc_18 rfl rfl rfl rfl rfl rfl rfl d_Xx_hear_25 (fun r5 M6 => ?_)
  refine g_astoreQ (ls' := [some (.ref (κ.b + 0)), some (.int a1), some (.int a2), some (.int a3), some (tv_re κ.b r1), some (tv_re κ.b r3), some (tv_re κ.b r5)]) hC d_Xx_hear_28 (by simp [tv_sto, tv_sto2, tv_clr, tv_re_cat]) rfl ?_
  refine g_aloadQ hC d_Xx_hear_30 rfl ?_
  rcases r1 with _ | p7
  · refine g_nlN ?_
    refine g_ifnullN (tgt := 45) hC d_Xx_hear_32 (by decide) ?_
    refine g_ldc hC d_Xx_hear_45 wk_Xx_83 ?_
    exact g_iret hC hR d_Xx_hear_47
  · refine g_nlS ?_
    refine g_ifnullR hC d_Xx_hear_32 ?_
    refine g_gl (fun h8 => ?_)
    refine g_aloadQ hC d_Xx_hear_35 rfl ?_
    rcases r3 with _ | p9
    · refine g_nlN ?_
      refine g_ifnullN (tgt := 45) hC d_Xx_hear_37 (by decide) ?_
      refine g_ldc hC d_Xx_hear_45 wk_Xx_83 ?_
      exact g_iret hC hR d_Xx_hear_47
    · refine g_nlS ?_
      refine g_ifnullR hC d_Xx_hear_37 ?_
      refine g_gl (fun h10 => ?_)
      refine g_aloadQ hC d_Xx_hear_40 rfl ?_
      rcases r5 with _ | p11
      · refine g_nlN ?_
        refine g_ifnonnullN hC d_Xx_hear_42 ?_
        refine g_ldc hC d_Xx_hear_45 wk_Xx_83 ?_
        exact g_iret hC hR d_Xx_hear_47
      · refine g_nlS ?_
        refine g_ifnonnullR (tgt := 48) hC d_Xx_hear_42 (by decide) ?_
        refine g_gl (fun h12 => ?_)
        refine g_aload hC d_Xx_hear_48 rfl ?_
        refine g_iload_n hC d_Xx_hear_50 rfl ?_
        refine gv_callVi hC [.int a2] cw_Xx_238 (Ti_joins_c F p11 a2 M6) h12 rfl rfl rfl rfl rfl rfl rfl d_Xx_hear_51 (fun r13 M14 => ?_)
        refine g_if_eq (tgt := 70) hC d_Xx_hear_54 (by decide) (fun _ => ?_) (fun _ => ?_)
        · refine g_ldc hC d_Xx_hear_70 wk_Xx_83 ?_
          exact g_iret hC hR d_Xx_hear_72
        · refine g_aload hC d_Xx_hear_57 rfl ?_
          refine fg_Xx_243 hC h12 d_Xx_hear_59 ?_
          refine g_aload hC d_Xx_hear_62 rfl ?_
          refine fg_Xx_160 hC h8 d_Xx_hear_64 ?_
          refine g_icmp_eq (tgt := 73) hC d_Xx_hear_67 (by decide) (fun _ => ?_) (fun _ => ?_)
          · refine g_aload_n hC d_Xx_hear_73 rfl ?_
            refine fg_Xx_61 hC lc_0 d_Xx_hear_74 p0_0_6 ?_
            refine gv_callVi hC [] cw_Xx_246 (He_isFull_c F M14) lc_193 rfl rfl rfl rfl rfl rfl rfl d_Xx_hear_77 (fun r15 M16 => ?_)
            refine g_if_eq (tgt := 88) hC d_Xx_hear_80 (by decide) (fun _ => ?_) (fun _ => ?_)
            · refine g_aload_n hC d_Xx_hear_88 rfl ?_
              refine fg_Xx_61 hC lc_0 d_Xx_hear_89 p0_0_6 ?_
              refine g_iload_n hC d_Xx_hear_92 rfl ?_
              refine g_iload_n hC d_Xx_hear_93 rfl ?_
              refine g_iload_n hC d_Xx_hear_94 rfl ?_
              refine gv_callVi hC [.int a1, .int a2, .int a3] cw_Xx_249 (He_addRule_c F a1 a2 a3 M16) lc_193 rfl rfl rfl rfl rfl rfl rfl d_Xx_hear_95 (fun r17 M18 => ?_)
              exact g_iret hC hR d_Xx_hear_98
            · refine g_ldc hC d_Xx_hear_83 wk_Xx_126 ?_
              refine g_goto (tgt := 98) hC d_Xx_hear_85 (by decide) ?_
              exact g_iret hC hR d_Xx_hear_98
          · refine g_ldc hC d_Xx_hear_70 wk_Xx_83 ?_
            exact g_iret hC hR d_Xx_hear_72
theorem d_He_change_0 : decode prog_7_method_4_code 0 = .ok (.aload_n 0, 1) := by decide +kernel
theorem d_He_change_1 : decode prog_7_method_4_code 1 = .ok (.getfield 34, 3) := by decide +kernel
theorem d_He_change_4 : decode prog_7_method_4_code 4 = .ok (.iload_n 1, 1) := by decide +kernel
theorem d_He_change_5 : decode prog_7_method_4_code 5 = .ok (.invokevirtual 57, 3) := by decide +kernel
theorem d_He_change_8 : decode prog_7_method_4_code 8 = .ok (.ifCond .ne 6, 3) := by decide +kernel
theorem d_He_change_11 : decode prog_7_method_4_code 11 = .ok (.ldc 63, 2) := by decide +kernel
theorem d_He_change_13 : decode prog_7_method_4_code 13 = .ok (.ireturn, 1) := by decide +kernel
theorem d_He_change_14 : decode prog_7_method_4_code 14 = .ok (.aload_n 0, 1) := by decide +kernel
theorem d_He_change_15 : decode prog_7_method_4_code 15 = .ok (.getfield 18, 3) := by decide +kernel
theorem d_He_change_18 : decode prog_7_method_4_code 18 = .ok (.iload_n 1, 1) := by decide +kernel
theorem d_He_change_19 : decode prog_7_method_4_code 19 = .ok (.iaload, 1) := by decide +kernel
theorem d_He_change_20 : decode prog_7_method_4_code 20 = .ok (.istore_n 3, 1) := by decide +kernel
theorem d_He_change_21 : decode prog_7_method_4_code 21 = .ok (.aload_n 0, 1) := by decide +kernel
theorem d_He_change_22 : decode prog_7_method_4_code 22 = .ok (.getfield 18, 3) := by decide +kernel
theorem d_He_change_25 : decode prog_7_method_4_code 25 = .ok (.iload_n 1, 1) := by decide +kernel
theorem d_He_change_26 : decode prog_7_method_4_code 26 = .ok (.iload_n 2, 1) := by decide +kernel
theorem d_He_change_27 : decode prog_7_method_4_code 27 = .ok (.iastore, 1) := by decide +kernel
theorem d_He_change_28 : decode prog_7_method_4_code 28 = .ok (.aload_n 0, 1) := by decide +kernel
theorem d_He_change_29 : decode prog_7_method_4_code 29 = .ok (.iconst 0, 1) := by decide +kernel
theorem d_He_change_30 : decode prog_7_method_4_code 30 = .ok (.putfield 53, 3) := by decide +kernel
theorem d_He_change_33 : decode prog_7_method_4_code 33 = .ok (.iload_n 3, 1) := by decide +kernel
theorem d_He_change_34 : decode prog_7_method_4_code 34 = .ok (.ireturn, 1) := by decide +kernel
set_option maxHeartbeats 2000000 in
theorem He_change_c {l : Launch} {θ : tv_Th} (F : Nat) (a1 : Int32) (a2 : Int32) (M : tv_M) : tv_Ct l θ ⟨"TiedViews$Hearsay", "change", "(II)I"⟩ prog_7_method_4_code 4 (some .int) 1 tv_ei [.ref (θ.1 + 193), .int a1, .int a2] M (He_change F a1 a2 M) := by
  refine tv_ofG [some (.ref (θ.1 + 193)), some (.int a1), some (.int a2), none] rfl rfl (tv_ent 1 rfl) ?_
  intro κ hl ht hC hR
  subst hl; subst ht
  unfold He_change
  refine g_aload_n hC d_He_change_0 rfl ?_
  refine fg_He_34 hC lc_193 d_He_change_1 p0_193_0 ?_
  refine g_iload_n hC d_He_change_4 rfl ?_
  refine gv_callVi hC [.int a1] cw_He_57 (To_isColumn_c F a1 M) lc_18 rfl rfl rfl rfl rfl rfl rfl d_He_change_5 (fun r1 M2 => ?_)
  refine g_if_ne (tgt := 14) hC d_He_change_8 (by decide) (fun _ => ?_) (fun _ => ?_)
  · refine g_aload_n hC d_He_change_14 rfl ?_
    refine fg_He_18 hC lc_193 d_He_change_15 p0_193_4 ?_
    refine g_iload_n hC d_He_change_18 rfl ?_
    refine gv_iald hC ly_196 d_He_change_19 (fun x3 => ?_)
    refine g_istore_n (ls' := [some (.ref (κ.b + 193)), some (.int a1), some (.int a2), some (.int x3)]) hC d_He_change_20 rfl rfl ?_
    refine g_aload_n hC d_He_change_21 rfl ?_
    refine fg_He_18 hC lc_193 d_He_change_22 p0_193_4 ?_
    refine g_iload_n hC d_He_change_25 rfl ?_
    refine g_iload_n hC d_He_change_26 rfl ?_
    refine gv_iast hC ly_196 d_He_change_27 (fun M4 => ?_)
    refine g_aload_n hC d_He_change_28 rfl ?_
    refine g_iconst hC d_He_change_29 k_i0 ?_
    refine fp_He_53 hC lc_193 tv_z0 d_He_change_30 (fun M5 => ?_)
    refine g_iload_n hC d_He_change_33 rfl ?_
    exact g_iret hC hR d_He_change_34
  · refine g_ldc hC d_He_change_11 wk_He_63 ?_
    exact g_iret hC hR d_He_change_13
theorem d_Xx_now_0 : decode prog_1_method_20_code 0 = .ok (.aload_n 0, 1) := by decide +kernel
theorem d_Xx_now_1 : decode prog_1_method_20_code 1 = .ok (.getfield 29, 3) := by decide +kernel
theorem d_Xx_now_4 : decode prog_1_method_20_code 4 = .ok (.iload_n 1, 1) := by decide +kernel
theorem d_Xx_now_5 : decode prog_1_method_20_code 5 = .ok (.invokevirtual 198, 3) := by decide +kernel
theorem d_Xx_now_8 : decode prog_1_method_20_code 8 = .ok (.astore 4, 2) := by decide +kernel
theorem d_Xx_now_10 : decode prog_1_method_20_code 10 = .ok (.aload 4, 2) := by decide +kernel
theorem d_Xx_now_12 : decode prog_1_method_20_code 12 = .ok (.ifnull 28, 3) := by decide +kernel
theorem d_Xx_now_15 : decode prog_1_method_20_code 15 = .ok (.iload_n 2, 1) := by decide +kernel
theorem d_Xx_now_16 : decode prog_1_method_20_code 16 = .ok (.ifCond .lt 24, 3) := by decide +kernel
theorem d_Xx_now_19 : decode prog_1_method_20_code 19 = .ok (.iload_n 2, 1) := by decide +kernel
theorem d_Xx_now_20 : decode prog_1_method_20_code 20 = .ok (.aload 4, 2) := by decide +kernel
theorem d_Xx_now_22 : decode prog_1_method_20_code 22 = .ok (.getfield 160, 3) := by decide +kernel
theorem d_Xx_now_25 : decode prog_1_method_20_code 25 = .ok (.if_icmp .ge 15, 3) := by decide +kernel
theorem d_Xx_now_28 : decode prog_1_method_20_code 28 = .ok (.iload_n 3, 1) := by decide +kernel
theorem d_Xx_now_29 : decode prog_1_method_20_code 29 = .ok (.ifCond .lt 11, 3) := by decide +kernel
theorem d_Xx_now_32 : decode prog_1_method_20_code 32 = .ok (.iload_n 3, 1) := by decide +kernel
theorem d_Xx_now_33 : decode prog_1_method_20_code 33 = .ok (.aload_n 0, 1) := by decide +kernel
theorem d_Xx_now_34 : decode prog_1_method_20_code 34 = .ok (.getfield 19, 3) := by decide +kernel
theorem d_Xx_now_37 : decode prog_1_method_20_code 37 = .ok (.if_icmp .lt 6, 3) := by decide +kernel
theorem d_Xx_now_40 : decode prog_1_method_20_code 40 = .ok (.ldc 83, 2) := by decide +kernel
theorem d_Xx_now_42 : decode prog_1_method_20_code 42 = .ok (.ireturn, 1) := by decide +kernel
theorem d_Xx_now_43 : decode prog_1_method_20_code 43 = .ok (.aload_n 0, 1) := by decide +kernel
theorem d_Xx_now_44 : decode prog_1_method_20_code 44 = .ok (.getfield 61, 3) := by decide +kernel
theorem d_Xx_now_47 : decode prog_1_method_20_code 47 = .ok (.aload 4, 2) := by decide +kernel
theorem d_Xx_now_49 : decode prog_1_method_20_code 49 = .ok (.getfield 167, 3) := by decide +kernel
theorem d_Xx_now_52 : decode prog_1_method_20_code 52 = .ok (.iload_n 2, 1) := by decide +kernel
theorem d_Xx_now_53 : decode prog_1_method_20_code 53 = .ok (.iadd, 1) := by decide +kernel
theorem d_Xx_now_54 : decode prog_1_method_20_code 54 = .ok (.iload_n 3, 1) := by decide +kernel
theorem d_Xx_now_55 : decode prog_1_method_20_code 55 = .ok (.invokevirtual 253, 3) := by decide +kernel
theorem d_Xx_now_58 : decode prog_1_method_20_code 58 = .ok (.ireturn, 1) := by decide +kernel
set_option maxHeartbeats 2000000 in
theorem Xx_now_c {l : Launch} {θ : tv_Th} (F : Nat) (a1 : Int32) (a2 : Int32) (a3 : Int32) (M : tv_M) : tv_Ct l θ ⟨"TiedViews", "now", "(III)I"⟩ prog_1_method_20_code 5 (some .int) 2 tv_ei [.ref (θ.1 + 0), .int a1, .int a2, .int a3] M (Xx_now F a1 a2 a3 M) := by
  refine tv_ofG [some (.ref (θ.1 + 0)), some (.int a1), some (.int a2), some (.int a3), none] rfl rfl (tv_ent 1 rfl) ?_
  intro κ hl ht hC hR
  subst hl; subst ht
  unfold Xx_now
  refine g_aload_n hC d_Xx_now_0 rfl ?_
  refine fg_Xx_29 hC lc_0 d_Xx_now_1 p0_0_2 ?_
  refine g_iload_n hC d_Xx_now_4 rfl ?_
  refine gv_callVr hC [.int a1] cw_Xx_198 (To_linearAt_c F a1 M) lc_18 rfl rfl rfl rfl rfl rfl rfl d_Xx_now_5 (fun r1 M2 => ?_)
  refine g_astoreQ (ls' := [some (.ref (κ.b + 0)), some (.int a1), some (.int a2), some (.int a3), some (tv_re κ.b r1)]) hC d_Xx_now_8 rfl rfl ?_
  refine g_aloadQ hC d_Xx_now_10 rfl ?_
  rcases r1 with _ | p3
  · refine g_nlN ?_
    refine g_ifnullN (tgt := 40) hC d_Xx_now_12 (by decide) ?_
    refine g_ldc hC d_Xx_now_40 wk_Xx_83 ?_
    exact g_iret hC hR d_Xx_now_42
  · refine g_nlS ?_
    refine g_ifnullR hC d_Xx_now_12 ?_
    refine g_gl (fun h4 => ?_)
    refine g_iload_n hC d_Xx_now_15 rfl ?_
    refine g_if_lt (tgt := 40) hC d_Xx_now_16 (by decide) (fun _ => ?_) (fun _ => ?_)
    · refine g_ldc hC d_Xx_now_40 wk_Xx_83 ?_
      exact g_iret hC hR d_Xx_now_42
    · refine g_iload_n hC d_Xx_now_19 rfl ?_
      refine g_aload hC d_Xx_now_20 rfl ?_
      refine fg_Xx_160 hC h4 d_Xx_now_22 ?_
      refine g_icmp_ge (tgt := 40) hC d_Xx_now_25 (by decide) (fun _ => ?_) (fun _ => ?_)
      · refine g_ldc hC d_Xx_now_40 wk_Xx_83 ?_
        exact g_iret hC hR d_Xx_now_42
      · refine g_iload_n hC d_Xx_now_28 rfl ?_
        refine g_if_lt (tgt := 40) hC d_Xx_now_29 (by decide) (fun _ => ?_) (fun _ => ?_)
        · refine g_ldc hC d_Xx_now_40 wk_Xx_83 ?_
          exact g_iret hC hR d_Xx_now_42
        · refine g_iload_n hC d_Xx_now_32 rfl ?_
          refine g_aload_n hC d_Xx_now_33 rfl ?_
          refine fg_Xx_19 hC lc_0 d_Xx_now_34 ?_
          refine g_icmp_lt (tgt := 43) hC d_Xx_now_37 (by decide) (fun _ => ?_) (fun _ => ?_)
          · refine g_aload_n hC d_Xx_now_43 rfl ?_
            refine fg_Xx_61 hC lc_0 d_Xx_now_44 p0_0_6 ?_
            refine g_aload hC d_Xx_now_47 rfl ?_
            refine fg_Xx_167 hC h4 d_Xx_now_49 ?_
            refine g_iload_n hC d_Xx_now_52 rfl ?_
            refine g_iadd hC d_Xx_now_53 ?_
            refine g_iload_n hC d_Xx_now_54 rfl ?_
            refine gv_callVi hC [.int ((M2.1 p3 3) + a2), .int a3] cw_Xx_253 (He_change_c F ((M2.1 p3 3) + a2) a3 M2) lc_193 rfl rfl rfl rfl rfl rfl rfl d_Xx_now_55 (fun r5 M6 => ?_)
            exact g_iret hC hR d_Xx_now_58
          · refine g_ldc hC d_Xx_now_40 wk_Xx_83 ?_
            exact g_iret hC hR d_Xx_now_42
theorem d_He_hearOne_0 : decode prog_7_method_8_code 0 = .ok (.aload_n 0, 1) := by decide +kernel
theorem d_He_hearOne_1 : decode prog_7_method_8_code 1 = .ok (.getfield 34, 3) := by decide +kernel
theorem d_He_hearOne_4 : decode prog_7_method_8_code 4 = .ok (.aload_n 0, 1) := by decide +kernel
theorem d_He_hearOne_5 : decode prog_7_method_8_code 5 = .ok (.getfield 9, 3) := by decide +kernel
theorem d_He_hearOne_8 : decode prog_7_method_8_code 8 = .ok (.aload_n 1, 1) := by decide +kernel
theorem d_He_hearOne_9 : decode prog_7_method_8_code 9 = .ok (.getfield 93, 3) := by decide +kernel
theorem d_He_hearOne_12 : decode prog_7_method_8_code 12 = .ok (.iaload, 1) := by decide +kernel
theorem d_He_hearOne_13 : decode prog_7_method_8_code 13 = .ok (.invokevirtual 96, 3) := by decide +kernel
theorem d_He_hearOne_16 : decode prog_7_method_8_code 16 = .ok (.astore_n 3, 1) := by decide +kernel
theorem d_He_hearOne_17 : decode prog_7_method_8_code 17 = .ok (.aload_n 0, 1) := by decide +kernel
theorem d_He_hearOne_18 : decode prog_7_method_8_code 18 = .ok (.getfield 34, 3) := by decide +kernel
theorem d_He_hearOne_21 : decode prog_7_method_8_code 21 = .ok (.aload_n 0, 1) := by decide +kernel
theorem d_He_hearOne_22 : decode prog_7_method_8_code 22 = .ok (.getfield 15, 3) := by decide +kernel
theorem d_He_hearOne_25 : decode prog_7_method_8_code 25 = .ok (.aload_n 1, 1) := by decide +kernel
theorem d_He_hearOne_26 : decode prog_7_method_8_code 26 = .ok (.getfield 93, 3) := by decide +kernel
theorem d_He_hearOne_29 : decode prog_7_method_8_code 29 = .ok (.iaload, 1) := by decide +kernel
theorem d_He_hearOne_30 : decode prog_7_method_8_code 30 = .ok (.invokevirtual 100, 3) := by decide +kernel
theorem d_He_hearOne_33 : decode prog_7_method_8_code 33 = .ok (.astore 4, 2) := by decide +kernel
theorem d_He_hearOne_35 : decode prog_7_method_8_code 35 = .ok (.aload_n 3, 1) := by decide +kernel
theorem d_He_hearOne_36 : decode prog_7_method_8_code 36 = .ok (.ifnull 8, 3) := by decide +kernel
theorem d_He_hearOne_39 : decode prog_7_method_8_code 39 = .ok (.aload 4, 2) := by decide +kernel
theorem d_He_hearOne_41 : decode prog_7_method_8_code 41 = .ok (.ifnonnull 4, 3) := by decide +kernel
theorem d_He_hearOne_44 : decode prog_7_method_8_code 44 = .ok (.return_, 1) := by decide +kernel
theorem d_He_hearOne_45 : decode prog_7_method_8_code 45 = .ok (.aload 4, 2) := by decide +kernel
theorem d_He_hearOne_47 : decode prog_7_method_8_code 47 = .ok (.aload_n 3, 1) := by decide +kernel
theorem d_He_hearOne_48 : decode prog_7_method_8_code 48 = .ok (.getfield 93, 3) := by decide +kernel
theorem d_He_hearOne_51 : decode prog_7_method_8_code 51 = .ok (.invokevirtual 104, 3) := by decide +kernel
theorem d_He_hearOne_54 : decode prog_7_method_8_code 54 = .ok (.astore 5, 2) := by decide +kernel
theorem d_He_hearOne_56 : decode prog_7_method_8_code 56 = .ok (.iconst 0, 1) := by decide +kernel
theorem d_He_hearOne_57 : decode prog_7_method_8_code 57 = .ok (.istore 6, 2) := by decide +kernel
theorem d_He_hearOne_59 : decode prog_7_method_8_code 59 = .ok (.iload 6, 2) := by decide +kernel
theorem d_He_hearOne_61 : decode prog_7_method_8_code 61 = .ok (.aload_n 1, 1) := by decide +kernel
theorem d_He_hearOne_62 : decode prog_7_method_8_code 62 = .ok (.getfield 110, 3) := by decide +kernel
theorem d_He_hearOne_65 : decode prog_7_method_8_code 65 = .ok (.if_icmp .ge 79, 3) := by decide +kernel
theorem d_He_hearOne_68 : decode prog_7_method_8_code 68 = .ok (.iconst 0, 1) := by decide +kernel
theorem d_He_hearOne_69 : decode prog_7_method_8_code 69 = .ok (.istore 7, 2) := by decide +kernel
theorem d_He_hearOne_71 : decode prog_7_method_8_code 71 = .ok (.iconst 0, 1) := by decide +kernel
theorem d_He_hearOne_72 : decode prog_7_method_8_code 72 = .ok (.istore 8, 2) := by decide +kernel
theorem d_He_hearOne_74 : decode prog_7_method_8_code 74 = .ok (.iload 8, 2) := by decide +kernel
theorem d_He_hearOne_76 : decode prog_7_method_8_code 76 = .ok (.aload_n 3, 1) := by decide +kernel
theorem d_He_hearOne_77 : decode prog_7_method_8_code 77 = .ok (.getfield 110, 3) := by decide +kernel
theorem d_He_hearOne_80 : decode prog_7_method_8_code 80 = .ok (.if_icmp .ge 34, 3) := by decide +kernel
theorem d_He_hearOne_83 : decode prog_7_method_8_code 83 = .ok (.iload 7, 2) := by decide +kernel
theorem d_He_hearOne_85 : decode prog_7_method_8_code 85 = .ok (.aload 5, 2) := by decide +kernel
theorem d_He_hearOne_87 : decode prog_7_method_8_code 87 = .ok (.iload 6, 2) := by decide +kernel
theorem d_He_hearOne_89 : decode prog_7_method_8_code 89 = .ok (.iconst 3, 1) := by decide +kernel
theorem d_He_hearOne_90 : decode prog_7_method_8_code 90 = .ok (.imul, 1) := by decide +kernel
theorem d_He_hearOne_91 : decode prog_7_method_8_code 91 = .ok (.iload 8, 2) := by decide +kernel
theorem d_He_hearOne_93 : decode prog_7_method_8_code 93 = .ok (.iadd, 1) := by decide +kernel
theorem d_He_hearOne_94 : decode prog_7_method_8_code 94 = .ok (.iaload, 1) := by decide +kernel
theorem d_He_hearOne_95 : decode prog_7_method_8_code 95 = .ok (.aload_n 2, 1) := by decide +kernel
theorem d_He_hearOne_96 : decode prog_7_method_8_code 96 = .ok (.aload_n 3, 1) := by decide +kernel
theorem d_He_hearOne_97 : decode prog_7_method_8_code 97 = .ok (.getfield 113, 3) := by decide +kernel
theorem d_He_hearOne_100 : decode prog_7_method_8_code 100 = .ok (.iload 8, 2) := by decide +kernel
theorem d_He_hearOne_102 : decode prog_7_method_8_code 102 = .ok (.iadd, 1) := by decide +kernel
theorem d_He_hearOne_103 : decode prog_7_method_8_code 103 = .ok (.iaload, 1) := by decide +kernel
theorem d_He_hearOne_104 : decode prog_7_method_8_code 104 = .ok (.imul, 1) := by decide +kernel
theorem d_He_hearOne_105 : decode prog_7_method_8_code 105 = .ok (.iadd, 1) := by decide +kernel
theorem d_He_hearOne_106 : decode prog_7_method_8_code 106 = .ok (.istore 7, 2) := by decide +kernel
theorem d_He_hearOne_108 : decode prog_7_method_8_code 108 = .ok (.iinc 8 1, 3) := by decide +kernel
theorem d_He_hearOne_111 : decode prog_7_method_8_code 111 = .ok (.goto (-37), 3) := by decide +kernel
theorem d_He_hearOne_114 : decode prog_7_method_8_code 114 = .ok (.aload_n 0, 1) := by decide +kernel
theorem d_He_hearOne_115 : decode prog_7_method_8_code 115 = .ok (.getfield 24, 3) := by decide +kernel
theorem d_He_hearOne_118 : decode prog_7_method_8_code 118 = .ok (.aload_n 1, 1) := by decide +kernel
theorem d_He_hearOne_119 : decode prog_7_method_8_code 119 = .ok (.getfield 113, 3) := by decide +kernel
theorem d_He_hearOne_122 : decode prog_7_method_8_code 122 = .ok (.iload 6, 2) := by decide +kernel
theorem d_He_hearOne_124 : decode prog_7_method_8_code 124 = .ok (.iadd, 1) := by decide +kernel
theorem d_He_hearOne_125 : decode prog_7_method_8_code 125 = .ok (.iload 7, 2) := by decide +kernel
theorem d_He_hearOne_127 : decode prog_7_method_8_code 127 = .ok (.aload_n 0, 1) := by decide +kernel
theorem d_He_hearOne_128 : decode prog_7_method_8_code 128 = .ok (.getfield 34, 3) := by decide +kernel
theorem d_He_hearOne_131 : decode prog_7_method_8_code 131 = .ok (.getfield 116, 3) := by decide +kernel
theorem d_He_hearOne_134 : decode prog_7_method_8_code 134 = .ok (.invokestatic 119, 3) := by decide +kernel
theorem d_He_hearOne_137 : decode prog_7_method_8_code 137 = .ok (.iastore, 1) := by decide +kernel
theorem d_He_hearOne_138 : decode prog_7_method_8_code 138 = .ok (.iinc 6 1, 3) := by decide +kernel
theorem d_He_hearOne_141 : decode prog_7_method_8_code 141 = .ok (.goto (-82), 3) := by decide +kernel
theorem d_He_hearOne_144 : decode prog_7_method_8_code 144 = .ok (.return_, 1) := by decide +kernel
set_option maxHeartbeats 2000000 in
theorem He_hearOne_L74_g {κ : tv_Kt} (hC : tv_Cx κ "TiedViews$Hearsay" prog_7_method_8_code 9 2) (hR : tv_Re κ none) (F : Nat) {k59 : Nat → Nat → Nat → Nat → Int32 → tv_M → Option (Unit × tv_M)} (hk59 : ∀ (l1 : Nat) (l2 : Nat) (l3 : Nat) (l5 : Nat) (l6 : Int32) (M : tv_M), tv_G κ 9 (tv_Qm κ tv_ev) 59 [some (.ref (κ.b + 193)), some (.ref (κ.b + l1)), some (.ref (κ.b + l2)), some (.ref (κ.b + l3)), none, some (.ref (κ.b + l5)), some (.int l6), none, none] [] M (k59 l1 l2 l3 l5 l6 M)) : ∀ (n : Nat) (l1 : Nat) (l2 : Nat) (l3 : Nat) (l5 : Nat) (l6 : Int32) (l7 : Int32) (l8 : Int32) (M : tv_M), tv_G κ 9 (tv_Qm κ tv_ev) 74 [some (.ref (κ.b + 193)), some (.ref (κ.b + l1)), some (.ref (κ.b + l2)), some (.ref (κ.b + l3)), none, some (.ref (κ.b + l5)), some (.int l6), some (.int l7), some (.int l8)] [] M (He_hearOne_L74 F k59 n l1 l2 l3 l5 l6 l7 l8 M) := by
  intro n
  induction n with
  | zero => intro _ _ _ _ _ _ _ _; exact g_none
  | succ nn ih =>
    intro l1 l2 l3 l5 l6 l7 l8 M
    rw [He_hearOne_L74]
    refine g_gl (fun h25 => ?_)
    refine g_gn (fun n27 h26 => ?_)
    refine g_gl (fun h28 => ?_)
    refine g_gn (fun n30 h29 => ?_)
    refine g_iload hC d_He_hearOne_74 rfl ?_
    refine g_aload_n hC d_He_hearOne_76 rfl ?_
    refine fg_He_110 hC h28 d_He_hearOne_77 ?_
    refine g_icmp_ge (tgt := 114) hC d_He_hearOne_80 (by decide) (fun _ => ?_) (fun _ => ?_)
    · refine g_aload_n hC d_He_hearOne_114 rfl ?_
      refine fg_He_24 hC lc_193 d_He_hearOne_115 p0_193_6 ?_
      refine g_aload_n hC d_He_hearOne_118 rfl ?_
      refine fg_He_113 hC h25 d_He_hearOne_119 ?_
      refine g_iload hC d_He_hearOne_122 rfl ?_
      refine g_iadd hC d_He_hearOne_124 ?_
      refine g_iload hC d_He_hearOne_125 rfl ?_
      refine g_aload_n hC d_He_hearOne_127 rfl ?_
      refine fg_He_34 hC lc_193 d_He_hearOne_128 p0_193_0 ?_
      refine fg_He_116 hC lc_18 d_He_hearOne_131 ?_
      refine gv_callNi hC [.int l7, .int (M.1 18 0)] cw_He_119 (Xx_restOf_c F l7 (M.1 18 0) M) rfl rfl rfl rfl rfl d_He_hearOne_134 (fun r31 M32 => ?_)
      refine gv_iast hC ly_198 d_He_hearOne_137 (fun M33 => ?_)
      refine g_iinc (ls' := [some (.ref (κ.b + 193)), some (.ref (κ.b + l1)), some (.ref (κ.b + l2)), some (.ref (κ.b + l3)), none, some (.ref (κ.b + l5)), some (.int (l6 + 1)), some (.int l7), some (.int l8)]) hC d_He_hearOne_138 rfl k_i1 rfl rfl ?_
      refine g_goto (tgt := 59) hC d_He_hearOne_141 (by decide) ?_
      refine g_mask [true, true, true, true, false, true, true, false, false] (ls' := [some (.ref (κ.b + 193)), some (.ref (κ.b + l1)), some (.ref (κ.b + l2)), some (.ref (κ.b + l3)), none, some (.ref (κ.b + l5)), some (.int (l6 + 1)), none, none]) rfl ?_
      exact hk59 l1 l2 l3 l5 (l6 + 1) M33
    · refine g_iload hC d_He_hearOne_83 rfl ?_
      refine g_aload hC d_He_hearOne_85 rfl ?_
      refine g_iload hC d_He_hearOne_87 rfl ?_
      refine g_iconst hC d_He_hearOne_89 k_i3 ?_
      refine g_imul hC d_He_hearOne_90 ?_
      refine g_iload hC d_He_hearOne_91 rfl ?_
      refine g_iadd hC d_He_hearOne_93 ?_
      refine gv_iald hC h29 d_He_hearOne_94 (fun x34 => ?_)
      refine g_aload_n hC d_He_hearOne_95 rfl ?_
      refine g_aload_n hC d_He_hearOne_96 rfl ?_
      refine fg_He_113 hC h28 d_He_hearOne_97 ?_
      refine g_iload hC d_He_hearOne_100 rfl ?_
      refine g_iadd hC d_He_hearOne_102 ?_
      refine gv_iald hC h26 d_He_hearOne_103 (fun x35 => ?_)
      refine g_imul hC d_He_hearOne_104 ?_
      refine g_iadd hC d_He_hearOne_105 ?_
      refine g_istore (ls' := [some (.ref (κ.b + 193)), some (.ref (κ.b + l1)), some (.ref (κ.b + l2)), some (.ref (κ.b + l3)), none, some (.ref (κ.b + l5)), some (.int l6), some (.int (l7 + (x34 * x35))), some (.int l8)]) hC d_He_hearOne_106 rfl rfl ?_
      refine g_iinc (ls' := [some (.ref (κ.b + 193)), some (.ref (κ.b + l1)), some (.ref (κ.b + l2)), some (.ref (κ.b + l3)), none, some (.ref (κ.b + l5)), some (.int l6), some (.int (l7 + (x34 * x35))), some (.int (l8 + 1))]) hC d_He_hearOne_108 rfl k_i1 rfl rfl ?_
      refine g_goto (tgt := 74) hC d_He_hearOne_111 (by decide) ?_
      exact ih l1 l2 l3 l5 l6 (l7 + (x34 * x35)) (l8 + 1) M
set_option maxHeartbeats 2000000 in
theorem He_hearOne_L59_g {κ : tv_Kt} (hC : tv_Cx κ "TiedViews$Hearsay" prog_7_method_8_code 9 2) (hR : tv_Re κ none) (F : Nat) : ∀ (n : Nat) (l1 : Nat) (l2 : Nat) (l3 : Nat) (l5 : Nat) (l6 : Int32) (M : tv_M), tv_G κ 9 (tv_Qm κ tv_ev) 59 [some (.ref (κ.b + 193)), some (.ref (κ.b + l1)), some (.ref (κ.b + l2)), some (.ref (κ.b + l3)), none, some (.ref (κ.b + l5)), some (.int l6), none, none] [] M (He_hearOne_L59 F n l1 l2 l3 l5 l6 M) := by
  intro n
  induction n with
  | zero => intro _ _ _ _ _ _; exact g_none
  | succ nn ih =>
    intro l1 l2 l3 l5 l6 M
    rw [He_hearOne_L59]
    refine g_gl (fun h19 => ?_)
    refine g_gn (fun n21 h20 => ?_)
    refine g_gl (fun h22 => ?_)
    refine g_gn (fun n24 h23 => ?_)
    refine g_iload hC d_He_hearOne_59 rfl ?_
    refine g_aload_n hC d_He_hearOne_61 rfl ?_
    refine fg_He_110 hC h19 d_He_hearOne_62 ?_
    refine g_icmp_ge (tgt := 144) hC d_He_hearOne_65 (by decide) (fun _ => ?_) (fun _ => ?_)
    · exact g_vret hC hR d_He_hearOne_144
    · refine g_iconst hC d_He_hearOne_68 k_i0 ?_
      refine g_istore (ls' := [some (.ref (κ.b + 193)), some (.ref (κ.b + l1)), some (.ref (κ.b + l2)), some (.ref (κ.b + l3)), none, some (.ref (κ.b + l5)), some (.int l6), some (.int 0), none]) hC d_He_hearOne_69 rfl rfl ?_
      refine g_iconst hC d_He_hearOne_71 k_i0 ?_
      refine g_istore (ls' := [some (.ref (κ.b + 193)), some (.ref (κ.b + l1)), some (.ref (κ.b + l2)), some (.ref (κ.b + l3)), none, some (.ref (κ.b + l5)), some (.int l6), some (.int 0), some (.int 0)]) hC d_He_hearOne_72 rfl rfl ?_
      exact He_hearOne_L74_g hC hR F ih F l1 l2 l3 l5 l6 0 0 M
set_option maxHeartbeats 2000000 in
theorem He_hearOne_c {l : Launch} {θ : tv_Th} (F : Nat) (a1 : Nat) (a2 : Nat) (M : tv_M) : tv_Ct l θ ⟨"TiedViews$Hearsay", "hearOne", "(LTiedViews$Eye;[I)V"⟩ prog_7_method_8_code 9 none 2 tv_ev [.ref (θ.1 + 193), .ref (θ.1 + a1), .ref (θ.1 + a2)] M (He_hearOne F a1 a2 M) := by
  refine tv_ofG [some (.ref (θ.1 + 193)), some (.ref (θ.1 + a1)), some (.ref (θ.1 + a2)), none, none, none, none, none, none] rfl rfl (tv_ent 6 rfl) ?_
  intro κ hl ht hC hR
  subst hl; subst ht
  unfold He_hearOne
  refine g_gl (fun h1 => ?_)
  refine g_gn (fun n3 h2 => ?_)
  refine g_aload_n hC d_He_hearOne_0 rfl ?_
  refine fg_He_34 hC lc_193 d_He_hearOne_1 p0_193_0 ?_
  refine g_aload_n hC d_He_hearOne_4 rfl ?_
  refine fg_He_9 hC lc_193 d_He_hearOne_5 p0_193_1 ?_
  refine g_aload_n hC d_He_hearOne_8 rfl ?_
  refine fg_He_93 hC h1 d_He_hearOne_9 ?_
  refine gv_iald hC ly_194 d_He_hearOne_12 (fun x4 => ?_)
  refine gv_callVr hC [.int x4] cw_He_96 (To_linearAt_c F x4 M) lc_18 rfl rfl rfl rfl rfl rfl rfl d_He_hearOne_13 (fun r5 M6 => ?_)
  refine g_astore_nQ (ls' := [some (.ref (κ.b + 193)), some (.ref (κ.b + a1)), some (.ref (κ.b + a2)), some (tv_re κ.b r5), none, none, none, none, none]) hC d_He_hearOne_16 rfl rfl ?_
  refine g_aload_n hC d_He_hearOne_17 rfl ?_
  refine fg_He_34 hC lc_193 d_He_hearOne_18 p0_193_0 ?_
  refine g_aload_n hC d_He_hearOne_21 rfl ?_
  refine fg_He_15 hC lc_193 d_He_hearOne_22 p0_193_2 ?_
  refine g_aload_n hC d_He_hearOne_25 rfl ?_
  refine fg_He_93 hC h1 d_He_hearOne_26 ?_
  refine gv_iald hC ly_195 d_He_hearOne_29 (fun x7 => ?_)
  refine gv_callVr hC [.int x7] cw_He_100 (To_tieAt_c F x7 M6) lc_18 rfl rfl rfl rfl rfl rfl rfl d_He_hearOne_30 (fun r8 M9 => ?_)
  refine g_astoreQ (ls' := [some (.ref (κ.b + 193)), some (.ref (κ.b + a1)), some (.ref (κ.b + a2)), some (tv_re κ.b r5), some (tv_re κ.b r8), none, none, none, none]) hC d_He_hearOne_33 (by simp [tv_sto, tv_sto2, tv_clr, tv_re_cat]) rfl ?_
  refine g_aload_nQ hC d_He_hearOne_35 rfl ?_
  rcases r5 with _ | p10
  · refine g_nlN ?_
    refine g_ifnullN (tgt := 44) hC d_He_hearOne_36 (by decide) ?_
    exact g_vret hC hR d_He_hearOne_44
  · refine g_nlS ?_
    refine g_ifnullR hC d_He_hearOne_36 ?_
    refine g_gl (fun h11 => ?_)
    refine g_aloadQ hC d_He_hearOne_39 rfl ?_
    rcases r8 with _ | p12
    · refine g_nlN ?_
      refine g_ifnonnullN hC d_He_hearOne_41 ?_
      exact g_vret hC hR d_He_hearOne_44
    · refine g_nlS ?_
      refine g_ifnonnullR (tgt := 45) hC d_He_hearOne_41 (by decide) ?_
      refine g_gl (fun h13 => ?_)
      refine g_aload hC d_He_hearOne_45 rfl ?_
      refine g_aload_n hC d_He_hearOne_47 rfl ?_
      refine fg_He_93 hC h11 d_He_hearOne_48 ?_
      refine gv_callVr hC [.int (M9.1 p10 0)] cw_He_104 (Ti_tableOf_c F p12 (M9.1 p10 0) M9) h13 rfl rfl rfl rfl rfl rfl rfl d_He_hearOne_51 (fun r14 M15 => ?_)
      refine g_nn (fun p16 e => ?_)
      subst e
      refine g_gn (fun n18 h17 => ?_)
      refine g_astore (ls' := [some (.ref (κ.b + 193)), some (.ref (κ.b + a1)), some (.ref (κ.b + a2)), some (.ref (κ.b + p10)), some (.ref (κ.b + p12)), some (.ref (κ.b + p16)), none, none, none]) hC d_He_hearOne_54 rfl rfl ?_
      refine g_iconst hC d_He_hearOne_56 k_i0 ?_
      refine g_istore (ls' := [some (.ref (κ.b + 193)), some (.ref (κ.b + a1)), some (.ref (κ.b + a2)), some (.ref (κ.b + p10)), some (.ref (κ.b + p12)), some (.ref (κ.b + p16)), some (.int 0), none, none]) hC d_He_hearOne_57 rfl rfl ?_
      refine g_mask [true, true, true, true, false, true, true, false, false] (ls' := [some (.ref (κ.b + 193)), some (.ref (κ.b + a1)), some (.ref (κ.b + a2)), some (.ref (κ.b + p10)), none, some (.ref (κ.b + p16)), some (.int 0), none, none]) rfl ?_
      exact He_hearOne_L59_g hC hR F F a1 a2 p10 p16 0 M15
theorem d_He_hearAll_0 : decode prog_7_method_7_code 0 = .ok (.aload_n 1, 1) := by decide +kernel
theorem d_He_hearAll_1 : decode prog_7_method_7_code 1 = .ok (.iconst 0, 1) := by decide +kernel
theorem d_He_hearAll_2 : decode prog_7_method_7_code 2 = .ok (.aload_n 0, 1) := by decide +kernel
theorem d_He_hearAll_3 : decode prog_7_method_7_code 3 = .ok (.getfield 24, 3) := by decide +kernel
theorem d_He_hearAll_6 : decode prog_7_method_7_code 6 = .ok (.iconst 0, 1) := by decide +kernel
theorem d_He_hearAll_7 : decode prog_7_method_7_code 7 = .ok (.bipush 24, 2) := by decide +kernel
theorem d_He_hearAll_9 : decode prog_7_method_7_code 9 = .ok (.invokestatic 71, 3) := by decide +kernel
theorem d_He_hearAll_12 : decode prog_7_method_7_code 12 = .ok (.iconst 0, 1) := by decide +kernel
theorem d_He_hearAll_13 : decode prog_7_method_7_code 13 = .ok (.istore_n 2, 1) := by decide +kernel
theorem d_He_hearAll_14 : decode prog_7_method_7_code 14 = .ok (.iload_n 2, 1) := by decide +kernel
theorem d_He_hearAll_15 : decode prog_7_method_7_code 15 = .ok (.aload_n 0, 1) := by decide +kernel
theorem d_He_hearAll_16 : decode prog_7_method_7_code 16 = .ok (.getfield 34, 3) := by decide +kernel
theorem d_He_hearAll_19 : decode prog_7_method_7_code 19 = .ok (.getfield 77, 3) := by decide +kernel
theorem d_He_hearAll_22 : decode prog_7_method_7_code 22 = .ok (.if_icmp .ge 43, 3) := by decide +kernel
theorem d_He_hearAll_25 : decode prog_7_method_7_code 25 = .ok (.aload_n 0, 1) := by decide +kernel
theorem d_He_hearAll_26 : decode prog_7_method_7_code 26 = .ok (.getfield 34, 3) := by decide +kernel
theorem d_He_hearAll_29 : decode prog_7_method_7_code 29 = .ok (.getfield 80, 3) := by decide +kernel
theorem d_He_hearAll_32 : decode prog_7_method_7_code 32 = .ok (.iload_n 2, 1) := by decide +kernel
theorem d_He_hearAll_33 : decode prog_7_method_7_code 33 = .ok (.aaload, 1) := by decide +kernel
theorem d_He_hearAll_34 : decode prog_7_method_7_code 34 = .ok (.astore_n 3, 1) := by decide +kernel
theorem d_He_hearAll_35 : decode prog_7_method_7_code 35 = .ok (.aload_n 0, 1) := by decide +kernel
theorem d_He_hearAll_36 : decode prog_7_method_7_code 36 = .ok (.getfield 15, 3) := by decide +kernel
theorem d_He_hearAll_39 : decode prog_7_method_7_code 39 = .ok (.iload_n 2, 1) := by decide +kernel
theorem d_He_hearAll_40 : decode prog_7_method_7_code 40 = .ok (.iaload, 1) := by decide +kernel
theorem d_He_hearAll_41 : decode prog_7_method_7_code 41 = .ok (.iconst (-1), 1) := by decide +kernel
theorem d_He_hearAll_42 : decode prog_7_method_7_code 42 = .ok (.if_icmp .eq 17, 3) := by decide +kernel
theorem d_He_hearAll_45 : decode prog_7_method_7_code 45 = .ok (.aload_n 3, 1) := by decide +kernel
theorem d_He_hearAll_46 : decode prog_7_method_7_code 46 = .ok (.getfield 84, 3) := by decide +kernel
theorem d_He_hearAll_49 : decode prog_7_method_7_code 49 = .ok (.iconst 2, 1) := by decide +kernel
theorem d_He_hearAll_50 : decode prog_7_method_7_code 50 = .ok (.if_icmp .eq 9, 3) := by decide +kernel
theorem d_He_hearAll_53 : decode prog_7_method_7_code 53 = .ok (.aload_n 0, 1) := by decide +kernel
theorem d_He_hearAll_54 : decode prog_7_method_7_code 54 = .ok (.aload_n 3, 1) := by decide +kernel
theorem d_He_hearAll_55 : decode prog_7_method_7_code 55 = .ok (.aload_n 1, 1) := by decide +kernel
theorem d_He_hearAll_56 : decode prog_7_method_7_code 56 = .ok (.invokevirtual 89, 3) := by decide +kernel
theorem d_He_hearAll_59 : decode prog_7_method_7_code 59 = .ok (.iinc 2 1, 3) := by decide +kernel
theorem d_He_hearAll_62 : decode prog_7_method_7_code 62 = .ok (.goto (-48), 3) := by decide +kernel
theorem d_He_hearAll_65 : decode prog_7_method_7_code 65 = .ok (.aload_n 0, 1) := by decide +kernel
theorem d_He_hearAll_66 : decode prog_7_method_7_code 66 = .ok (.getfield 24, 3) := by decide +kernel
theorem d_He_hearAll_69 : decode prog_7_method_7_code 69 = .ok (.iconst 0, 1) := by decide +kernel
theorem d_He_hearAll_70 : decode prog_7_method_7_code 70 = .ok (.aload_n 1, 1) := by decide +kernel
theorem d_He_hearAll_71 : decode prog_7_method_7_code 71 = .ok (.iconst 0, 1) := by decide +kernel
theorem d_He_hearAll_72 : decode prog_7_method_7_code 72 = .ok (.bipush 24, 2) := by decide +kernel
theorem d_He_hearAll_74 : decode prog_7_method_7_code 74 = .ok (.invokestatic 71, 3) := by decide +kernel
theorem d_He_hearAll_77 : decode prog_7_method_7_code 77 = .ok (.return_, 1) := by decide +kernel
set_option maxHeartbeats 2000000 in
theorem He_hearAll_L14_g {κ : tv_Kt} (hC : tv_Cx κ "TiedViews$Hearsay" prog_7_method_7_code 4 3) (hR : tv_Re κ none) (F : Nat) : ∀ (n : Nat) (l1 : Nat) (l2 : Int32) (M : tv_M), tv_G κ 4 (tv_Qm κ tv_ev) 14 [some (.ref (κ.b + 193)), some (.ref (κ.b + l1)), some (.int l2), none] [] M (He_hearAll_L14 F n l1 l2 M) := by
  intro n
  induction n with
  | zero => intro _ _ _; exact g_none
  | succ nn ih =>
    intro l1 l2 M
    rw [He_hearAll_L14]
    refine g_gn (fun n5 h4 => ?_)
    refine g_iload_n hC d_He_hearAll_14 rfl ?_
    refine g_aload_n hC d_He_hearAll_15 rfl ?_
    refine fg_He_34 hC lc_193 d_He_hearAll_16 p0_193_0 ?_
    refine fg_He_77 hC lc_18 d_He_hearAll_19 ?_
    refine g_icmp_ge (tgt := 65) hC d_He_hearAll_22 (by decide) (fun _ => ?_) (fun _ => ?_)
    · refine g_aload_n hC d_He_hearAll_65 rfl ?_
      refine fg_He_24 hC lc_193 d_He_hearAll_66 p0_193_6 ?_
      refine g_iconst hC d_He_hearAll_69 k_i0 ?_
      refine g_aload_n hC d_He_hearAll_70 rfl ?_
      refine g_iconst hC d_He_hearAll_71 k_i0 ?_
      refine g_bipush hC d_He_hearAll_72 k_b24 ?_
      refine gv_copy hC ly_198 h4 wc_He_71 rfl rfl d_He_hearAll_74 (fun M6 => ?_)
      exact g_vret hC hR d_He_hearAll_77
    · refine g_aload_n hC d_He_hearAll_25 rfl ?_
      refine fg_He_34 hC lc_193 d_He_hearAll_26 p0_193_0 ?_
      refine fg_He_80 hC lc_18 d_He_hearAll_29 p0_18_1 ?_
      refine g_iload_n hC d_He_hearAll_32 rfl ?_
      refine gv_aald hC 1 ly_19 rfl d_He_hearAll_33 (fun p7 => ?_)
      refine g_gl (fun h8 => ?_)
      refine g_astore_n (ls' := [some (.ref (κ.b + 193)), some (.ref (κ.b + l1)), some (.int l2), some (.ref (κ.b + p7))]) hC d_He_hearAll_34 rfl rfl ?_
      refine g_aload_n hC d_He_hearAll_35 rfl ?_
      refine fg_He_15 hC lc_193 d_He_hearAll_36 p0_193_2 ?_
      refine g_iload_n hC d_He_hearAll_39 rfl ?_
      refine gv_iald hC ly_195 d_He_hearAll_40 (fun x9 => ?_)
      refine g_iconst hC d_He_hearAll_41 k_im1 ?_
      refine g_icmp_eq (tgt := 59) hC d_He_hearAll_42 (by decide) (fun _ => ?_) (fun _ => ?_)
      · refine g_iinc (ls' := [some (.ref (κ.b + 193)), some (.ref (κ.b + l1)), some (.int (l2 + 1)), some (.ref (κ.b + p7))]) hC d_He_hearAll_59 rfl k_i1 rfl rfl ?_
        refine g_goto (tgt := 14) hC d_He_hearAll_62 (by decide) ?_
        refine g_mask [true, true, true, false] (ls' := [some (.ref (κ.b + 193)), some (.ref (κ.b + l1)), some (.int (l2 + 1)), none]) rfl ?_
        exact ih l1 (l2 + 1) M
      · refine g_aload_n hC d_He_hearAll_45 rfl ?_
        refine fg_He_84 hC h8 d_He_hearAll_46 ?_
        refine g_iconst hC d_He_hearAll_49 k_i2 ?_
        refine g_icmp_eq (tgt := 59) hC d_He_hearAll_50 (by decide) (fun _ => ?_) (fun _ => ?_)
        · refine g_iinc (ls' := [some (.ref (κ.b + 193)), some (.ref (κ.b + l1)), some (.int (l2 + 1)), some (.ref (κ.b + p7))]) hC d_He_hearAll_59 rfl k_i1 rfl rfl ?_
          refine g_goto (tgt := 14) hC d_He_hearAll_62 (by decide) ?_
          refine g_mask [true, true, true, false] (ls' := [some (.ref (κ.b + 193)), some (.ref (κ.b + l1)), some (.int (l2 + 1)), none]) rfl ?_
          exact ih l1 (l2 + 1) M
        · refine g_aload_n hC d_He_hearAll_53 rfl ?_
          refine g_aload_n hC d_He_hearAll_54 rfl ?_
          refine g_aload_n hC d_He_hearAll_55 rfl ?_
          refine gv_callVv hC [.ref (κ.b + p7), .ref (κ.b + l1)] cw_He_89 (He_hearOne_c F p7 l1 M) lc_193 rfl rfl rfl rfl rfl rfl rfl d_He_hearAll_56 (fun r10 M11 => ?_)
          refine g_iinc (ls' := [some (.ref (κ.b + 193)), some (.ref (κ.b + l1)), some (.int (l2 + 1)), some (.ref (κ.b + p7))]) hC d_He_hearAll_59 rfl k_i1 rfl rfl ?_
          refine g_goto (tgt := 14) hC d_He_hearAll_62 (by decide) ?_
          refine g_mask [true, true, true, false] (ls' := [some (.ref (κ.b + 193)), some (.ref (κ.b + l1)), some (.int (l2 + 1)), none]) rfl ?_
          exact ih l1 (l2 + 1) M11
set_option maxHeartbeats 2000000 in
theorem He_hearAll_c {l : Launch} {θ : tv_Th} (F : Nat) (a1 : Nat) (M : tv_M) : tv_Ct l θ ⟨"TiedViews$Hearsay", "hearAll", "([I)V"⟩ prog_7_method_7_code 4 none 3 tv_ev [.ref (θ.1 + 193), .ref (θ.1 + a1)] M (He_hearAll F a1 M) := by
  refine tv_ofG [some (.ref (θ.1 + 193)), some (.ref (θ.1 + a1)), none, none] rfl rfl (tv_ent 2 rfl) ?_
  intro κ hl ht hC hR
  subst hl; subst ht
  unfold He_hearAll
  refine g_gn (fun n2 h1 => ?_)
  refine g_aload_n hC d_He_hearAll_0 rfl ?_
  refine g_iconst hC d_He_hearAll_1 k_i0 ?_
  refine g_aload_n hC d_He_hearAll_2 rfl ?_
  refine fg_He_24 hC lc_193 d_He_hearAll_3 p0_193_6 ?_
  refine g_iconst hC d_He_hearAll_6 k_i0 ?_
  refine g_bipush hC d_He_hearAll_7 k_b24 ?_
  refine gv_copy hC h1 ly_198 wc_He_71 rfl rfl d_He_hearAll_9 (fun M3 => ?_)
  refine g_iconst hC d_He_hearAll_12 k_i0 ?_
  refine g_istore_n (ls' := [some (.ref (κ.b + 193)), some (.ref (κ.b + a1)), some (.int 0), none]) hC d_He_hearAll_13 rfl rfl ?_
  exact He_hearAll_L14_g hC hR F F a1 0 M3
theorem d_He_goOn_0 : decode prog_7_method_6_code 0 = .ok (.iconst 0, 1) := by decide +kernel
theorem d_He_goOn_1 : decode prog_7_method_6_code 1 = .ok (.istore_n 2, 1) := by decide +kernel
theorem d_He_goOn_2 : decode prog_7_method_6_code 2 = .ok (.iload_n 2, 1) := by decide +kernel
theorem d_He_goOn_3 : decode prog_7_method_6_code 3 = .ok (.iload_n 1, 1) := by decide +kernel
theorem d_He_goOn_4 : decode prog_7_method_6_code 4 = .ok (.if_icmp .ge 17, 3) := by decide +kernel
theorem d_He_goOn_7 : decode prog_7_method_6_code 7 = .ok (.aload_n 0, 1) := by decide +kernel
theorem d_He_goOn_8 : decode prog_7_method_6_code 8 = .ok (.aload_n 0, 1) := by decide +kernel
theorem d_He_goOn_9 : decode prog_7_method_6_code 9 = .ok (.getfield 18, 3) := by decide +kernel
theorem d_He_goOn_12 : decode prog_7_method_6_code 12 = .ok (.invokevirtual 64, 3) := by decide +kernel
theorem d_He_goOn_15 : decode prog_7_method_6_code 15 = .ok (.iinc 2 1, 3) := by decide +kernel
theorem d_He_goOn_18 : decode prog_7_method_6_code 18 = .ok (.goto (-16), 3) := by decide +kernel
theorem d_He_goOn_21 : decode prog_7_method_6_code 21 = .ok (.aload_n 0, 1) := by decide +kernel
theorem d_He_goOn_22 : decode prog_7_method_6_code 22 = .ok (.iconst 0, 1) := by decide +kernel
theorem d_He_goOn_23 : decode prog_7_method_6_code 23 = .ok (.putfield 53, 3) := by decide +kernel
theorem d_He_goOn_26 : decode prog_7_method_6_code 26 = .ok (.iconst 0, 1) := by decide +kernel
theorem d_He_goOn_27 : decode prog_7_method_6_code 27 = .ok (.istore_n 2, 1) := by decide +kernel
theorem d_He_goOn_28 : decode prog_7_method_6_code 28 = .ok (.iconst 0, 1) := by decide +kernel
theorem d_He_goOn_29 : decode prog_7_method_6_code 29 = .ok (.istore_n 3, 1) := by decide +kernel
theorem d_He_goOn_30 : decode prog_7_method_6_code 30 = .ok (.iload_n 3, 1) := by decide +kernel
theorem d_He_goOn_31 : decode prog_7_method_6_code 31 = .ok (.aload_n 0, 1) := by decide +kernel
theorem d_He_goOn_32 : decode prog_7_method_6_code 32 = .ok (.getfield 34, 3) := by decide +kernel
theorem d_He_goOn_35 : decode prog_7_method_6_code 35 = .ok (.getfield 68, 3) := by decide +kernel
theorem d_He_goOn_38 : decode prog_7_method_6_code 38 = .ok (.if_icmp .ge 21, 3) := by decide +kernel
theorem d_He_goOn_41 : decode prog_7_method_6_code 41 = .ok (.aload_n 0, 1) := by decide +kernel
theorem d_He_goOn_42 : decode prog_7_method_6_code 42 = .ok (.getfield 18, 3) := by decide +kernel
theorem d_He_goOn_45 : decode prog_7_method_6_code 45 = .ok (.iload_n 3, 1) := by decide +kernel
theorem d_He_goOn_46 : decode prog_7_method_6_code 46 = .ok (.iaload, 1) := by decide +kernel
theorem d_He_goOn_47 : decode prog_7_method_6_code 47 = .ok (.ifCond .eq 6, 3) := by decide +kernel
theorem d_He_goOn_50 : decode prog_7_method_6_code 50 = .ok (.iinc 2 1, 3) := by decide +kernel
theorem d_He_goOn_53 : decode prog_7_method_6_code 53 = .ok (.iinc 3 1, 3) := by decide +kernel
theorem d_He_goOn_56 : decode prog_7_method_6_code 56 = .ok (.goto (-26), 3) := by decide +kernel
theorem d_He_goOn_59 : decode prog_7_method_6_code 59 = .ok (.iload_n 2, 1) := by decide +kernel
theorem d_He_goOn_60 : decode prog_7_method_6_code 60 = .ok (.ireturn, 1) := by decide +kernel
set_option maxHeartbeats 2000000 in
theorem He_goOn_L30_g {κ : tv_Kt} (hC : tv_Cx κ "TiedViews$Hearsay" prog_7_method_6_code 4 4) (hR : tv_Re κ (some .int)) (F : Nat) : ∀ (n : Nat) (l2 : Int32) (l3 : Int32) (M : tv_M), tv_G κ 4 (tv_Qm κ tv_ei) 30 [some (.ref (κ.b + 193)), none, some (.int l2), some (.int l3)] [] M (He_goOn_L30 F n l2 l3 M) := by
  intro n
  induction n with
  | zero => intro _ _ _; exact g_none
  | succ nn ih =>
    intro l2 l3 M
    rw [He_goOn_L30]
    refine g_iload_n hC d_He_goOn_30 rfl ?_
    refine g_aload_n hC d_He_goOn_31 rfl ?_
    refine fg_He_34 hC lc_193 d_He_goOn_32 p0_193_0 ?_
    refine fg_He_68 hC lc_18 d_He_goOn_35 ?_
    refine g_icmp_ge (tgt := 59) hC d_He_goOn_38 (by decide) (fun _ => ?_) (fun _ => ?_)
    · refine g_iload_n hC d_He_goOn_59 rfl ?_
      exact g_iret hC hR d_He_goOn_60
    · refine g_aload_n hC d_He_goOn_41 rfl ?_
      refine fg_He_18 hC lc_193 d_He_goOn_42 p0_193_4 ?_
      refine g_iload_n hC d_He_goOn_45 rfl ?_
      refine gv_iald hC ly_196 d_He_goOn_46 (fun x4 => ?_)
      refine g_if_eq (tgt := 53) hC d_He_goOn_47 (by decide) (fun _ => ?_) (fun _ => ?_)
      · refine g_iinc (ls' := [some (.ref (κ.b + 193)), none, some (.int l2), some (.int (l3 + 1))]) hC d_He_goOn_53 rfl k_i1 rfl rfl ?_
        refine g_goto (tgt := 30) hC d_He_goOn_56 (by decide) ?_
        exact ih l2 (l3 + 1) M
      · refine g_iinc (ls' := [some (.ref (κ.b + 193)), none, some (.int (l2 + 1)), some (.int l3)]) hC d_He_goOn_50 rfl k_i1 rfl rfl ?_
        refine g_iinc (ls' := [some (.ref (κ.b + 193)), none, some (.int (l2 + 1)), some (.int (l3 + 1))]) hC d_He_goOn_53 rfl k_i1 rfl rfl ?_
        refine g_goto (tgt := 30) hC d_He_goOn_56 (by decide) ?_
        exact ih (l2 + 1) (l3 + 1) M
set_option maxHeartbeats 2000000 in
theorem He_goOn_L2_g {κ : tv_Kt} (hC : tv_Cx κ "TiedViews$Hearsay" prog_7_method_6_code 4 4) (hR : tv_Re κ (some .int)) (F : Nat) : ∀ (n : Nat) (l1 : Int32) (l2 : Int32) (M : tv_M), tv_G κ 4 (tv_Qm κ tv_ei) 2 [some (.ref (κ.b + 193)), some (.int l1), some (.int l2), none] [] M (He_goOn_L2 F n l1 l2 M) := by
  intro n
  induction n with
  | zero => intro _ _ _; exact g_none
  | succ nn ih =>
    intro l1 l2 M
    rw [He_goOn_L2]
    refine g_iload_n hC d_He_goOn_2 rfl ?_
    refine g_iload_n hC d_He_goOn_3 rfl ?_
    refine g_icmp_ge (tgt := 21) hC d_He_goOn_4 (by decide) (fun _ => ?_) (fun _ => ?_)
    · refine g_aload_n hC d_He_goOn_21 rfl ?_
      refine g_iconst hC d_He_goOn_22 k_i0 ?_
      refine fp_He_53 hC lc_193 tv_z0 d_He_goOn_23 (fun M1 => ?_)
      refine g_iconst hC d_He_goOn_26 k_i0 ?_
      refine g_istore_n (ls' := [some (.ref (κ.b + 193)), some (.int l1), some (.int 0), none]) hC d_He_goOn_27 rfl rfl ?_
      refine g_iconst hC d_He_goOn_28 k_i0 ?_
      refine g_istore_n (ls' := [some (.ref (κ.b + 193)), some (.int l1), some (.int 0), some (.int 0)]) hC d_He_goOn_29 rfl rfl ?_
      refine g_mask [true, false, true, true] (ls' := [some (.ref (κ.b + 193)), none, some (.int 0), some (.int 0)]) rfl ?_
      exact He_goOn_L30_g hC hR F F 0 0 M1
    · refine g_aload_n hC d_He_goOn_7 rfl ?_
      refine g_aload_n hC d_He_goOn_8 rfl ?_
      refine fg_He_18 hC lc_193 d_He_goOn_9 p0_193_4 ?_
      refine gv_callVv hC [.ref (κ.b + 196)] cw_He_64 (He_hearAll_c F 196 M) lc_193 rfl rfl rfl rfl rfl rfl rfl d_He_goOn_12 (fun r2 M3 => ?_)
      refine g_iinc (ls' := [some (.ref (κ.b + 193)), some (.int l1), some (.int (l2 + 1)), none]) hC d_He_goOn_15 rfl k_i1 rfl rfl ?_
      refine g_goto (tgt := 2) hC d_He_goOn_18 (by decide) ?_
      exact ih l1 (l2 + 1) M3
set_option maxHeartbeats 2000000 in
theorem He_goOn_c {l : Launch} {θ : tv_Th} (F : Nat) (a1 : Int32) (M : tv_M) : tv_Ct l θ ⟨"TiedViews$Hearsay", "goOn", "(I)I"⟩ prog_7_method_6_code 4 (some .int) 4 tv_ei [.ref (θ.1 + 193), .int a1] M (He_goOn F a1 M) := by
  refine tv_ofG [some (.ref (θ.1 + 193)), some (.int a1), none, none] rfl rfl (tv_ent 2 rfl) ?_
  intro κ hl ht hC hR
  subst hl; subst ht
  unfold He_goOn
  refine g_iconst hC d_He_goOn_0 k_i0 ?_
  refine g_istore_n (ls' := [some (.ref (κ.b + 193)), some (.int a1), some (.int 0), none]) hC d_He_goOn_1 rfl rfl ?_
  exact He_goOn_L2_g hC hR F F a1 0 M
theorem d_Xx_tick_0 : decode prog_1_method_21_code 0 = .ok (.iload_n 1, 1) := by decide +kernel
theorem d_Xx_tick_1 : decode prog_1_method_21_code 1 = .ok (.iconst 1, 1) := by decide +kernel
theorem d_Xx_tick_2 : decode prog_1_method_21_code 2 = .ok (.if_icmp .lt 9, 3) := by decide +kernel
theorem d_Xx_tick_5 : decode prog_1_method_21_code 5 = .ok (.iload_n 1, 1) := by decide +kernel
theorem d_Xx_tick_6 : decode prog_1_method_21_code 6 = .ok (.bipush 100, 2) := by decide +kernel
theorem d_Xx_tick_8 : decode prog_1_method_21_code 8 = .ok (.if_icmp .le 6, 3) := by decide +kernel
theorem d_Xx_tick_11 : decode prog_1_method_21_code 11 = .ok (.ldc 83, 2) := by decide +kernel
theorem d_Xx_tick_13 : decode prog_1_method_21_code 13 = .ok (.ireturn, 1) := by decide +kernel
theorem d_Xx_tick_14 : decode prog_1_method_21_code 14 = .ok (.aload_n 0, 1) := by decide +kernel
theorem d_Xx_tick_15 : decode prog_1_method_21_code 15 = .ok (.getfield 61, 3) := by decide +kernel
theorem d_Xx_tick_18 : decode prog_1_method_21_code 18 = .ok (.iload_n 1, 1) := by decide +kernel
theorem d_Xx_tick_19 : decode prog_1_method_21_code 19 = .ok (.invokevirtual 256, 3) := by decide +kernel
theorem d_Xx_tick_22 : decode prog_1_method_21_code 22 = .ok (.ireturn, 1) := by decide +kernel
set_option maxHeartbeats 2000000 in
theorem Xx_tick_c {l : Launch} {θ : tv_Th} (F : Nat) (a1 : Int32) (M : tv_M) : tv_Ct l θ ⟨"TiedViews", "tick", "(I)I"⟩ prog_1_method_21_code 2 (some .int) 5 tv_ei [.ref (θ.1 + 0), .int a1] M (Xx_tick F a1 M) := by
  refine tv_ofG [some (.ref (θ.1 + 0)), some (.int a1)] rfl rfl (tv_ent 0 rfl) ?_
  intro κ hl ht hC hR
  subst hl; subst ht
  unfold Xx_tick
  refine g_iload_n hC d_Xx_tick_0 rfl ?_
  refine g_iconst hC d_Xx_tick_1 k_i1 ?_
  refine g_icmp_lt (tgt := 11) hC d_Xx_tick_2 (by decide) (fun _ => ?_) (fun _ => ?_)
  · refine g_ldc hC d_Xx_tick_11 wk_Xx_83 ?_
    exact g_iret hC hR d_Xx_tick_13
  · refine g_iload_n hC d_Xx_tick_5 rfl ?_
    refine g_bipush hC d_Xx_tick_6 k_b100 ?_
    refine g_icmp_le (tgt := 14) hC d_Xx_tick_8 (by decide) (fun _ => ?_) (fun _ => ?_)
    · refine g_aload_n hC d_Xx_tick_14 rfl ?_
      refine fg_Xx_61 hC lc_0 d_Xx_tick_15 p0_0_6 ?_
      refine g_iload_n hC d_Xx_tick_18 rfl ?_
      refine gv_callVi hC [.int a1] cw_Xx_256 (He_goOn_c F a1 M) lc_193 rfl rfl rfl rfl rfl rfl rfl d_Xx_tick_19 (fun r1 M2 => ?_)
      exact g_iret hC hR d_Xx_tick_22
    · refine g_ldc hC d_Xx_tick_11 wk_Xx_83 ?_
      exact g_iret hC hR d_Xx_tick_13
theorem d_He_numberAt_0 : decode prog_7_method_5_code 0 = .ok (.aload_n 0, 1) := by decide +kernel
theorem d_He_numberAt_1 : decode prog_7_method_5_code 1 = .ok (.getfield 34, 3) := by decide +kernel
theorem d_He_numberAt_4 : decode prog_7_method_5_code 4 = .ok (.iload_n 1, 1) := by decide +kernel
theorem d_He_numberAt_5 : decode prog_7_method_5_code 5 = .ok (.invokevirtual 57, 3) := by decide +kernel
theorem d_He_numberAt_8 : decode prog_7_method_5_code 8 = .ok (.ifCond .eq 12, 3) := by decide +kernel
theorem d_He_numberAt_11 : decode prog_7_method_5_code 11 = .ok (.aload_n 0, 1) := by decide +kernel
theorem d_He_numberAt_12 : decode prog_7_method_5_code 12 = .ok (.getfield 18, 3) := by decide +kernel
theorem d_He_numberAt_15 : decode prog_7_method_5_code 15 = .ok (.iload_n 1, 1) := by decide +kernel
theorem d_He_numberAt_16 : decode prog_7_method_5_code 16 = .ok (.iaload, 1) := by decide +kernel
theorem d_He_numberAt_17 : decode prog_7_method_5_code 17 = .ok (.goto 5, 3) := by decide +kernel
theorem d_He_numberAt_20 : decode prog_7_method_5_code 20 = .ok (.ldc 63, 2) := by decide +kernel
theorem d_He_numberAt_22 : decode prog_7_method_5_code 22 = .ok (.ireturn, 1) := by decide +kernel
set_option maxHeartbeats 2000000 in
theorem He_numberAt_c {l : Launch} {θ : tv_Th} (F : Nat) (a1 : Int32) (M : tv_M) : tv_Ct l θ ⟨"TiedViews$Hearsay", "numberAt", "(I)I"⟩ prog_7_method_5_code 2 (some .int) 1 tv_ei [.ref (θ.1 + 193), .int a1] M (He_numberAt F a1 M) := by
  refine tv_ofG [some (.ref (θ.1 + 193)), some (.int a1)] rfl rfl (tv_ent 0 rfl) ?_
  intro κ hl ht hC hR
  subst hl; subst ht
  unfold He_numberAt
  refine g_aload_n hC d_He_numberAt_0 rfl ?_
  refine fg_He_34 hC lc_193 d_He_numberAt_1 p0_193_0 ?_
  refine g_iload_n hC d_He_numberAt_4 rfl ?_
  refine gv_callVi hC [.int a1] cw_He_57 (To_isColumn_c F a1 M) lc_18 rfl rfl rfl rfl rfl rfl rfl d_He_numberAt_5 (fun r1 M2 => ?_)
  refine g_if_eq (tgt := 20) hC d_He_numberAt_8 (by decide) (fun _ => ?_) (fun _ => ?_)
  · refine g_ldc hC d_He_numberAt_20 wk_He_63 ?_
    exact g_iret hC hR d_He_numberAt_22
  · refine g_aload_n hC d_He_numberAt_11 rfl ?_
    refine fg_He_18 hC lc_193 d_He_numberAt_12 p0_193_4 ?_
    refine g_iload_n hC d_He_numberAt_15 rfl ?_
    refine gv_iald hC ly_196 d_He_numberAt_16 (fun x3 => ?_)
    refine g_goto (tgt := 22) hC d_He_numberAt_17 (by decide) ?_
    exact g_iret hC hR d_He_numberAt_22
theorem d_Xx_says_0 : decode prog_1_method_22_code 0 = .ok (.aload_n 0, 1) := by decide +kernel
theorem d_Xx_says_1 : decode prog_1_method_22_code 1 = .ok (.getfield 29, 3) := by decide +kernel
theorem d_Xx_says_4 : decode prog_1_method_22_code 4 = .ok (.iload_n 1, 1) := by decide +kernel
theorem d_Xx_says_5 : decode prog_1_method_22_code 5 = .ok (.invokevirtual 198, 3) := by decide +kernel
theorem d_Xx_says_8 : decode prog_1_method_22_code 8 = .ok (.astore_n 3, 1) := by decide +kernel
theorem d_Xx_says_9 : decode prog_1_method_22_code 9 = .ok (.aload_n 3, 1) := by decide +kernel
theorem d_Xx_says_10 : decode prog_1_method_22_code 10 = .ok (.ifnull 15, 3) := by decide +kernel
theorem d_Xx_says_13 : decode prog_1_method_22_code 13 = .ok (.iload_n 2, 1) := by decide +kernel
theorem d_Xx_says_14 : decode prog_1_method_22_code 14 = .ok (.ifCond .lt 11, 3) := by decide +kernel
theorem d_Xx_says_17 : decode prog_1_method_22_code 17 = .ok (.iload_n 2, 1) := by decide +kernel
theorem d_Xx_says_18 : decode prog_1_method_22_code 18 = .ok (.aload_n 3, 1) := by decide +kernel
theorem d_Xx_says_19 : decode prog_1_method_22_code 19 = .ok (.getfield 160, 3) := by decide +kernel
theorem d_Xx_says_22 : decode prog_1_method_22_code 22 = .ok (.if_icmp .lt 6, 3) := by decide +kernel
theorem d_Xx_says_25 : decode prog_1_method_22_code 25 = .ok (.ldc 83, 2) := by decide +kernel
theorem d_Xx_says_27 : decode prog_1_method_22_code 27 = .ok (.ireturn, 1) := by decide +kernel
theorem d_Xx_says_28 : decode prog_1_method_22_code 28 = .ok (.aload_n 0, 1) := by decide +kernel
theorem d_Xx_says_29 : decode prog_1_method_22_code 29 = .ok (.getfield 61, 3) := by decide +kernel
theorem d_Xx_says_32 : decode prog_1_method_22_code 32 = .ok (.aload_n 3, 1) := by decide +kernel
theorem d_Xx_says_33 : decode prog_1_method_22_code 33 = .ok (.getfield 167, 3) := by decide +kernel
theorem d_Xx_says_36 : decode prog_1_method_22_code 36 = .ok (.iload_n 2, 1) := by decide +kernel
theorem d_Xx_says_37 : decode prog_1_method_22_code 37 = .ok (.iadd, 1) := by decide +kernel
theorem d_Xx_says_38 : decode prog_1_method_22_code 38 = .ok (.invokevirtual 259, 3) := by decide +kernel
theorem d_Xx_says_41 : decode prog_1_method_22_code 41 = .ok (.ireturn, 1) := by decide +kernel
set_option maxHeartbeats 2000000 in
theorem Xx_says_c {l : Launch} {θ : tv_Th} (F : Nat) (a1 : Int32) (a2 : Int32) (M : tv_M) : tv_Ct l θ ⟨"TiedViews", "says", "(II)I"⟩ prog_1_method_22_code 4 (some .int) 2 tv_ei [.ref (θ.1 + 0), .int a1, .int a2] M (Xx_says F a1 a2 M) := by
  refine tv_ofG [some (.ref (θ.1 + 0)), some (.int a1), some (.int a2), none] rfl rfl (tv_ent 1 rfl) ?_
  intro κ hl ht hC hR
  subst hl; subst ht
  unfold Xx_says
  refine g_aload_n hC d_Xx_says_0 rfl ?_
  refine fg_Xx_29 hC lc_0 d_Xx_says_1 p0_0_2 ?_
  refine g_iload_n hC d_Xx_says_4 rfl ?_
  refine gv_callVr hC [.int a1] cw_Xx_198 (To_linearAt_c F a1 M) lc_18 rfl rfl rfl rfl rfl rfl rfl d_Xx_says_5 (fun r1 M2 => ?_)
  refine g_astore_nQ (ls' := [some (.ref (κ.b + 0)), some (.int a1), some (.int a2), some (tv_re κ.b r1)]) hC d_Xx_says_8 rfl rfl ?_
  refine g_aload_nQ hC d_Xx_says_9 rfl ?_
  rcases r1 with _ | p3
  · refine g_nlN ?_
    refine g_ifnullN (tgt := 25) hC d_Xx_says_10 (by decide) ?_
    refine g_ldc hC d_Xx_says_25 wk_Xx_83 ?_
    exact g_iret hC hR d_Xx_says_27
  · refine g_nlS ?_
    refine g_ifnullR hC d_Xx_says_10 ?_
    refine g_gl (fun h4 => ?_)
    refine g_iload_n hC d_Xx_says_13 rfl ?_
    refine g_if_lt (tgt := 25) hC d_Xx_says_14 (by decide) (fun _ => ?_) (fun _ => ?_)
    · refine g_ldc hC d_Xx_says_25 wk_Xx_83 ?_
      exact g_iret hC hR d_Xx_says_27
    · refine g_iload_n hC d_Xx_says_17 rfl ?_
      refine g_aload_n hC d_Xx_says_18 rfl ?_
      refine fg_Xx_160 hC h4 d_Xx_says_19 ?_
      refine g_icmp_lt (tgt := 28) hC d_Xx_says_22 (by decide) (fun _ => ?_) (fun _ => ?_)
      · refine g_aload_n hC d_Xx_says_28 rfl ?_
        refine fg_Xx_61 hC lc_0 d_Xx_says_29 p0_0_6 ?_
        refine g_aload_n hC d_Xx_says_32 rfl ?_
        refine fg_Xx_167 hC h4 d_Xx_says_33 ?_
        refine g_iload_n hC d_Xx_says_36 rfl ?_
        refine g_iadd hC d_Xx_says_37 ?_
        refine gv_callVi hC [.int ((M2.1 p3 3) + a2)] cw_Xx_259 (He_numberAt_c F ((M2.1 p3 3) + a2) M2) lc_193 rfl rfl rfl rfl rfl rfl rfl d_Xx_says_38 (fun r5 M6 => ?_)
        exact g_iret hC hR d_Xx_says_41
      · refine g_ldc hC d_Xx_says_25 wk_Xx_83 ?_
        exact g_iret hC hR d_Xx_says_27
theorem d_He_packed_0 : decode prog_7_method_12_code 0 = .ok (.lconst 0, 1) := by decide +kernel
theorem d_He_packed_1 : decode prog_7_method_12_code 1 = .ok (.lstore_n 2, 1) := by decide +kernel
theorem d_He_packed_2 : decode prog_7_method_12_code 2 = .ok (.iload_n 1, 1) := by decide +kernel
theorem d_He_packed_3 : decode prog_7_method_12_code 3 = .ok (.istore 4, 2) := by decide +kernel
theorem d_He_packed_5 : decode prog_7_method_12_code 5 = .ok (.iload 4, 2) := by decide +kernel
theorem d_He_packed_7 : decode prog_7_method_12_code 7 = .ok (.iload_n 1, 1) := by decide +kernel
theorem d_He_packed_8 : decode prog_7_method_12_code 8 = .ok (.bipush 12, 2) := by decide +kernel
theorem d_He_packed_10 : decode prog_7_method_12_code 10 = .ok (.iadd, 1) := by decide +kernel
theorem d_He_packed_11 : decode prog_7_method_12_code 11 = .ok (.if_icmp .ge 22, 3) := by decide +kernel
theorem d_He_packed_14 : decode prog_7_method_12_code 14 = .ok (.lload_n 2, 1) := by decide +kernel
theorem d_He_packed_15 : decode prog_7_method_12_code 15 = .ok (.iconst 3, 1) := by decide +kernel
theorem d_He_packed_16 : decode prog_7_method_12_code 16 = .ok (.lshl, 1) := by decide +kernel
theorem d_He_packed_17 : decode prog_7_method_12_code 17 = .ok (.aload_n 0, 1) := by decide +kernel
theorem d_He_packed_18 : decode prog_7_method_12_code 18 = .ok (.getfield 21, 3) := by decide +kernel
theorem d_He_packed_21 : decode prog_7_method_12_code 21 = .ok (.iload 4, 2) := by decide +kernel
theorem d_He_packed_23 : decode prog_7_method_12_code 23 = .ok (.iaload, 1) := by decide +kernel
theorem d_He_packed_24 : decode prog_7_method_12_code 24 = .ok (.i2l, 1) := by decide +kernel
theorem d_He_packed_25 : decode prog_7_method_12_code 25 = .ok (.lor, 1) := by decide +kernel
theorem d_He_packed_26 : decode prog_7_method_12_code 26 = .ok (.lstore_n 2, 1) := by decide +kernel
theorem d_He_packed_27 : decode prog_7_method_12_code 27 = .ok (.iinc 4 1, 3) := by decide +kernel
theorem d_He_packed_30 : decode prog_7_method_12_code 30 = .ok (.goto (-25), 3) := by decide +kernel
theorem d_He_packed_33 : decode prog_7_method_12_code 33 = .ok (.lload_n 2, 1) := by decide +kernel
theorem d_He_packed_34 : decode prog_7_method_12_code 34 = .ok (.lreturn, 1) := by decide +kernel
set_option maxHeartbeats 2000000 in
theorem He_packed_L5_g {κ : tv_Kt} (hC : tv_Cx κ "TiedViews$Hearsay" prog_7_method_12_code 5 0) (hR : tv_Re κ (some .long)) (F : Nat) : ∀ (n : Nat) (l1 : Int32) (l2 : Int64) (l4 : Int32) (M : tv_M), tv_G κ 5 (tv_Qm κ tv_el) 5 [some (.ref (κ.b + 193)), some (.int l1), some (.long l2), none, some (.int l4)] [] M (He_packed_L5 F n l1 l2 l4 M) := by
  intro n
  induction n with
  | zero => intro _ _ _ _; exact g_none
  | succ nn ih =>
    intro l1 l2 l4 M
    rw [He_packed_L5]
    refine g_iload hC d_He_packed_5 rfl ?_
    refine g_iload_n hC d_He_packed_7 rfl ?_
    refine g_bipush hC d_He_packed_8 k_b12 ?_
    refine g_iadd hC d_He_packed_10 ?_
    refine g_icmp_ge (tgt := 33) hC d_He_packed_11 (by decide) (fun _ => ?_) (fun _ => ?_)
    · refine g_lload_n hC d_He_packed_33 rfl ?_
      exact g_lret hC hR d_He_packed_34
    · refine g_lload_n hC d_He_packed_14 rfl ?_
      refine g_iconst hC d_He_packed_15 k_i3 ?_
      refine g_lshl hC d_He_packed_16 ?_
      refine g_aload_n hC d_He_packed_17 rfl ?_
      refine fg_He_21 hC lc_193 d_He_packed_18 p0_193_5 ?_
      refine g_iload hC d_He_packed_21 rfl ?_
      refine gv_iald hC ly_197 d_He_packed_23 (fun x1 => ?_)
      refine g_i2l hC d_He_packed_24 ?_
      refine g_lor hC d_He_packed_25 ?_
      refine g_lstore_n (ls' := [some (.ref (κ.b + 193)), some (.int l1), some (.long ((l2 <<< ((3 : Int32).toInt64 &&& 63)) ||| ((x1 : Int32).toInt64))), none, some (.int l4)]) hC d_He_packed_26 rfl rfl ?_
      refine g_iinc (ls' := [some (.ref (κ.b + 193)), some (.int l1), some (.long ((l2 <<< ((3 : Int32).toInt64 &&& 63)) ||| ((x1 : Int32).toInt64))), none, some (.int (l4 + 1))]) hC d_He_packed_27 rfl k_i1 rfl rfl ?_
      refine g_goto (tgt := 5) hC d_He_packed_30 (by decide) ?_
      exact ih l1 ((l2 <<< ((3 : Int32).toInt64 &&& 63)) ||| ((x1 : Int32).toInt64)) (l4 + 1) M
set_option maxHeartbeats 2000000 in
theorem He_packed_c {l : Launch} {θ : tv_Th} (F : Nat) (a1 : Int32) (M : tv_M) : tv_Ct l θ ⟨"TiedViews$Hearsay", "packed", "(I)J"⟩ prog_7_method_12_code 5 (some .long) 0 tv_el [.ref (θ.1 + 193), .int a1] M (He_packed F a1 M) := by
  refine tv_ofG [some (.ref (θ.1 + 193)), some (.int a1), none, none, none] rfl rfl (tv_ent 3 rfl) ?_
  intro κ hl ht hC hR
  subst hl; subst ht
  unfold He_packed
  refine g_lconst hC d_He_packed_0 k_l0 ?_
  refine g_lstore_n (ls' := [some (.ref (κ.b + 193)), some (.int a1), some (.long 0), none, none]) hC d_He_packed_1 rfl rfl ?_
  refine g_iload_n hC d_He_packed_2 rfl ?_
  refine g_istore (ls' := [some (.ref (κ.b + 193)), some (.int a1), some (.long 0), none, some (.int a1)]) hC d_He_packed_3 rfl rfl ?_
  exact He_packed_L5_g hC hR F F a1 0 a1 M
theorem d_He_firstLike_0 : decode prog_7_method_11_code 0 = .ok (.aload_n 0, 1) := by decide +kernel
theorem d_He_firstLike_1 : decode prog_7_method_11_code 1 = .ok (.getfield 27, 3) := by decide +kernel
theorem d_He_firstLike_4 : decode prog_7_method_11_code 4 = .ok (.iload_n 1, 1) := by decide +kernel
theorem d_He_firstLike_5 : decode prog_7_method_11_code 5 = .ok (.laload, 1) := by decide +kernel
theorem d_He_firstLike_6 : decode prog_7_method_11_code 6 = .ok (.lstore_n 2, 1) := by decide +kernel
theorem d_He_firstLike_7 : decode prog_7_method_11_code 7 = .ok (.aload_n 0, 1) := by decide +kernel
theorem d_He_firstLike_8 : decode prog_7_method_11_code 8 = .ok (.getfield 31, 3) := by decide +kernel
theorem d_He_firstLike_11 : decode prog_7_method_11_code 11 = .ok (.iload_n 1, 1) := by decide +kernel
theorem d_He_firstLike_12 : decode prog_7_method_11_code 12 = .ok (.laload, 1) := by decide +kernel
theorem d_He_firstLike_13 : decode prog_7_method_11_code 13 = .ok (.lstore 4, 2) := by decide +kernel
theorem d_He_firstLike_15 : decode prog_7_method_11_code 15 = .ok (.iconst 0, 1) := by decide +kernel
theorem d_He_firstLike_16 : decode prog_7_method_11_code 16 = .ok (.istore 6, 2) := by decide +kernel
theorem d_He_firstLike_18 : decode prog_7_method_11_code 18 = .ok (.iload 6, 2) := by decide +kernel
theorem d_He_firstLike_20 : decode prog_7_method_11_code 20 = .ok (.iload_n 1, 1) := by decide +kernel
theorem d_He_firstLike_21 : decode prog_7_method_11_code 21 = .ok (.if_icmp .ge 37, 3) := by decide +kernel
theorem d_He_firstLike_24 : decode prog_7_method_11_code 24 = .ok (.aload_n 0, 1) := by decide +kernel
theorem d_He_firstLike_25 : decode prog_7_method_11_code 25 = .ok (.getfield 27, 3) := by decide +kernel
theorem d_He_firstLike_28 : decode prog_7_method_11_code 28 = .ok (.iload 6, 2) := by decide +kernel
theorem d_He_firstLike_30 : decode prog_7_method_11_code 30 = .ok (.laload, 1) := by decide +kernel
theorem d_He_firstLike_31 : decode prog_7_method_11_code 31 = .ok (.lload_n 2, 1) := by decide +kernel
theorem d_He_firstLike_32 : decode prog_7_method_11_code 32 = .ok (.lcmp, 1) := by decide +kernel
theorem d_He_firstLike_33 : decode prog_7_method_11_code 33 = .ok (.ifCond .ne 19, 3) := by decide +kernel
theorem d_He_firstLike_36 : decode prog_7_method_11_code 36 = .ok (.aload_n 0, 1) := by decide +kernel
theorem d_He_firstLike_37 : decode prog_7_method_11_code 37 = .ok (.getfield 31, 3) := by decide +kernel
theorem d_He_firstLike_40 : decode prog_7_method_11_code 40 = .ok (.iload 6, 2) := by decide +kernel
theorem d_He_firstLike_42 : decode prog_7_method_11_code 42 = .ok (.laload, 1) := by decide +kernel
theorem d_He_firstLike_43 : decode prog_7_method_11_code 43 = .ok (.lload 4, 2) := by decide +kernel
theorem d_He_firstLike_45 : decode prog_7_method_11_code 45 = .ok (.lcmp, 1) := by decide +kernel
theorem d_He_firstLike_46 : decode prog_7_method_11_code 46 = .ok (.ifCond .ne 6, 3) := by decide +kernel
theorem d_He_firstLike_49 : decode prog_7_method_11_code 49 = .ok (.iload 6, 2) := by decide +kernel
theorem d_He_firstLike_51 : decode prog_7_method_11_code 51 = .ok (.ireturn, 1) := by decide +kernel
theorem d_He_firstLike_52 : decode prog_7_method_11_code 52 = .ok (.iinc 6 1, 3) := by decide +kernel
theorem d_He_firstLike_55 : decode prog_7_method_11_code 55 = .ok (.goto (-37), 3) := by decide +kernel
theorem d_He_firstLike_58 : decode prog_7_method_11_code 58 = .ok (.iload_n 1, 1) := by decide +kernel
theorem d_He_firstLike_59 : decode prog_7_method_11_code 59 = .ok (.ireturn, 1) := by decide +kernel
set_option maxHeartbeats 2000000 in
theorem He_firstLike_L18_g {κ : tv_Kt} (hC : tv_Cx κ "TiedViews$Hearsay" prog_7_method_11_code 7 0) (hR : tv_Re κ (some .int)) (F : Nat) : ∀ (n : Nat) (l1 : Int32) (l2 : Int64) (l4 : Int64) (l6 : Int32) (M : tv_M), tv_G κ 7 (tv_Qm κ tv_ei) 18 [some (.ref (κ.b + 193)), some (.int l1), some (.long l2), none, some (.long l4), none, some (.int l6)] [] M (He_firstLike_L18 F n l1 l2 l4 l6 M) := by
  intro n
  induction n with
  | zero => intro _ _ _ _ _; exact g_none
  | succ nn ih =>
    intro l1 l2 l4 l6 M
    rw [He_firstLike_L18]
    refine g_iload hC d_He_firstLike_18 rfl ?_
    refine g_iload_n hC d_He_firstLike_20 rfl ?_
    refine g_icmp_ge (tgt := 58) hC d_He_firstLike_21 (by decide) (fun _ => ?_) (fun _ => ?_)
    · refine g_iload_n hC d_He_firstLike_58 rfl ?_
      exact g_iret hC hR d_He_firstLike_59
    · refine g_aload_n hC d_He_firstLike_24 rfl ?_
      refine fg_He_27 hC lc_193 d_He_firstLike_25 p0_193_7 ?_
      refine g_iload hC d_He_firstLike_28 rfl ?_
      refine gv_lald hC ly_199 d_He_firstLike_30 (fun x3 => ?_)
      refine g_lload_n hC d_He_firstLike_31 rfl ?_
      refine g_lcmp hC d_He_firstLike_32 ?_
      refine g_if_ne (tgt := 52) hC d_He_firstLike_33 (by decide) (fun _ => ?_) (fun _ => ?_)
      · refine g_iinc (ls' := [some (.ref (κ.b + 193)), some (.int l1), some (.long l2), none, some (.long l4), none, some (.int (l6 + 1))]) hC d_He_firstLike_52 rfl k_i1 rfl rfl ?_
        refine g_goto (tgt := 18) hC d_He_firstLike_55 (by decide) ?_
        exact ih l1 l2 l4 (l6 + 1) M
      · refine g_aload_n hC d_He_firstLike_36 rfl ?_
        refine fg_He_31 hC lc_193 d_He_firstLike_37 p0_193_8 ?_
        refine g_iload hC d_He_firstLike_40 rfl ?_
        refine gv_lald hC ly_200 d_He_firstLike_42 (fun x4 => ?_)
        refine g_lload hC d_He_firstLike_43 rfl ?_
        refine g_lcmp hC d_He_firstLike_45 ?_
        refine g_if_ne (tgt := 52) hC d_He_firstLike_46 (by decide) (fun _ => ?_) (fun _ => ?_)
        · refine g_iinc (ls' := [some (.ref (κ.b + 193)), some (.int l1), some (.long l2), none, some (.long l4), none, some (.int (l6 + 1))]) hC d_He_firstLike_52 rfl k_i1 rfl rfl ?_
          refine g_goto (tgt := 18) hC d_He_firstLike_55 (by decide) ?_
          exact ih l1 l2 l4 (l6 + 1) M
        · refine g_iload hC d_He_firstLike_49 rfl ?_
          exact g_iret hC hR d_He_firstLike_51
set_option maxHeartbeats 2000000 in
theorem He_firstLike_c {l : Launch} {θ : tv_Th} (F : Nat) (a1 : Int32) (M : tv_M) : tv_Ct l θ ⟨"TiedViews$Hearsay", "firstLike", "(I)I"⟩ prog_7_method_11_code 7 (some .int) 0 tv_ei [.ref (θ.1 + 193), .int a1] M (He_firstLike F a1 M) := by
  refine tv_ofG [some (.ref (θ.1 + 193)), some (.int a1), none, none, none, none, none] rfl rfl (tv_ent 5 rfl) ?_
  intro κ hl ht hC hR
  subst hl; subst ht
  unfold He_firstLike
  refine g_aload_n hC d_He_firstLike_0 rfl ?_
  refine fg_He_27 hC lc_193 d_He_firstLike_1 p0_193_7 ?_
  refine g_iload_n hC d_He_firstLike_4 rfl ?_
  refine gv_lald hC ly_199 d_He_firstLike_5 (fun x1 => ?_)
  refine g_lstore_n (ls' := [some (.ref (κ.b + 193)), some (.int a1), some (.long x1), none, none, none, none]) hC d_He_firstLike_6 rfl rfl ?_
  refine g_aload_n hC d_He_firstLike_7 rfl ?_
  refine fg_He_31 hC lc_193 d_He_firstLike_8 p0_193_8 ?_
  refine g_iload_n hC d_He_firstLike_11 rfl ?_
  refine gv_lald hC ly_200 d_He_firstLike_12 (fun x2 => ?_)
  refine g_lstore (ls' := [some (.ref (κ.b + 193)), some (.int a1), some (.long x1), none, some (.long x2), none, none]) hC d_He_firstLike_13 rfl rfl ?_
  refine g_iconst hC d_He_firstLike_15 k_i0 ?_
  refine g_istore (ls' := [some (.ref (κ.b + 193)), some (.int a1), some (.long x1), none, some (.long x2), none, some (.int 0)]) hC d_He_firstLike_16 rfl rfl ?_
  exact He_firstLike_L18_g hC hR F F a1 x1 x2 0 M
theorem d_He_settle_0 : decode prog_7_method_10_code 0 = .ok (.aload_n 0, 1) := by decide +kernel
theorem d_He_settle_1 : decode prog_7_method_10_code 1 = .ok (.getfield 18, 3) := by decide +kernel
theorem d_He_settle_4 : decode prog_7_method_10_code 4 = .ok (.iconst 0, 1) := by decide +kernel
theorem d_He_settle_5 : decode prog_7_method_10_code 5 = .ok (.aload_n 0, 1) := by decide +kernel
theorem d_He_settle_6 : decode prog_7_method_10_code 6 = .ok (.getfield 21, 3) := by decide +kernel
theorem d_He_settle_9 : decode prog_7_method_10_code 9 = .ok (.iconst 0, 1) := by decide +kernel
theorem d_He_settle_10 : decode prog_7_method_10_code 10 = .ok (.bipush 24, 2) := by decide +kernel
theorem d_He_settle_12 : decode prog_7_method_10_code 12 = .ok (.invokestatic 71, 3) := by decide +kernel
theorem d_He_settle_15 : decode prog_7_method_10_code 15 = .ok (.aload_n 0, 1) := by decide +kernel
theorem d_He_settle_16 : decode prog_7_method_10_code 16 = .ok (.iconst 0, 1) := by decide +kernel
theorem d_He_settle_17 : decode prog_7_method_10_code 17 = .ok (.putfield 126, 3) := by decide +kernel
theorem d_He_settle_20 : decode prog_7_method_10_code 20 = .ok (.iconst 0, 1) := by decide +kernel
theorem d_He_settle_21 : decode prog_7_method_10_code 21 = .ok (.istore_n 1, 1) := by decide +kernel
theorem d_He_settle_22 : decode prog_7_method_10_code 22 = .ok (.iload_n 1, 1) := by decide +kernel
theorem d_He_settle_23 : decode prog_7_method_10_code 23 = .ok (.sipush 300, 3) := by decide +kernel
theorem d_He_settle_26 : decode prog_7_method_10_code 26 = .ok (.if_icmp .gt 64, 3) := by decide +kernel
theorem d_He_settle_29 : decode prog_7_method_10_code 29 = .ok (.aload_n 0, 1) := by decide +kernel
theorem d_He_settle_30 : decode prog_7_method_10_code 30 = .ok (.getfield 27, 3) := by decide +kernel
theorem d_He_settle_33 : decode prog_7_method_10_code 33 = .ok (.iload_n 1, 1) := by decide +kernel
theorem d_He_settle_34 : decode prog_7_method_10_code 34 = .ok (.aload_n 0, 1) := by decide +kernel
theorem d_He_settle_35 : decode prog_7_method_10_code 35 = .ok (.iconst 0, 1) := by decide +kernel
theorem d_He_settle_36 : decode prog_7_method_10_code 36 = .ok (.invokevirtual 129, 3) := by decide +kernel
theorem d_He_settle_39 : decode prog_7_method_10_code 39 = .ok (.lastore, 1) := by decide +kernel
theorem d_He_settle_40 : decode prog_7_method_10_code 40 = .ok (.aload_n 0, 1) := by decide +kernel
theorem d_He_settle_41 : decode prog_7_method_10_code 41 = .ok (.getfield 31, 3) := by decide +kernel
theorem d_He_settle_44 : decode prog_7_method_10_code 44 = .ok (.iload_n 1, 1) := by decide +kernel
theorem d_He_settle_45 : decode prog_7_method_10_code 45 = .ok (.aload_n 0, 1) := by decide +kernel
theorem d_He_settle_46 : decode prog_7_method_10_code 46 = .ok (.bipush 12, 2) := by decide +kernel
theorem d_He_settle_48 : decode prog_7_method_10_code 48 = .ok (.invokevirtual 129, 3) := by decide +kernel
theorem d_He_settle_51 : decode prog_7_method_10_code 51 = .ok (.lastore, 1) := by decide +kernel
theorem d_He_settle_52 : decode prog_7_method_10_code 52 = .ok (.aload_n 0, 1) := by decide +kernel
theorem d_He_settle_53 : decode prog_7_method_10_code 53 = .ok (.iload_n 1, 1) := by decide +kernel
theorem d_He_settle_54 : decode prog_7_method_10_code 54 = .ok (.invokevirtual 133, 3) := by decide +kernel
theorem d_He_settle_57 : decode prog_7_method_10_code 57 = .ok (.istore_n 2, 1) := by decide +kernel
theorem d_He_settle_58 : decode prog_7_method_10_code 58 = .ok (.iload_n 2, 1) := by decide +kernel
theorem d_He_settle_59 : decode prog_7_method_10_code 59 = .ok (.iload_n 1, 1) := by decide +kernel
theorem d_He_settle_60 : decode prog_7_method_10_code 60 = .ok (.if_icmp .ge 16, 3) := by decide +kernel
theorem d_He_settle_63 : decode prog_7_method_10_code 63 = .ok (.aload_n 0, 1) := by decide +kernel
theorem d_He_settle_64 : decode prog_7_method_10_code 64 = .ok (.iload_n 2, 1) := by decide +kernel
theorem d_He_settle_65 : decode prog_7_method_10_code 65 = .ok (.putfield 137, 3) := by decide +kernel
theorem d_He_settle_68 : decode prog_7_method_10_code 68 = .ok (.aload_n 0, 1) := by decide +kernel
theorem d_He_settle_69 : decode prog_7_method_10_code 69 = .ok (.iload_n 1, 1) := by decide +kernel
theorem d_He_settle_70 : decode prog_7_method_10_code 70 = .ok (.iload_n 2, 1) := by decide +kernel
theorem d_He_settle_71 : decode prog_7_method_10_code 71 = .ok (.isub, 1) := by decide +kernel
theorem d_He_settle_72 : decode prog_7_method_10_code 72 = .ok (.putfield 140, 3) := by decide +kernel
theorem d_He_settle_75 : decode prog_7_method_10_code 75 = .ok (.return_, 1) := by decide +kernel
theorem d_He_settle_76 : decode prog_7_method_10_code 76 = .ok (.aload_n 0, 1) := by decide +kernel
theorem d_He_settle_77 : decode prog_7_method_10_code 77 = .ok (.aload_n 0, 1) := by decide +kernel
theorem d_He_settle_78 : decode prog_7_method_10_code 78 = .ok (.getfield 21, 3) := by decide +kernel
theorem d_He_settle_81 : decode prog_7_method_10_code 81 = .ok (.invokevirtual 64, 3) := by decide +kernel
theorem d_He_settle_84 : decode prog_7_method_10_code 84 = .ok (.iinc 1 1, 3) := by decide +kernel
theorem d_He_settle_87 : decode prog_7_method_10_code 87 = .ok (.goto (-65), 3) := by decide +kernel
theorem d_He_settle_90 : decode prog_7_method_10_code 90 = .ok (.aload_n 0, 1) := by decide +kernel
theorem d_He_settle_91 : decode prog_7_method_10_code 91 = .ok (.iconst 1, 1) := by decide +kernel
theorem d_He_settle_92 : decode prog_7_method_10_code 92 = .ok (.putfield 126, 3) := by decide +kernel
theorem d_He_settle_95 : decode prog_7_method_10_code 95 = .ok (.return_, 1) := by decide +kernel
set_option maxHeartbeats 2000000 in
theorem He_settle_L22_g {κ : tv_Kt} (hC : tv_Cx κ "TiedViews$Hearsay" prog_7_method_10_code 3 4) (hR : tv_Re κ none) (F : Nat) : ∀ (n : Nat) (l1 : Int32) (M : tv_M), tv_G κ 3 (tv_Qm κ tv_ev) 22 [some (.ref (κ.b + 193)), some (.int l1), none] [] M (He_settle_L22 F n l1 M) := by
  intro n
  induction n with
  | zero => intro _ _; exact g_none
  | succ nn ih =>
    intro l1 M
    rw [He_settle_L22]
    refine g_iload_n hC d_He_settle_22 rfl ?_
    refine g_sipush hC d_He_settle_23 k_s300 ?_
    refine g_icmp_gt (tgt := 90) hC d_He_settle_26 (by decide) (fun _ => ?_) (fun _ => ?_)
    · refine g_aload_n hC d_He_settle_90 rfl ?_
      refine g_iconst hC d_He_settle_91 k_i1 ?_
      refine fp_He_126 hC lc_193 tv_z1 d_He_settle_92 (fun M3 => ?_)
      exact g_vret hC hR d_He_settle_95
    · refine g_aload_n hC d_He_settle_29 rfl ?_
      refine fg_He_27 hC lc_193 d_He_settle_30 p0_193_7 ?_
      refine g_iload_n hC d_He_settle_33 rfl ?_
      refine g_aload_n hC d_He_settle_34 rfl ?_
      refine g_iconst hC d_He_settle_35 k_i0 ?_
      refine gv_callVj hC [.int 0] cw_He_129 (He_packed_c F 0 M) lc_193 rfl rfl rfl rfl rfl rfl rfl d_He_settle_36 (fun r4 M5 => ?_)
      refine gv_last hC ly_199 d_He_settle_39 (fun M6 => ?_)
      refine g_aload_n hC d_He_settle_40 rfl ?_
      refine fg_He_31 hC lc_193 d_He_settle_41 p0_193_8 ?_
      refine g_iload_n hC d_He_settle_44 rfl ?_
      refine g_aload_n hC d_He_settle_45 rfl ?_
      refine g_bipush hC d_He_settle_46 k_b12 ?_
      refine gv_callVj hC [.int 12] cw_He_129 (He_packed_c F 12 M6) lc_193 rfl rfl rfl rfl rfl rfl rfl d_He_settle_48 (fun r7 M8 => ?_)
      refine gv_last hC ly_200 d_He_settle_51 (fun M9 => ?_)
      refine g_aload_n hC d_He_settle_52 rfl ?_
      refine g_iload_n hC d_He_settle_53 rfl ?_
      refine gv_callVi hC [.int l1] cw_He_133 (He_firstLike_c F l1 M9) lc_193 rfl rfl rfl rfl rfl rfl rfl d_He_settle_54 (fun r10 M11 => ?_)
      refine g_istore_n (ls' := [some (.ref (κ.b + 193)), some (.int l1), some (.int r10)]) hC d_He_settle_57 rfl rfl ?_
      refine g_iload_n hC d_He_settle_58 rfl ?_
      refine g_iload_n hC d_He_settle_59 rfl ?_
      refine g_icmp_ge (tgt := 76) hC d_He_settle_60 (by decide) (fun _ => ?_) (fun _ => ?_)
      · refine g_aload_n hC d_He_settle_76 rfl ?_
        refine g_aload_n hC d_He_settle_77 rfl ?_
        refine fg_He_21 hC lc_193 d_He_settle_78 p0_193_5 ?_
        refine gv_callVv hC [.ref (κ.b + 197)] cw_He_64 (He_hearAll_c F 197 M11) lc_193 rfl rfl rfl rfl rfl rfl rfl d_He_settle_81 (fun r12 M13 => ?_)
        refine g_iinc (ls' := [some (.ref (κ.b + 193)), some (.int (l1 + 1)), some (.int r10)]) hC d_He_settle_84 rfl k_i1 rfl rfl ?_
        refine g_goto (tgt := 22) hC d_He_settle_87 (by decide) ?_
        refine g_mask [true, true, false] (ls' := [some (.ref (κ.b + 193)), some (.int (l1 + 1)), none]) rfl ?_
        exact ih (l1 + 1) M13
      · refine g_aload_n hC d_He_settle_63 rfl ?_
        refine g_iload_n hC d_He_settle_64 rfl ?_
        refine fp_He_137 hC lc_193 d_He_settle_65 (fun M14 => ?_)
        refine g_aload_n hC d_He_settle_68 rfl ?_
        refine g_iload_n hC d_He_settle_69 rfl ?_
        refine g_iload_n hC d_He_settle_70 rfl ?_
        refine g_isub hC d_He_settle_71 ?_
        refine fp_He_140 hC lc_193 d_He_settle_72 (fun M15 => ?_)
        exact g_vret hC hR d_He_settle_75
set_option maxHeartbeats 2000000 in
theorem He_settle_c {l : Launch} {θ : tv_Th} (F : Nat) (M : tv_M) : tv_Ct l θ ⟨"TiedViews$Hearsay", "settle", "()V"⟩ prog_7_method_10_code 3 none 4 tv_ev [.ref (θ.1 + 193)] M (He_settle F M) := by
  refine tv_ofG [some (.ref (θ.1 + 193)), none, none] rfl rfl (tv_ent 2 rfl) ?_
  intro κ hl ht hC hR
  subst hl; subst ht
  unfold He_settle
  refine g_aload_n hC d_He_settle_0 rfl ?_
  refine fg_He_18 hC lc_193 d_He_settle_1 p0_193_4 ?_
  refine g_iconst hC d_He_settle_4 k_i0 ?_
  refine g_aload_n hC d_He_settle_5 rfl ?_
  refine fg_He_21 hC lc_193 d_He_settle_6 p0_193_5 ?_
  refine g_iconst hC d_He_settle_9 k_i0 ?_
  refine g_bipush hC d_He_settle_10 k_b24 ?_
  refine gv_copy hC ly_196 ly_197 wc_He_71 rfl rfl d_He_settle_12 (fun M1 => ?_)
  refine g_aload_n hC d_He_settle_15 rfl ?_
  refine g_iconst hC d_He_settle_16 k_i0 ?_
  refine fp_He_126 hC lc_193 tv_z0 d_He_settle_17 (fun M2 => ?_)
  refine g_iconst hC d_He_settle_20 k_i0 ?_
  refine g_istore_n (ls' := [some (.ref (κ.b + 193)), some (.int 0), none]) hC d_He_settle_21 rfl rfl ?_
  exact He_settle_L22_g hC hR F F 0 M2
theorem d_He_isSpent_0 : decode prog_7_method_9_code 0 = .ok (.aload_n 0, 1) := by decide +kernel
theorem d_He_isSpent_1 : decode prog_7_method_9_code 1 = .ok (.getfield 53, 3) := by decide +kernel
theorem d_He_isSpent_4 : decode prog_7_method_9_code 4 = .ok (.ifCond .ne 12, 3) := by decide +kernel
theorem d_He_isSpent_7 : decode prog_7_method_9_code 7 = .ok (.aload_n 0, 1) := by decide +kernel
theorem d_He_isSpent_8 : decode prog_7_method_9_code 8 = .ok (.invokevirtual 123, 3) := by decide +kernel
theorem d_He_isSpent_11 : decode prog_7_method_9_code 11 = .ok (.aload_n 0, 1) := by decide +kernel
theorem d_He_isSpent_12 : decode prog_7_method_9_code 12 = .ok (.iconst 1, 1) := by decide +kernel
theorem d_He_isSpent_13 : decode prog_7_method_9_code 13 = .ok (.putfield 53, 3) := by decide +kernel
theorem d_He_isSpent_16 : decode prog_7_method_9_code 16 = .ok (.aload_n 0, 1) := by decide +kernel
theorem d_He_isSpent_17 : decode prog_7_method_9_code 17 = .ok (.getfield 126, 3) := by decide +kernel
theorem d_He_isSpent_20 : decode prog_7_method_9_code 20 = .ok (.ireturn, 1) := by decide +kernel
set_option maxHeartbeats 2000000 in
theorem He_isSpent_c {l : Launch} {θ : tv_Th} (F : Nat) (M : tv_M) : tv_Ct l θ ⟨"TiedViews$Hearsay", "isSpent", "()Z"⟩ prog_7_method_9_code 1 (some .boolean) 5 tv_ei [.ref (θ.1 + 193)] M (He_isSpent F M) := by
  refine tv_ofG [some (.ref (θ.1 + 193))] rfl rfl (tv_ent 0 rfl) ?_
  intro κ hl ht hC hR
  subst hl; subst ht
  unfold He_isSpent
  refine g_aload_n hC d_He_isSpent_0 rfl ?_
  refine fg_He_53 hC lc_193 d_He_isSpent_1 ?_
  refine g_if_ne (tgt := 16) hC d_He_isSpent_4 (by decide) (fun _ => ?_) (fun _ => ?_)
  · refine g_aload_n hC d_He_isSpent_16 rfl ?_
    refine fg_He_126 hC lc_193 d_He_isSpent_17 ?_
    refine g_zo (fun z1 => ?_)
    exact g_zret hC hR z1 d_He_isSpent_20
  · refine g_aload_n hC d_He_isSpent_7 rfl ?_
    refine gv_callVv hC [] cw_He_123 (He_settle_c F M) lc_193 rfl rfl rfl rfl rfl rfl rfl d_He_isSpent_8 (fun r2 M3 => ?_)
    refine g_aload_n hC d_He_isSpent_11 rfl ?_
    refine g_iconst hC d_He_isSpent_12 k_i1 ?_
    refine fp_He_53 hC lc_193 tv_z1 d_He_isSpent_13 (fun M4 => ?_)
    refine g_aload_n hC d_He_isSpent_16 rfl ?_
    refine fg_He_126 hC lc_193 d_He_isSpent_17 ?_
    refine g_zo (fun z5 => ?_)
    exact g_zret hC hR z5 d_He_isSpent_20
theorem d_Xx_settles_0 : decode prog_1_method_23_code 0 = .ok (.iload_n 1, 1) := by decide +kernel
theorem d_Xx_settles_1 : decode prog_1_method_23_code 1 = .ok (.ifCond .eq 11, 3) := by decide +kernel
theorem d_Xx_settles_4 : decode prog_1_method_23_code 4 = .ok (.iload_n 1, 1) := by decide +kernel
theorem d_Xx_settles_5 : decode prog_1_method_23_code 5 = .ok (.iconst 1, 1) := by decide +kernel
theorem d_Xx_settles_6 : decode prog_1_method_23_code 6 = .ok (.if_icmp .eq 6, 3) := by decide +kernel
theorem d_Xx_settles_9 : decode prog_1_method_23_code 9 = .ok (.ldc 83, 2) := by decide +kernel
theorem d_Xx_settles_11 : decode prog_1_method_23_code 11 = .ok (.ireturn, 1) := by decide +kernel
theorem d_Xx_settles_12 : decode prog_1_method_23_code 12 = .ok (.aload_n 0, 1) := by decide +kernel
theorem d_Xx_settles_13 : decode prog_1_method_23_code 13 = .ok (.getfield 61, 3) := by decide +kernel
theorem d_Xx_settles_16 : decode prog_1_method_23_code 16 = .ok (.invokevirtual 262, 3) := by decide +kernel
theorem d_Xx_settles_19 : decode prog_1_method_23_code 19 = .ok (.ifCond .eq 6, 3) := by decide +kernel
theorem d_Xx_settles_22 : decode prog_1_method_23_code 22 = .ok (.ldc 166, 2) := by decide +kernel
theorem d_Xx_settles_24 : decode prog_1_method_23_code 24 = .ok (.ireturn, 1) := by decide +kernel
theorem d_Xx_settles_25 : decode prog_1_method_23_code 25 = .ok (.iload_n 1, 1) := by decide +kernel
theorem d_Xx_settles_26 : decode prog_1_method_23_code 26 = .ok (.ifCond .ne 13, 3) := by decide +kernel
theorem d_Xx_settles_29 : decode prog_1_method_23_code 29 = .ok (.aload_n 0, 1) := by decide +kernel
theorem d_Xx_settles_30 : decode prog_1_method_23_code 30 = .ok (.getfield 61, 3) := by decide +kernel
theorem d_Xx_settles_33 : decode prog_1_method_23_code 33 = .ok (.getfield 265, 3) := by decide +kernel
theorem d_Xx_settles_36 : decode prog_1_method_23_code 36 = .ok (.goto 10, 3) := by decide +kernel
theorem d_Xx_settles_39 : decode prog_1_method_23_code 39 = .ok (.aload_n 0, 1) := by decide +kernel
theorem d_Xx_settles_40 : decode prog_1_method_23_code 40 = .ok (.getfield 61, 3) := by decide +kernel
theorem d_Xx_settles_43 : decode prog_1_method_23_code 43 = .ok (.getfield 268, 3) := by decide +kernel
theorem d_Xx_settles_46 : decode prog_1_method_23_code 46 = .ok (.ireturn, 1) := by decide +kernel
set_option maxHeartbeats 2000000 in
theorem Xx_settles_L12_g {κ : tv_Kt} (hC : tv_Cx κ "TiedViews" prog_1_method_23_code 2 6) (hR : tv_Re κ (some .int)) (F : Nat) (l1 : Int32) (M : tv_M) : tv_G κ 2 (tv_Qm κ tv_ei) 12 [some (.ref (κ.b + 0)), some (.int l1)] [] M (Xx_settles_L12 F l1 M) := by
  rw [Xx_settles_L12]
  refine g_aload_n hC d_Xx_settles_12 rfl ?_
  refine fg_Xx_61 hC lc_0 d_Xx_settles_13 p0_0_6 ?_
  refine gv_callVi hC [] cw_Xx_262 (He_isSpent_c F M) lc_193 rfl rfl rfl rfl rfl rfl rfl d_Xx_settles_16 (fun r1 M2 => ?_)
  refine g_if_eq (tgt := 25) hC d_Xx_settles_19 (by decide) (fun _ => ?_) (fun _ => ?_)
  · refine g_iload_n hC d_Xx_settles_25 rfl ?_
    refine g_if_ne (tgt := 39) hC d_Xx_settles_26 (by decide) (fun _ => ?_) (fun _ => ?_)
    · refine g_aload_n hC d_Xx_settles_39 rfl ?_
      refine fg_Xx_61 hC lc_0 d_Xx_settles_40 p0_0_6 ?_
      refine fg_Xx_268 hC lc_193 d_Xx_settles_43 ?_
      exact g_iret hC hR d_Xx_settles_46
    · refine g_aload_n hC d_Xx_settles_29 rfl ?_
      refine fg_Xx_61 hC lc_0 d_Xx_settles_30 p0_0_6 ?_
      refine fg_Xx_265 hC lc_193 d_Xx_settles_33 ?_
      refine g_goto (tgt := 46) hC d_Xx_settles_36 (by decide) ?_
      exact g_iret hC hR d_Xx_settles_46
  · refine g_ldc hC d_Xx_settles_22 wk_Xx_166 ?_
    exact g_iret hC hR d_Xx_settles_24
set_option maxHeartbeats 2000000 in
theorem Xx_settles_c {l : Launch} {θ : tv_Th} (F : Nat) (a1 : Int32) (M : tv_M) : tv_Ct l θ ⟨"TiedViews", "settles", "(I)I"⟩ prog_1_method_23_code 2 (some .int) 6 tv_ei [.ref (θ.1 + 0), .int a1] M (Xx_settles F a1 M) := by
  refine tv_ofG [some (.ref (θ.1 + 0)), some (.int a1)] rfl rfl (tv_ent 0 rfl) ?_
  intro κ hl ht hC hR
  subst hl; subst ht
  unfold Xx_settles
  refine g_iload_n hC d_Xx_settles_0 rfl ?_
  refine g_if_eq (tgt := 12) hC d_Xx_settles_1 (by decide) (fun _ => ?_) (fun _ => ?_)
  · exact Xx_settles_L12_g hC hR F a1 M
  · refine g_iload_n hC d_Xx_settles_4 rfl ?_
    refine g_iconst hC d_Xx_settles_5 k_i1 ?_
    refine g_icmp_eq (tgt := 12) hC d_Xx_settles_6 (by decide) (fun _ => ?_) (fun _ => ?_)
    · exact Xx_settles_L12_g hC hR F a1 M
    · refine g_ldc hC d_Xx_settles_9 wk_Xx_83 ?_
      exact g_iret hC hR d_Xx_settles_11
theorem d_Ch_forget_0 : decode prog_4_method_2_code 0 = .ok (.aload_n 0, 1) := by decide +kernel
theorem d_Ch_forget_1 : decode prog_4_method_2_code 1 = .ok (.iconst 0, 1) := by decide +kernel
theorem d_Ch_forget_2 : decode prog_4_method_2_code 2 = .ok (.putfield 31, 3) := by decide +kernel
theorem d_Ch_forget_5 : decode prog_4_method_2_code 5 = .ok (.return_, 1) := by decide +kernel
set_option maxHeartbeats 2000000 in
theorem Ch_forget_c {l : Launch} {θ : tv_Th} (F : Nat) (M : tv_M) : tv_Ct l θ ⟨"TiedViews$Choices", "forget", "()V"⟩ prog_4_method_2_code 1 none 0 tv_ev [.ref (θ.1 + 201)] M (Ch_forget F M) := by
  refine tv_ofG [some (.ref (θ.1 + 201))] rfl rfl (tv_ent 0 rfl) ?_
  intro κ hl ht hC hR
  subst hl; subst ht
  unfold Ch_forget
  refine g_aload_n hC d_Ch_forget_0 rfl ?_
  refine g_iconst hC d_Ch_forget_1 k_i0 ?_
  refine fp_Ch_31 hC lc_201 tv_z0 d_Ch_forget_2 (fun M1 => ?_)
  exact g_vret hC hR d_Ch_forget_5
theorem d_Xx_choose_0 : decode prog_1_method_24_code 0 = .ok (.aload_n 0, 1) := by decide +kernel
theorem d_Xx_choose_1 : decode prog_1_method_24_code 1 = .ok (.getfield 29, 3) := by decide +kernel
theorem d_Xx_choose_4 : decode prog_1_method_24_code 4 = .ok (.iload_n 1, 1) := by decide +kernel
theorem d_Xx_choose_5 : decode prog_1_method_24_code 5 = .ok (.invokevirtual 271, 3) := by decide +kernel
theorem d_Xx_choose_8 : decode prog_1_method_24_code 8 = .ok (.astore_n 3, 1) := by decide +kernel
theorem d_Xx_choose_9 : decode prog_1_method_24_code 9 = .ok (.aload_n 3, 1) := by decide +kernel
theorem d_Xx_choose_10 : decode prog_1_method_24_code 10 = .ok (.ifnull 16, 3) := by decide +kernel
theorem d_Xx_choose_13 : decode prog_1_method_24_code 13 = .ok (.iload_n 2, 1) := by decide +kernel
theorem d_Xx_choose_14 : decode prog_1_method_24_code 14 = .ok (.iconst 1, 1) := by decide +kernel
theorem d_Xx_choose_15 : decode prog_1_method_24_code 15 = .ok (.if_icmp .lt 11, 3) := by decide +kernel
theorem d_Xx_choose_18 : decode prog_1_method_24_code 18 = .ok (.iload_n 2, 1) := by decide +kernel
theorem d_Xx_choose_19 : decode prog_1_method_24_code 19 = .ok (.aload_n 3, 1) := by decide +kernel
theorem d_Xx_choose_20 : decode prog_1_method_24_code 20 = .ok (.invokevirtual 274, 3) := by decide +kernel
theorem d_Xx_choose_23 : decode prog_1_method_24_code 23 = .ok (.if_icmp .le 6, 3) := by decide +kernel
theorem d_Xx_choose_26 : decode prog_1_method_24_code 26 = .ok (.ldc 83, 2) := by decide +kernel
theorem d_Xx_choose_28 : decode prog_1_method_24_code 28 = .ok (.ireturn, 1) := by decide +kernel
theorem d_Xx_choose_29 : decode prog_1_method_24_code 29 = .ok (.aload_n 3, 1) := by decide +kernel
theorem d_Xx_choose_30 : decode prog_1_method_24_code 30 = .ok (.getfield 177, 3) := by decide +kernel
theorem d_Xx_choose_33 : decode prog_1_method_24_code 33 = .ok (.istore 4, 2) := by decide +kernel
theorem d_Xx_choose_35 : decode prog_1_method_24_code 35 = .ok (.aload_n 3, 1) := by decide +kernel
theorem d_Xx_choose_36 : decode prog_1_method_24_code 36 = .ok (.iload_n 2, 1) := by decide +kernel
theorem d_Xx_choose_37 : decode prog_1_method_24_code 37 = .ok (.putfield 177, 3) := by decide +kernel
theorem d_Xx_choose_40 : decode prog_1_method_24_code 40 = .ok (.aload_n 0, 1) := by decide +kernel
theorem d_Xx_choose_41 : decode prog_1_method_24_code 41 = .ok (.getfield 68, 3) := by decide +kernel
theorem d_Xx_choose_44 : decode prog_1_method_24_code 44 = .ok (.invokevirtual 277, 3) := by decide +kernel
theorem d_Xx_choose_47 : decode prog_1_method_24_code 47 = .ok (.iload 4, 2) := by decide +kernel
theorem d_Xx_choose_49 : decode prog_1_method_24_code 49 = .ok (.ireturn, 1) := by decide +kernel
set_option maxHeartbeats 2000000 in
theorem Xx_choose_c {l : Launch} {θ : tv_Th} (F : Nat) (a1 : Int32) (a2 : Int32) (M : tv_M) : tv_Ct l θ ⟨"TiedViews", "choose", "(II)I"⟩ prog_1_method_24_code 5 (some .int) 2 tv_ei [.ref (θ.1 + 0), .int a1, .int a2] M (Xx_choose F a1 a2 M) := by
  refine tv_ofG [some (.ref (θ.1 + 0)), some (.int a1), some (.int a2), none, none] rfl rfl (tv_ent 2 rfl) ?_
  intro κ hl ht hC hR
  subst hl; subst ht
  unfold Xx_choose
  refine g_aload_n hC d_Xx_choose_0 rfl ?_
  refine fg_Xx_29 hC lc_0 d_Xx_choose_1 p0_0_2 ?_
  refine g_iload_n hC d_Xx_choose_4 rfl ?_
  refine gv_callVr hC [.int a1] cw_Xx_271 (To_choiceAt_c F a1 M) lc_18 rfl rfl rfl rfl rfl rfl rfl d_Xx_choose_5 (fun r1 M2 => ?_)
  refine g_astore_nQ (ls' := [some (.ref (κ.b + 0)), some (.int a1), some (.int a2), some (tv_re κ.b r1), none]) hC d_Xx_choose_8 rfl rfl ?_
  refine g_aload_nQ hC d_Xx_choose_9 rfl ?_
  rcases r1 with _ | p3
  · refine g_nlN ?_
    refine g_ifnullN (tgt := 26) hC d_Xx_choose_10 (by decide) ?_
    refine g_ldc hC d_Xx_choose_26 wk_Xx_83 ?_
    exact g_iret hC hR d_Xx_choose_28
  · refine g_nlS ?_
    refine g_ifnullR hC d_Xx_choose_10 ?_
    refine g_gl (fun h4 => ?_)
    refine g_iload_n hC d_Xx_choose_13 rfl ?_
    refine g_iconst hC d_Xx_choose_14 k_i1 ?_
    refine g_icmp_lt (tgt := 26) hC d_Xx_choose_15 (by decide) (fun _ => ?_) (fun _ => ?_)
    · refine g_ldc hC d_Xx_choose_26 wk_Xx_83 ?_
      exact g_iret hC hR d_Xx_choose_28
    · refine g_iload_n hC d_Xx_choose_18 rfl ?_
      refine g_aload_n hC d_Xx_choose_19 rfl ?_
      refine gv_callVi hC [] cw_Xx_274 (Ey_fullSet_c F p3 M2) h4 rfl rfl rfl rfl rfl rfl rfl d_Xx_choose_20 (fun r5 M6 => ?_)
      refine g_icmp_le (tgt := 29) hC d_Xx_choose_23 (by decide) (fun _ => ?_) (fun _ => ?_)
      · refine g_aload_n hC d_Xx_choose_29 rfl ?_
        refine fg_Xx_177 hC h4 d_Xx_choose_30 ?_
        refine g_istore (ls' := [some (.ref (κ.b + 0)), some (.int a1), some (.int a2), some (.ref (κ.b + p3)), some (.int (M6.1 p3 4))]) hC d_Xx_choose_33 rfl rfl ?_
        refine g_aload_n hC d_Xx_choose_35 rfl ?_
        refine g_iload_n hC d_Xx_choose_36 rfl ?_
        refine fp_Xx_177 hC h4 d_Xx_choose_37 (fun M7 => ?_)
        refine g_aload_n hC d_Xx_choose_40 rfl ?_
        refine fg_Xx_68 hC lc_0 d_Xx_choose_41 p0_0_7 ?_
        refine gv_callVv hC [] cw_Xx_277 (Ch_forget_c F M7) lc_201 rfl rfl rfl rfl rfl rfl rfl d_Xx_choose_44 (fun r8 M9 => ?_)
        refine g_iload hC d_Xx_choose_47 rfl ?_
        exact g_iret hC hR d_Xx_choose_49
      · refine g_ldc hC d_Xx_choose_26 wk_Xx_83 ?_
        exact g_iret hC hR d_Xx_choose_28
theorem d_Ch_goesWithAll_0 : decode prog_4_method_7_code 0 = .ok (.aload_n 0, 1) := by decide +kernel
theorem d_Ch_goesWithAll_1 : decode prog_4_method_7_code 1 = .ok (.getfield 11, 3) := by decide +kernel
theorem d_Ch_goesWithAll_4 : decode prog_4_method_7_code 4 = .ok (.iload_n 1, 1) := by decide +kernel
theorem d_Ch_goesWithAll_5 : decode prog_4_method_7_code 5 = .ok (.iconst 4, 1) := by decide +kernel
theorem d_Ch_goesWithAll_6 : decode prog_4_method_7_code 6 = .ok (.imul, 1) := by decide +kernel
theorem d_Ch_goesWithAll_7 : decode prog_4_method_7_code 7 = .ok (.iload_n 2, 1) := by decide +kernel
theorem d_Ch_goesWithAll_8 : decode prog_4_method_7_code 8 = .ok (.iadd, 1) := by decide +kernel
theorem d_Ch_goesWithAll_9 : decode prog_4_method_7_code 9 = .ok (.aaload, 1) := by decide +kernel
theorem d_Ch_goesWithAll_10 : decode prog_4_method_7_code 10 = .ok (.astore_n 3, 1) := by decide +kernel
theorem d_Ch_goesWithAll_11 : decode prog_4_method_7_code 11 = .ok (.iconst 0, 1) := by decide +kernel
theorem d_Ch_goesWithAll_12 : decode prog_4_method_7_code 12 = .ok (.istore 4, 2) := by decide +kernel
theorem d_Ch_goesWithAll_14 : decode prog_4_method_7_code 14 = .ok (.iload 4, 2) := by decide +kernel
theorem d_Ch_goesWithAll_16 : decode prog_4_method_7_code 16 = .ok (.aload_n 0, 1) := by decide +kernel
theorem d_Ch_goesWithAll_17 : decode prog_4_method_7_code 17 = .ok (.getfield 27, 3) := by decide +kernel
theorem d_Ch_goesWithAll_20 : decode prog_4_method_7_code 20 = .ok (.getfield 60, 3) := by decide +kernel
theorem d_Ch_goesWithAll_23 : decode prog_4_method_7_code 23 = .ok (.if_icmp .ge 50, 3) := by decide +kernel
theorem d_Ch_goesWithAll_26 : decode prog_4_method_7_code 26 = .ok (.aload_n 0, 1) := by decide +kernel
theorem d_Ch_goesWithAll_27 : decode prog_4_method_7_code 27 = .ok (.getfield 27, 3) := by decide +kernel
theorem d_Ch_goesWithAll_30 : decode prog_4_method_7_code 30 = .ok (.getfield 83, 3) := by decide +kernel
theorem d_Ch_goesWithAll_33 : decode prog_4_method_7_code 33 = .ok (.iload 4, 2) := by decide +kernel
theorem d_Ch_goesWithAll_35 : decode prog_4_method_7_code 35 = .ok (.aaload, 1) := by decide +kernel
theorem d_Ch_goesWithAll_36 : decode prog_4_method_7_code 36 = .ok (.astore 5, 2) := by decide +kernel
theorem d_Ch_goesWithAll_38 : decode prog_4_method_7_code 38 = .ok (.iload 4, 2) := by decide +kernel
theorem d_Ch_goesWithAll_40 : decode prog_4_method_7_code 40 = .ok (.iload_n 1, 1) := by decide +kernel
theorem d_Ch_goesWithAll_41 : decode prog_4_method_7_code 41 = .ok (.if_icmp .eq 26, 3) := by decide +kernel
theorem d_Ch_goesWithAll_44 : decode prog_4_method_7_code 44 = .ok (.aload 5, 2) := by decide +kernel
theorem d_Ch_goesWithAll_46 : decode prog_4_method_7_code 46 = .ok (.invokevirtual 87, 3) := by decide +kernel
theorem d_Ch_goesWithAll_49 : decode prog_4_method_7_code 49 = .ok (.ifCond .eq 18, 3) := by decide +kernel
theorem d_Ch_goesWithAll_52 : decode prog_4_method_7_code 52 = .ok (.aload 5, 2) := by decide +kernel
theorem d_Ch_goesWithAll_54 : decode prog_4_method_7_code 54 = .ok (.getfield 76, 3) := by decide +kernel
theorem d_Ch_goesWithAll_57 : decode prog_4_method_7_code 57 = .ok (.aload_n 3, 1) := by decide +kernel
theorem d_Ch_goesWithAll_58 : decode prog_4_method_7_code 58 = .ok (.iload 4, 2) := by decide +kernel
theorem d_Ch_goesWithAll_60 : decode prog_4_method_7_code 60 = .ok (.iaload, 1) := by decide +kernel
theorem d_Ch_goesWithAll_61 : decode prog_4_method_7_code 61 = .ok (.iand, 1) := by decide +kernel
theorem d_Ch_goesWithAll_62 : decode prog_4_method_7_code 62 = .ok (.ifCond .ne 5, 3) := by decide +kernel
theorem d_Ch_goesWithAll_65 : decode prog_4_method_7_code 65 = .ok (.iconst 0, 1) := by decide +kernel
theorem d_Ch_goesWithAll_66 : decode prog_4_method_7_code 66 = .ok (.ireturn, 1) := by decide +kernel
theorem d_Ch_goesWithAll_67 : decode prog_4_method_7_code 67 = .ok (.iinc 4 1, 3) := by decide +kernel
theorem d_Ch_goesWithAll_70 : decode prog_4_method_7_code 70 = .ok (.goto (-56), 3) := by decide +kernel
theorem d_Ch_goesWithAll_73 : decode prog_4_method_7_code 73 = .ok (.iconst 1, 1) := by decide +kernel
theorem d_Ch_goesWithAll_74 : decode prog_4_method_7_code 74 = .ok (.ireturn, 1) := by decide +kernel
set_option maxHeartbeats 2000000 in
theorem Ch_goesWithAll_L14_g {κ : tv_Kt} (hC : tv_Cx κ "TiedViews$Choices" prog_4_method_7_code 6 1) (hR : tv_Re κ (some .boolean)) (F : Nat) : ∀ (n : Nat) (l1 : Int32) (l3 : Nat) (l4 : Int32) (M : tv_M), tv_G κ 6 (tv_Qm κ tv_ei) 14 [some (.ref (κ.b + 201)), some (.int l1), none, some (.ref (κ.b + l3)), some (.int l4), none] [] M (Ch_goesWithAll_L14 F n l1 l3 l4 M) := by
  intro n
  induction n with
  | zero => intro _ _ _ _; exact g_none
  | succ nn ih =>
    intro l1 l3 l4 M
    rw [Ch_goesWithAll_L14]
    refine g_gn (fun n5 h4 => ?_)
    refine g_iload hC d_Ch_goesWithAll_14 rfl ?_
    refine g_aload_n hC d_Ch_goesWithAll_16 rfl ?_
    refine fg_Ch_27 hC lc_201 d_Ch_goesWithAll_17 p0_201_0 ?_
    refine fg_Ch_60 hC lc_18 d_Ch_goesWithAll_20 ?_
    refine g_icmp_ge (tgt := 73) hC d_Ch_goesWithAll_23 (by decide) (fun _ => ?_) (fun _ => ?_)
    · refine g_iconst hC d_Ch_goesWithAll_73 k_i1 ?_
      exact g_zret hC hR tv_z1 d_Ch_goesWithAll_74
    · refine g_aload_n hC d_Ch_goesWithAll_26 rfl ?_
      refine fg_Ch_27 hC lc_201 d_Ch_goesWithAll_27 p0_201_0 ?_
      refine fg_Ch_83 hC lc_18 d_Ch_goesWithAll_30 p0_18_1 ?_
      refine g_iload hC d_Ch_goesWithAll_33 rfl ?_
      refine gv_aald hC 1 ly_19 rfl d_Ch_goesWithAll_35 (fun p6 => ?_)
      refine g_gl (fun h7 => ?_)
      refine g_astore (ls' := [some (.ref (κ.b + 201)), some (.int l1), none, some (.ref (κ.b + l3)), some (.int l4), some (.ref (κ.b + p6))]) hC d_Ch_goesWithAll_36 rfl rfl ?_
      refine g_iload hC d_Ch_goesWithAll_38 rfl ?_
      refine g_iload_n hC d_Ch_goesWithAll_40 rfl ?_
      refine g_icmp_eq (tgt := 67) hC d_Ch_goesWithAll_41 (by decide) (fun _ => ?_) (fun _ => ?_)
      · refine g_iinc (ls' := [some (.ref (κ.b + 201)), some (.int l1), none, some (.ref (κ.b + l3)), some (.int (l4 + 1)), some (.ref (κ.b + p6))]) hC d_Ch_goesWithAll_67 rfl k_i1 rfl rfl ?_
        refine g_goto (tgt := 14) hC d_Ch_goesWithAll_70 (by decide) ?_
        refine g_mask [true, true, false, true, true, false] (ls' := [some (.ref (κ.b + 201)), some (.int l1), none, some (.ref (κ.b + l3)), some (.int (l4 + 1)), none]) rfl ?_
        exact ih l1 l3 (l4 + 1) M
      · refine g_aload hC d_Ch_goesWithAll_44 rfl ?_
        refine gv_callVi hC [] cw_Ch_87 (Ey_isChoice_c F p6 M) h7 rfl rfl rfl rfl rfl rfl rfl d_Ch_goesWithAll_46 (fun r8 M9 => ?_)
        refine g_if_eq (tgt := 67) hC d_Ch_goesWithAll_49 (by decide) (fun _ => ?_) (fun _ => ?_)
        · refine g_iinc (ls' := [some (.ref (κ.b + 201)), some (.int l1), none, some (.ref (κ.b + l3)), some (.int (l4 + 1)), some (.ref (κ.b + p6))]) hC d_Ch_goesWithAll_67 rfl k_i1 rfl rfl ?_
          refine g_goto (tgt := 14) hC d_Ch_goesWithAll_70 (by decide) ?_
          refine g_mask [true, true, false, true, true, false] (ls' := [some (.ref (κ.b + 201)), some (.int l1), none, some (.ref (κ.b + l3)), some (.int (l4 + 1)), none]) rfl ?_
          exact ih l1 l3 (l4 + 1) M9
        · refine g_aload hC d_Ch_goesWithAll_52 rfl ?_
          refine fg_Ch_76 hC h7 d_Ch_goesWithAll_54 ?_
          refine g_aload_n hC d_Ch_goesWithAll_57 rfl ?_
          refine g_iload hC d_Ch_goesWithAll_58 rfl ?_
          refine gv_iald hC h4 d_Ch_goesWithAll_60 (fun x10 => ?_)
          refine g_iand hC d_Ch_goesWithAll_61 ?_
          refine g_if_ne (tgt := 67) hC d_Ch_goesWithAll_62 (by decide) (fun _ => ?_) (fun _ => ?_)
          · refine g_iinc (ls' := [some (.ref (κ.b + 201)), some (.int l1), none, some (.ref (κ.b + l3)), some (.int (l4 + 1)), some (.ref (κ.b + p6))]) hC d_Ch_goesWithAll_67 rfl k_i1 rfl rfl ?_
            refine g_goto (tgt := 14) hC d_Ch_goesWithAll_70 (by decide) ?_
            refine g_mask [true, true, false, true, true, false] (ls' := [some (.ref (κ.b + 201)), some (.int l1), none, some (.ref (κ.b + l3)), some (.int (l4 + 1)), none]) rfl ?_
            exact ih l1 l3 (l4 + 1) M9
          · refine g_iconst hC d_Ch_goesWithAll_65 k_i0 ?_
            exact g_zret hC hR tv_z0 d_Ch_goesWithAll_66
set_option maxHeartbeats 2000000 in
theorem Ch_goesWithAll_c {l : Launch} {θ : tv_Th} (F : Nat) (a1 : Int32) (a2 : Int32) (M : tv_M) : tv_Ct l θ ⟨"TiedViews$Choices", "goesWithAll", "(II)Z"⟩ prog_4_method_7_code 6 (some .boolean) 1 tv_ei [.ref (θ.1 + 201), .int a1, .int a2] M (Ch_goesWithAll F a1 a2 M) := by
  refine tv_ofG [some (.ref (θ.1 + 201)), some (.int a1), some (.int a2), none, none, none] rfl rfl (tv_ent 3 rfl) ?_
  intro κ hl ht hC hR
  subst hl; subst ht
  unfold Ch_goesWithAll
  refine g_aload_n hC d_Ch_goesWithAll_0 rfl ?_
  refine fg_Ch_11 hC lc_201 d_Ch_goesWithAll_1 p0_201_1 ?_
  refine g_iload_n hC d_Ch_goesWithAll_4 rfl ?_
  refine g_iconst hC d_Ch_goesWithAll_5 k_i4 ?_
  refine g_imul hC d_Ch_goesWithAll_6 ?_
  refine g_iload_n hC d_Ch_goesWithAll_7 rfl ?_
  refine g_iadd hC d_Ch_goesWithAll_8 ?_
  refine gv_aald hC 3 ly_202 rfl d_Ch_goesWithAll_9 (fun p1 => ?_)
  refine g_gn (fun n3 h2 => ?_)
  refine g_astore_n (ls' := [some (.ref (κ.b + 201)), some (.int a1), some (.int a2), some (.ref (κ.b + p1)), none, none]) hC d_Ch_goesWithAll_10 rfl rfl ?_
  refine g_iconst hC d_Ch_goesWithAll_11 k_i0 ?_
  refine g_istore (ls' := [some (.ref (κ.b + 201)), some (.int a1), some (.int a2), some (.ref (κ.b + p1)), some (.int 0), none]) hC d_Ch_goesWithAll_12 rfl rfl ?_
  refine g_mask [true, true, false, true, true, false] (ls' := [some (.ref (κ.b + 201)), some (.int a1), none, some (.ref (κ.b + p1)), some (.int 0), none]) rfl ?_
  exact Ch_goesWithAll_L14_g hC hR F F a1 p1 0 M
theorem d_Ch_narrowOne_0 : decode prog_4_method_6_code 0 = .ok (.aload_n 0, 1) := by decide +kernel
theorem d_Ch_narrowOne_1 : decode prog_4_method_6_code 1 = .ok (.getfield 27, 3) := by decide +kernel
theorem d_Ch_narrowOne_4 : decode prog_4_method_6_code 4 = .ok (.iload_n 1, 1) := by decide +kernel
theorem d_Ch_narrowOne_5 : decode prog_4_method_6_code 5 = .ok (.invokevirtual 67, 3) := by decide +kernel
theorem d_Ch_narrowOne_8 : decode prog_4_method_6_code 8 = .ok (.astore_n 2, 1) := by decide +kernel
theorem d_Ch_narrowOne_9 : decode prog_4_method_6_code 9 = .ok (.aload_n 2, 1) := by decide +kernel
theorem d_Ch_narrowOne_10 : decode prog_4_method_6_code 10 = .ok (.ifnonnull 5, 3) := by decide +kernel
theorem d_Ch_narrowOne_13 : decode prog_4_method_6_code 13 = .ok (.iconst 0, 1) := by decide +kernel
theorem d_Ch_narrowOne_14 : decode prog_4_method_6_code 14 = .ok (.ireturn, 1) := by decide +kernel
theorem d_Ch_narrowOne_15 : decode prog_4_method_6_code 15 = .ok (.iconst 0, 1) := by decide +kernel
theorem d_Ch_narrowOne_16 : decode prog_4_method_6_code 16 = .ok (.istore_n 3, 1) := by decide +kernel
theorem d_Ch_narrowOne_17 : decode prog_4_method_6_code 17 = .ok (.iconst 0, 1) := by decide +kernel
theorem d_Ch_narrowOne_18 : decode prog_4_method_6_code 18 = .ok (.istore 4, 2) := by decide +kernel
theorem d_Ch_narrowOne_20 : decode prog_4_method_6_code 20 = .ok (.iload 4, 2) := by decide +kernel
theorem d_Ch_narrowOne_22 : decode prog_4_method_6_code 22 = .ok (.aload_n 2, 1) := by decide +kernel
theorem d_Ch_narrowOne_23 : decode prog_4_method_6_code 23 = .ok (.getfield 71, 3) := by decide +kernel
theorem d_Ch_narrowOne_26 : decode prog_4_method_6_code 26 = .ok (.if_icmp .ge 50, 3) := by decide +kernel
theorem d_Ch_narrowOne_29 : decode prog_4_method_6_code 29 = .ok (.aload_n 2, 1) := by decide +kernel
theorem d_Ch_narrowOne_30 : decode prog_4_method_6_code 30 = .ok (.getfield 76, 3) := by decide +kernel
theorem d_Ch_narrowOne_33 : decode prog_4_method_6_code 33 = .ok (.iload 4, 2) := by decide +kernel
theorem d_Ch_narrowOne_35 : decode prog_4_method_6_code 35 = .ok (.ishr, 1) := by decide +kernel
theorem d_Ch_narrowOne_36 : decode prog_4_method_6_code 36 = .ok (.iconst 1, 1) := by decide +kernel
theorem d_Ch_narrowOne_37 : decode prog_4_method_6_code 37 = .ok (.iand, 1) := by decide +kernel
theorem d_Ch_narrowOne_38 : decode prog_4_method_6_code 38 = .ok (.iconst 1, 1) := by decide +kernel
theorem d_Ch_narrowOne_39 : decode prog_4_method_6_code 39 = .ok (.if_icmp .ne 31, 3) := by decide +kernel
theorem d_Ch_narrowOne_42 : decode prog_4_method_6_code 42 = .ok (.aload_n 0, 1) := by decide +kernel
theorem d_Ch_narrowOne_43 : decode prog_4_method_6_code 43 = .ok (.iload_n 1, 1) := by decide +kernel
theorem d_Ch_narrowOne_44 : decode prog_4_method_6_code 44 = .ok (.iload 4, 2) := by decide +kernel
theorem d_Ch_narrowOne_46 : decode prog_4_method_6_code 46 = .ok (.invokevirtual 79, 3) := by decide +kernel
theorem d_Ch_narrowOne_49 : decode prog_4_method_6_code 49 = .ok (.ifCond .ne 21, 3) := by decide +kernel
theorem d_Ch_narrowOne_52 : decode prog_4_method_6_code 52 = .ok (.aload_n 2, 1) := by decide +kernel
theorem d_Ch_narrowOne_53 : decode prog_4_method_6_code 53 = .ok (.dup, 1) := by decide +kernel
theorem d_Ch_narrowOne_54 : decode prog_4_method_6_code 54 = .ok (.getfield 76, 3) := by decide +kernel
theorem d_Ch_narrowOne_57 : decode prog_4_method_6_code 57 = .ok (.iconst 1, 1) := by decide +kernel
theorem d_Ch_narrowOne_58 : decode prog_4_method_6_code 58 = .ok (.iload 4, 2) := by decide +kernel
theorem d_Ch_narrowOne_60 : decode prog_4_method_6_code 60 = .ok (.ishl, 1) := by decide +kernel
theorem d_Ch_narrowOne_61 : decode prog_4_method_6_code 61 = .ok (.iconst (-1), 1) := by decide +kernel
theorem d_Ch_narrowOne_62 : decode prog_4_method_6_code 62 = .ok (.ixor, 1) := by decide +kernel
theorem d_Ch_narrowOne_63 : decode prog_4_method_6_code 63 = .ok (.iand, 1) := by decide +kernel
theorem d_Ch_narrowOne_64 : decode prog_4_method_6_code 64 = .ok (.putfield 76, 3) := by decide +kernel
theorem d_Ch_narrowOne_67 : decode prog_4_method_6_code 67 = .ok (.iinc 3 1, 3) := by decide +kernel
theorem d_Ch_narrowOne_70 : decode prog_4_method_6_code 70 = .ok (.iinc 4 1, 3) := by decide +kernel
theorem d_Ch_narrowOne_73 : decode prog_4_method_6_code 73 = .ok (.goto (-53), 3) := by decide +kernel
theorem d_Ch_narrowOne_76 : decode prog_4_method_6_code 76 = .ok (.iload_n 3, 1) := by decide +kernel
theorem d_Ch_narrowOne_77 : decode prog_4_method_6_code 77 = .ok (.ireturn, 1) := by decide +kernel
set_option maxHeartbeats 2000000 in
theorem Ch_narrowOne_L20_g {κ : tv_Kt} (hC : tv_Cx κ "TiedViews$Choices" prog_4_method_6_code 5 2) (hR : tv_Re κ (some .int)) (F : Nat) : ∀ (n : Nat) (l1 : Int32) (l2 : Nat) (l3 : Int32) (l4 : Int32) (M : tv_M), tv_G κ 5 (tv_Qm κ tv_ei) 20 [some (.ref (κ.b + 201)), some (.int l1), some (.ref (κ.b + l2)), some (.int l3), some (.int l4)] [] M (Ch_narrowOne_L20 F n l1 l2 l3 l4 M) := by
  intro n
  induction n with
  | zero => intro _ _ _ _ _; exact g_none
  | succ nn ih =>
    intro l1 l2 l3 l4 M
    rw [Ch_narrowOne_L20]
    refine g_gl (fun h5 => ?_)
    refine g_iload hC d_Ch_narrowOne_20 rfl ?_
    refine g_aload_n hC d_Ch_narrowOne_22 rfl ?_
    refine fg_Ch_71 hC h5 d_Ch_narrowOne_23 ?_
    refine g_icmp_ge (tgt := 76) hC d_Ch_narrowOne_26 (by decide) (fun _ => ?_) (fun _ => ?_)
    · refine g_iload_n hC d_Ch_narrowOne_76 rfl ?_
      exact g_iret hC hR d_Ch_narrowOne_77
    · refine g_aload_n hC d_Ch_narrowOne_29 rfl ?_
      refine fg_Ch_76 hC h5 d_Ch_narrowOne_30 ?_
      refine g_iload hC d_Ch_narrowOne_33 rfl ?_
      refine g_ishr hC d_Ch_narrowOne_35 ?_
      refine g_iconst hC d_Ch_narrowOne_36 k_i1 ?_
      refine g_iand hC d_Ch_narrowOne_37 ?_
      refine g_iconst hC d_Ch_narrowOne_38 k_i1 ?_
      refine g_icmp_ne (tgt := 70) hC d_Ch_narrowOne_39 (by decide) (fun _ => ?_) (fun _ => ?_)
      · refine g_iinc (ls' := [some (.ref (κ.b + 201)), some (.int l1), some (.ref (κ.b + l2)), some (.int l3), some (.int (l4 + 1))]) hC d_Ch_narrowOne_70 rfl k_i1 rfl rfl ?_
        refine g_goto (tgt := 20) hC d_Ch_narrowOne_73 (by decide) ?_
        exact ih l1 l2 l3 (l4 + 1) M
      · refine g_aload_n hC d_Ch_narrowOne_42 rfl ?_
        refine g_iload_n hC d_Ch_narrowOne_43 rfl ?_
        refine g_iload hC d_Ch_narrowOne_44 rfl ?_
        refine gv_callVi hC [.int l1, .int l4] cw_Ch_79 (Ch_goesWithAll_c F l1 l4 M) lc_201 rfl rfl rfl rfl rfl rfl rfl d_Ch_narrowOne_46 (fun r6 M7 => ?_)
        refine g_if_ne (tgt := 70) hC d_Ch_narrowOne_49 (by decide) (fun _ => ?_) (fun _ => ?_)
        · refine g_iinc (ls' := [some (.ref (κ.b + 201)), some (.int l1), some (.ref (κ.b + l2)), some (.int l3), some (.int (l4 + 1))]) hC d_Ch_narrowOne_70 rfl k_i1 rfl rfl ?_
          refine g_goto (tgt := 20) hC d_Ch_narrowOne_73 (by decide) ?_
          exact ih l1 l2 l3 (l4 + 1) M7
        · refine g_aload_n hC d_Ch_narrowOne_52 rfl ?_
          refine g_dup hC d_Ch_narrowOne_53 rfl ?_
          refine fg_Ch_76 hC h5 d_Ch_narrowOne_54 ?_
          refine g_iconst hC d_Ch_narrowOne_57 k_i1 ?_
          refine g_iload hC d_Ch_narrowOne_58 rfl ?_
          refine g_ishl hC d_Ch_narrowOne_60 ?_
          refine g_iconst hC d_Ch_narrowOne_61 k_im1 ?_
          refine g_ixor hC d_Ch_narrowOne_62 ?_
          refine g_iand hC d_Ch_narrowOne_63 ?_
          refine fp_Ch_76 hC h5 d_Ch_narrowOne_64 (fun M8 => ?_)
          refine g_iinc (ls' := [some (.ref (κ.b + 201)), some (.int l1), some (.ref (κ.b + l2)), some (.int (l3 + 1)), some (.int l4)]) hC d_Ch_narrowOne_67 rfl k_i1 rfl rfl ?_
          refine g_iinc (ls' := [some (.ref (κ.b + 201)), some (.int l1), some (.ref (κ.b + l2)), some (.int (l3 + 1)), some (.int (l4 + 1))]) hC d_Ch_narrowOne_70 rfl k_i1 rfl rfl ?_
          refine g_goto (tgt := 20) hC d_Ch_narrowOne_73 (by decide) ?_
          exact ih l1 l2 (l3 + 1) (l4 + 1) M8
set_option maxHeartbeats 2000000 in
theorem Ch_narrowOne_c {l : Launch} {θ : tv_Th} (F : Nat) (a1 : Int32) (M : tv_M) : tv_Ct l θ ⟨"TiedViews$Choices", "narrowOne", "(I)I"⟩ prog_4_method_6_code 5 (some .int) 2 tv_ei [.ref (θ.1 + 201), .int a1] M (Ch_narrowOne F a1 M) := by
  refine tv_ofG [some (.ref (θ.1 + 201)), some (.int a1), none, none, none] rfl rfl (tv_ent 3 rfl) ?_
  intro κ hl ht hC hR
  subst hl; subst ht
  unfold Ch_narrowOne
  refine g_aload_n hC d_Ch_narrowOne_0 rfl ?_
  refine fg_Ch_27 hC lc_201 d_Ch_narrowOne_1 p0_201_0 ?_
  refine g_iload_n hC d_Ch_narrowOne_4 rfl ?_
  refine gv_callVr hC [.int a1] cw_Ch_67 (To_choiceAt_c F a1 M) lc_18 rfl rfl rfl rfl rfl rfl rfl d_Ch_narrowOne_5 (fun r1 M2 => ?_)
  refine g_astore_nQ (ls' := [some (.ref (κ.b + 201)), some (.int a1), some (tv_re κ.b r1), none, none]) hC d_Ch_narrowOne_8 rfl rfl ?_
  refine g_aload_nQ hC d_Ch_narrowOne_9 rfl ?_
  rcases r1 with _ | p3
  · refine g_nlN ?_
    refine g_ifnonnullN hC d_Ch_narrowOne_10 ?_
    refine g_iconst hC d_Ch_narrowOne_13 k_i0 ?_
    exact g_iret hC hR d_Ch_narrowOne_14
  · refine g_nlS ?_
    refine g_ifnonnullR (tgt := 15) hC d_Ch_narrowOne_10 (by decide) ?_
    refine g_gl (fun h4 => ?_)
    refine g_iconst hC d_Ch_narrowOne_15 k_i0 ?_
    refine g_istore_n (ls' := [some (.ref (κ.b + 201)), some (.int a1), some (.ref (κ.b + p3)), some (.int 0), none]) hC d_Ch_narrowOne_16 rfl rfl ?_
    refine g_iconst hC d_Ch_narrowOne_17 k_i0 ?_
    refine g_istore (ls' := [some (.ref (κ.b + 201)), some (.int a1), some (.ref (κ.b + p3)), some (.int 0), some (.int 0)]) hC d_Ch_narrowOne_18 rfl rfl ?_
    exact Ch_narrowOne_L20_g hC hR F F a1 p3 0 0 M2
theorem d_Ch_narrowSets_0 : decode prog_4_method_5_code 0 = .ok (.iconst 0, 1) := by decide +kernel
theorem d_Ch_narrowSets_1 : decode prog_4_method_5_code 1 = .ok (.istore_n 1, 1) := by decide +kernel
theorem d_Ch_narrowSets_2 : decode prog_4_method_5_code 2 = .ok (.iconst 1, 1) := by decide +kernel
theorem d_Ch_narrowSets_3 : decode prog_4_method_5_code 3 = .ok (.istore_n 2, 1) := by decide +kernel
theorem d_Ch_narrowSets_4 : decode prog_4_method_5_code 4 = .ok (.iconst 0, 1) := by decide +kernel
theorem d_Ch_narrowSets_5 : decode prog_4_method_5_code 5 = .ok (.istore_n 3, 1) := by decide +kernel
theorem d_Ch_narrowSets_6 : decode prog_4_method_5_code 6 = .ok (.iload_n 3, 1) := by decide +kernel
theorem d_Ch_narrowSets_7 : decode prog_4_method_5_code 7 = .ok (.bipush 32, 2) := by decide +kernel
theorem d_Ch_narrowSets_9 : decode prog_4_method_5_code 9 = .ok (.if_icmp .gt 58, 3) := by decide +kernel
theorem d_Ch_narrowSets_12 : decode prog_4_method_5_code 12 = .ok (.iload_n 2, 1) := by decide +kernel
theorem d_Ch_narrowSets_13 : decode prog_4_method_5_code 13 = .ok (.ifCond .eq 54, 3) := by decide +kernel
theorem d_Ch_narrowSets_16 : decode prog_4_method_5_code 16 = .ok (.iload_n 1, 1) := by decide +kernel
theorem d_Ch_narrowSets_17 : decode prog_4_method_5_code 17 = .ok (.istore 4, 2) := by decide +kernel
theorem d_Ch_narrowSets_19 : decode prog_4_method_5_code 19 = .ok (.iconst 0, 1) := by decide +kernel
theorem d_Ch_narrowSets_20 : decode prog_4_method_5_code 20 = .ok (.istore 5, 2) := by decide +kernel
theorem d_Ch_narrowSets_22 : decode prog_4_method_5_code 22 = .ok (.iload 5, 2) := by decide +kernel
theorem d_Ch_narrowSets_24 : decode prog_4_method_5_code 24 = .ok (.aload_n 0, 1) := by decide +kernel
theorem d_Ch_narrowSets_25 : decode prog_4_method_5_code 25 = .ok (.getfield 27, 3) := by decide +kernel
theorem d_Ch_narrowSets_28 : decode prog_4_method_5_code 28 = .ok (.getfield 60, 3) := by decide +kernel
theorem d_Ch_narrowSets_31 : decode prog_4_method_5_code 31 = .ok (.if_icmp .ge 18, 3) := by decide +kernel
theorem d_Ch_narrowSets_34 : decode prog_4_method_5_code 34 = .ok (.iload_n 1, 1) := by decide +kernel
theorem d_Ch_narrowSets_35 : decode prog_4_method_5_code 35 = .ok (.aload_n 0, 1) := by decide +kernel
theorem d_Ch_narrowSets_36 : decode prog_4_method_5_code 36 = .ok (.iload 5, 2) := by decide +kernel
theorem d_Ch_narrowSets_38 : decode prog_4_method_5_code 38 = .ok (.invokevirtual 63, 3) := by decide +kernel
theorem d_Ch_narrowSets_41 : decode prog_4_method_5_code 41 = .ok (.iadd, 1) := by decide +kernel
theorem d_Ch_narrowSets_42 : decode prog_4_method_5_code 42 = .ok (.istore_n 1, 1) := by decide +kernel
theorem d_Ch_narrowSets_43 : decode prog_4_method_5_code 43 = .ok (.iinc 5 1, 3) := by decide +kernel
theorem d_Ch_narrowSets_46 : decode prog_4_method_5_code 46 = .ok (.goto (-24), 3) := by decide +kernel
theorem d_Ch_narrowSets_49 : decode prog_4_method_5_code 49 = .ok (.iload_n 1, 1) := by decide +kernel
theorem d_Ch_narrowSets_50 : decode prog_4_method_5_code 50 = .ok (.iload 4, 2) := by decide +kernel
theorem d_Ch_narrowSets_52 : decode prog_4_method_5_code 52 = .ok (.if_icmp .le 7, 3) := by decide +kernel
theorem d_Ch_narrowSets_55 : decode prog_4_method_5_code 55 = .ok (.iconst 1, 1) := by decide +kernel
theorem d_Ch_narrowSets_56 : decode prog_4_method_5_code 56 = .ok (.goto 4, 3) := by decide +kernel
theorem d_Ch_narrowSets_59 : decode prog_4_method_5_code 59 = .ok (.iconst 0, 1) := by decide +kernel
theorem d_Ch_narrowSets_60 : decode prog_4_method_5_code 60 = .ok (.istore_n 2, 1) := by decide +kernel
theorem d_Ch_narrowSets_61 : decode prog_4_method_5_code 61 = .ok (.iinc 3 1, 3) := by decide +kernel
theorem d_Ch_narrowSets_64 : decode prog_4_method_5_code 64 = .ok (.goto (-58), 3) := by decide +kernel
theorem d_Ch_narrowSets_67 : decode prog_4_method_5_code 67 = .ok (.aload_n 0, 1) := by decide +kernel
theorem d_Ch_narrowSets_68 : decode prog_4_method_5_code 68 = .ok (.iconst 0, 1) := by decide +kernel
theorem d_Ch_narrowSets_69 : decode prog_4_method_5_code 69 = .ok (.putfield 31, 3) := by decide +kernel
theorem d_Ch_narrowSets_72 : decode prog_4_method_5_code 72 = .ok (.iload_n 1, 1) := by decide +kernel
theorem d_Ch_narrowSets_73 : decode prog_4_method_5_code 73 = .ok (.ireturn, 1) := by decide +kernel
set_option maxHeartbeats 2000000 in
theorem Ch_narrowSets_L22_g {κ : tv_Kt} (hC : tv_Cx κ "TiedViews$Choices" prog_4_method_5_code 6 3) (hR : tv_Re κ (some .int)) (F : Nat) {k6 : Int32 → Int32 → Int32 → tv_M → Option (Int32 × tv_M)} (hk6 : ∀ (l1 : Int32) (l2 : Int32) (l3 : Int32) (M : tv_M), tv_G κ 6 (tv_Qm κ tv_ei) 6 [some (.ref (κ.b + 201)), some (.int l1), some (.int l2), some (.int l3), none, none] [] M (k6 l1 l2 l3 M)) : ∀ (n : Nat) (l1 : Int32) (l3 : Int32) (l4 : Int32) (l5 : Int32) (M : tv_M), tv_G κ 6 (tv_Qm κ tv_ei) 22 [some (.ref (κ.b + 201)), some (.int l1), none, some (.int l3), some (.int l4), some (.int l5)] [] M (Ch_narrowSets_L22 F k6 n l1 l3 l4 l5 M) := by
  intro n
  induction n with
  | zero => intro _ _ _ _ _; exact g_none
  | succ nn ih =>
    intro l1 l3 l4 l5 M
    rw [Ch_narrowSets_L22]
    refine g_iload hC d_Ch_narrowSets_22 rfl ?_
    refine g_aload_n hC d_Ch_narrowSets_24 rfl ?_
    refine fg_Ch_27 hC lc_201 d_Ch_narrowSets_25 p0_201_0 ?_
    refine fg_Ch_60 hC lc_18 d_Ch_narrowSets_28 ?_
    refine g_icmp_ge (tgt := 49) hC d_Ch_narrowSets_31 (by decide) (fun _ => ?_) (fun _ => ?_)
    · refine g_iload_n hC d_Ch_narrowSets_49 rfl ?_
      refine g_iload hC d_Ch_narrowSets_50 rfl ?_
      refine g_icmp_le (tgt := 59) hC d_Ch_narrowSets_52 (by decide) (fun _ => ?_) (fun _ => ?_)
      · refine g_iconst hC d_Ch_narrowSets_59 k_i0 ?_
        refine g_istore_n (ls' := [some (.ref (κ.b + 201)), some (.int l1), some (.int 0), some (.int l3), some (.int l4), some (.int l5)]) hC d_Ch_narrowSets_60 rfl rfl ?_
        refine g_iinc (ls' := [some (.ref (κ.b + 201)), some (.int l1), some (.int 0), some (.int (l3 + 1)), some (.int l4), some (.int l5)]) hC d_Ch_narrowSets_61 rfl k_i1 rfl rfl ?_
        refine g_goto (tgt := 6) hC d_Ch_narrowSets_64 (by decide) ?_
        refine g_mask [true, true, true, true, false, false] (ls' := [some (.ref (κ.b + 201)), some (.int l1), some (.int 0), some (.int (l3 + 1)), none, none]) rfl ?_
        exact hk6 l1 0 (l3 + 1) M
      · refine g_iconst hC d_Ch_narrowSets_55 k_i1 ?_
        refine g_goto (tgt := 60) hC d_Ch_narrowSets_56 (by decide) ?_
        refine g_istore_n (ls' := [some (.ref (κ.b + 201)), some (.int l1), some (.int 1), some (.int l3), some (.int l4), some (.int l5)]) hC d_Ch_narrowSets_60 rfl rfl ?_
        refine g_iinc (ls' := [some (.ref (κ.b + 201)), some (.int l1), some (.int 1), some (.int (l3 + 1)), some (.int l4), some (.int l5)]) hC d_Ch_narrowSets_61 rfl k_i1 rfl rfl ?_
        refine g_goto (tgt := 6) hC d_Ch_narrowSets_64 (by decide) ?_
        refine g_mask [true, true, true, true, false, false] (ls' := [some (.ref (κ.b + 201)), some (.int l1), some (.int 1), some (.int (l3 + 1)), none, none]) rfl ?_
        exact hk6 l1 1 (l3 + 1) M
    · refine g_iload_n hC d_Ch_narrowSets_34 rfl ?_
      refine g_aload_n hC d_Ch_narrowSets_35 rfl ?_
      refine g_iload hC d_Ch_narrowSets_36 rfl ?_
      refine gv_callVi hC [.int l5] cw_Ch_63 (Ch_narrowOne_c F l5 M) lc_201 rfl rfl rfl rfl rfl rfl rfl d_Ch_narrowSets_38 (fun r3 M4 => ?_)
      refine g_iadd hC d_Ch_narrowSets_41 ?_
      refine g_istore_n (ls' := [some (.ref (κ.b + 201)), some (.int (l1 + r3)), none, some (.int l3), some (.int l4), some (.int l5)]) hC d_Ch_narrowSets_42 rfl rfl ?_
      refine g_iinc (ls' := [some (.ref (κ.b + 201)), some (.int (l1 + r3)), none, some (.int l3), some (.int l4), some (.int (l5 + 1))]) hC d_Ch_narrowSets_43 rfl k_i1 rfl rfl ?_
      refine g_goto (tgt := 22) hC d_Ch_narrowSets_46 (by decide) ?_
      exact ih (l1 + r3) l3 l4 (l5 + 1) M4
set_option maxHeartbeats 2000000 in
theorem Ch_narrowSets_L6_g {κ : tv_Kt} (hC : tv_Cx κ "TiedViews$Choices" prog_4_method_5_code 6 3) (hR : tv_Re κ (some .int)) (F : Nat) : ∀ (n : Nat) (l1 : Int32) (l2 : Int32) (l3 : Int32) (M : tv_M), tv_G κ 6 (tv_Qm κ tv_ei) 6 [some (.ref (κ.b + 201)), some (.int l1), some (.int l2), some (.int l3), none, none] [] M (Ch_narrowSets_L6 F n l1 l2 l3 M) := by
  intro n
  induction n with
  | zero => intro _ _ _ _; exact g_none
  | succ nn ih =>
    intro l1 l2 l3 M
    rw [Ch_narrowSets_L6]
    refine g_iload_n hC d_Ch_narrowSets_6 rfl ?_
    refine g_bipush hC d_Ch_narrowSets_7 k_b32 ?_
    refine g_icmp_gt (tgt := 67) hC d_Ch_narrowSets_9 (by decide) (fun _ => ?_) (fun _ => ?_)
    · refine g_aload_n hC d_Ch_narrowSets_67 rfl ?_
      refine g_iconst hC d_Ch_narrowSets_68 k_i0 ?_
      refine fp_Ch_31 hC lc_201 tv_z0 d_Ch_narrowSets_69 (fun M1 => ?_)
      refine g_iload_n hC d_Ch_narrowSets_72 rfl ?_
      exact g_iret hC hR d_Ch_narrowSets_73
    · refine g_iload_n hC d_Ch_narrowSets_12 rfl ?_
      refine g_if_eq (tgt := 67) hC d_Ch_narrowSets_13 (by decide) (fun _ => ?_) (fun _ => ?_)
      · refine g_aload_n hC d_Ch_narrowSets_67 rfl ?_
        refine g_iconst hC d_Ch_narrowSets_68 k_i0 ?_
        refine fp_Ch_31 hC lc_201 tv_z0 d_Ch_narrowSets_69 (fun M2 => ?_)
        refine g_iload_n hC d_Ch_narrowSets_72 rfl ?_
        exact g_iret hC hR d_Ch_narrowSets_73
      · refine g_iload_n hC d_Ch_narrowSets_16 rfl ?_
        refine g_istore (ls' := [some (.ref (κ.b + 201)), some (.int l1), some (.int l2), some (.int l3), some (.int l1), none]) hC d_Ch_narrowSets_17 rfl rfl ?_
        refine g_iconst hC d_Ch_narrowSets_19 k_i0 ?_
        refine g_istore (ls' := [some (.ref (κ.b + 201)), some (.int l1), some (.int l2), some (.int l3), some (.int l1), some (.int 0)]) hC d_Ch_narrowSets_20 rfl rfl ?_
        refine g_mask [true, true, false, true, true, true] (ls' := [some (.ref (κ.b + 201)), some (.int l1), none, some (.int l3), some (.int l1), some (.int 0)]) rfl ?_
        exact Ch_narrowSets_L22_g hC hR F ih F l1 l3 l1 0 M
set_option maxHeartbeats 2000000 in
theorem Ch_narrowSets_c {l : Launch} {θ : tv_Th} (F : Nat) (M : tv_M) : tv_Ct l θ ⟨"TiedViews$Choices", "narrowSets", "()I"⟩ prog_4_method_5_code 6 (some .int) 3 tv_ei [.ref (θ.1 + 201)] M (Ch_narrowSets F M) := by
  refine tv_ofG [some (.ref (θ.1 + 201)), none, none, none, none, none] rfl rfl (tv_ent 5 rfl) ?_
  intro κ hl ht hC hR
  subst hl; subst ht
  unfold Ch_narrowSets
  refine g_iconst hC d_Ch_narrowSets_0 k_i0 ?_
  refine g_istore_n (ls' := [some (.ref (κ.b + 201)), some (.int 0), none, none, none, none]) hC d_Ch_narrowSets_1 rfl rfl ?_
  refine g_iconst hC d_Ch_narrowSets_2 k_i1 ?_
  refine g_istore_n (ls' := [some (.ref (κ.b + 201)), some (.int 0), some (.int 1), none, none, none]) hC d_Ch_narrowSets_3 rfl rfl ?_
  refine g_iconst hC d_Ch_narrowSets_4 k_i0 ?_
  refine g_istore_n (ls' := [some (.ref (κ.b + 201)), some (.int 0), some (.int 1), some (.int 0), none, none]) hC d_Ch_narrowSets_5 rfl rfl ?_
  exact Ch_narrowSets_L6_g hC hR F F 0 1 0 M
theorem d_Xx_narrow_0 : decode prog_1_method_25_code 0 = .ok (.aload_n 0, 1) := by decide +kernel
theorem d_Xx_narrow_1 : decode prog_1_method_25_code 1 = .ok (.getfield 68, 3) := by decide +kernel
theorem d_Xx_narrow_4 : decode prog_1_method_25_code 4 = .ok (.invokevirtual 278, 3) := by decide +kernel
theorem d_Xx_narrow_7 : decode prog_1_method_25_code 7 = .ok (.ireturn, 1) := by decide +kernel
set_option maxHeartbeats 2000000 in
theorem Xx_narrow_c {l : Launch} {θ : tv_Th} (F : Nat) (M : tv_M) : tv_Ct l θ ⟨"TiedViews", "narrow", "()I"⟩ prog_1_method_25_code 1 (some .int) 4 tv_ei [.ref (θ.1 + 0)] M (Xx_narrow F M) := by
  refine tv_ofG [some (.ref (θ.1 + 0))] rfl rfl (tv_ent 0 rfl) ?_
  intro κ hl ht hC hR
  subst hl; subst ht
  unfold Xx_narrow
  refine g_aload_n hC d_Xx_narrow_0 rfl ?_
  refine fg_Xx_68 hC lc_0 d_Xx_narrow_1 p0_0_7 ?_
  refine gv_callVi hC [] cw_Xx_278 (Ch_narrowSets_c F M) lc_201 rfl rfl rfl rfl rfl rfl rfl d_Xx_narrow_4 (fun r1 M2 => ?_)
  exact g_iret hC hR d_Xx_narrow_7
