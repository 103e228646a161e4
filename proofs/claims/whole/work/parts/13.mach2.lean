theorem d_Xx_read_0 : decode prog_1_method_7_code 0 = .ok (.aload_n 0, 1) := by decide +kernel
theorem d_Xx_read_1 : decode prog_1_method_7_code 1 = .ok (.getfield 38, 3) := by decide +kernel
theorem d_Xx_read_4 : decode prog_1_method_7_code 4 = .ok (.invokevirtual 131, 3) := by decide +kernel
theorem d_Xx_read_7 : decode prog_1_method_7_code 7 = .ok (.istore_n 1, 1) := by decide +kernel
theorem d_Xx_read_8 : decode prog_1_method_7_code 8 = .ok (.iload_n 1, 1) := by decide +kernel
theorem d_Xx_read_9 : decode prog_1_method_7_code 9 = .ok (.iconst (-1), 1) := by decide +kernel
theorem d_Xx_read_10 : decode prog_1_method_7_code 10 = .ok (.if_icmp .eq 8, 3) := by decide +kernel
theorem d_Xx_read_13 : decode prog_1_method_7_code 13 = .ok (.ldc 135, 2) := by decide +kernel
theorem d_Xx_read_15 : decode prog_1_method_7_code 15 = .ok (.iload_n 1, 1) := by decide +kernel
theorem d_Xx_read_16 : decode prog_1_method_7_code 16 = .ok (.isub, 1) := by decide +kernel
theorem d_Xx_read_17 : decode prog_1_method_7_code 17 = .ok (.ireturn, 1) := by decide +kernel
theorem d_Xx_read_18 : decode prog_1_method_7_code 18 = .ok (.aload_n 0, 1) := by decide +kernel
theorem d_Xx_read_19 : decode prog_1_method_7_code 19 = .ok (.getfield 45, 3) := by decide +kernel
theorem d_Xx_read_22 : decode prog_1_method_7_code 22 = .ok (.invokevirtual 136, 3) := by decide +kernel
theorem d_Xx_read_25 : decode prog_1_method_7_code 25 = .ok (.aload_n 0, 1) := by decide +kernel
theorem d_Xx_read_26 : decode prog_1_method_7_code 26 = .ok (.getfield 54, 3) := by decide +kernel
theorem d_Xx_read_29 : decode prog_1_method_7_code 29 = .ok (.invokevirtual 139, 3) := by decide +kernel
theorem d_Xx_read_32 : decode prog_1_method_7_code 32 = .ok (.aload_n 0, 1) := by decide +kernel
theorem d_Xx_read_33 : decode prog_1_method_7_code 33 = .ok (.getfield 68, 3) := by decide +kernel
theorem d_Xx_read_36 : decode prog_1_method_7_code 36 = .ok (.invokevirtual 142, 3) := by decide +kernel
theorem d_Xx_read_39 : decode prog_1_method_7_code 39 = .ok (.aload_n 0, 1) := by decide +kernel
theorem d_Xx_read_40 : decode prog_1_method_7_code 40 = .ok (.getfield 29, 3) := by decide +kernel
theorem d_Xx_read_43 : decode prog_1_method_7_code 43 = .ok (.getfield 145, 3) := by decide +kernel
theorem d_Xx_read_46 : decode prog_1_method_7_code 46 = .ok (.ireturn, 1) := by decide +kernel
set_option maxHeartbeats 2000000 in
theorem Xx_read_c {l : Launch} {θ : tv_Th} (F : Nat) (M : tv_M) : tv_Ct l θ ⟨"TiedViews", "read", "()I"⟩ prog_1_method_7_code 2 (some .int) 9 tv_ei [.ref (θ.1 + 0)] M (Xx_read F M) := by
  refine tv_ofG [some (.ref (θ.1 + 0)), none] rfl rfl (tv_ent 1 rfl) ?_
  intro κ hl ht hC hR
  subst hl; subst ht
  unfold Xx_read
  refine g_aload_n hC d_Xx_read_0 rfl ?_
  refine fg_Xx_38 hC lc_0 d_Xx_read_1 p0_0_3 ?_
  refine gv_callVi hC [] cw_Xx_131 (Re_takeIn_c F M) lc_68 rfl rfl rfl rfl rfl rfl rfl d_Xx_read_4 (fun r1 M2 => ?_)
  refine g_istore_n (ls' := [some (.ref (κ.b + 0)), some (.int r1)]) hC d_Xx_read_7 rfl rfl ?_
  refine g_iload_n hC d_Xx_read_8 rfl ?_
  refine g_iconst hC d_Xx_read_9 k_im1 ?_
  refine g_icmp_eq (tgt := 18) hC d_Xx_read_10 (by decide) (fun _ => ?_) (fun _ => ?_)
  · refine g_aload_n hC d_Xx_read_18 rfl ?_
    refine fg_Xx_45 hC lc_0 d_Xx_read_19 p0_0_4 ?_
    refine gv_callVv hC [] cw_Xx_136 (Ag_learnLines_c F M2) lc_70 rfl rfl rfl rfl rfl rfl rfl d_Xx_read_22 (fun r3 M4 => ?_)
    refine g_aload_n hC d_Xx_read_25 rfl ?_
    refine fg_Xx_54 hC lc_0 d_Xx_read_26 p0_0_5 ?_
    refine gv_callVv hC [] cw_Xx_139 (Dr_forget_c F M4) lc_165 rfl rfl rfl rfl rfl rfl rfl d_Xx_read_29 (fun r5 M6 => ?_)
    refine g_aload_n hC d_Xx_read_32 rfl ?_
    refine fg_Xx_68 hC lc_0 d_Xx_read_33 p0_0_7 ?_
    refine gv_callVv hC [] cw_Xx_142 (Ch_learnBars_c F M6) lc_201 rfl rfl rfl rfl rfl rfl rfl d_Xx_read_36 (fun r7 M8 => ?_)
    refine g_aload_n hC d_Xx_read_39 rfl ?_
    refine fg_Xx_29 hC lc_0 d_Xx_read_40 p0_0_2 ?_
    refine fg_Xx_145 hC lc_18 d_Xx_read_43 ?_
    exact g_iret hC hR d_Xx_read_46
  · refine g_ldc hC d_Xx_read_13 wk_Xx_135 ?_
    refine g_iload_n hC d_Xx_read_15 rfl ?_
    refine g_isub hC d_Xx_read_16 ?_
    exact g_iret hC hR d_Xx_read_17
theorem d_Xx_fault_0 : decode prog_1_method_8_code 0 = .ok (.aload_n 0, 1) := by decide +kernel
theorem d_Xx_fault_1 : decode prog_1_method_8_code 1 = .ok (.getfield 38, 3) := by decide +kernel
theorem d_Xx_fault_4 : decode prog_1_method_8_code 4 = .ok (.getfield 148, 3) := by decide +kernel
theorem d_Xx_fault_7 : decode prog_1_method_8_code 7 = .ok (.ireturn, 1) := by decide +kernel
set_option maxHeartbeats 2000000 in
theorem Xx_fault_c {l : Launch} {θ : tv_Th} (F : Nat) (M : tv_M) : tv_Ct l θ ⟨"TiedViews", "fault", "()I"⟩ prog_1_method_8_code 1 (some .int) 0 tv_ei [.ref (θ.1 + 0)] M (Xx_fault F M) := by
  refine tv_ofG [some (.ref (θ.1 + 0))] rfl rfl (tv_ent 0 rfl) ?_
  intro κ hl ht hC hR
  subst hl; subst ht
  unfold Xx_fault
  refine g_aload_n hC d_Xx_fault_0 rfl ?_
  refine fg_Xx_38 hC lc_0 d_Xx_fault_1 p0_0_3 ?_
  refine fg_Xx_148 hC lc_68 d_Xx_fault_4 ?_
  exact g_iret hC hR d_Xx_fault_7
theorem d_Ti_joins_0 : decode prog_11_method_2_code 0 = .ok (.iload_n 1, 1) := by decide +kernel
theorem d_Ti_joins_1 : decode prog_11_method_2_code 1 = .ok (.aload_n 0, 1) := by decide +kernel
theorem d_Ti_joins_2 : decode prog_11_method_2_code 2 = .ok (.getfield 18, 3) := by decide +kernel
theorem d_Ti_joins_5 : decode prog_11_method_2_code 5 = .ok (.if_icmp .eq 11, 3) := by decide +kernel
theorem d_Ti_joins_8 : decode prog_11_method_2_code 8 = .ok (.iload_n 1, 1) := by decide +kernel
theorem d_Ti_joins_9 : decode prog_11_method_2_code 9 = .ok (.aload_n 0, 1) := by decide +kernel
theorem d_Ti_joins_10 : decode prog_11_method_2_code 10 = .ok (.getfield 22, 3) := by decide +kernel
theorem d_Ti_joins_13 : decode prog_11_method_2_code 13 = .ok (.if_icmp .ne 7, 3) := by decide +kernel
theorem d_Ti_joins_16 : decode prog_11_method_2_code 16 = .ok (.iconst 1, 1) := by decide +kernel
theorem d_Ti_joins_17 : decode prog_11_method_2_code 17 = .ok (.goto 4, 3) := by decide +kernel
theorem d_Ti_joins_20 : decode prog_11_method_2_code 20 = .ok (.iconst 0, 1) := by decide +kernel
theorem d_Ti_joins_21 : decode prog_11_method_2_code 21 = .ok (.ireturn, 1) := by decide +kernel
set_option maxHeartbeats 2000000 in
theorem Ti_joins_c {l : Launch} {θ : tv_Th} (F : Nat) (t : Nat) (a1 : Int32) (M : tv_M) : tv_Ct l θ ⟨"TiedViews$Tie", "joins", "(I)Z"⟩ prog_11_method_2_code 2 (some .boolean) 0 tv_ei [.ref (θ.1 + t), .int a1] M (Ti_joins F t a1 M) := by
  refine tv_ofG [some (.ref (θ.1 + t)), some (.int a1)] rfl rfl (tv_ent 0 rfl) ?_
  intro κ hl ht hC hR
  subst hl; subst ht
  unfold Ti_joins
  refine g_gl (fun h1 => ?_)
  refine g_iload_n hC d_Ti_joins_0 rfl ?_
  refine g_aload_n hC d_Ti_joins_1 rfl ?_
  refine fg_Ti_18 hC h1 d_Ti_joins_2 ?_
  refine g_icmp_eq (tgt := 16) hC d_Ti_joins_5 (by decide) (fun _ => ?_) (fun _ => ?_)
  · refine g_iconst hC d_Ti_joins_16 k_i1 ?_
    refine g_goto (tgt := 21) hC d_Ti_joins_17 (by decide) ?_
    exact g_zret hC hR tv_z1 d_Ti_joins_21
  · refine g_iload_n hC d_Ti_joins_8 rfl ?_
    refine g_aload_n hC d_Ti_joins_9 rfl ?_
    refine fg_Ti_22 hC h1 d_Ti_joins_10 ?_
    refine g_icmp_ne (tgt := 20) hC d_Ti_joins_13 (by decide) (fun _ => ?_) (fun _ => ?_)
    · refine g_iconst hC d_Ti_joins_20 k_i0 ?_
      exact g_zret hC hR tv_z0 d_Ti_joins_21
    · refine g_iconst hC d_Ti_joins_16 k_i1 ?_
      refine g_goto (tgt := 21) hC d_Ti_joins_17 (by decide) ?_
      exact g_zret hC hR tv_z1 d_Ti_joins_21
theorem d_To_tiesOf_0 : decode prog_12_method_9_code 0 = .ok (.iconst 0, 1) := by decide +kernel
theorem d_To_tiesOf_1 : decode prog_12_method_9_code 1 = .ok (.istore_n 2, 1) := by decide +kernel
theorem d_To_tiesOf_2 : decode prog_12_method_9_code 2 = .ok (.iconst 0, 1) := by decide +kernel
theorem d_To_tiesOf_3 : decode prog_12_method_9_code 3 = .ok (.istore_n 3, 1) := by decide +kernel
theorem d_To_tiesOf_4 : decode prog_12_method_9_code 4 = .ok (.iload_n 3, 1) := by decide +kernel
theorem d_To_tiesOf_5 : decode prog_12_method_9_code 5 = .ok (.aload_n 0, 1) := by decide +kernel
theorem d_To_tiesOf_6 : decode prog_12_method_9_code 6 = .ok (.getfield 41, 3) := by decide +kernel
theorem d_To_tiesOf_9 : decode prog_12_method_9_code 9 = .ok (.if_icmp .ge 25, 3) := by decide +kernel
theorem d_To_tiesOf_12 : decode prog_12_method_9_code 12 = .ok (.aload_n 0, 1) := by decide +kernel
theorem d_To_tiesOf_13 : decode prog_12_method_9_code 13 = .ok (.getfield 19, 3) := by decide +kernel
theorem d_To_tiesOf_16 : decode prog_12_method_9_code 16 = .ok (.iload_n 3, 1) := by decide +kernel
theorem d_To_tiesOf_17 : decode prog_12_method_9_code 17 = .ok (.aaload, 1) := by decide +kernel
theorem d_To_tiesOf_18 : decode prog_12_method_9_code 18 = .ok (.iload_n 1, 1) := by decide +kernel
theorem d_To_tiesOf_19 : decode prog_12_method_9_code 19 = .ok (.invokevirtual 73, 3) := by decide +kernel
theorem d_To_tiesOf_22 : decode prog_12_method_9_code 22 = .ok (.ifCond .eq 6, 3) := by decide +kernel
theorem d_To_tiesOf_25 : decode prog_12_method_9_code 25 = .ok (.iinc 2 1, 3) := by decide +kernel
theorem d_To_tiesOf_28 : decode prog_12_method_9_code 28 = .ok (.iinc 3 1, 3) := by decide +kernel
theorem d_To_tiesOf_31 : decode prog_12_method_9_code 31 = .ok (.goto (-27), 3) := by decide +kernel
theorem d_To_tiesOf_34 : decode prog_12_method_9_code 34 = .ok (.iload_n 2, 1) := by decide +kernel
theorem d_To_tiesOf_35 : decode prog_12_method_9_code 35 = .ok (.ireturn, 1) := by decide +kernel
set_option maxHeartbeats 2000000 in
theorem To_tiesOf_L4_g {κ : tv_Kt} (hC : tv_Cx κ "TiedViews$Told" prog_12_method_9_code 4 1) (hR : tv_Re κ (some .int)) (F : Nat) : ∀ (n : Nat) (l1 : Int32) (l2 : Int32) (l3 : Int32) (M : tv_M), tv_G κ 4 (tv_Qm κ tv_ei) 4 [some (.ref (κ.b + 18)), some (.int l1), some (.int l2), some (.int l3)] [] M (To_tiesOf_L4 F n l1 l2 l3 M) := by
  intro n
  induction n with
  | zero => intro _ _ _ _; exact g_none
  | succ nn ih =>
    intro l1 l2 l3 M
    rw [To_tiesOf_L4]
    refine g_iload_n hC d_To_tiesOf_4 rfl ?_
    refine g_aload_n hC d_To_tiesOf_5 rfl ?_
    refine fg_To_41 hC lc_18 d_To_tiesOf_6 ?_
    refine g_icmp_ge (tgt := 34) hC d_To_tiesOf_9 (by decide) (fun _ => ?_) (fun _ => ?_)
    · refine g_iload_n hC d_To_tiesOf_34 rfl ?_
      exact g_iret hC hR d_To_tiesOf_35
    · refine g_aload_n hC d_To_tiesOf_12 rfl ?_
      refine fg_To_19 hC lc_18 d_To_tiesOf_13 p0_18_2 ?_
      refine g_iload_n hC d_To_tiesOf_16 rfl ?_
      refine gv_aald hC 2 ly_20 rfl d_To_tiesOf_17 (fun p1 => ?_)
      refine g_gl (fun h2 => ?_)
      refine g_iload_n hC d_To_tiesOf_18 rfl ?_
      refine gv_callVi hC [.int l1] cw_To_73 (Ti_joins_c F p1 l1 M) h2 rfl rfl rfl rfl rfl rfl rfl d_To_tiesOf_19 (fun r3 M4 => ?_)
      refine g_if_eq (tgt := 28) hC d_To_tiesOf_22 (by decide) (fun _ => ?_) (fun _ => ?_)
      · refine g_iinc (ls' := [some (.ref (κ.b + 18)), some (.int l1), some (.int l2), some (.int (l3 + 1))]) hC d_To_tiesOf_28 rfl k_i1 rfl rfl ?_
        refine g_goto (tgt := 4) hC d_To_tiesOf_31 (by decide) ?_
        exact ih l1 l2 (l3 + 1) M4
      · refine g_iinc (ls' := [some (.ref (κ.b + 18)), some (.int l1), some (.int (l2 + 1)), some (.int l3)]) hC d_To_tiesOf_25 rfl k_i1 rfl rfl ?_
        refine g_iinc (ls' := [some (.ref (κ.b + 18)), some (.int l1), some (.int (l2 + 1)), some (.int (l3 + 1))]) hC d_To_tiesOf_28 rfl k_i1 rfl rfl ?_
        refine g_goto (tgt := 4) hC d_To_tiesOf_31 (by decide) ?_
        exact ih l1 (l2 + 1) (l3 + 1) M4
set_option maxHeartbeats 2000000 in
theorem To_tiesOf_c {l : Launch} {θ : tv_Th} (F : Nat) (a1 : Int32) (M : tv_M) : tv_Ct l θ ⟨"TiedViews$Told", "tiesOf", "(I)I"⟩ prog_12_method_9_code 4 (some .int) 1 tv_ei [.ref (θ.1 + 18), .int a1] M (To_tiesOf F a1 M) := by
  refine tv_ofG [some (.ref (θ.1 + 18)), some (.int a1), none, none] rfl rfl (tv_ent 2 rfl) ?_
  intro κ hl ht hC hR
  subst hl; subst ht
  unfold To_tiesOf
  refine g_iconst hC d_To_tiesOf_0 k_i0 ?_
  refine g_istore_n (ls' := [some (.ref (κ.b + 18)), some (.int a1), some (.int 0), none]) hC d_To_tiesOf_1 rfl rfl ?_
  refine g_iconst hC d_To_tiesOf_2 k_i0 ?_
  refine g_istore_n (ls' := [some (.ref (κ.b + 18)), some (.int a1), some (.int 0), some (.int 0)]) hC d_To_tiesOf_3 rfl rfl ?_
  exact To_tiesOf_L4_g hC hR F F a1 0 0 M
theorem d_Xx_eye_0 : decode prog_1_method_9_code 0 = .ok (.aload_n 0, 1) := by decide +kernel
theorem d_Xx_eye_1 : decode prog_1_method_9_code 1 = .ok (.getfield 29, 3) := by decide +kernel
theorem d_Xx_eye_4 : decode prog_1_method_9_code 4 = .ok (.iload_n 1, 1) := by decide +kernel
theorem d_Xx_eye_5 : decode prog_1_method_9_code 5 = .ok (.invokevirtual 151, 3) := by decide +kernel
theorem d_Xx_eye_8 : decode prog_1_method_9_code 8 = .ok (.astore_n 3, 1) := by decide +kernel
theorem d_Xx_eye_9 : decode prog_1_method_9_code 9 = .ok (.aload_n 3, 1) := by decide +kernel
theorem d_Xx_eye_10 : decode prog_1_method_9_code 10 = .ok (.ifnonnull 6, 3) := by decide +kernel
theorem d_Xx_eye_13 : decode prog_1_method_9_code 13 = .ok (.ldc 83, 2) := by decide +kernel
theorem d_Xx_eye_15 : decode prog_1_method_9_code 15 = .ok (.ireturn, 1) := by decide +kernel
theorem d_Xx_eye_16 : decode prog_1_method_9_code 16 = .ok (.iload_n 2, 1) := by decide +kernel
theorem d_Xx_eye_17 : decode prog_1_method_9_code 17 = .ok (.tableswitch 105 0 5 #[39, 44, 49, 66, 79, 88], 39) := by decide +kernel
theorem d_Xx_eye_56 : decode prog_1_method_9_code 56 = .ok (.aload_n 3, 1) := by decide +kernel
theorem d_Xx_eye_57 : decode prog_1_method_9_code 57 = .ok (.getfield 155, 3) := by decide +kernel
theorem d_Xx_eye_60 : decode prog_1_method_9_code 60 = .ok (.ireturn, 1) := by decide +kernel
theorem d_Xx_eye_61 : decode prog_1_method_9_code 61 = .ok (.aload_n 3, 1) := by decide +kernel
theorem d_Xx_eye_62 : decode prog_1_method_9_code 62 = .ok (.getfield 160, 3) := by decide +kernel
theorem d_Xx_eye_65 : decode prog_1_method_9_code 65 = .ok (.ireturn, 1) := by decide +kernel
theorem d_Xx_eye_66 : decode prog_1_method_9_code 66 = .ok (.aload_n 3, 1) := by decide +kernel
theorem d_Xx_eye_67 : decode prog_1_method_9_code 67 = .ok (.invokevirtual 163, 3) := by decide +kernel
theorem d_Xx_eye_70 : decode prog_1_method_9_code 70 = .ok (.ifCond .eq 8, 3) := by decide +kernel
theorem d_Xx_eye_73 : decode prog_1_method_9_code 73 = .ok (.ldc 166, 2) := by decide +kernel
theorem d_Xx_eye_75 : decode prog_1_method_9_code 75 = .ok (.goto 7, 3) := by decide +kernel
theorem d_Xx_eye_78 : decode prog_1_method_9_code 78 = .ok (.aload_n 3, 1) := by decide +kernel
theorem d_Xx_eye_79 : decode prog_1_method_9_code 79 = .ok (.getfield 167, 3) := by decide +kernel
theorem d_Xx_eye_82 : decode prog_1_method_9_code 82 = .ok (.ireturn, 1) := by decide +kernel
theorem d_Xx_eye_83 : decode prog_1_method_9_code 83 = .ok (.aload_n 3, 1) := by decide +kernel
theorem d_Xx_eye_84 : decode prog_1_method_9_code 84 = .ok (.getfield 170, 3) := by decide +kernel
theorem d_Xx_eye_87 : decode prog_1_method_9_code 87 = .ok (.ifCond .eq 7, 3) := by decide +kernel
theorem d_Xx_eye_90 : decode prog_1_method_9_code 90 = .ok (.iconst 1, 1) := by decide +kernel
theorem d_Xx_eye_91 : decode prog_1_method_9_code 91 = .ok (.goto 4, 3) := by decide +kernel
theorem d_Xx_eye_94 : decode prog_1_method_9_code 94 = .ok (.iconst 0, 1) := by decide +kernel
theorem d_Xx_eye_95 : decode prog_1_method_9_code 95 = .ok (.ireturn, 1) := by decide +kernel
theorem d_Xx_eye_96 : decode prog_1_method_9_code 96 = .ok (.aload_n 0, 1) := by decide +kernel
theorem d_Xx_eye_97 : decode prog_1_method_9_code 97 = .ok (.getfield 29, 3) := by decide +kernel
theorem d_Xx_eye_100 : decode prog_1_method_9_code 100 = .ok (.iload_n 1, 1) := by decide +kernel
theorem d_Xx_eye_101 : decode prog_1_method_9_code 101 = .ok (.invokevirtual 174, 3) := by decide +kernel
theorem d_Xx_eye_104 : decode prog_1_method_9_code 104 = .ok (.ireturn, 1) := by decide +kernel
theorem d_Xx_eye_105 : decode prog_1_method_9_code 105 = .ok (.aload_n 3, 1) := by decide +kernel
theorem d_Xx_eye_106 : decode prog_1_method_9_code 106 = .ok (.invokevirtual 163, 3) := by decide +kernel
theorem d_Xx_eye_109 : decode prog_1_method_9_code 109 = .ok (.ifCond .eq 10, 3) := by decide +kernel
theorem d_Xx_eye_112 : decode prog_1_method_9_code 112 = .ok (.aload_n 3, 1) := by decide +kernel
theorem d_Xx_eye_113 : decode prog_1_method_9_code 113 = .ok (.getfield 177, 3) := by decide +kernel
theorem d_Xx_eye_116 : decode prog_1_method_9_code 116 = .ok (.goto 5, 3) := by decide +kernel
theorem d_Xx_eye_119 : decode prog_1_method_9_code 119 = .ok (.ldc 166, 2) := by decide +kernel
theorem d_Xx_eye_121 : decode prog_1_method_9_code 121 = .ok (.ireturn, 1) := by decide +kernel
theorem d_Xx_eye_122 : decode prog_1_method_9_code 122 = .ok (.ldc 83, 2) := by decide +kernel
theorem d_Xx_eye_124 : decode prog_1_method_9_code 124 = .ok (.ireturn, 1) := by decide +kernel
set_option maxHeartbeats 2000000 in
theorem Xx_eye_c {l : Launch} {θ : tv_Th} (F : Nat) (a1 : Int32) (a2 : Int32) (M : tv_M) : tv_Ct l θ ⟨"TiedViews", "eye", "(II)I"⟩ prog_1_method_9_code 4 (some .int) 2 tv_ei [.ref (θ.1 + 0), .int a1, .int a2] M (Xx_eye F a1 a2 M) := by
  refine tv_ofG [some (.ref (θ.1 + 0)), some (.int a1), some (.int a2), none] rfl rfl (tv_ent 1 rfl) ?_
  intro κ hl ht hC hR
  subst hl; subst ht
  unfold Xx_eye
  refine g_aload_n hC d_Xx_eye_0 rfl ?_
  refine fg_Xx_29 hC lc_0 d_Xx_eye_1 p0_0_2 ?_
  refine g_iload_n hC d_Xx_eye_4 rfl ?_
  refine gv_callVr hC [.int a1] cw_Xx_151 (To_eyeAt_c F a1 M) lc_18 rfl rfl rfl rfl rfl rfl rfl d_Xx_eye_5 (fun r1 M2 => ?_)
  refine g_astore_nQ (ls' := [some (.ref (κ.b + 0)), some (.int a1), some (.int a2), some (tv_re κ.b r1)]) hC d_Xx_eye_8 rfl rfl ?_
  refine g_aload_nQ hC d_Xx_eye_9 rfl ?_
  rcases r1 with _ | p3
  · refine g_nlN ?_
    refine g_ifnonnullN hC d_Xx_eye_10 ?_
    refine g_ldc hC d_Xx_eye_13 wk_Xx_83 ?_
    exact g_iret hC hR d_Xx_eye_15
  · refine g_nlS ?_
    refine g_ifnonnullR (tgt := 16) hC d_Xx_eye_10 (by decide) ?_
    refine g_gl (fun h4 => ?_)
    refine g_iload_n hC d_Xx_eye_16 rfl ?_
    refine g_ite (fun e5 => ?_) (fun e5 => ?_)
    · refine g_tabIn (tgt := 56) hC d_Xx_eye_17 e5 (by decide) (by decide) rfl (by decide) ?_
      refine g_aload_n hC d_Xx_eye_56 rfl ?_
      refine fg_Xx_155 hC h4 d_Xx_eye_57 ?_
      exact g_iret hC hR d_Xx_eye_60
    · refine g_ite (fun e6 => ?_) (fun e6 => ?_)
      · refine g_tabIn (tgt := 61) hC d_Xx_eye_17 e6 (by decide) (by decide) rfl (by decide) ?_
        refine g_aload_n hC d_Xx_eye_61 rfl ?_
        refine fg_Xx_160 hC h4 d_Xx_eye_62 ?_
        exact g_iret hC hR d_Xx_eye_65
      · refine g_ite (fun e9 => ?_) (fun e9 => ?_)
        · refine g_tabIn (tgt := 66) hC d_Xx_eye_17 e9 (by decide) (by decide) rfl (by decide) ?_
          refine g_aload_n hC d_Xx_eye_66 rfl ?_
          refine gv_callVi hC [] cw_Xx_163 (Ey_isChoice_c F p3 M2) h4 rfl rfl rfl rfl rfl rfl rfl d_Xx_eye_67 (fun r7 M8 => ?_)
          refine g_if_eq (tgt := 78) hC d_Xx_eye_70 (by decide) (fun _ => ?_) (fun _ => ?_)
          · refine g_aload_n hC d_Xx_eye_78 rfl ?_
            refine fg_Xx_167 hC h4 d_Xx_eye_79 ?_
            exact g_iret hC hR d_Xx_eye_82
          · refine g_ldc hC d_Xx_eye_73 wk_Xx_166 ?_
            refine g_goto (tgt := 82) hC d_Xx_eye_75 (by decide) ?_
            exact g_iret hC hR d_Xx_eye_82
        · refine g_ite (fun e10 => ?_) (fun e10 => ?_)
          · refine g_tabIn (tgt := 83) hC d_Xx_eye_17 e10 (by decide) (by decide) rfl (by decide) ?_
            refine g_aload_n hC d_Xx_eye_83 rfl ?_
            refine fg_Xx_170 hC h4 d_Xx_eye_84 ?_
            refine g_if_eq (tgt := 94) hC d_Xx_eye_87 (by decide) (fun _ => ?_) (fun _ => ?_)
            · refine g_iconst hC d_Xx_eye_94 k_i0 ?_
              exact g_iret hC hR d_Xx_eye_95
            · refine g_iconst hC d_Xx_eye_90 k_i1 ?_
              refine g_goto (tgt := 95) hC d_Xx_eye_91 (by decide) ?_
              exact g_iret hC hR d_Xx_eye_95
          · refine g_ite (fun e13 => ?_) (fun e13 => ?_)
            · refine g_tabIn (tgt := 96) hC d_Xx_eye_17 e13 (by decide) (by decide) rfl (by decide) ?_
              refine g_aload_n hC d_Xx_eye_96 rfl ?_
              refine fg_Xx_29 hC lc_0 d_Xx_eye_97 p0_0_2 ?_
              refine g_iload_n hC d_Xx_eye_100 rfl ?_
              refine gv_callVi hC [.int a1] cw_Xx_174 (To_tiesOf_c F a1 M2) lc_18 rfl rfl rfl rfl rfl rfl rfl d_Xx_eye_101 (fun r11 M12 => ?_)
              exact g_iret hC hR d_Xx_eye_104
            · refine g_ite (fun e16 => ?_) (fun e16 => ?_)
              · refine g_tabIn (tgt := 105) hC d_Xx_eye_17 e16 (by decide) (by decide) rfl (by decide) ?_
                refine g_aload_n hC d_Xx_eye_105 rfl ?_
                refine gv_callVi hC [] cw_Xx_163 (Ey_isChoice_c F p3 M2) h4 rfl rfl rfl rfl rfl rfl rfl d_Xx_eye_106 (fun r14 M15 => ?_)
                refine g_if_eq (tgt := 119) hC d_Xx_eye_109 (by decide) (fun _ => ?_) (fun _ => ?_)
                · refine g_ldc hC d_Xx_eye_119 wk_Xx_166 ?_
                  exact g_iret hC hR d_Xx_eye_121
                · refine g_aload_n hC d_Xx_eye_112 rfl ?_
                  refine fg_Xx_177 hC h4 d_Xx_eye_113 ?_
                  refine g_goto (tgt := 121) hC d_Xx_eye_116 (by decide) ?_
                  exact g_iret hC hR d_Xx_eye_121
              · refine g_tabOut (tgt := 122) hC d_Xx_eye_17 (by have w0 := lv_neT e5 (a := 0) (by decide); have w1 := lv_neT e6 (a := 1) (by decide); have w2 := lv_neT e9 (a := 2) (by decide); have w3 := lv_neT e10 (a := 3) (by decide); have w4 := lv_neT e13 (a := 4) (by decide); have w5 := lv_neT e16 (a := 5) (by decide); omega) (by decide) ?_
                refine g_ldc hC d_Xx_eye_122 wk_Xx_83 ?_
                exact g_iret hC hR d_Xx_eye_124
theorem d_Ag_leaders_0 : decode prog_2_method_3_code 0 = .ok (.aload_n 0, 1) := by decide +kernel
theorem d_Ag_leaders_1 : decode prog_2_method_3_code 1 = .ok (.getfield 26, 3) := by decide +kernel
theorem d_Ag_leaders_4 : decode prog_2_method_3_code 4 = .ok (.getfield 37, 3) := by decide +kernel
theorem d_Ag_leaders_7 : decode prog_2_method_3_code 7 = .ok (.ireturn, 1) := by decide +kernel
set_option maxHeartbeats 2000000 in
theorem Ag_leaders_c {l : Launch} {θ : tv_Th} (F : Nat) (M : tv_M) : tv_Ct l θ ⟨"TiedViews$Agreement", "leaders", "()I"⟩ prog_2_method_3_code 1 (some .int) 0 tv_ei [.ref (θ.1 + 70)] M (Ag_leaders F M) := by
  refine tv_ofG [some (.ref (θ.1 + 70))] rfl rfl (tv_ent 0 rfl) ?_
  intro κ hl ht hC hR
  subst hl; subst ht
  unfold Ag_leaders
  refine g_aload_n hC d_Ag_leaders_0 rfl ?_
  refine fg_Ag_26 hC lc_70 d_Ag_leaders_1 p0_70_1 ?_
  refine fg_Ag_37 hC lc_71 d_Ag_leaders_4 ?_
  exact g_iret hC hR d_Ag_leaders_7
theorem d_Ag_freeColumns_0 : decode prog_2_method_4_code 0 = .ok (.aload_n 0, 1) := by decide +kernel
theorem d_Ag_freeColumns_1 : decode prog_2_method_4_code 1 = .ok (.getfield 9, 3) := by decide +kernel
theorem d_Ag_freeColumns_4 : decode prog_2_method_4_code 4 = .ok (.getfield 40, 3) := by decide +kernel
theorem d_Ag_freeColumns_7 : decode prog_2_method_4_code 7 = .ok (.aload_n 0, 1) := by decide +kernel
theorem d_Ag_freeColumns_8 : decode prog_2_method_4_code 8 = .ok (.invokevirtual 43, 3) := by decide +kernel
theorem d_Ag_freeColumns_11 : decode prog_2_method_4_code 11 = .ok (.isub, 1) := by decide +kernel
theorem d_Ag_freeColumns_12 : decode prog_2_method_4_code 12 = .ok (.ireturn, 1) := by decide +kernel
set_option maxHeartbeats 2000000 in
theorem Ag_freeColumns_c {l : Launch} {θ : tv_Th} (F : Nat) (M : tv_M) : tv_Ct l θ ⟨"TiedViews$Agreement", "freeColumns", "()I"⟩ prog_2_method_4_code 1 (some .int) 1 tv_ei [.ref (θ.1 + 70)] M (Ag_freeColumns F M) := by
  refine tv_ofG [some (.ref (θ.1 + 70))] rfl rfl (tv_ent 0 rfl) ?_
  intro κ hl ht hC hR
  subst hl; subst ht
  unfold Ag_freeColumns
  refine g_aload_n hC d_Ag_freeColumns_0 rfl ?_
  refine fg_Ag_9 hC lc_70 d_Ag_freeColumns_1 p0_70_0 ?_
  refine fg_Ag_40 hC lc_18 d_Ag_freeColumns_4 ?_
  refine g_aload_n hC d_Ag_freeColumns_7 rfl ?_
  refine gv_callVi hC [] cw_Ag_43 (Ag_leaders_c F M) lc_70 rfl rfl rfl rfl rfl rfl rfl d_Ag_freeColumns_8 (fun r1 M2 => ?_)
  refine g_isub hC d_Ag_freeColumns_11 ?_
  exact g_iret hC hR d_Ag_freeColumns_12
theorem d_Xx_all_0 : decode prog_1_method_10_code 0 = .ok (.iload_n 1, 1) := by decide +kernel
theorem d_Xx_all_1 : decode prog_1_method_10_code 1 = .ok (.tableswitch 83 0 4 #[35, 43, 51, 59, 67], 35) := by decide +kernel
theorem d_Xx_all_36 : decode prog_1_method_10_code 36 = .ok (.aload_n 0, 1) := by decide +kernel
theorem d_Xx_all_37 : decode prog_1_method_10_code 37 = .ok (.getfield 45, 3) := by decide +kernel
theorem d_Xx_all_40 : decode prog_1_method_10_code 40 = .ok (.invokevirtual 180, 3) := by decide +kernel
theorem d_Xx_all_43 : decode prog_1_method_10_code 43 = .ok (.ireturn, 1) := by decide +kernel
theorem d_Xx_all_44 : decode prog_1_method_10_code 44 = .ok (.aload_n 0, 1) := by decide +kernel
theorem d_Xx_all_45 : decode prog_1_method_10_code 45 = .ok (.getfield 29, 3) := by decide +kernel
theorem d_Xx_all_48 : decode prog_1_method_10_code 48 = .ok (.getfield 183, 3) := by decide +kernel
theorem d_Xx_all_51 : decode prog_1_method_10_code 51 = .ok (.ireturn, 1) := by decide +kernel
theorem d_Xx_all_52 : decode prog_1_method_10_code 52 = .ok (.aload_n 0, 1) := by decide +kernel
theorem d_Xx_all_53 : decode prog_1_method_10_code 53 = .ok (.getfield 29, 3) := by decide +kernel
theorem d_Xx_all_56 : decode prog_1_method_10_code 56 = .ok (.getfield 186, 3) := by decide +kernel
theorem d_Xx_all_59 : decode prog_1_method_10_code 59 = .ok (.ireturn, 1) := by decide +kernel
theorem d_Xx_all_60 : decode prog_1_method_10_code 60 = .ok (.aload_n 0, 1) := by decide +kernel
theorem d_Xx_all_61 : decode prog_1_method_10_code 61 = .ok (.getfield 45, 3) := by decide +kernel
theorem d_Xx_all_64 : decode prog_1_method_10_code 64 = .ok (.invokevirtual 189, 3) := by decide +kernel
theorem d_Xx_all_67 : decode prog_1_method_10_code 67 = .ok (.ireturn, 1) := by decide +kernel
theorem d_Xx_all_68 : decode prog_1_method_10_code 68 = .ok (.aload_n 0, 1) := by decide +kernel
theorem d_Xx_all_69 : decode prog_1_method_10_code 69 = .ok (.getfield 29, 3) := by decide +kernel
theorem d_Xx_all_72 : decode prog_1_method_10_code 72 = .ok (.getfield 186, 3) := by decide +kernel
theorem d_Xx_all_75 : decode prog_1_method_10_code 75 = .ok (.aload_n 0, 1) := by decide +kernel
theorem d_Xx_all_76 : decode prog_1_method_10_code 76 = .ok (.getfield 45, 3) := by decide +kernel
theorem d_Xx_all_79 : decode prog_1_method_10_code 79 = .ok (.invokevirtual 189, 3) := by decide +kernel
theorem d_Xx_all_82 : decode prog_1_method_10_code 82 = .ok (.isub, 1) := by decide +kernel
theorem d_Xx_all_83 : decode prog_1_method_10_code 83 = .ok (.ireturn, 1) := by decide +kernel
theorem d_Xx_all_84 : decode prog_1_method_10_code 84 = .ok (.ldc 83, 2) := by decide +kernel
theorem d_Xx_all_86 : decode prog_1_method_10_code 86 = .ok (.ireturn, 1) := by decide +kernel
set_option maxHeartbeats 2000000 in
theorem Xx_all_c {l : Launch} {θ : tv_Th} (F : Nat) (a1 : Int32) (M : tv_M) : tv_Ct l θ ⟨"TiedViews", "all", "(I)I"⟩ prog_1_method_10_code 2 (some .int) 2 tv_ei [.ref (θ.1 + 0), .int a1] M (Xx_all F a1 M) := by
  refine tv_ofG [some (.ref (θ.1 + 0)), some (.int a1)] rfl rfl (tv_ent 0 rfl) ?_
  intro κ hl ht hC hR
  subst hl; subst ht
  unfold Xx_all
  refine g_iload_n hC d_Xx_all_0 rfl ?_
  refine g_ite (fun e3 => ?_) (fun e3 => ?_)
  · refine g_tabIn (tgt := 36) hC d_Xx_all_1 e3 (by decide) (by decide) rfl (by decide) ?_
    refine g_aload_n hC d_Xx_all_36 rfl ?_
    refine fg_Xx_45 hC lc_0 d_Xx_all_37 p0_0_4 ?_
    refine gv_callVi hC [] cw_Xx_180 (Ag_freeColumns_c F M) lc_70 rfl rfl rfl rfl rfl rfl rfl d_Xx_all_40 (fun r1 M2 => ?_)
    exact g_iret hC hR d_Xx_all_43
  · refine g_ite (fun e4 => ?_) (fun e4 => ?_)
    · refine g_tabIn (tgt := 44) hC d_Xx_all_1 e4 (by decide) (by decide) rfl (by decide) ?_
      refine g_aload_n hC d_Xx_all_44 rfl ?_
      refine fg_Xx_29 hC lc_0 d_Xx_all_45 p0_0_2 ?_
      refine fg_Xx_183 hC lc_18 d_Xx_all_48 ?_
      exact g_iret hC hR d_Xx_all_51
    · refine g_ite (fun e5 => ?_) (fun e5 => ?_)
      · refine g_tabIn (tgt := 52) hC d_Xx_all_1 e5 (by decide) (by decide) rfl (by decide) ?_
        refine g_aload_n hC d_Xx_all_52 rfl ?_
        refine fg_Xx_29 hC lc_0 d_Xx_all_53 p0_0_2 ?_
        refine fg_Xx_186 hC lc_18 d_Xx_all_56 ?_
        exact g_iret hC hR d_Xx_all_59
      · refine g_ite (fun e8 => ?_) (fun e8 => ?_)
        · refine g_tabIn (tgt := 60) hC d_Xx_all_1 e8 (by decide) (by decide) rfl (by decide) ?_
          refine g_aload_n hC d_Xx_all_60 rfl ?_
          refine fg_Xx_45 hC lc_0 d_Xx_all_61 p0_0_4 ?_
          refine gv_callVi hC [] cw_Xx_189 (Ag_leaders_c F M) lc_70 rfl rfl rfl rfl rfl rfl rfl d_Xx_all_64 (fun r6 M7 => ?_)
          exact g_iret hC hR d_Xx_all_67
        · refine g_ite (fun e11 => ?_) (fun e11 => ?_)
          · refine g_tabIn (tgt := 68) hC d_Xx_all_1 e11 (by decide) (by decide) rfl (by decide) ?_
            refine g_aload_n hC d_Xx_all_68 rfl ?_
            refine fg_Xx_29 hC lc_0 d_Xx_all_69 p0_0_2 ?_
            refine fg_Xx_186 hC lc_18 d_Xx_all_72 ?_
            refine g_aload_n hC d_Xx_all_75 rfl ?_
            refine fg_Xx_45 hC lc_0 d_Xx_all_76 p0_0_4 ?_
            refine gv_callVi hC [] cw_Xx_189 (Ag_leaders_c F M) lc_70 rfl rfl rfl rfl rfl rfl rfl d_Xx_all_79 (fun r9 M10 => ?_)
            refine g_isub hC d_Xx_all_82 ?_
            exact g_iret hC hR d_Xx_all_83
          · refine g_tabOut (tgt := 84) hC d_Xx_all_1 (by have w0 := lv_neT e3 (a := 0) (by decide); have w1 := lv_neT e4 (a := 1) (by decide); have w2 := lv_neT e5 (a := 2) (by decide); have w3 := lv_neT e8 (a := 3) (by decide); have w4 := lv_neT e11 (a := 4) (by decide); omega) (by decide) ?_
            refine g_ldc hC d_Xx_all_84 wk_Xx_83 ?_
            exact g_iret hC hR d_Xx_all_86
theorem d_To_isColumn_0 : decode prog_12_method_8_code 0 = .ok (.iload_n 1, 1) := by decide +kernel
theorem d_To_isColumn_1 : decode prog_12_method_8_code 1 = .ok (.ifCond .lt 15, 3) := by decide +kernel
theorem d_To_isColumn_4 : decode prog_12_method_8_code 4 = .ok (.iload_n 1, 1) := by decide +kernel
theorem d_To_isColumn_5 : decode prog_12_method_8_code 5 = .ok (.aload_n 0, 1) := by decide +kernel
theorem d_To_isColumn_6 : decode prog_12_method_8_code 6 = .ok (.getfield 53, 3) := by decide +kernel
theorem d_To_isColumn_9 : decode prog_12_method_8_code 9 = .ok (.if_icmp .ge 7, 3) := by decide +kernel
theorem d_To_isColumn_12 : decode prog_12_method_8_code 12 = .ok (.iconst 1, 1) := by decide +kernel
theorem d_To_isColumn_13 : decode prog_12_method_8_code 13 = .ok (.goto 4, 3) := by decide +kernel
theorem d_To_isColumn_16 : decode prog_12_method_8_code 16 = .ok (.iconst 0, 1) := by decide +kernel
theorem d_To_isColumn_17 : decode prog_12_method_8_code 17 = .ok (.ireturn, 1) := by decide +kernel
set_option maxHeartbeats 2000000 in
theorem To_isColumn_c {l : Launch} {θ : tv_Th} (F : Nat) (a1 : Int32) (M : tv_M) : tv_Ct l θ ⟨"TiedViews$Told", "isColumn", "(I)Z"⟩ prog_12_method_8_code 2 (some .boolean) 0 tv_ei [.ref (θ.1 + 18), .int a1] M (To_isColumn F a1 M) := by
  refine tv_ofG [some (.ref (θ.1 + 18)), some (.int a1)] rfl rfl (tv_ent 0 rfl) ?_
  intro κ hl ht hC hR
  subst hl; subst ht
  unfold To_isColumn
  refine g_iload_n hC d_To_isColumn_0 rfl ?_
  refine g_if_lt (tgt := 16) hC d_To_isColumn_1 (by decide) (fun _ => ?_) (fun _ => ?_)
  · refine g_iconst hC d_To_isColumn_16 k_i0 ?_
    exact g_zret hC hR tv_z0 d_To_isColumn_17
  · refine g_iload_n hC d_To_isColumn_4 rfl ?_
    refine g_aload_n hC d_To_isColumn_5 rfl ?_
    refine fg_To_53 hC lc_18 d_To_isColumn_6 ?_
    refine g_icmp_ge (tgt := 16) hC d_To_isColumn_9 (by decide) (fun _ => ?_) (fun _ => ?_)
    · refine g_iconst hC d_To_isColumn_16 k_i0 ?_
      exact g_zret hC hR tv_z0 d_To_isColumn_17
    · refine g_iconst hC d_To_isColumn_12 k_i1 ?_
      refine g_goto (tgt := 17) hC d_To_isColumn_13 (by decide) ?_
      exact g_zret hC hR tv_z1 d_To_isColumn_17
theorem d_St_freeColumn_0 : decode prog_10_method_12_code 0 = .ok (.iload_n 1, 1) := by decide +kernel
theorem d_St_freeColumn_1 : decode prog_10_method_12_code 1 = .ok (.ifCond .lt 11, 3) := by decide +kernel
theorem d_St_freeColumn_4 : decode prog_10_method_12_code 4 = .ok (.iload_n 1, 1) := by decide +kernel
theorem d_St_freeColumn_5 : decode prog_10_method_12_code 5 = .ok (.aload_n 0, 1) := by decide +kernel
theorem d_St_freeColumn_6 : decode prog_10_method_12_code 6 = .ok (.getfield 51, 3) := by decide +kernel
theorem d_St_freeColumn_9 : decode prog_10_method_12_code 9 = .ok (.if_icmp .lt 7, 3) := by decide +kernel
theorem d_St_freeColumn_12 : decode prog_10_method_12_code 12 = .ok (.iconst (-1), 1) := by decide +kernel
theorem d_St_freeColumn_13 : decode prog_10_method_12_code 13 = .ok (.goto 9, 3) := by decide +kernel
theorem d_St_freeColumn_16 : decode prog_10_method_12_code 16 = .ok (.aload_n 0, 1) := by decide +kernel
theorem d_St_freeColumn_17 : decode prog_10_method_12_code 17 = .ok (.getfield 15, 3) := by decide +kernel
theorem d_St_freeColumn_20 : decode prog_10_method_12_code 20 = .ok (.iload_n 1, 1) := by decide +kernel
theorem d_St_freeColumn_21 : decode prog_10_method_12_code 21 = .ok (.iaload, 1) := by decide +kernel
theorem d_St_freeColumn_22 : decode prog_10_method_12_code 22 = .ok (.ireturn, 1) := by decide +kernel
set_option maxHeartbeats 2000000 in
theorem St_freeColumn_c {l : Launch} {θ : tv_Th} (F : Nat) (t : Nat) (a1 : Int32) (M : tv_M) : tv_Ct l θ ⟨"TiedViews$Steps", "freeColumn", "(I)I"⟩ prog_10_method_12_code 2 (some .int) 0 tv_ei [.ref (θ.1 + t), .int a1] M (St_freeColumn F t a1 M) := by
  refine tv_ofG [some (.ref (θ.1 + t)), some (.int a1)] rfl rfl (tv_ent 0 rfl) ?_
  intro κ hl ht hC hR
  subst hl; subst ht
  unfold St_freeColumn
  refine g_gl (fun h1 => ?_)
  refine g_iload_n hC d_St_freeColumn_0 rfl ?_
  refine g_if_lt (tgt := 12) hC d_St_freeColumn_1 (by decide) (fun _ => ?_) (fun _ => ?_)
  · refine g_iconst hC d_St_freeColumn_12 k_im1 ?_
    refine g_goto (tgt := 22) hC d_St_freeColumn_13 (by decide) ?_
    exact g_iret hC hR d_St_freeColumn_22
  · refine g_iload_n hC d_St_freeColumn_4 rfl ?_
    refine g_aload_n hC d_St_freeColumn_5 rfl ?_
    refine fg_St_51 hC h1 d_St_freeColumn_6 ?_
    refine g_icmp_lt (tgt := 16) hC d_St_freeColumn_9 (by decide) (fun _ => ?_) (fun _ => ?_)
    · refine g_aload_n hC d_St_freeColumn_16 rfl ?_
      refine g_nn (fun p2 e6 => ?_)
      refine fg_St_15 hC h1 d_St_freeColumn_17 e6 ?_
      refine g_gn (fun n4 h3 => ?_)
      refine g_iload_n hC d_St_freeColumn_20 rfl ?_
      refine gv_iald hC h3 d_St_freeColumn_21 (fun x5 => ?_)
      exact g_iret hC hR d_St_freeColumn_22
    · refine g_iconst hC d_St_freeColumn_12 k_im1 ?_
      refine g_goto (tgt := 22) hC d_St_freeColumn_13 (by decide) ?_
      exact g_iret hC hR d_St_freeColumn_22
theorem d_St_leaderAt_0 : decode prog_10_method_8_code 0 = .ok (.iload_n 1, 1) := by decide +kernel
theorem d_St_leaderAt_1 : decode prog_10_method_8_code 1 = .ok (.ifCond .lt 11, 3) := by decide +kernel
theorem d_St_leaderAt_4 : decode prog_10_method_8_code 4 = .ok (.iload_n 1, 1) := by decide +kernel
theorem d_St_leaderAt_5 : decode prog_10_method_8_code 5 = .ok (.aload_n 0, 1) := by decide +kernel
theorem d_St_leaderAt_6 : decode prog_10_method_8_code 6 = .ok (.getfield 39, 3) := by decide +kernel
theorem d_St_leaderAt_9 : decode prog_10_method_8_code 9 = .ok (.if_icmp .lt 7, 3) := by decide +kernel
theorem d_St_leaderAt_12 : decode prog_10_method_8_code 12 = .ok (.iconst (-1), 1) := by decide +kernel
theorem d_St_leaderAt_13 : decode prog_10_method_8_code 13 = .ok (.goto 9, 3) := by decide +kernel
theorem d_St_leaderAt_16 : decode prog_10_method_8_code 16 = .ok (.aload_n 0, 1) := by decide +kernel
theorem d_St_leaderAt_17 : decode prog_10_method_8_code 17 = .ok (.getfield 9, 3) := by decide +kernel
theorem d_St_leaderAt_20 : decode prog_10_method_8_code 20 = .ok (.iload_n 1, 1) := by decide +kernel
theorem d_St_leaderAt_21 : decode prog_10_method_8_code 21 = .ok (.iaload, 1) := by decide +kernel
theorem d_St_leaderAt_22 : decode prog_10_method_8_code 22 = .ok (.ireturn, 1) := by decide +kernel
set_option maxHeartbeats 2000000 in
theorem St_leaderAt_c {l : Launch} {θ : tv_Th} (F : Nat) (t : Nat) (a1 : Int32) (M : tv_M) : tv_Ct l θ ⟨"TiedViews$Steps", "leaderAt", "(I)I"⟩ prog_10_method_8_code 2 (some .int) 0 tv_ei [.ref (θ.1 + t), .int a1] M (St_leaderAt F t a1 M) := by
  refine tv_ofG [some (.ref (θ.1 + t)), some (.int a1)] rfl rfl (tv_ent 0 rfl) ?_
  intro κ hl ht hC hR
  subst hl; subst ht
  unfold St_leaderAt
  refine g_gl (fun h1 => ?_)
  refine g_iload_n hC d_St_leaderAt_0 rfl ?_
  refine g_if_lt (tgt := 12) hC d_St_leaderAt_1 (by decide) (fun _ => ?_) (fun _ => ?_)
  · refine g_iconst hC d_St_leaderAt_12 k_im1 ?_
    refine g_goto (tgt := 22) hC d_St_leaderAt_13 (by decide) ?_
    exact g_iret hC hR d_St_leaderAt_22
  · refine g_iload_n hC d_St_leaderAt_4 rfl ?_
    refine g_aload_n hC d_St_leaderAt_5 rfl ?_
    refine fg_St_39 hC h1 d_St_leaderAt_6 ?_
    refine g_icmp_lt (tgt := 16) hC d_St_leaderAt_9 (by decide) (fun _ => ?_) (fun _ => ?_)
    · refine g_aload_n hC d_St_leaderAt_16 rfl ?_
      refine g_nn (fun p2 e6 => ?_)
      refine fg_St_9 hC h1 d_St_leaderAt_17 e6 ?_
      refine g_gn (fun n4 h3 => ?_)
      refine g_iload_n hC d_St_leaderAt_20 rfl ?_
      refine gv_iald hC h3 d_St_leaderAt_21 (fun x5 => ?_)
      exact g_iret hC hR d_St_leaderAt_22
    · refine g_iconst hC d_St_leaderAt_12 k_im1 ?_
      refine g_goto (tgt := 22) hC d_St_leaderAt_13 (by decide) ?_
      exact g_iret hC hR d_St_leaderAt_22
theorem d_St_numberAt_0 : decode prog_10_method_10_code 0 = .ok (.iload_n 1, 1) := by decide +kernel
theorem d_St_numberAt_1 : decode prog_10_method_10_code 1 = .ok (.ifCond .lt 23, 3) := by decide +kernel
theorem d_St_numberAt_4 : decode prog_10_method_10_code 4 = .ok (.iload_n 1, 1) := by decide +kernel
theorem d_St_numberAt_5 : decode prog_10_method_10_code 5 = .ok (.aload_n 0, 1) := by decide +kernel
theorem d_St_numberAt_6 : decode prog_10_method_10_code 6 = .ok (.getfield 45, 3) := by decide +kernel
theorem d_St_numberAt_9 : decode prog_10_method_10_code 9 = .ok (.if_icmp .ge 15, 3) := by decide +kernel
theorem d_St_numberAt_12 : decode prog_10_method_10_code 12 = .ok (.iload_n 2, 1) := by decide +kernel
theorem d_St_numberAt_13 : decode prog_10_method_10_code 13 = .ok (.ifCond .lt 11, 3) := by decide +kernel
theorem d_St_numberAt_16 : decode prog_10_method_10_code 16 = .ok (.iload_n 2, 1) := by decide +kernel
theorem d_St_numberAt_17 : decode prog_10_method_10_code 17 = .ok (.aload_n 0, 1) := by decide +kernel
theorem d_St_numberAt_18 : decode prog_10_method_10_code 18 = .ok (.getfield 42, 3) := by decide +kernel
theorem d_St_numberAt_21 : decode prog_10_method_10_code 21 = .ok (.if_icmp .lt 7, 3) := by decide +kernel
theorem d_St_numberAt_24 : decode prog_10_method_10_code 24 = .ok (.iconst 0, 1) := by decide +kernel
theorem d_St_numberAt_25 : decode prog_10_method_10_code 25 = .ok (.goto 11, 3) := by decide +kernel
theorem d_St_numberAt_28 : decode prog_10_method_10_code 28 = .ok (.aload_n 0, 1) := by decide +kernel
theorem d_St_numberAt_29 : decode prog_10_method_10_code 29 = .ok (.getfield 27, 3) := by decide +kernel
theorem d_St_numberAt_32 : decode prog_10_method_10_code 32 = .ok (.iload_n 1, 1) := by decide +kernel
theorem d_St_numberAt_33 : decode prog_10_method_10_code 33 = .ok (.aaload, 1) := by decide +kernel
theorem d_St_numberAt_34 : decode prog_10_method_10_code 34 = .ok (.iload_n 2, 1) := by decide +kernel
theorem d_St_numberAt_35 : decode prog_10_method_10_code 35 = .ok (.iaload, 1) := by decide +kernel
theorem d_St_numberAt_36 : decode prog_10_method_10_code 36 = .ok (.ireturn, 1) := by decide +kernel
set_option maxHeartbeats 2000000 in
theorem St_numberAt_c {l : Launch} {θ : tv_Th} (F : Nat) (t : Nat) (a1 : Int32) (a2 : Int32) (M : tv_M) : tv_Ct l θ ⟨"TiedViews$Steps", "numberAt", "(II)I"⟩ prog_10_method_10_code 3 (some .int) 0 tv_ei [.ref (θ.1 + t), .int a1, .int a2] M (St_numberAt F t a1 a2 M) := by
  refine tv_ofG [some (.ref (θ.1 + t)), some (.int a1), some (.int a2)] rfl rfl (tv_ent 0 rfl) ?_
  intro κ hl ht hC hR
  subst hl; subst ht
  unfold St_numberAt
  refine g_gl (fun h1 => ?_)
  refine g_iload_n hC d_St_numberAt_0 rfl ?_
  refine g_if_lt (tgt := 24) hC d_St_numberAt_1 (by decide) (fun _ => ?_) (fun _ => ?_)
  · refine g_iconst hC d_St_numberAt_24 k_i0 ?_
    refine g_goto (tgt := 36) hC d_St_numberAt_25 (by decide) ?_
    exact g_iret hC hR d_St_numberAt_36
  · refine g_iload_n hC d_St_numberAt_4 rfl ?_
    refine g_aload_n hC d_St_numberAt_5 rfl ?_
    refine fg_St_45 hC h1 d_St_numberAt_6 ?_
    refine g_icmp_ge (tgt := 24) hC d_St_numberAt_9 (by decide) (fun _ => ?_) (fun _ => ?_)
    · refine g_iconst hC d_St_numberAt_24 k_i0 ?_
      refine g_goto (tgt := 36) hC d_St_numberAt_25 (by decide) ?_
      exact g_iret hC hR d_St_numberAt_36
    · refine g_iload_n hC d_St_numberAt_12 rfl ?_
      refine g_if_lt (tgt := 24) hC d_St_numberAt_13 (by decide) (fun _ => ?_) (fun _ => ?_)
      · refine g_iconst hC d_St_numberAt_24 k_i0 ?_
        refine g_goto (tgt := 36) hC d_St_numberAt_25 (by decide) ?_
        exact g_iret hC hR d_St_numberAt_36
      · refine g_iload_n hC d_St_numberAt_16 rfl ?_
        refine g_aload_n hC d_St_numberAt_17 rfl ?_
        refine fg_St_42 hC h1 d_St_numberAt_18 ?_
        refine g_icmp_lt (tgt := 28) hC d_St_numberAt_21 (by decide) (fun _ => ?_) (fun _ => ?_)
        · refine g_aload_n hC d_St_numberAt_28 rfl ?_
          refine g_nn (fun p2 e9 => ?_)
          refine fg_St_27 hC h1 d_St_numberAt_29 e9 ?_
          refine g_gn (fun n4 h3 => ?_)
          refine g_iload_n hC d_St_numberAt_32 rfl ?_
          refine gv_aald hC 3 h3 rfl d_St_numberAt_33 (fun p5 => ?_)
          refine g_gn (fun n7 h6 => ?_)
          refine g_iload_n hC d_St_numberAt_34 rfl ?_
          refine gv_iald hC h6 d_St_numberAt_35 (fun x8 => ?_)
          exact g_iret hC hR d_St_numberAt_36
        · refine g_iconst hC d_St_numberAt_24 k_i0 ?_
          refine g_goto (tgt := 36) hC d_St_numberAt_25 (by decide) ?_
          exact g_iret hC hR d_St_numberAt_36
theorem d_Ag_basisNumber_0 : decode prog_2_method_5_code 0 = .ok (.aload_n 0, 1) := by decide +kernel
theorem d_Ag_basisNumber_1 : decode prog_2_method_5_code 1 = .ok (.getfield 26, 3) := by decide +kernel
theorem d_Ag_basisNumber_4 : decode prog_2_method_5_code 4 = .ok (.iload_n 1, 1) := by decide +kernel
theorem d_Ag_basisNumber_5 : decode prog_2_method_5_code 5 = .ok (.invokevirtual 47, 3) := by decide +kernel
theorem d_Ag_basisNumber_8 : decode prog_2_method_5_code 8 = .ok (.istore_n 3, 1) := by decide +kernel
theorem d_Ag_basisNumber_9 : decode prog_2_method_5_code 9 = .ok (.aload_n 0, 1) := by decide +kernel
theorem d_Ag_basisNumber_10 : decode prog_2_method_5_code 10 = .ok (.getfield 26, 3) := by decide +kernel
theorem d_Ag_basisNumber_13 : decode prog_2_method_5_code 13 = .ok (.iload_n 2, 1) := by decide +kernel
theorem d_Ag_basisNumber_14 : decode prog_2_method_5_code 14 = .ok (.invokevirtual 51, 3) := by decide +kernel
theorem d_Ag_basisNumber_17 : decode prog_2_method_5_code 17 = .ok (.istore 4, 2) := by decide +kernel
theorem d_Ag_basisNumber_19 : decode prog_2_method_5_code 19 = .ok (.iload 4, 2) := by decide +kernel
theorem d_Ag_basisNumber_21 : decode prog_2_method_5_code 21 = .ok (.ifCond .ge 14, 3) := by decide +kernel
theorem d_Ag_basisNumber_24 : decode prog_2_method_5_code 24 = .ok (.iload_n 2, 1) := by decide +kernel
theorem d_Ag_basisNumber_25 : decode prog_2_method_5_code 25 = .ok (.iload_n 3, 1) := by decide +kernel
theorem d_Ag_basisNumber_26 : decode prog_2_method_5_code 26 = .ok (.if_icmp .ne 7, 3) := by decide +kernel
theorem d_Ag_basisNumber_29 : decode prog_2_method_5_code 29 = .ok (.iconst 1, 1) := by decide +kernel
theorem d_Ag_basisNumber_30 : decode prog_2_method_5_code 30 = .ok (.goto 4, 3) := by decide +kernel
theorem d_Ag_basisNumber_33 : decode prog_2_method_5_code 33 = .ok (.iconst 0, 1) := by decide +kernel
theorem d_Ag_basisNumber_34 : decode prog_2_method_5_code 34 = .ok (.ireturn, 1) := by decide +kernel
theorem d_Ag_basisNumber_35 : decode prog_2_method_5_code 35 = .ok (.aload_n 0, 1) := by decide +kernel
theorem d_Ag_basisNumber_36 : decode prog_2_method_5_code 36 = .ok (.getfield 9, 3) := by decide +kernel
theorem d_Ag_basisNumber_39 : decode prog_2_method_5_code 39 = .ok (.getfield 17, 3) := by decide +kernel
theorem d_Ag_basisNumber_42 : decode prog_2_method_5_code 42 = .ok (.aload_n 0, 1) := by decide +kernel
theorem d_Ag_basisNumber_43 : decode prog_2_method_5_code 43 = .ok (.getfield 26, 3) := by decide +kernel
theorem d_Ag_basisNumber_46 : decode prog_2_method_5_code 46 = .ok (.iload 4, 2) := by decide +kernel
theorem d_Ag_basisNumber_48 : decode prog_2_method_5_code 48 = .ok (.iload_n 3, 1) := by decide +kernel
theorem d_Ag_basisNumber_49 : decode prog_2_method_5_code 49 = .ok (.invokevirtual 54, 3) := by decide +kernel
theorem d_Ag_basisNumber_52 : decode prog_2_method_5_code 52 = .ok (.isub, 1) := by decide +kernel
theorem d_Ag_basisNumber_53 : decode prog_2_method_5_code 53 = .ok (.aload_n 0, 1) := by decide +kernel
theorem d_Ag_basisNumber_54 : decode prog_2_method_5_code 54 = .ok (.getfield 9, 3) := by decide +kernel
theorem d_Ag_basisNumber_57 : decode prog_2_method_5_code 57 = .ok (.getfield 17, 3) := by decide +kernel
theorem d_Ag_basisNumber_60 : decode prog_2_method_5_code 60 = .ok (.invokestatic 58, 3) := by decide +kernel
theorem d_Ag_basisNumber_63 : decode prog_2_method_5_code 63 = .ok (.ireturn, 1) := by decide +kernel
set_option maxHeartbeats 2000000 in
theorem Ag_basisNumber_c {l : Launch} {θ : tv_Th} (F : Nat) (a1 : Int32) (a2 : Int32) (M : tv_M) : tv_Ct l θ ⟨"TiedViews$Agreement", "basisNumber", "(II)I"⟩ prog_2_method_5_code 5 (some .int) 1 tv_ei [.ref (θ.1 + 70), .int a1, .int a2] M (Ag_basisNumber F a1 a2 M) := by
  refine tv_ofG [some (.ref (θ.1 + 70)), some (.int a1), some (.int a2), none, none] rfl rfl (tv_ent 2 rfl) ?_
  intro κ hl ht hC hR
  subst hl; subst ht
  unfold Ag_basisNumber
  refine g_aload_n hC d_Ag_basisNumber_0 rfl ?_
  refine fg_Ag_26 hC lc_70 d_Ag_basisNumber_1 p0_70_1 ?_
  refine g_iload_n hC d_Ag_basisNumber_4 rfl ?_
  refine gv_callVi hC [.int a1] cw_Ag_47 (St_freeColumn_c F 71 a1 M) lc_71 rfl rfl rfl rfl rfl rfl rfl d_Ag_basisNumber_5 (fun r1 M2 => ?_)
  refine g_istore_n (ls' := [some (.ref (κ.b + 70)), some (.int a1), some (.int a2), some (.int r1), none]) hC d_Ag_basisNumber_8 rfl rfl ?_
  refine g_aload_n hC d_Ag_basisNumber_9 rfl ?_
  refine fg_Ag_26 hC lc_70 d_Ag_basisNumber_10 p0_70_1 ?_
  refine g_iload_n hC d_Ag_basisNumber_13 rfl ?_
  refine gv_callVi hC [.int a2] cw_Ag_51 (St_leaderAt_c F 71 a2 M2) lc_71 rfl rfl rfl rfl rfl rfl rfl d_Ag_basisNumber_14 (fun r3 M4 => ?_)
  refine g_istore (ls' := [some (.ref (κ.b + 70)), some (.int a1), some (.int a2), some (.int r1), some (.int r3)]) hC d_Ag_basisNumber_17 rfl rfl ?_
  refine g_iload hC d_Ag_basisNumber_19 rfl ?_
  refine g_if_ge (tgt := 35) hC d_Ag_basisNumber_21 (by decide) (fun _ => ?_) (fun _ => ?_)
  · refine g_aload_n hC d_Ag_basisNumber_35 rfl ?_
    refine fg_Ag_9 hC lc_70 d_Ag_basisNumber_36 p0_70_0 ?_
    refine fg_Ag_17 hC lc_18 d_Ag_basisNumber_39 ?_
    refine g_aload_n hC d_Ag_basisNumber_42 rfl ?_
    refine fg_Ag_26 hC lc_70 d_Ag_basisNumber_43 p0_70_1 ?_
    refine g_iload hC d_Ag_basisNumber_46 rfl ?_
    refine g_iload_n hC d_Ag_basisNumber_48 rfl ?_
    refine gv_callVi hC [.int r3, .int r1] cw_Ag_54 (St_numberAt_c F 71 r3 r1 M4) lc_71 rfl rfl rfl rfl rfl rfl rfl d_Ag_basisNumber_49 (fun r5 M6 => ?_)
    refine g_isub hC d_Ag_basisNumber_52 ?_
    refine g_aload_n hC d_Ag_basisNumber_53 rfl ?_
    refine fg_Ag_9 hC lc_70 d_Ag_basisNumber_54 p0_70_0 ?_
    refine fg_Ag_17 hC lc_18 d_Ag_basisNumber_57 ?_
    refine gv_callNi hC [.int ((M4.1 18 0) - r5), .int (M6.1 18 0)] cw_Ag_58 (Xx_restOf_c F ((M4.1 18 0) - r5) (M6.1 18 0) M6) rfl rfl rfl rfl rfl d_Ag_basisNumber_60 (fun r7 M8 => ?_)
    exact g_iret hC hR d_Ag_basisNumber_63
  · refine g_iload_n hC d_Ag_basisNumber_24 rfl ?_
    refine g_iload_n hC d_Ag_basisNumber_25 rfl ?_
    refine g_icmp_ne (tgt := 33) hC d_Ag_basisNumber_26 (by decide) (fun _ => ?_) (fun _ => ?_)
    · refine g_iconst hC d_Ag_basisNumber_33 k_i0 ?_
      exact g_iret hC hR d_Ag_basisNumber_34
    · refine g_iconst hC d_Ag_basisNumber_29 k_i1 ?_
      refine g_goto (tgt := 34) hC d_Ag_basisNumber_30 (by decide) ?_
      exact g_iret hC hR d_Ag_basisNumber_34
theorem d_Xx_basis_0 : decode prog_1_method_11_code 0 = .ok (.iload_n 1, 1) := by decide +kernel
theorem d_Xx_basis_1 : decode prog_1_method_11_code 1 = .ok (.ifCond .lt 14, 3) := by decide +kernel
theorem d_Xx_basis_4 : decode prog_1_method_11_code 4 = .ok (.aload_n 0, 1) := by decide +kernel
theorem d_Xx_basis_5 : decode prog_1_method_11_code 5 = .ok (.getfield 29, 3) := by decide +kernel
theorem d_Xx_basis_8 : decode prog_1_method_11_code 8 = .ok (.iload_n 2, 1) := by decide +kernel
theorem d_Xx_basis_9 : decode prog_1_method_11_code 9 = .ok (.invokevirtual 192, 3) := by decide +kernel
theorem d_Xx_basis_12 : decode prog_1_method_11_code 12 = .ok (.ifCond .ne 6, 3) := by decide +kernel
theorem d_Xx_basis_15 : decode prog_1_method_11_code 15 = .ok (.ldc 83, 2) := by decide +kernel
theorem d_Xx_basis_17 : decode prog_1_method_11_code 17 = .ok (.ireturn, 1) := by decide +kernel
theorem d_Xx_basis_18 : decode prog_1_method_11_code 18 = .ok (.iload_n 1, 1) := by decide +kernel
theorem d_Xx_basis_19 : decode prog_1_method_11_code 19 = .ok (.aload_n 0, 1) := by decide +kernel
theorem d_Xx_basis_20 : decode prog_1_method_11_code 20 = .ok (.getfield 45, 3) := by decide +kernel
theorem d_Xx_basis_23 : decode prog_1_method_11_code 23 = .ok (.invokevirtual 180, 3) := by decide +kernel
theorem d_Xx_basis_26 : decode prog_1_method_11_code 26 = .ok (.if_icmp .ge 15, 3) := by decide +kernel
theorem d_Xx_basis_29 : decode prog_1_method_11_code 29 = .ok (.aload_n 0, 1) := by decide +kernel
theorem d_Xx_basis_30 : decode prog_1_method_11_code 30 = .ok (.getfield 45, 3) := by decide +kernel
theorem d_Xx_basis_33 : decode prog_1_method_11_code 33 = .ok (.iload_n 1, 1) := by decide +kernel
theorem d_Xx_basis_34 : decode prog_1_method_11_code 34 = .ok (.iload_n 2, 1) := by decide +kernel
theorem d_Xx_basis_35 : decode prog_1_method_11_code 35 = .ok (.invokevirtual 195, 3) := by decide +kernel
theorem d_Xx_basis_38 : decode prog_1_method_11_code 38 = .ok (.goto 5, 3) := by decide +kernel
theorem d_Xx_basis_41 : decode prog_1_method_11_code 41 = .ok (.ldc 166, 2) := by decide +kernel
theorem d_Xx_basis_43 : decode prog_1_method_11_code 43 = .ok (.ireturn, 1) := by decide +kernel
set_option maxHeartbeats 2000000 in
theorem Xx_basis_c {l : Launch} {θ : tv_Th} (F : Nat) (a1 : Int32) (a2 : Int32) (M : tv_M) : tv_Ct l θ ⟨"TiedViews", "basis", "(II)I"⟩ prog_1_method_11_code 3 (some .int) 2 tv_ei [.ref (θ.1 + 0), .int a1, .int a2] M (Xx_basis F a1 a2 M) := by
  refine tv_ofG [some (.ref (θ.1 + 0)), some (.int a1), some (.int a2)] rfl rfl (tv_ent 0 rfl) ?_
  intro κ hl ht hC hR
  subst hl; subst ht
  unfold Xx_basis
  refine g_iload_n hC d_Xx_basis_0 rfl ?_
  refine g_if_lt (tgt := 15) hC d_Xx_basis_1 (by decide) (fun _ => ?_) (fun _ => ?_)
  · refine g_ldc hC d_Xx_basis_15 wk_Xx_83 ?_
    exact g_iret hC hR d_Xx_basis_17
  · refine g_aload_n hC d_Xx_basis_4 rfl ?_
    refine fg_Xx_29 hC lc_0 d_Xx_basis_5 p0_0_2 ?_
    refine g_iload_n hC d_Xx_basis_8 rfl ?_
    refine gv_callVi hC [.int a2] cw_Xx_192 (To_isColumn_c F a2 M) lc_18 rfl rfl rfl rfl rfl rfl rfl d_Xx_basis_9 (fun r1 M2 => ?_)
    refine g_if_ne (tgt := 18) hC d_Xx_basis_12 (by decide) (fun _ => ?_) (fun _ => ?_)
    · refine g_iload_n hC d_Xx_basis_18 rfl ?_
      refine g_aload_n hC d_Xx_basis_19 rfl ?_
      refine fg_Xx_45 hC lc_0 d_Xx_basis_20 p0_0_4 ?_
      refine gv_callVi hC [] cw_Xx_180 (Ag_freeColumns_c F M2) lc_70 rfl rfl rfl rfl rfl rfl rfl d_Xx_basis_23 (fun r3 M4 => ?_)
      refine g_icmp_ge (tgt := 41) hC d_Xx_basis_26 (by decide) (fun _ => ?_) (fun _ => ?_)
      · refine g_ldc hC d_Xx_basis_41 wk_Xx_166 ?_
        exact g_iret hC hR d_Xx_basis_43
      · refine g_aload_n hC d_Xx_basis_29 rfl ?_
        refine fg_Xx_45 hC lc_0 d_Xx_basis_30 p0_0_4 ?_
        refine g_iload_n hC d_Xx_basis_33 rfl ?_
        refine g_iload_n hC d_Xx_basis_34 rfl ?_
        refine gv_callVi hC [.int a1, .int a2] cw_Xx_195 (Ag_basisNumber_c F a1 a2 M4) lc_70 rfl rfl rfl rfl rfl rfl rfl d_Xx_basis_35 (fun r5 M6 => ?_)
        refine g_goto (tgt := 43) hC d_Xx_basis_38 (by decide) ?_
        exact g_iret hC hR d_Xx_basis_43
    · refine g_ldc hC d_Xx_basis_15 wk_Xx_83 ?_
      exact g_iret hC hR d_Xx_basis_17
theorem d_Sh_holdsRests_0 : decode prog_9_method_7_code 0 = .ok (.aload_n 0, 1) := by decide +kernel
theorem d_Sh_holdsRests_1 : decode prog_9_method_7_code 1 = .ok (.iload_n 1, 1) := by decide +kernel
theorem d_Sh_holdsRests_2 : decode prog_9_method_7_code 2 = .ok (.iload_n 2, 1) := by decide +kernel
theorem d_Sh_holdsRests_3 : decode prog_9_method_7_code 3 = .ok (.invokevirtual 28, 3) := by decide +kernel
theorem d_Sh_holdsRests_6 : decode prog_9_method_7_code 6 = .ok (.ifCond .ne 5, 3) := by decide +kernel
theorem d_Sh_holdsRests_9 : decode prog_9_method_7_code 9 = .ok (.iconst 0, 1) := by decide +kernel
theorem d_Sh_holdsRests_10 : decode prog_9_method_7_code 10 = .ok (.ireturn, 1) := by decide +kernel
theorem d_Sh_holdsRests_11 : decode prog_9_method_7_code 11 = .ok (.iload_n 1, 1) := by decide +kernel
theorem d_Sh_holdsRests_12 : decode prog_9_method_7_code 12 = .ok (.istore 4, 2) := by decide +kernel
theorem d_Sh_holdsRests_14 : decode prog_9_method_7_code 14 = .ok (.iload 4, 2) := by decide +kernel
theorem d_Sh_holdsRests_16 : decode prog_9_method_7_code 16 = .ok (.iload_n 1, 1) := by decide +kernel
theorem d_Sh_holdsRests_17 : decode prog_9_method_7_code 17 = .ok (.iload_n 2, 1) := by decide +kernel
theorem d_Sh_holdsRests_18 : decode prog_9_method_7_code 18 = .ok (.iadd, 1) := by decide +kernel
theorem d_Sh_holdsRests_19 : decode prog_9_method_7_code 19 = .ok (.if_icmp .ge 32, 3) := by decide +kernel
theorem d_Sh_holdsRests_22 : decode prog_9_method_7_code 22 = .ok (.aload_n 0, 1) := by decide +kernel
theorem d_Sh_holdsRests_23 : decode prog_9_method_7_code 23 = .ok (.getfield 15, 3) := by decide +kernel
theorem d_Sh_holdsRests_26 : decode prog_9_method_7_code 26 = .ok (.iload 4, 2) := by decide +kernel
theorem d_Sh_holdsRests_28 : decode prog_9_method_7_code 28 = .ok (.iaload, 1) := by decide +kernel
theorem d_Sh_holdsRests_29 : decode prog_9_method_7_code 29 = .ok (.ifCond .lt 14, 3) := by decide +kernel
theorem d_Sh_holdsRests_32 : decode prog_9_method_7_code 32 = .ok (.aload_n 0, 1) := by decide +kernel
theorem d_Sh_holdsRests_33 : decode prog_9_method_7_code 33 = .ok (.getfield 15, 3) := by decide +kernel
theorem d_Sh_holdsRests_36 : decode prog_9_method_7_code 36 = .ok (.iload 4, 2) := by decide +kernel
theorem d_Sh_holdsRests_38 : decode prog_9_method_7_code 38 = .ok (.iaload, 1) := by decide +kernel
theorem d_Sh_holdsRests_39 : decode prog_9_method_7_code 39 = .ok (.iload_n 3, 1) := by decide +kernel
theorem d_Sh_holdsRests_40 : decode prog_9_method_7_code 40 = .ok (.if_icmp .lt 5, 3) := by decide +kernel
theorem d_Sh_holdsRests_43 : decode prog_9_method_7_code 43 = .ok (.iconst 0, 1) := by decide +kernel
theorem d_Sh_holdsRests_44 : decode prog_9_method_7_code 44 = .ok (.ireturn, 1) := by decide +kernel
theorem d_Sh_holdsRests_45 : decode prog_9_method_7_code 45 = .ok (.iinc 4 1, 3) := by decide +kernel
theorem d_Sh_holdsRests_48 : decode prog_9_method_7_code 48 = .ok (.goto (-34), 3) := by decide +kernel
theorem d_Sh_holdsRests_51 : decode prog_9_method_7_code 51 = .ok (.iconst 1, 1) := by decide +kernel
theorem d_Sh_holdsRests_52 : decode prog_9_method_7_code 52 = .ok (.ireturn, 1) := by decide +kernel
set_option maxHeartbeats 2000000 in
theorem Sh_holdsRests_L14_g {κ : tv_Kt} (hC : tv_Cx κ "TiedViews$Sheet" prog_9_method_7_code 5 1) (hR : tv_Re κ (some .boolean)) (F : Nat) : ∀ (n : Nat) (l0 : Nat) (l1 : Int32) (l2 : Int32) (l3 : Int32) (l4 : Int32) (M : tv_M), tv_G κ 5 (tv_Qm κ tv_ei) 14 [some (.ref (κ.b + l0)), some (.int l1), some (.int l2), some (.int l3), some (.int l4)] [] M (Sh_holdsRests_L14 F n l0 l1 l2 l3 l4 M) := by
  intro n
  induction n with
  | zero => intro _ _ _ _ _ _; exact g_none
  | succ nn ih =>
    intro l0 l1 l2 l3 l4 M
    rw [Sh_holdsRests_L14]
    refine g_gl (fun h4 => ?_)
    refine g_iload hC d_Sh_holdsRests_14 rfl ?_
    refine g_iload_n hC d_Sh_holdsRests_16 rfl ?_
    refine g_iload_n hC d_Sh_holdsRests_17 rfl ?_
    refine g_iadd hC d_Sh_holdsRests_18 ?_
    refine g_icmp_ge (tgt := 51) hC d_Sh_holdsRests_19 (by decide) (fun _ => ?_) (fun _ => ?_)
    · refine g_iconst hC d_Sh_holdsRests_51 k_i1 ?_
      exact g_zret hC hR tv_z1 d_Sh_holdsRests_52
    · refine g_aload_n hC d_Sh_holdsRests_22 rfl ?_
      refine g_nn (fun p5 e14 => ?_)
      refine fg_Sh_15 hC h4 d_Sh_holdsRests_23 e14 ?_
      refine g_gn (fun n7 h6 => ?_)
      refine g_iload hC d_Sh_holdsRests_26 rfl ?_
      refine gv_iald hC h6 d_Sh_holdsRests_28 (fun x8 => ?_)
      refine g_if_lt (tgt := 43) hC d_Sh_holdsRests_29 (by decide) (fun _ => ?_) (fun _ => ?_)
      · refine g_iconst hC d_Sh_holdsRests_43 k_i0 ?_
        exact g_zret hC hR tv_z0 d_Sh_holdsRests_44
      · refine g_aload_n hC d_Sh_holdsRests_32 rfl ?_
        refine g_nn (fun p9 e13 => ?_)
        refine fg_Sh_15 hC h4 d_Sh_holdsRests_33 e13 ?_
        refine g_gn (fun n11 h10 => ?_)
        refine g_iload hC d_Sh_holdsRests_36 rfl ?_
        refine gv_iald hC h10 d_Sh_holdsRests_38 (fun x12 => ?_)
        refine g_iload_n hC d_Sh_holdsRests_39 rfl ?_
        refine g_icmp_lt (tgt := 45) hC d_Sh_holdsRests_40 (by decide) (fun _ => ?_) (fun _ => ?_)
        · refine g_iinc (ls' := [some (.ref (κ.b + l0)), some (.int l1), some (.int l2), some (.int l3), some (.int (l4 + 1))]) hC d_Sh_holdsRests_45 rfl k_i1 rfl rfl ?_
          refine g_goto (tgt := 14) hC d_Sh_holdsRests_48 (by decide) ?_
          exact ih l0 l1 l2 l3 (l4 + 1) M
        · refine g_iconst hC d_Sh_holdsRests_43 k_i0 ?_
          exact g_zret hC hR tv_z0 d_Sh_holdsRests_44
set_option maxHeartbeats 2000000 in
theorem Sh_holdsRests_c {l : Launch} {θ : tv_Th} (F : Nat) (t : Nat) (a1 : Int32) (a2 : Int32) (a3 : Int32) (M : tv_M) : tv_Ct l θ ⟨"TiedViews$Sheet", "holdsRests", "(III)Z"⟩ prog_9_method_7_code 5 (some .boolean) 1 tv_ei [.ref (θ.1 + t), .int a1, .int a2, .int a3] M (Sh_holdsRests F t a1 a2 a3 M) := by
  refine tv_ofG [some (.ref (θ.1 + t)), some (.int a1), some (.int a2), some (.int a3), none] rfl rfl (tv_ent 1 rfl) ?_
  intro κ hl ht hC hR
  subst hl; subst ht
  unfold Sh_holdsRests
  refine g_gl (fun h1 => ?_)
  refine g_aload_n hC d_Sh_holdsRests_0 rfl ?_
  refine g_iload_n hC d_Sh_holdsRests_1 rfl ?_
  refine g_iload_n hC d_Sh_holdsRests_2 rfl ?_
  refine gv_callVi hC [.int a1, .int a2] cw_Sh_28 (Sh_reaches_c F t a1 a2 M) h1 rfl rfl rfl rfl rfl rfl rfl d_Sh_holdsRests_3 (fun r2 M3 => ?_)
  refine g_if_ne (tgt := 11) hC d_Sh_holdsRests_6 (by decide) (fun _ => ?_) (fun _ => ?_)
  · refine g_iload_n hC d_Sh_holdsRests_11 rfl ?_
    refine g_istore (ls' := [some (.ref (κ.b + t)), some (.int a1), some (.int a2), some (.int a3), some (.int a1)]) hC d_Sh_holdsRests_12 rfl rfl ?_
    exact Sh_holdsRests_L14_g hC hR F F t a1 a2 a3 a1 M3
  · refine g_iconst hC d_Sh_holdsRests_9 k_i0 ?_
    exact g_zret hC hR tv_z0 d_Sh_holdsRests_10
theorem d_Ey_takeReading_0 : decode prog_6_method_5_code 0 = .ok (.aload_n 0, 1) := by decide +kernel
theorem d_Ey_takeReading_1 : decode prog_6_method_5_code 1 = .ok (.getfield 22, 3) := by decide +kernel
theorem d_Ey_takeReading_4 : decode prog_6_method_5_code 4 = .ok (.iconst 3, 1) := by decide +kernel
theorem d_Ey_takeReading_5 : decode prog_6_method_5_code 5 = .ok (.if_icmp .gt 15, 3) := by decide +kernel
theorem d_Ey_takeReading_8 : decode prog_6_method_5_code 8 = .ok (.aload_n 1, 1) := by decide +kernel
theorem d_Ey_takeReading_9 : decode prog_6_method_5_code 9 = .ok (.iload_n 2, 1) := by decide +kernel
theorem d_Ey_takeReading_10 : decode prog_6_method_5_code 10 = .ok (.aload_n 0, 1) := by decide +kernel
theorem d_Ey_takeReading_11 : decode prog_6_method_5_code 11 = .ok (.getfield 22, 3) := by decide +kernel
theorem d_Ey_takeReading_14 : decode prog_6_method_5_code 14 = .ok (.invokevirtual 39, 3) := by decide +kernel
theorem d_Ey_takeReading_17 : decode prog_6_method_5_code 17 = .ok (.ifCond .ne 4, 3) := by decide +kernel
theorem d_Ey_takeReading_20 : decode prog_6_method_5_code 20 = .ok (.return_, 1) := by decide +kernel
theorem d_Ey_takeReading_21 : decode prog_6_method_5_code 21 = .ok (.aload_n 1, 1) := by decide +kernel
theorem d_Ey_takeReading_22 : decode prog_6_method_5_code 22 = .ok (.getfield 45, 3) := by decide +kernel
theorem d_Ey_takeReading_25 : decode prog_6_method_5_code 25 = .ok (.iload_n 2, 1) := by decide +kernel
theorem d_Ey_takeReading_26 : decode prog_6_method_5_code 26 = .ok (.aload_n 0, 1) := by decide +kernel
theorem d_Ey_takeReading_27 : decode prog_6_method_5_code 27 = .ok (.getfield 9, 3) := by decide +kernel
theorem d_Ey_takeReading_30 : decode prog_6_method_5_code 30 = .ok (.iconst 0, 1) := by decide +kernel
theorem d_Ey_takeReading_31 : decode prog_6_method_5_code 31 = .ok (.aload_n 0, 1) := by decide +kernel
theorem d_Ey_takeReading_32 : decode prog_6_method_5_code 32 = .ok (.getfield 22, 3) := by decide +kernel
theorem d_Ey_takeReading_35 : decode prog_6_method_5_code 35 = .ok (.invokestatic 48, 3) := by decide +kernel
theorem d_Ey_takeReading_38 : decode prog_6_method_5_code 38 = .ok (.aload_n 0, 1) := by decide +kernel
theorem d_Ey_takeReading_39 : decode prog_6_method_5_code 39 = .ok (.iconst 1, 1) := by decide +kernel
theorem d_Ey_takeReading_40 : decode prog_6_method_5_code 40 = .ok (.putfield 35, 3) := by decide +kernel
theorem d_Ey_takeReading_43 : decode prog_6_method_5_code 43 = .ok (.return_, 1) := by decide +kernel
set_option maxHeartbeats 2000000 in
theorem Ey_takeReading_c {l : Launch} {θ : tv_Th} (F : Nat) (t : Nat) (a1 : Nat) (a2 : Int32) (M : tv_M) : tv_Ct l θ ⟨"TiedViews$Eye", "takeReading", "(LTiedViews$Sheet;I)V"⟩ prog_6_method_5_code 3 none 1 tv_ev [.ref (θ.1 + t), .ref (θ.1 + a1), .int a2] M (Ey_takeReading F t a1 a2 M) := by
  refine tv_ofG [some (.ref (θ.1 + t)), some (.ref (θ.1 + a1)), some (.int a2)] rfl rfl (tv_ent 0 rfl) ?_
  intro κ hl ht hC hR
  subst hl; subst ht
  unfold Ey_takeReading
  refine g_gl (fun h1 => ?_)
  refine g_gl (fun h2 => ?_)
  refine g_aload_n hC d_Ey_takeReading_0 rfl ?_
  refine fg_Ey_22 hC h1 d_Ey_takeReading_1 ?_
  refine g_iconst hC d_Ey_takeReading_4 k_i3 ?_
  refine g_icmp_gt (tgt := 20) hC d_Ey_takeReading_5 (by decide) (fun _ => ?_) (fun _ => ?_)
  · exact g_vret hC hR d_Ey_takeReading_20
  · refine g_aload_n hC d_Ey_takeReading_8 rfl ?_
    refine g_iload_n hC d_Ey_takeReading_9 rfl ?_
    refine g_aload_n hC d_Ey_takeReading_10 rfl ?_
    refine fg_Ey_22 hC h1 d_Ey_takeReading_11 ?_
    refine gv_callVi hC [.int a2, .int (M.1 t 2)] cw_Ey_39 (Sh_reaches_c F a1 a2 (M.1 t 2) M) h2 rfl rfl rfl rfl rfl rfl rfl d_Ey_takeReading_14 (fun r3 M4 => ?_)
    refine g_if_ne (tgt := 21) hC d_Ey_takeReading_17 (by decide) (fun _ => ?_) (fun _ => ?_)
    · refine g_aload_n hC d_Ey_takeReading_21 rfl ?_
      refine g_nn (fun p5 e14 => ?_)
      refine fg_Ey_45 hC h2 d_Ey_takeReading_22 e14 ?_
      refine g_gn (fun n7 h6 => ?_)
      refine g_iload_n hC d_Ey_takeReading_25 rfl ?_
      refine g_aload_n hC d_Ey_takeReading_26 rfl ?_
      refine g_nn (fun p8 e13 => ?_)
      refine fg_Ey_9 hC h1 d_Ey_takeReading_27 e13 ?_
      refine g_gn (fun n10 h9 => ?_)
      refine g_iconst hC d_Ey_takeReading_30 k_i0 ?_
      refine g_aload_n hC d_Ey_takeReading_31 rfl ?_
      refine fg_Ey_22 hC h1 d_Ey_takeReading_32 ?_
      refine gv_copy hC h6 h9 wc_Ey_48 rfl rfl d_Ey_takeReading_35 (fun M11 => ?_)
      refine g_aload_n hC d_Ey_takeReading_38 rfl ?_
      refine g_iconst hC d_Ey_takeReading_39 k_i1 ?_
      refine fp_Ey_35 hC h1 tv_z1 d_Ey_takeReading_40 (fun M12 => ?_)
      exact g_vret hC hR d_Ey_takeReading_43
    · exact g_vret hC hR d_Ey_takeReading_20
theorem d_Ag_forgetFill_0 : decode prog_2_method_2_code 0 = .ok (.aload_n 0, 1) := by decide +kernel
theorem d_Ag_forgetFill_1 : decode prog_2_method_2_code 1 = .ok (.iconst 0, 1) := by decide +kernel
theorem d_Ag_forgetFill_2 : decode prog_2_method_2_code 2 = .ok (.putfield 33, 3) := by decide +kernel
theorem d_Ag_forgetFill_5 : decode prog_2_method_2_code 5 = .ok (.return_, 1) := by decide +kernel
set_option maxHeartbeats 2000000 in
theorem Ag_forgetFill_c {l : Launch} {θ : tv_Th} (F : Nat) (M : tv_M) : tv_Ct l θ ⟨"TiedViews$Agreement", "forgetFill", "()V"⟩ prog_2_method_2_code 1 none 0 tv_ev [.ref (θ.1 + 70)] M (Ag_forgetFill F M) := by
  refine tv_ofG [some (.ref (θ.1 + 70))] rfl rfl (tv_ent 0 rfl) ?_
  intro κ hl ht hC hR
  subst hl; subst ht
  unfold Ag_forgetFill
  refine g_aload_n hC d_Ag_forgetFill_0 rfl ?_
  refine g_iconst hC d_Ag_forgetFill_1 k_i0 ?_
  refine fp_Ag_33 hC lc_70 tv_z0 d_Ag_forgetFill_2 (fun M1 => ?_)
  exact g_vret hC hR d_Ag_forgetFill_5
theorem d_Xx_forgetReadings_0 : decode prog_1_method_38_code 0 = .ok (.aload_n 0, 1) := by decide +kernel
theorem d_Xx_forgetReadings_1 : decode prog_1_method_38_code 1 = .ok (.getfield 45, 3) := by decide +kernel
theorem d_Xx_forgetReadings_4 : decode prog_1_method_38_code 4 = .ok (.invokevirtual 325, 3) := by decide +kernel
theorem d_Xx_forgetReadings_7 : decode prog_1_method_38_code 7 = .ok (.aload_n 0, 1) := by decide +kernel
theorem d_Xx_forgetReadings_8 : decode prog_1_method_38_code 8 = .ok (.getfield 54, 3) := by decide +kernel
theorem d_Xx_forgetReadings_11 : decode prog_1_method_38_code 11 = .ok (.invokevirtual 139, 3) := by decide +kernel
theorem d_Xx_forgetReadings_14 : decode prog_1_method_38_code 14 = .ok (.return_, 1) := by decide +kernel
set_option maxHeartbeats 2000000 in
theorem Xx_forgetReadings_c {l : Launch} {θ : tv_Th} (F : Nat) (M : tv_M) : tv_Ct l θ ⟨"TiedViews", "forgetReadings", "()V"⟩ prog_1_method_38_code 1 none 1 tv_ev [.ref (θ.1 + 0)] M (Xx_forgetReadings F M) := by
  refine tv_ofG [some (.ref (θ.1 + 0))] rfl rfl (tv_ent 0 rfl) ?_
  intro κ hl ht hC hR
  subst hl; subst ht
  unfold Xx_forgetReadings
  refine g_aload_n hC d_Xx_forgetReadings_0 rfl ?_
  refine fg_Xx_45 hC lc_0 d_Xx_forgetReadings_1 p0_0_4 ?_
  refine gv_callVv hC [] cw_Xx_325 (Ag_forgetFill_c F M) lc_70 rfl rfl rfl rfl rfl rfl rfl d_Xx_forgetReadings_4 (fun r1 M2 => ?_)
  refine g_aload_n hC d_Xx_forgetReadings_7 rfl ?_
  refine fg_Xx_54 hC lc_0 d_Xx_forgetReadings_8 p0_0_5 ?_
  refine gv_callVv hC [] cw_Xx_139 (Dr_forget_c F M2) lc_165 rfl rfl rfl rfl rfl rfl rfl d_Xx_forgetReadings_11 (fun r3 M4 => ?_)
  exact g_vret hC hR d_Xx_forgetReadings_14
theorem d_Xx_reading_0 : decode prog_1_method_12_code 0 = .ok (.aload_n 0, 1) := by decide +kernel
theorem d_Xx_reading_1 : decode prog_1_method_12_code 1 = .ok (.getfield 29, 3) := by decide +kernel
theorem d_Xx_reading_4 : decode prog_1_method_12_code 4 = .ok (.iload_n 1, 1) := by decide +kernel
theorem d_Xx_reading_5 : decode prog_1_method_12_code 5 = .ok (.invokevirtual 198, 3) := by decide +kernel
theorem d_Xx_reading_8 : decode prog_1_method_12_code 8 = .ok (.astore 4, 2) := by decide +kernel
theorem d_Xx_reading_10 : decode prog_1_method_12_code 10 = .ok (.aload_n 0, 1) := by decide +kernel
theorem d_Xx_reading_11 : decode prog_1_method_12_code 11 = .ok (.iload_n 2, 1) := by decide +kernel
theorem d_Xx_reading_12 : decode prog_1_method_12_code 12 = .ok (.invokevirtual 79, 3) := by decide +kernel
theorem d_Xx_reading_15 : decode prog_1_method_12_code 15 = .ok (.astore 5, 2) := by decide +kernel
theorem d_Xx_reading_17 : decode prog_1_method_12_code 17 = .ok (.aload 4, 2) := by decide +kernel
theorem d_Xx_reading_19 : decode prog_1_method_12_code 19 = .ok (.ifnull 8, 3) := by decide +kernel
theorem d_Xx_reading_22 : decode prog_1_method_12_code 22 = .ok (.aload 5, 2) := by decide +kernel
theorem d_Xx_reading_24 : decode prog_1_method_12_code 24 = .ok (.ifnonnull 6, 3) := by decide +kernel
theorem d_Xx_reading_27 : decode prog_1_method_12_code 27 = .ok (.ldc 83, 2) := by decide +kernel
theorem d_Xx_reading_29 : decode prog_1_method_12_code 29 = .ok (.ireturn, 1) := by decide +kernel
theorem d_Xx_reading_30 : decode prog_1_method_12_code 30 = .ok (.aload 5, 2) := by decide +kernel
theorem d_Xx_reading_32 : decode prog_1_method_12_code 32 = .ok (.invokevirtual 94, 3) := by decide +kernel
theorem d_Xx_reading_35 : decode prog_1_method_12_code 35 = .ok (.ifCond .eq 9, 3) := by decide +kernel
theorem d_Xx_reading_38 : decode prog_1_method_12_code 38 = .ok (.aload_n 0, 1) := by decide +kernel
theorem d_Xx_reading_39 : decode prog_1_method_12_code 39 = .ok (.iconst 1, 1) := by decide +kernel
theorem d_Xx_reading_40 : decode prog_1_method_12_code 40 = .ok (.invokevirtual 84, 3) := by decide +kernel
theorem d_Xx_reading_43 : decode prog_1_method_12_code 43 = .ok (.ireturn, 1) := by decide +kernel
theorem d_Xx_reading_44 : decode prog_1_method_12_code 44 = .ok (.aload 5, 2) := by decide +kernel
theorem d_Xx_reading_46 : decode prog_1_method_12_code 46 = .ok (.iload_n 3, 1) := by decide +kernel
theorem d_Xx_reading_47 : decode prog_1_method_12_code 47 = .ok (.aload 4, 2) := by decide +kernel
theorem d_Xx_reading_49 : decode prog_1_method_12_code 49 = .ok (.getfield 160, 3) := by decide +kernel
theorem d_Xx_reading_52 : decode prog_1_method_12_code 52 = .ok (.invokevirtual 98, 3) := by decide +kernel
theorem d_Xx_reading_55 : decode prog_1_method_12_code 55 = .ok (.ifCond .ne 9, 3) := by decide +kernel
theorem d_Xx_reading_58 : decode prog_1_method_12_code 58 = .ok (.aload_n 0, 1) := by decide +kernel
theorem d_Xx_reading_59 : decode prog_1_method_12_code 59 = .ok (.iconst 2, 1) := by decide +kernel
theorem d_Xx_reading_60 : decode prog_1_method_12_code 60 = .ok (.invokevirtual 84, 3) := by decide +kernel
theorem d_Xx_reading_63 : decode prog_1_method_12_code 63 = .ok (.ireturn, 1) := by decide +kernel
theorem d_Xx_reading_64 : decode prog_1_method_12_code 64 = .ok (.aload 5, 2) := by decide +kernel
theorem d_Xx_reading_66 : decode prog_1_method_12_code 66 = .ok (.iload_n 3, 1) := by decide +kernel
theorem d_Xx_reading_67 : decode prog_1_method_12_code 67 = .ok (.aload 4, 2) := by decide +kernel
theorem d_Xx_reading_69 : decode prog_1_method_12_code 69 = .ok (.getfield 160, 3) := by decide +kernel
theorem d_Xx_reading_72 : decode prog_1_method_12_code 72 = .ok (.aload_n 0, 1) := by decide +kernel
theorem d_Xx_reading_73 : decode prog_1_method_12_code 73 = .ok (.getfield 19, 3) := by decide +kernel
theorem d_Xx_reading_76 : decode prog_1_method_12_code 76 = .ok (.invokevirtual 201, 3) := by decide +kernel
theorem d_Xx_reading_79 : decode prog_1_method_12_code 79 = .ok (.ifCond .ne 6, 3) := by decide +kernel
theorem d_Xx_reading_82 : decode prog_1_method_12_code 82 = .ok (.ldc 83, 2) := by decide +kernel
theorem d_Xx_reading_84 : decode prog_1_method_12_code 84 = .ok (.ireturn, 1) := by decide +kernel
theorem d_Xx_reading_85 : decode prog_1_method_12_code 85 = .ok (.aload 4, 2) := by decide +kernel
theorem d_Xx_reading_87 : decode prog_1_method_12_code 87 = .ok (.aload 5, 2) := by decide +kernel
theorem d_Xx_reading_89 : decode prog_1_method_12_code 89 = .ok (.iload_n 3, 1) := by decide +kernel
theorem d_Xx_reading_90 : decode prog_1_method_12_code 90 = .ok (.invokevirtual 205, 3) := by decide +kernel
theorem d_Xx_reading_93 : decode prog_1_method_12_code 93 = .ok (.aload_n 0, 1) := by decide +kernel
theorem d_Xx_reading_94 : decode prog_1_method_12_code 94 = .ok (.invokevirtual 209, 3) := by decide +kernel
theorem d_Xx_reading_97 : decode prog_1_method_12_code 97 = .ok (.aload_n 0, 1) := by decide +kernel
theorem d_Xx_reading_98 : decode prog_1_method_12_code 98 = .ok (.iconst 1, 1) := by decide +kernel
theorem d_Xx_reading_99 : decode prog_1_method_12_code 99 = .ok (.invokevirtual 91, 3) := by decide +kernel
theorem d_Xx_reading_102 : decode prog_1_method_12_code 102 = .ok (.ireturn, 1) := by decide +kernel
set_option maxHeartbeats 2000000 in
theorem Xx_reading_c {l : Launch} {θ : tv_Th} (F : Nat) (a1 : Int32) (a2 : Int32) (a3 : Int32) (M : tv_M) : tv_Ct l θ ⟨"TiedViews", "reading", "(III)I"⟩ prog_1_method_12_code 6 (some .int) 2 tv_ei [.ref (θ.1 + 0), .int a1, .int a2, .int a3] M (Xx_reading F a1 a2 a3 M) := by
  refine tv_ofG [some (.ref (θ.1 + 0)), some (.int a1), some (.int a2), some (.int a3), none, none] rfl rfl (tv_ent 2 rfl) ?_
  intro κ hl ht hC hR
  subst hl; subst ht
  unfold Xx_reading
  refine g_aload_n hC d_Xx_reading_0 rfl ?_
  refine fg_Xx_29 hC lc_0 d_Xx_reading_1 p0_0_2 ?_
  refine g_iload_n hC d_Xx_reading_4 rfl ?_
  refine gv_callVr hC [.int a1] cw_Xx_198 (To_linearAt_c F a1 M) lc_18 rfl rfl rfl rfl rfl rfl rfl d_Xx_reading_5 (fun r1 M2 => ?_)
  refine g_astoreQ (ls' := [some (.ref (κ.b + 0)), some (.int a1), some (.int a2), some (.int a3), some (tv_re κ.b r1), none]) hC d_Xx_reading_8 rfl rfl ?_
  refine g_aload_n hC d_Xx_reading_10 rfl ?_
  refine g_iload_n hC d_Xx_reading_11 rfl ?_
  refine gv_callVr hC [.int a2] cw_Xx_79 (Xx_sheetAt_c F a2 M2) lc_0 rfl rfl rfl rfl rfl rfl rfl d_Xx_reading_12 (fun r3 M4 => ?_)
  refine g_astoreQ (ls' := [some (.ref (κ.b + 0)), some (.int a1), some (.int a2), some (.int a3), some (tv_re κ.b r1), some (tv_re κ.b r3)]) hC d_Xx_reading_15 (by simp [tv_sto, tv_sto2, tv_clr, tv_re_cat]) rfl ?_
  refine g_aloadQ hC d_Xx_reading_17 rfl ?_
  rcases r1 with _ | p5
  · refine g_nlN ?_
    refine g_ifnullN (tgt := 27) hC d_Xx_reading_19 (by decide) ?_
    refine g_ldc hC d_Xx_reading_27 wk_Xx_83 ?_
    exact g_iret hC hR d_Xx_reading_29
  · refine g_nlS ?_
    refine g_ifnullR hC d_Xx_reading_19 ?_
    refine g_gl (fun h6 => ?_)
    refine g_aloadQ hC d_Xx_reading_22 rfl ?_
    rcases r3 with _ | p7
    · refine g_nlN ?_
      refine g_ifnonnullN hC d_Xx_reading_24 ?_
      refine g_ldc hC d_Xx_reading_27 wk_Xx_83 ?_
      exact g_iret hC hR d_Xx_reading_29
    · refine g_nlS ?_
      refine g_ifnonnullR (tgt := 30) hC d_Xx_reading_24 (by decide) ?_
      refine g_gl (fun h8 => ?_)
      refine g_aload hC d_Xx_reading_30 rfl ?_
      refine gv_callVi hC [] cw_Xx_94 (Sh_isMissing_c F p7 M4) h8 rfl rfl rfl rfl rfl rfl rfl d_Xx_reading_32 (fun r9 M10 => ?_)
      refine g_if_eq (tgt := 44) hC d_Xx_reading_35 (by decide) (fun _ => ?_) (fun _ => ?_)
      · refine g_aload hC d_Xx_reading_44 rfl ?_
        refine g_iload_n hC d_Xx_reading_46 rfl ?_
        refine g_aload hC d_Xx_reading_47 rfl ?_
        refine fg_Xx_160 hC h6 d_Xx_reading_49 ?_
        refine gv_callVi hC [.int a3, .int (M10.1 p5 2)] cw_Xx_98 (Sh_reaches_c F p7 a3 (M10.1 p5 2) M10) h8 rfl rfl rfl rfl rfl rfl rfl d_Xx_reading_52 (fun r11 M12 => ?_)
        refine g_if_ne (tgt := 64) hC d_Xx_reading_55 (by decide) (fun _ => ?_) (fun _ => ?_)
        · refine g_aload hC d_Xx_reading_64 rfl ?_
          refine g_iload_n hC d_Xx_reading_66 rfl ?_
          refine g_aload hC d_Xx_reading_67 rfl ?_
          refine fg_Xx_160 hC h6 d_Xx_reading_69 ?_
          refine g_aload_n hC d_Xx_reading_72 rfl ?_
          refine fg_Xx_19 hC lc_0 d_Xx_reading_73 ?_
          refine gv_callVi hC [.int a3, .int (M12.1 p5 2), .int (M12.1 0 0)] cw_Xx_201 (Sh_holdsRests_c F p7 a3 (M12.1 p5 2) (M12.1 0 0) M12) h8 rfl rfl rfl rfl rfl rfl rfl d_Xx_reading_76 (fun r13 M14 => ?_)
          refine g_if_ne (tgt := 85) hC d_Xx_reading_79 (by decide) (fun _ => ?_) (fun _ => ?_)
          · refine g_aload hC d_Xx_reading_85 rfl ?_
            refine g_aload hC d_Xx_reading_87 rfl ?_
            refine g_iload_n hC d_Xx_reading_89 rfl ?_
            refine gv_callVv hC [.ref (κ.b + p7), .int a3] cw_Xx_205 (Ey_takeReading_c F p5 p7 a3 M14) h6 rfl rfl rfl rfl rfl rfl rfl d_Xx_reading_90 (fun r15 M16 => ?_)
            refine g_aload_n hC d_Xx_reading_93 rfl ?_
            refine gv_callVv hC [] cw_Xx_209 (Xx_forgetReadings_c F M16) lc_0 rfl rfl rfl rfl rfl rfl rfl d_Xx_reading_94 (fun r17 M18 => ?_)
            refine g_aload_n hC d_Xx_reading_97 rfl ?_
            refine g_iconst hC d_Xx_reading_98 k_i1 ?_
            refine gv_callVi hC [.int 1] cw_Xx_91 (Xx_passed_c F 1 M18) lc_0 rfl rfl rfl rfl rfl rfl rfl d_Xx_reading_99 (fun r19 M20 => ?_)
            exact g_iret hC hR d_Xx_reading_102
          · refine g_ldc hC d_Xx_reading_82 wk_Xx_83 ?_
            exact g_iret hC hR d_Xx_reading_84
        · refine g_aload_n hC d_Xx_reading_58 rfl ?_
          refine g_iconst hC d_Xx_reading_59 k_i2 ?_
          refine gv_callVi hC [.int 2] cw_Xx_84 (Xx_found_c F 2 M12) lc_0 rfl rfl rfl rfl rfl rfl rfl d_Xx_reading_60 (fun r21 M22 => ?_)
          exact g_iret hC hR d_Xx_reading_63
      · refine g_aload_n hC d_Xx_reading_38 rfl ?_
        refine g_iconst hC d_Xx_reading_39 k_i1 ?_
        refine gv_callVi hC [.int 1] cw_Xx_84 (Xx_found_c F 1 M10) lc_0 rfl rfl rfl rfl rfl rfl rfl d_Xx_reading_40 (fun r23 M24 => ?_)
        exact g_iret hC hR d_Xx_reading_43
theorem d_Xx_unread_0 : decode prog_1_method_13_code 0 = .ok (.aload_n 0, 1) := by decide +kernel
theorem d_Xx_unread_1 : decode prog_1_method_13_code 1 = .ok (.getfield 29, 3) := by decide +kernel
theorem d_Xx_unread_4 : decode prog_1_method_13_code 4 = .ok (.iload_n 1, 1) := by decide +kernel
theorem d_Xx_unread_5 : decode prog_1_method_13_code 5 = .ok (.invokevirtual 198, 3) := by decide +kernel
theorem d_Xx_unread_8 : decode prog_1_method_13_code 8 = .ok (.astore_n 2, 1) := by decide +kernel
theorem d_Xx_unread_9 : decode prog_1_method_13_code 9 = .ok (.aload_n 2, 1) := by decide +kernel
theorem d_Xx_unread_10 : decode prog_1_method_13_code 10 = .ok (.ifnonnull 6, 3) := by decide +kernel
theorem d_Xx_unread_13 : decode prog_1_method_13_code 13 = .ok (.ldc 83, 2) := by decide +kernel
theorem d_Xx_unread_15 : decode prog_1_method_13_code 15 = .ok (.ireturn, 1) := by decide +kernel
theorem d_Xx_unread_16 : decode prog_1_method_13_code 16 = .ok (.aload_n 2, 1) := by decide +kernel
theorem d_Xx_unread_17 : decode prog_1_method_13_code 17 = .ok (.getfield 170, 3) := by decide +kernel
theorem d_Xx_unread_20 : decode prog_1_method_13_code 20 = .ok (.ifCond .ne 5, 3) := by decide +kernel
theorem d_Xx_unread_23 : decode prog_1_method_13_code 23 = .ok (.iconst 0, 1) := by decide +kernel
theorem d_Xx_unread_24 : decode prog_1_method_13_code 24 = .ok (.ireturn, 1) := by decide +kernel
theorem d_Xx_unread_25 : decode prog_1_method_13_code 25 = .ok (.aload_n 2, 1) := by decide +kernel
theorem d_Xx_unread_26 : decode prog_1_method_13_code 26 = .ok (.iconst 0, 1) := by decide +kernel
theorem d_Xx_unread_27 : decode prog_1_method_13_code 27 = .ok (.putfield 170, 3) := by decide +kernel
theorem d_Xx_unread_30 : decode prog_1_method_13_code 30 = .ok (.aload_n 0, 1) := by decide +kernel
theorem d_Xx_unread_31 : decode prog_1_method_13_code 31 = .ok (.invokevirtual 209, 3) := by decide +kernel
theorem d_Xx_unread_34 : decode prog_1_method_13_code 34 = .ok (.iconst 1, 1) := by decide +kernel
theorem d_Xx_unread_35 : decode prog_1_method_13_code 35 = .ok (.ireturn, 1) := by decide +kernel
set_option maxHeartbeats 2000000 in
theorem Xx_unread_c {l : Launch} {θ : tv_Th} (F : Nat) (a1 : Int32) (M : tv_M) : tv_Ct l θ ⟨"TiedViews", "unread", "(I)I"⟩ prog_1_method_13_code 3 (some .int) 2 tv_ei [.ref (θ.1 + 0), .int a1] M (Xx_unread F a1 M) := by
  refine tv_ofG [some (.ref (θ.1 + 0)), some (.int a1), none] rfl rfl (tv_ent 1 rfl) ?_
  intro κ hl ht hC hR
  subst hl; subst ht
  unfold Xx_unread
  refine g_aload_n hC d_Xx_unread_0 rfl ?_
  refine fg_Xx_29 hC lc_0 d_Xx_unread_1 p0_0_2 ?_
  refine g_iload_n hC d_Xx_unread_4 rfl ?_
  refine gv_callVr hC [.int a1] cw_Xx_198 (To_linearAt_c F a1 M) lc_18 rfl rfl rfl rfl rfl rfl rfl d_Xx_unread_5 (fun r1 M2 => ?_)
  refine g_astore_nQ (ls' := [some (.ref (κ.b + 0)), some (.int a1), some (tv_re κ.b r1)]) hC d_Xx_unread_8 rfl rfl ?_
  refine g_aload_nQ hC d_Xx_unread_9 rfl ?_
  rcases r1 with _ | p3
  · refine g_nlN ?_
    refine g_ifnonnullN hC d_Xx_unread_10 ?_
    refine g_ldc hC d_Xx_unread_13 wk_Xx_83 ?_
    exact g_iret hC hR d_Xx_unread_15
  · refine g_nlS ?_
    refine g_ifnonnullR (tgt := 16) hC d_Xx_unread_10 (by decide) ?_
    refine g_gl (fun h4 => ?_)
    refine g_aload_n hC d_Xx_unread_16 rfl ?_
    refine fg_Xx_170 hC h4 d_Xx_unread_17 ?_
    refine g_if_ne (tgt := 25) hC d_Xx_unread_20 (by decide) (fun _ => ?_) (fun _ => ?_)
    · refine g_aload_n hC d_Xx_unread_25 rfl ?_
      refine g_iconst hC d_Xx_unread_26 k_i0 ?_
      refine fp_Xx_170 hC h4 tv_z0 d_Xx_unread_27 (fun M5 => ?_)
      refine g_aload_n hC d_Xx_unread_30 rfl ?_
      refine gv_callVv hC [] cw_Xx_209 (Xx_forgetReadings_c F M5) lc_0 rfl rfl rfl rfl rfl rfl rfl d_Xx_unread_31 (fun r6 M7 => ?_)
      refine g_iconst hC d_Xx_unread_34 k_i1 ?_
      exact g_iret hC hR d_Xx_unread_35
    · refine g_iconst hC d_Xx_unread_23 k_i0 ?_
      exact g_iret hC hR d_Xx_unread_24
theorem d_Ag_addReadings_0 : decode prog_2_method_12_code 0 = .ok (.iconst 0, 1) := by decide +kernel
theorem d_Ag_addReadings_1 : decode prog_2_method_12_code 1 = .ok (.istore_n 1, 1) := by decide +kernel
theorem d_Ag_addReadings_2 : decode prog_2_method_12_code 2 = .ok (.iload_n 1, 1) := by decide +kernel
theorem d_Ag_addReadings_3 : decode prog_2_method_12_code 3 = .ok (.aload_n 0, 1) := by decide +kernel
theorem d_Ag_addReadings_4 : decode prog_2_method_12_code 4 = .ok (.getfield 9, 3) := by decide +kernel
theorem d_Ag_addReadings_7 : decode prog_2_method_12_code 7 = .ok (.getfield 113, 3) := by decide +kernel
theorem d_Ag_addReadings_10 : decode prog_2_method_12_code 10 = .ok (.if_icmp .ge 83, 3) := by decide +kernel
theorem d_Ag_addReadings_13 : decode prog_2_method_12_code 13 = .ok (.aload_n 0, 1) := by decide +kernel
theorem d_Ag_addReadings_14 : decode prog_2_method_12_code 14 = .ok (.getfield 9, 3) := by decide +kernel
theorem d_Ag_addReadings_17 : decode prog_2_method_12_code 17 = .ok (.getfield 116, 3) := by decide +kernel
theorem d_Ag_addReadings_20 : decode prog_2_method_12_code 20 = .ok (.iload_n 1, 1) := by decide +kernel
theorem d_Ag_addReadings_21 : decode prog_2_method_12_code 21 = .ok (.aaload, 1) := by decide +kernel
theorem d_Ag_addReadings_22 : decode prog_2_method_12_code 22 = .ok (.astore_n 2, 1) := by decide +kernel
theorem d_Ag_addReadings_23 : decode prog_2_method_12_code 23 = .ok (.iconst 0, 1) := by decide +kernel
theorem d_Ag_addReadings_24 : decode prog_2_method_12_code 24 = .ok (.istore_n 3, 1) := by decide +kernel
theorem d_Ag_addReadings_25 : decode prog_2_method_12_code 25 = .ok (.aload_n 2, 1) := by decide +kernel
theorem d_Ag_addReadings_26 : decode prog_2_method_12_code 26 = .ok (.getfield 120, 3) := by decide +kernel
theorem d_Ag_addReadings_29 : decode prog_2_method_12_code 29 = .ok (.ifCond .eq 58, 3) := by decide +kernel
theorem d_Ag_addReadings_32 : decode prog_2_method_12_code 32 = .ok (.iload_n 3, 1) := by decide +kernel
theorem d_Ag_addReadings_33 : decode prog_2_method_12_code 33 = .ok (.aload_n 2, 1) := by decide +kernel
theorem d_Ag_addReadings_34 : decode prog_2_method_12_code 34 = .ok (.getfield 125, 3) := by decide +kernel
theorem d_Ag_addReadings_37 : decode prog_2_method_12_code 37 = .ok (.if_icmp .ge 50, 3) := by decide +kernel
theorem d_Ag_addReadings_40 : decode prog_2_method_12_code 40 = .ok (.aload_n 0, 1) := by decide +kernel
theorem d_Ag_addReadings_41 : decode prog_2_method_12_code 41 = .ok (.getfield 30, 3) := by decide +kernel
theorem d_Ag_addReadings_44 : decode prog_2_method_12_code 44 = .ok (.invokevirtual 89, 3) := by decide +kernel
theorem d_Ag_addReadings_47 : decode prog_2_method_12_code 47 = .ok (.astore 4, 2) := by decide +kernel
theorem d_Ag_addReadings_49 : decode prog_2_method_12_code 49 = .ok (.aload 4, 2) := by decide +kernel
theorem d_Ag_addReadings_51 : decode prog_2_method_12_code 51 = .ok (.ifnonnull 4, 3) := by decide +kernel
theorem d_Ag_addReadings_54 : decode prog_2_method_12_code 54 = .ok (.return_, 1) := by decide +kernel
theorem d_Ag_addReadings_55 : decode prog_2_method_12_code 55 = .ok (.aload 4, 2) := by decide +kernel
theorem d_Ag_addReadings_57 : decode prog_2_method_12_code 57 = .ok (.aload_n 2, 1) := by decide +kernel
theorem d_Ag_addReadings_58 : decode prog_2_method_12_code 58 = .ok (.getfield 128, 3) := by decide +kernel
theorem d_Ag_addReadings_61 : decode prog_2_method_12_code 61 = .ok (.iload_n 3, 1) := by decide +kernel
theorem d_Ag_addReadings_62 : decode prog_2_method_12_code 62 = .ok (.iadd, 1) := by decide +kernel
theorem d_Ag_addReadings_63 : decode prog_2_method_12_code 63 = .ok (.iconst 1, 1) := by decide +kernel
theorem d_Ag_addReadings_64 : decode prog_2_method_12_code 64 = .ok (.iastore, 1) := by decide +kernel
theorem d_Ag_addReadings_65 : decode prog_2_method_12_code 65 = .ok (.aload 4, 2) := by decide +kernel
theorem d_Ag_addReadings_67 : decode prog_2_method_12_code 67 = .ok (.aload_n 0, 1) := by decide +kernel
theorem d_Ag_addReadings_68 : decode prog_2_method_12_code 68 = .ok (.getfield 9, 3) := by decide +kernel
theorem d_Ag_addReadings_71 : decode prog_2_method_12_code 71 = .ok (.getfield 40, 3) := by decide +kernel
theorem d_Ag_addReadings_74 : decode prog_2_method_12_code 74 = .ok (.aload_n 2, 1) := by decide +kernel
theorem d_Ag_addReadings_75 : decode prog_2_method_12_code 75 = .ok (.getfield 131, 3) := by decide +kernel
theorem d_Ag_addReadings_78 : decode prog_2_method_12_code 78 = .ok (.iload_n 3, 1) := by decide +kernel
theorem d_Ag_addReadings_79 : decode prog_2_method_12_code 79 = .ok (.iaload, 1) := by decide +kernel
theorem d_Ag_addReadings_80 : decode prog_2_method_12_code 80 = .ok (.iastore, 1) := by decide +kernel
theorem d_Ag_addReadings_81 : decode prog_2_method_12_code 81 = .ok (.iinc 3 1, 3) := by decide +kernel
theorem d_Ag_addReadings_84 : decode prog_2_method_12_code 84 = .ok (.goto (-59), 3) := by decide +kernel
theorem d_Ag_addReadings_87 : decode prog_2_method_12_code 87 = .ok (.iinc 1 1, 3) := by decide +kernel
theorem d_Ag_addReadings_90 : decode prog_2_method_12_code 90 = .ok (.goto (-88), 3) := by decide +kernel
theorem d_Ag_addReadings_93 : decode prog_2_method_12_code 93 = .ok (.return_, 1) := by decide +kernel
set_option maxHeartbeats 2000000 in
theorem Ag_addReadings_L25_g {κ : tv_Kt} (hC : tv_Cx κ "TiedViews$Agreement" prog_2_method_12_code 5 2) (hR : tv_Re κ none) (F : Nat) {k2 : Int32 → tv_M → Option (Unit × tv_M)} (hk2 : ∀ (l1 : Int32) (M : tv_M), tv_G κ 5 (tv_Qm κ tv_ev) 2 [some (.ref (κ.b + 70)), some (.int l1), none, none, none] [] M (k2 l1 M)) : ∀ (n : Nat) (l1 : Int32) (l2 : Nat) (l3 : Int32) (M : tv_M), tv_G κ 5 (tv_Qm κ tv_ev) 25 [some (.ref (κ.b + 70)), some (.int l1), some (.ref (κ.b + l2)), some (.int l3), none] [] M (Ag_addReadings_L25 F k2 n l1 l2 l3 M) := by
  intro n
  induction n with
  | zero => intro _ _ _ _; exact g_none
  | succ nn ih =>
    intro l1 l2 l3 M
    rw [Ag_addReadings_L25]
    refine g_gl (fun h3 => ?_)
    refine g_aload_n hC d_Ag_addReadings_25 rfl ?_
    refine fg_Ag_120 hC h3 d_Ag_addReadings_26 ?_
    refine g_if_eq (tgt := 87) hC d_Ag_addReadings_29 (by decide) (fun _ => ?_) (fun _ => ?_)
    · refine g_iinc (ls' := [some (.ref (κ.b + 70)), some (.int (l1 + 1)), some (.ref (κ.b + l2)), some (.int l3), none]) hC d_Ag_addReadings_87 rfl k_i1 rfl rfl ?_
      refine g_goto (tgt := 2) hC d_Ag_addReadings_90 (by decide) ?_
      refine g_mask [true, true, false, false, false] (ls' := [some (.ref (κ.b + 70)), some (.int (l1 + 1)), none, none, none]) rfl ?_
      exact hk2 (l1 + 1) M
    · refine g_iload_n hC d_Ag_addReadings_32 rfl ?_
      refine g_aload_n hC d_Ag_addReadings_33 rfl ?_
      refine fg_Ag_125 hC h3 d_Ag_addReadings_34 ?_
      refine g_icmp_ge (tgt := 87) hC d_Ag_addReadings_37 (by decide) (fun _ => ?_) (fun _ => ?_)
      · refine g_iinc (ls' := [some (.ref (κ.b + 70)), some (.int (l1 + 1)), some (.ref (κ.b + l2)), some (.int l3), none]) hC d_Ag_addReadings_87 rfl k_i1 rfl rfl ?_
        refine g_goto (tgt := 2) hC d_Ag_addReadings_90 (by decide) ?_
        refine g_mask [true, true, false, false, false] (ls' := [some (.ref (κ.b + 70)), some (.int (l1 + 1)), none, none, none]) rfl ?_
        exact hk2 (l1 + 1) M
      · refine g_aload_n hC d_Ag_addReadings_40 rfl ?_
        refine fg_Ag_30 hC lc_70 d_Ag_addReadings_41 p0_70_2 ?_
        refine gv_callVr hC [] cw_Ag_89 (St_addLine_c F 106 M) lc_106 rfl rfl rfl rfl rfl rfl rfl d_Ag_addReadings_44 (fun r4 M5 => ?_)
        refine g_astoreQ (ls' := [some (.ref (κ.b + 70)), some (.int l1), some (.ref (κ.b + l2)), some (.int l3), some (tv_re κ.b r4)]) hC d_Ag_addReadings_47 rfl rfl ?_
        refine g_aloadQ hC d_Ag_addReadings_49 rfl ?_
        rcases r4 with _ | p6
        · refine g_nlN ?_
          refine g_ifnonnullN hC d_Ag_addReadings_51 ?_
          exact g_vret hC hR d_Ag_addReadings_54
        · refine g_nlS ?_
          refine g_ifnonnullR (tgt := 55) hC d_Ag_addReadings_51 (by decide) ?_
          refine g_gn (fun n8 h7 => ?_)
          refine g_aload hC d_Ag_addReadings_55 rfl ?_
          refine g_aload_n hC d_Ag_addReadings_57 rfl ?_
          refine fg_Ag_128 hC h3 d_Ag_addReadings_58 ?_
          refine g_iload_n hC d_Ag_addReadings_61 rfl ?_
          refine g_iadd hC d_Ag_addReadings_62 ?_
          refine g_iconst hC d_Ag_addReadings_63 k_i1 ?_
          refine gv_iast hC h7 d_Ag_addReadings_64 (fun M9 => ?_)
          refine g_aload hC d_Ag_addReadings_65 rfl ?_
          refine g_aload_n hC d_Ag_addReadings_67 rfl ?_
          refine fg_Ag_9 hC lc_70 d_Ag_addReadings_68 p0_70_0 ?_
          refine fg_Ag_40 hC lc_18 d_Ag_addReadings_71 ?_
          refine g_aload_n hC d_Ag_addReadings_74 rfl ?_
          refine g_nn (fun p10 e15 => ?_)
          refine fg_Ag_131 hC h3 d_Ag_addReadings_75 e15 ?_
          refine g_gn (fun n12 h11 => ?_)
          refine g_iload_n hC d_Ag_addReadings_78 rfl ?_
          refine gv_iald hC h11 d_Ag_addReadings_79 (fun x13 => ?_)
          refine gv_iast hC h7 d_Ag_addReadings_80 (fun M14 => ?_)
          refine g_iinc (ls' := [some (.ref (κ.b + 70)), some (.int l1), some (.ref (κ.b + l2)), some (.int (l3 + 1)), some (.ref (κ.b + p6))]) hC d_Ag_addReadings_81 rfl k_i1 rfl rfl ?_
          refine g_goto (tgt := 25) hC d_Ag_addReadings_84 (by decide) ?_
          refine g_mask [true, true, true, true, false] (ls' := [some (.ref (κ.b + 70)), some (.int l1), some (.ref (κ.b + l2)), some (.int (l3 + 1)), none]) rfl ?_
          exact ih l1 l2 (l3 + 1) M14
set_option maxHeartbeats 2000000 in
theorem Ag_addReadings_L2_g {κ : tv_Kt} (hC : tv_Cx κ "TiedViews$Agreement" prog_2_method_12_code 5 2) (hR : tv_Re κ none) (F : Nat) : ∀ (n : Nat) (l1 : Int32) (M : tv_M), tv_G κ 5 (tv_Qm κ tv_ev) 2 [some (.ref (κ.b + 70)), some (.int l1), none, none, none] [] M (Ag_addReadings_L2 F n l1 M) := by
  intro n
  induction n with
  | zero => intro _ _; exact g_none
  | succ nn ih =>
    intro l1 M
    rw [Ag_addReadings_L2]
    refine g_iload_n hC d_Ag_addReadings_2 rfl ?_
    refine g_aload_n hC d_Ag_addReadings_3 rfl ?_
    refine fg_Ag_9 hC lc_70 d_Ag_addReadings_4 p0_70_0 ?_
    refine fg_Ag_113 hC lc_18 d_Ag_addReadings_7 ?_
    refine g_icmp_ge (tgt := 93) hC d_Ag_addReadings_10 (by decide) (fun _ => ?_) (fun _ => ?_)
    · exact g_vret hC hR d_Ag_addReadings_93
    · refine g_aload_n hC d_Ag_addReadings_13 rfl ?_
      refine fg_Ag_9 hC lc_70 d_Ag_addReadings_14 p0_70_0 ?_
      refine fg_Ag_116 hC lc_18 d_Ag_addReadings_17 p0_18_1 ?_
      refine g_iload_n hC d_Ag_addReadings_20 rfl ?_
      refine gv_aald hC 1 ly_19 rfl d_Ag_addReadings_21 (fun p1 => ?_)
      refine g_gl (fun h2 => ?_)
      refine g_astore_n (ls' := [some (.ref (κ.b + 70)), some (.int l1), some (.ref (κ.b + p1)), none, none]) hC d_Ag_addReadings_22 rfl rfl ?_
      refine g_iconst hC d_Ag_addReadings_23 k_i0 ?_
      refine g_istore_n (ls' := [some (.ref (κ.b + 70)), some (.int l1), some (.ref (κ.b + p1)), some (.int 0), none]) hC d_Ag_addReadings_24 rfl rfl ?_
      exact Ag_addReadings_L25_g hC hR F ih F l1 p1 0 M
set_option maxHeartbeats 2000000 in
theorem Ag_addReadings_c {l : Launch} {θ : tv_Th} (F : Nat) (M : tv_M) : tv_Ct l θ ⟨"TiedViews$Agreement", "addReadings", "()V"⟩ prog_2_method_12_code 5 none 2 tv_ev [.ref (θ.1 + 70)] M (Ag_addReadings F M) := by
  refine tv_ofG [some (.ref (θ.1 + 70)), none, none, none, none] rfl rfl (tv_ent 4 rfl) ?_
  intro κ hl ht hC hR
  subst hl; subst ht
  unfold Ag_addReadings
  refine g_iconst hC d_Ag_addReadings_0 k_i0 ?_
  refine g_istore_n (ls' := [some (.ref (κ.b + 70)), some (.int 0), none, none, none]) hC d_Ag_addReadings_1 rfl rfl ?_
  exact Ag_addReadings_L2_g hC hR F F 0 M
theorem d_St_isLeader_0 : decode prog_10_method_9_code 0 = .ok (.iload_n 1, 1) := by decide +kernel
theorem d_St_isLeader_1 : decode prog_10_method_9_code 1 = .ok (.ifCond .lt 24, 3) := by decide +kernel
theorem d_St_isLeader_4 : decode prog_10_method_9_code 4 = .ok (.iload_n 1, 1) := by decide +kernel
theorem d_St_isLeader_5 : decode prog_10_method_9_code 5 = .ok (.aload_n 0, 1) := by decide +kernel
theorem d_St_isLeader_6 : decode prog_10_method_9_code 6 = .ok (.getfield 45, 3) := by decide +kernel
theorem d_St_isLeader_9 : decode prog_10_method_9_code 9 = .ok (.if_icmp .ge 16, 3) := by decide +kernel
theorem d_St_isLeader_12 : decode prog_10_method_9_code 12 = .ok (.aload_n 0, 1) := by decide +kernel
theorem d_St_isLeader_13 : decode prog_10_method_9_code 13 = .ok (.getfield 30, 3) := by decide +kernel
theorem d_St_isLeader_16 : decode prog_10_method_9_code 16 = .ok (.iload_n 1, 1) := by decide +kernel
theorem d_St_isLeader_17 : decode prog_10_method_9_code 17 = .ok (.iaload, 1) := by decide +kernel
theorem d_St_isLeader_18 : decode prog_10_method_9_code 18 = .ok (.ifCond .lt 7, 3) := by decide +kernel
theorem d_St_isLeader_21 : decode prog_10_method_9_code 21 = .ok (.iconst 1, 1) := by decide +kernel
theorem d_St_isLeader_22 : decode prog_10_method_9_code 22 = .ok (.goto 4, 3) := by decide +kernel
theorem d_St_isLeader_25 : decode prog_10_method_9_code 25 = .ok (.iconst 0, 1) := by decide +kernel
theorem d_St_isLeader_26 : decode prog_10_method_9_code 26 = .ok (.ireturn, 1) := by decide +kernel
set_option maxHeartbeats 2000000 in
theorem St_isLeader_c {l : Launch} {θ : tv_Th} (F : Nat) (t : Nat) (a1 : Int32) (M : tv_M) : tv_Ct l θ ⟨"TiedViews$Steps", "isLeader", "(I)Z"⟩ prog_10_method_9_code 2 (some .boolean) 0 tv_ei [.ref (θ.1 + t), .int a1] M (St_isLeader F t a1 M) := by
  refine tv_ofG [some (.ref (θ.1 + t)), some (.int a1)] rfl rfl (tv_ent 0 rfl) ?_
  intro κ hl ht hC hR
  subst hl; subst ht
  unfold St_isLeader
  refine g_gl (fun h1 => ?_)
  refine g_iload_n hC d_St_isLeader_0 rfl ?_
  refine g_if_lt (tgt := 25) hC d_St_isLeader_1 (by decide) (fun _ => ?_) (fun _ => ?_)
  · refine g_iconst hC d_St_isLeader_25 k_i0 ?_
    exact g_zret hC hR tv_z0 d_St_isLeader_26
  · refine g_iload_n hC d_St_isLeader_4 rfl ?_
    refine g_aload_n hC d_St_isLeader_5 rfl ?_
    refine fg_St_45 hC h1 d_St_isLeader_6 ?_
    refine g_icmp_ge (tgt := 25) hC d_St_isLeader_9 (by decide) (fun _ => ?_) (fun _ => ?_)
    · refine g_iconst hC d_St_isLeader_25 k_i0 ?_
      exact g_zret hC hR tv_z0 d_St_isLeader_26
    · refine g_aload_n hC d_St_isLeader_12 rfl ?_
      refine g_nn (fun p2 e6 => ?_)
      refine fg_St_30 hC h1 d_St_isLeader_13 e6 ?_
      refine g_gn (fun n4 h3 => ?_)
      refine g_iload_n hC d_St_isLeader_16 rfl ?_
      refine gv_iald hC h3 d_St_isLeader_17 (fun x5 => ?_)
      refine g_if_lt (tgt := 25) hC d_St_isLeader_18 (by decide) (fun _ => ?_) (fun _ => ?_)
      · refine g_iconst hC d_St_isLeader_25 k_i0 ?_
        exact g_zret hC hR tv_z0 d_St_isLeader_26
      · refine g_iconst hC d_St_isLeader_21 k_i1 ?_
        refine g_goto (tgt := 26) hC d_St_isLeader_22 (by decide) ?_
        exact g_zret hC hR tv_z1 d_St_isLeader_26
theorem d_St_extraAt_0 : decode prog_10_method_11_code 0 = .ok (.aload_n 0, 1) := by decide +kernel
theorem d_St_extraAt_1 : decode prog_10_method_11_code 1 = .ok (.iload_n 1, 1) := by decide +kernel
theorem d_St_extraAt_2 : decode prog_10_method_11_code 2 = .ok (.aload_n 0, 1) := by decide +kernel
theorem d_St_extraAt_3 : decode prog_10_method_11_code 3 = .ok (.getfield 39, 3) := by decide +kernel
theorem d_St_extraAt_6 : decode prog_10_method_11_code 6 = .ok (.iload_n 2, 1) := by decide +kernel
theorem d_St_extraAt_7 : decode prog_10_method_11_code 7 = .ok (.iadd, 1) := by decide +kernel
theorem d_St_extraAt_8 : decode prog_10_method_11_code 8 = .ok (.invokevirtual 81, 3) := by decide +kernel
theorem d_St_extraAt_11 : decode prog_10_method_11_code 11 = .ok (.ireturn, 1) := by decide +kernel
set_option maxHeartbeats 2000000 in
theorem St_extraAt_c {l : Launch} {θ : tv_Th} (F : Nat) (t : Nat) (a1 : Int32) (a2 : Int32) (M : tv_M) : tv_Ct l θ ⟨"TiedViews$Steps", "extraAt", "(II)I"⟩ prog_10_method_11_code 3 (some .int) 1 tv_ei [.ref (θ.1 + t), .int a1, .int a2] M (St_extraAt F t a1 a2 M) := by
  refine tv_ofG [some (.ref (θ.1 + t)), some (.int a1), some (.int a2)] rfl rfl (tv_ent 0 rfl) ?_
  intro κ hl ht hC hR
  subst hl; subst ht
  unfold St_extraAt
  refine g_gl (fun h1 => ?_)
  refine g_aload_n hC d_St_extraAt_0 rfl ?_
  refine g_iload_n hC d_St_extraAt_1 rfl ?_
  refine g_aload_n hC d_St_extraAt_2 rfl ?_
  refine fg_St_39 hC h1 d_St_extraAt_3 ?_
  refine g_iload_n hC d_St_extraAt_6 rfl ?_
  refine g_iadd hC d_St_extraAt_7 ?_
  refine gv_callVi hC [.int a1, .int ((M.1 t 7) + a2)] cw_St_81 (St_numberAt_c F t a1 ((M.1 t 7) + a2) M) h1 rfl rfl rfl rfl rfl rfl rfl d_St_extraAt_8 (fun r2 M3 => ?_)
  exact g_iret hC hR d_St_extraAt_11
theorem d_Ag_noLineWantsTheImpossible_0 : decode prog_2_method_13_code 0 = .ok (.iconst 0, 1) := by decide +kernel
theorem d_Ag_noLineWantsTheImpossible_1 : decode prog_2_method_13_code 1 = .ok (.istore_n 1, 1) := by decide +kernel
theorem d_Ag_noLineWantsTheImpossible_2 : decode prog_2_method_13_code 2 = .ok (.iload_n 1, 1) := by decide +kernel
theorem d_Ag_noLineWantsTheImpossible_3 : decode prog_2_method_13_code 3 = .ok (.aload_n 0, 1) := by decide +kernel
theorem d_Ag_noLineWantsTheImpossible_4 : decode prog_2_method_13_code 4 = .ok (.getfield 30, 3) := by decide +kernel
theorem d_Ag_noLineWantsTheImpossible_7 : decode prog_2_method_13_code 7 = .ok (.getfield 86, 3) := by decide +kernel
theorem d_Ag_noLineWantsTheImpossible_10 : decode prog_2_method_13_code 10 = .ok (.if_icmp .ge 34, 3) := by decide +kernel
theorem d_Ag_noLineWantsTheImpossible_13 : decode prog_2_method_13_code 13 = .ok (.aload_n 0, 1) := by decide +kernel
theorem d_Ag_noLineWantsTheImpossible_14 : decode prog_2_method_13_code 14 = .ok (.getfield 30, 3) := by decide +kernel
theorem d_Ag_noLineWantsTheImpossible_17 : decode prog_2_method_13_code 17 = .ok (.iload_n 1, 1) := by decide +kernel
theorem d_Ag_noLineWantsTheImpossible_18 : decode prog_2_method_13_code 18 = .ok (.invokevirtual 135, 3) := by decide +kernel
theorem d_Ag_noLineWantsTheImpossible_21 : decode prog_2_method_13_code 21 = .ok (.ifCond .ne 17, 3) := by decide +kernel
theorem d_Ag_noLineWantsTheImpossible_24 : decode prog_2_method_13_code 24 = .ok (.aload_n 0, 1) := by decide +kernel
theorem d_Ag_noLineWantsTheImpossible_25 : decode prog_2_method_13_code 25 = .ok (.getfield 30, 3) := by decide +kernel
theorem d_Ag_noLineWantsTheImpossible_28 : decode prog_2_method_13_code 28 = .ok (.iload_n 1, 1) := by decide +kernel
theorem d_Ag_noLineWantsTheImpossible_29 : decode prog_2_method_13_code 29 = .ok (.iconst 0, 1) := by decide +kernel
theorem d_Ag_noLineWantsTheImpossible_30 : decode prog_2_method_13_code 30 = .ok (.invokevirtual 103, 3) := by decide +kernel
theorem d_Ag_noLineWantsTheImpossible_33 : decode prog_2_method_13_code 33 = .ok (.ifCond .eq 5, 3) := by decide +kernel
theorem d_Ag_noLineWantsTheImpossible_36 : decode prog_2_method_13_code 36 = .ok (.iconst 0, 1) := by decide +kernel
theorem d_Ag_noLineWantsTheImpossible_37 : decode prog_2_method_13_code 37 = .ok (.ireturn, 1) := by decide +kernel
theorem d_Ag_noLineWantsTheImpossible_38 : decode prog_2_method_13_code 38 = .ok (.iinc 1 1, 3) := by decide +kernel
theorem d_Ag_noLineWantsTheImpossible_41 : decode prog_2_method_13_code 41 = .ok (.goto (-39), 3) := by decide +kernel
theorem d_Ag_noLineWantsTheImpossible_44 : decode prog_2_method_13_code 44 = .ok (.iconst 1, 1) := by decide +kernel
theorem d_Ag_noLineWantsTheImpossible_45 : decode prog_2_method_13_code 45 = .ok (.ireturn, 1) := by decide +kernel
set_option maxHeartbeats 2000000 in
theorem Ag_noLineWantsTheImpossible_L2_g {κ : tv_Kt} (hC : tv_Cx κ "TiedViews$Agreement" prog_2_method_13_code 2 2) (hR : tv_Re κ (some .boolean)) (F : Nat) : ∀ (n : Nat) (l1 : Int32) (M : tv_M), tv_G κ 2 (tv_Qm κ tv_ei) 2 [some (.ref (κ.b + 70)), some (.int l1)] [] M (Ag_noLineWantsTheImpossible_L2 F n l1 M) := by
  intro n
  induction n with
  | zero => intro _ _; exact g_none
  | succ nn ih =>
    intro l1 M
    rw [Ag_noLineWantsTheImpossible_L2]
    refine g_iload_n hC d_Ag_noLineWantsTheImpossible_2 rfl ?_
    refine g_aload_n hC d_Ag_noLineWantsTheImpossible_3 rfl ?_
    refine fg_Ag_30 hC lc_70 d_Ag_noLineWantsTheImpossible_4 p0_70_2 ?_
    refine fg_Ag_86 hC lc_106 d_Ag_noLineWantsTheImpossible_7 ?_
    refine g_icmp_ge (tgt := 44) hC d_Ag_noLineWantsTheImpossible_10 (by decide) (fun _ => ?_) (fun _ => ?_)
    · refine g_iconst hC d_Ag_noLineWantsTheImpossible_44 k_i1 ?_
      exact g_zret hC hR tv_z1 d_Ag_noLineWantsTheImpossible_45
    · refine g_aload_n hC d_Ag_noLineWantsTheImpossible_13 rfl ?_
      refine fg_Ag_30 hC lc_70 d_Ag_noLineWantsTheImpossible_14 p0_70_2 ?_
      refine g_iload_n hC d_Ag_noLineWantsTheImpossible_17 rfl ?_
      refine gv_callVi hC [.int l1] cw_Ag_135 (St_isLeader_c F 106 l1 M) lc_106 rfl rfl rfl rfl rfl rfl rfl d_Ag_noLineWantsTheImpossible_18 (fun r1 M2 => ?_)
      refine g_if_ne (tgt := 38) hC d_Ag_noLineWantsTheImpossible_21 (by decide) (fun _ => ?_) (fun _ => ?_)
      · refine g_iinc (ls' := [some (.ref (κ.b + 70)), some (.int (l1 + 1))]) hC d_Ag_noLineWantsTheImpossible_38 rfl k_i1 rfl rfl ?_
        refine g_goto (tgt := 2) hC d_Ag_noLineWantsTheImpossible_41 (by decide) ?_
        exact ih (l1 + 1) M2
      · refine g_aload_n hC d_Ag_noLineWantsTheImpossible_24 rfl ?_
        refine fg_Ag_30 hC lc_70 d_Ag_noLineWantsTheImpossible_25 p0_70_2 ?_
        refine g_iload_n hC d_Ag_noLineWantsTheImpossible_28 rfl ?_
        refine g_iconst hC d_Ag_noLineWantsTheImpossible_29 k_i0 ?_
        refine gv_callVi hC [.int l1, .int 0] cw_Ag_103 (St_extraAt_c F 106 l1 0 M2) lc_106 rfl rfl rfl rfl rfl rfl rfl d_Ag_noLineWantsTheImpossible_30 (fun r3 M4 => ?_)
        refine g_if_eq (tgt := 38) hC d_Ag_noLineWantsTheImpossible_33 (by decide) (fun _ => ?_) (fun _ => ?_)
        · refine g_iinc (ls' := [some (.ref (κ.b + 70)), some (.int (l1 + 1))]) hC d_Ag_noLineWantsTheImpossible_38 rfl k_i1 rfl rfl ?_
          refine g_goto (tgt := 2) hC d_Ag_noLineWantsTheImpossible_41 (by decide) ?_
          exact ih (l1 + 1) M4
        · refine g_iconst hC d_Ag_noLineWantsTheImpossible_36 k_i0 ?_
          exact g_zret hC hR tv_z0 d_Ag_noLineWantsTheImpossible_37
set_option maxHeartbeats 2000000 in
theorem Ag_noLineWantsTheImpossible_c {l : Launch} {θ : tv_Th} (F : Nat) (M : tv_M) : tv_Ct l θ ⟨"TiedViews$Agreement", "noLineWantsTheImpossible", "()Z"⟩ prog_2_method_13_code 2 (some .boolean) 2 tv_ei [.ref (θ.1 + 70)] M (Ag_noLineWantsTheImpossible F M) := by
  refine tv_ofG [some (.ref (θ.1 + 70)), none] rfl rfl (tv_ent 1 rfl) ?_
  intro κ hl ht hC hR
  subst hl; subst ht
  unfold Ag_noLineWantsTheImpossible
  refine g_iconst hC d_Ag_noLineWantsTheImpossible_0 k_i0 ?_
  refine g_istore_n (ls' := [some (.ref (κ.b + 70)), some (.int 0)]) hC d_Ag_noLineWantsTheImpossible_1 rfl rfl ?_
  exact Ag_noLineWantsTheImpossible_L2_g hC hR F F 0 M
theorem d_Ag_learnFill_0 : decode prog_2_method_11_code 0 = .ok (.aload_n 0, 1) := by decide +kernel
theorem d_Ag_learnFill_1 : decode prog_2_method_11_code 1 = .ok (.getfield 33, 3) := by decide +kernel
theorem d_Ag_learnFill_4 : decode prog_2_method_11_code 4 = .ok (.ifCond .eq 4, 3) := by decide +kernel
theorem d_Ag_learnFill_7 : decode prog_2_method_11_code 7 = .ok (.return_, 1) := by decide +kernel
theorem d_Ag_learnFill_8 : decode prog_2_method_11_code 8 = .ok (.aload_n 0, 1) := by decide +kernel
theorem d_Ag_learnFill_9 : decode prog_2_method_11_code 9 = .ok (.getfield 30, 3) := by decide +kernel
theorem d_Ag_learnFill_12 : decode prog_2_method_11_code 12 = .ok (.aload_n 0, 1) := by decide +kernel
theorem d_Ag_learnFill_13 : decode prog_2_method_11_code 13 = .ok (.getfield 9, 3) := by decide +kernel
theorem d_Ag_learnFill_16 : decode prog_2_method_11_code 16 = .ok (.getfield 40, 3) := by decide +kernel
theorem d_Ag_learnFill_19 : decode prog_2_method_11_code 19 = .ok (.iconst 1, 1) := by decide +kernel
theorem d_Ag_learnFill_20 : decode prog_2_method_11_code 20 = .ok (.invokevirtual 63, 3) := by decide +kernel
theorem d_Ag_learnFill_23 : decode prog_2_method_11_code 23 = .ok (.aload_n 0, 1) := by decide +kernel
theorem d_Ag_learnFill_24 : decode prog_2_method_11_code 24 = .ok (.aload_n 0, 1) := by decide +kernel
theorem d_Ag_learnFill_25 : decode prog_2_method_11_code 25 = .ok (.getfield 30, 3) := by decide +kernel
theorem d_Ag_learnFill_28 : decode prog_2_method_11_code 28 = .ok (.iconst (-1), 1) := by decide +kernel
theorem d_Ag_learnFill_29 : decode prog_2_method_11_code 29 = .ok (.iconst 0, 1) := by decide +kernel
theorem d_Ag_learnFill_30 : decode prog_2_method_11_code 30 = .ok (.invokevirtual 67, 3) := by decide +kernel
theorem d_Ag_learnFill_33 : decode prog_2_method_11_code 33 = .ok (.aload_n 0, 1) := by decide +kernel
theorem d_Ag_learnFill_34 : decode prog_2_method_11_code 34 = .ok (.invokevirtual 106, 3) := by decide +kernel
theorem d_Ag_learnFill_37 : decode prog_2_method_11_code 37 = .ok (.aload_n 0, 1) := by decide +kernel
theorem d_Ag_learnFill_38 : decode prog_2_method_11_code 38 = .ok (.getfield 30, 3) := by decide +kernel
theorem d_Ag_learnFill_41 : decode prog_2_method_11_code 41 = .ok (.invokevirtual 71, 3) := by decide +kernel
theorem d_Ag_learnFill_44 : decode prog_2_method_11_code 44 = .ok (.aload_n 0, 1) := by decide +kernel
theorem d_Ag_learnFill_45 : decode prog_2_method_11_code 45 = .ok (.aload_n 0, 1) := by decide +kernel
theorem d_Ag_learnFill_46 : decode prog_2_method_11_code 46 = .ok (.invokevirtual 109, 3) := by decide +kernel
theorem d_Ag_learnFill_49 : decode prog_2_method_11_code 49 = .ok (.putfield 100, 3) := by decide +kernel
theorem d_Ag_learnFill_52 : decode prog_2_method_11_code 52 = .ok (.aload_n 0, 1) := by decide +kernel
theorem d_Ag_learnFill_53 : decode prog_2_method_11_code 53 = .ok (.iconst 1, 1) := by decide +kernel
theorem d_Ag_learnFill_54 : decode prog_2_method_11_code 54 = .ok (.putfield 33, 3) := by decide +kernel
theorem d_Ag_learnFill_57 : decode prog_2_method_11_code 57 = .ok (.return_, 1) := by decide +kernel
set_option maxHeartbeats 2000000 in
theorem Ag_learnFill_c {l : Launch} {θ : tv_Th} (F : Nat) (M : tv_M) : tv_Ct l θ ⟨"TiedViews$Agreement", "learnFill", "()V"⟩ prog_2_method_11_code 1 none 4 tv_ev [.ref (θ.1 + 70)] M (Ag_learnFill F M) := by
  refine tv_ofG [some (.ref (θ.1 + 70))] rfl rfl (tv_ent 0 rfl) ?_
  intro κ hl ht hC hR
  subst hl; subst ht
  unfold Ag_learnFill
  refine g_aload_n hC d_Ag_learnFill_0 rfl ?_
  refine fg_Ag_33 hC lc_70 d_Ag_learnFill_1 ?_
  refine g_if_eq (tgt := 8) hC d_Ag_learnFill_4 (by decide) (fun _ => ?_) (fun _ => ?_)
  · refine g_aload_n hC d_Ag_learnFill_8 rfl ?_
    refine fg_Ag_30 hC lc_70 d_Ag_learnFill_9 p0_70_2 ?_
    refine g_aload_n hC d_Ag_learnFill_12 rfl ?_
    refine fg_Ag_9 hC lc_70 d_Ag_learnFill_13 p0_70_0 ?_
    refine fg_Ag_40 hC lc_18 d_Ag_learnFill_16 ?_
    refine g_iconst hC d_Ag_learnFill_19 k_i1 ?_
    refine gv_callVv hC [.int (M.1 18 7), .int 1] cw_Ag_63 (St_begin_c F 106 (M.1 18 7) 1 M) lc_106 rfl rfl rfl rfl rfl rfl rfl d_Ag_learnFill_20 (fun r1 M2 => ?_)
    refine g_aload_n hC d_Ag_learnFill_23 rfl ?_
    refine g_aload_n hC d_Ag_learnFill_24 rfl ?_
    refine fg_Ag_30 hC lc_70 d_Ag_learnFill_25 p0_70_2 ?_
    refine g_iconst hC d_Ag_learnFill_28 k_im1 ?_
    refine g_iconst hC d_Ag_learnFill_29 k_i0 ?_
    refine gv_callVv hC [.ref (κ.b + 106), .int (-1), .int 0] cw_Ag_67 (Ag_addLines_c F 106 (-1) 0 M2) lc_70 rfl rfl rfl rfl rfl rfl rfl d_Ag_learnFill_30 (fun r3 M4 => ?_)
    refine g_aload_n hC d_Ag_learnFill_33 rfl ?_
    refine gv_callVv hC [] cw_Ag_106 (Ag_addReadings_c F M4) lc_70 rfl rfl rfl rfl rfl rfl rfl d_Ag_learnFill_34 (fun r5 M6 => ?_)
    refine g_aload_n hC d_Ag_learnFill_37 rfl ?_
    refine fg_Ag_30 hC lc_70 d_Ag_learnFill_38 p0_70_2 ?_
    refine gv_callVv hC [] cw_Ag_71 (St_putInSteps_c F 106 M6) lc_106 rfl rfl rfl rfl rfl rfl rfl d_Ag_learnFill_41 (fun r7 M8 => ?_)
    refine g_aload_n hC d_Ag_learnFill_44 rfl ?_
    refine g_aload_n hC d_Ag_learnFill_45 rfl ?_
    refine gv_callVi hC [] cw_Ag_109 (Ag_noLineWantsTheImpossible_c F M8) lc_70 rfl rfl rfl rfl rfl rfl rfl d_Ag_learnFill_46 (fun r9 M10 => ?_)
    refine g_zo (fun z13 => ?_)
    refine fp_Ag_100 hC lc_70 z13 d_Ag_learnFill_49 (fun M11 => ?_)
    refine g_aload_n hC d_Ag_learnFill_52 rfl ?_
    refine g_iconst hC d_Ag_learnFill_53 k_i1 ?_
    refine fp_Ag_33 hC lc_70 tv_z1 d_Ag_learnFill_54 (fun M12 => ?_)
    exact g_vret hC hR d_Ag_learnFill_57
  · exact g_vret hC hR d_Ag_learnFill_7
theorem d_Ag_readingsFit_0 : decode prog_2_method_8_code 0 = .ok (.aload_n 0, 1) := by decide +kernel
theorem d_Ag_readingsFit_1 : decode prog_2_method_8_code 1 = .ok (.invokevirtual 97, 3) := by decide +kernel
theorem d_Ag_readingsFit_4 : decode prog_2_method_8_code 4 = .ok (.aload_n 0, 1) := by decide +kernel
theorem d_Ag_readingsFit_5 : decode prog_2_method_8_code 5 = .ok (.getfield 100, 3) := by decide +kernel
theorem d_Ag_readingsFit_8 : decode prog_2_method_8_code 8 = .ok (.ireturn, 1) := by decide +kernel
set_option maxHeartbeats 2000000 in
theorem Ag_readingsFit_c {l : Launch} {θ : tv_Th} (F : Nat) (M : tv_M) : tv_Ct l θ ⟨"TiedViews$Agreement", "readingsFit", "()Z"⟩ prog_2_method_8_code 1 (some .boolean) 5 tv_ei [.ref (θ.1 + 70)] M (Ag_readingsFit F M) := by
  refine tv_ofG [some (.ref (θ.1 + 70))] rfl rfl (tv_ent 0 rfl) ?_
  intro κ hl ht hC hR
  subst hl; subst ht
  unfold Ag_readingsFit
  refine g_aload_n hC d_Ag_readingsFit_0 rfl ?_
  refine gv_callVv hC [] cw_Ag_97 (Ag_learnFill_c F M) lc_70 rfl rfl rfl rfl rfl rfl rfl d_Ag_readingsFit_1 (fun r1 M2 => ?_)
  refine g_aload_n hC d_Ag_readingsFit_4 rfl ?_
  refine fg_Ag_100 hC lc_70 d_Ag_readingsFit_5 ?_
  refine g_zo (fun z3 => ?_)
  exact g_zret hC hR z3 d_Ag_readingsFit_8
theorem d_Ag_fillNumber_0 : decode prog_2_method_9_code 0 = .ok (.aload_n 0, 1) := by decide +kernel
theorem d_Ag_fillNumber_1 : decode prog_2_method_9_code 1 = .ok (.invokevirtual 97, 3) := by decide +kernel
theorem d_Ag_fillNumber_4 : decode prog_2_method_9_code 4 = .ok (.aload_n 0, 1) := by decide +kernel
theorem d_Ag_fillNumber_5 : decode prog_2_method_9_code 5 = .ok (.getfield 30, 3) := by decide +kernel
theorem d_Ag_fillNumber_8 : decode prog_2_method_9_code 8 = .ok (.aload_n 0, 1) := by decide +kernel
theorem d_Ag_fillNumber_9 : decode prog_2_method_9_code 9 = .ok (.getfield 30, 3) := by decide +kernel
theorem d_Ag_fillNumber_12 : decode prog_2_method_9_code 12 = .ok (.iload_n 1, 1) := by decide +kernel
theorem d_Ag_fillNumber_13 : decode prog_2_method_9_code 13 = .ok (.invokevirtual 51, 3) := by decide +kernel
theorem d_Ag_fillNumber_16 : decode prog_2_method_9_code 16 = .ok (.iconst 0, 1) := by decide +kernel
theorem d_Ag_fillNumber_17 : decode prog_2_method_9_code 17 = .ok (.invokevirtual 103, 3) := by decide +kernel
theorem d_Ag_fillNumber_20 : decode prog_2_method_9_code 20 = .ok (.ireturn, 1) := by decide +kernel
set_option maxHeartbeats 2000000 in
theorem Ag_fillNumber_c {l : Launch} {θ : tv_Th} (F : Nat) (a1 : Int32) (M : tv_M) : tv_Ct l θ ⟨"TiedViews$Agreement", "fillNumber", "(I)I"⟩ prog_2_method_9_code 2 (some .int) 5 tv_ei [.ref (θ.1 + 70), .int a1] M (Ag_fillNumber F a1 M) := by
  refine tv_ofG [some (.ref (θ.1 + 70)), some (.int a1)] rfl rfl (tv_ent 0 rfl) ?_
  intro κ hl ht hC hR
  subst hl; subst ht
  unfold Ag_fillNumber
  refine g_aload_n hC d_Ag_fillNumber_0 rfl ?_
  refine gv_callVv hC [] cw_Ag_97 (Ag_learnFill_c F M) lc_70 rfl rfl rfl rfl rfl rfl rfl d_Ag_fillNumber_1 (fun r1 M2 => ?_)
  refine g_aload_n hC d_Ag_fillNumber_4 rfl ?_
  refine fg_Ag_30 hC lc_70 d_Ag_fillNumber_5 p0_70_2 ?_
  refine g_aload_n hC d_Ag_fillNumber_8 rfl ?_
  refine fg_Ag_30 hC lc_70 d_Ag_fillNumber_9 p0_70_2 ?_
  refine g_iload_n hC d_Ag_fillNumber_12 rfl ?_
  refine gv_callVi hC [.int a1] cw_Ag_51 (St_leaderAt_c F 106 a1 M2) lc_106 rfl rfl rfl rfl rfl rfl rfl d_Ag_fillNumber_13 (fun r3 M4 => ?_)
  refine g_iconst hC d_Ag_fillNumber_16 k_i0 ?_
  refine gv_callVi hC [.int r3, .int 0] cw_Ag_103 (St_extraAt_c F 106 r3 0 M4) lc_106 rfl rfl rfl rfl rfl rfl rfl d_Ag_fillNumber_17 (fun r5 M6 => ?_)
  exact g_iret hC hR d_Ag_fillNumber_20
theorem d_Xx_fill_0 : decode prog_1_method_14_code 0 = .ok (.iload_n 1, 1) := by decide +kernel
theorem d_Xx_fill_1 : decode prog_1_method_14_code 1 = .ok (.iconst (-1), 1) := by decide +kernel
theorem d_Xx_fill_2 : decode prog_1_method_14_code 2 = .ok (.if_icmp .ne 19, 3) := by decide +kernel
theorem d_Xx_fill_5 : decode prog_1_method_14_code 5 = .ok (.aload_n 0, 1) := by decide +kernel
theorem d_Xx_fill_6 : decode prog_1_method_14_code 6 = .ok (.getfield 45, 3) := by decide +kernel
theorem d_Xx_fill_9 : decode prog_1_method_14_code 9 = .ok (.invokevirtual 212, 3) := by decide +kernel
theorem d_Xx_fill_12 : decode prog_1_method_14_code 12 = .ok (.ifCond .eq 7, 3) := by decide +kernel
theorem d_Xx_fill_15 : decode prog_1_method_14_code 15 = .ok (.iconst 1, 1) := by decide +kernel
theorem d_Xx_fill_16 : decode prog_1_method_14_code 16 = .ok (.goto 4, 3) := by decide +kernel
theorem d_Xx_fill_19 : decode prog_1_method_14_code 19 = .ok (.iconst 0, 1) := by decide +kernel
theorem d_Xx_fill_20 : decode prog_1_method_14_code 20 = .ok (.ireturn, 1) := by decide +kernel
theorem d_Xx_fill_21 : decode prog_1_method_14_code 21 = .ok (.aload_n 0, 1) := by decide +kernel
theorem d_Xx_fill_22 : decode prog_1_method_14_code 22 = .ok (.getfield 29, 3) := by decide +kernel
theorem d_Xx_fill_25 : decode prog_1_method_14_code 25 = .ok (.iload_n 1, 1) := by decide +kernel
theorem d_Xx_fill_26 : decode prog_1_method_14_code 26 = .ok (.invokevirtual 192, 3) := by decide +kernel
theorem d_Xx_fill_29 : decode prog_1_method_14_code 29 = .ok (.ifCond .ne 6, 3) := by decide +kernel
theorem d_Xx_fill_32 : decode prog_1_method_14_code 32 = .ok (.ldc 83, 2) := by decide +kernel
theorem d_Xx_fill_34 : decode prog_1_method_14_code 34 = .ok (.ireturn, 1) := by decide +kernel
theorem d_Xx_fill_35 : decode prog_1_method_14_code 35 = .ok (.aload_n 0, 1) := by decide +kernel
theorem d_Xx_fill_36 : decode prog_1_method_14_code 36 = .ok (.getfield 45, 3) := by decide +kernel
theorem d_Xx_fill_39 : decode prog_1_method_14_code 39 = .ok (.invokevirtual 212, 3) := by decide +kernel
theorem d_Xx_fill_42 : decode prog_1_method_14_code 42 = .ok (.ifCond .eq 14, 3) := by decide +kernel
theorem d_Xx_fill_45 : decode prog_1_method_14_code 45 = .ok (.aload_n 0, 1) := by decide +kernel
theorem d_Xx_fill_46 : decode prog_1_method_14_code 46 = .ok (.getfield 45, 3) := by decide +kernel
theorem d_Xx_fill_49 : decode prog_1_method_14_code 49 = .ok (.iload_n 1, 1) := by decide +kernel
theorem d_Xx_fill_50 : decode prog_1_method_14_code 50 = .ok (.invokevirtual 215, 3) := by decide +kernel
theorem d_Xx_fill_53 : decode prog_1_method_14_code 53 = .ok (.goto 5, 3) := by decide +kernel
theorem d_Xx_fill_56 : decode prog_1_method_14_code 56 = .ok (.ldc 166, 2) := by decide +kernel
theorem d_Xx_fill_58 : decode prog_1_method_14_code 58 = .ok (.ireturn, 1) := by decide +kernel
set_option maxHeartbeats 2000000 in
theorem Xx_fill_c {l : Launch} {θ : tv_Th} (F : Nat) (a1 : Int32) (M : tv_M) : tv_Ct l θ ⟨"TiedViews", "fill", "(I)I"⟩ prog_1_method_14_code 2 (some .int) 6 tv_ei [.ref (θ.1 + 0), .int a1] M (Xx_fill F a1 M) := by
  refine tv_ofG [some (.ref (θ.1 + 0)), some (.int a1)] rfl rfl (tv_ent 0 rfl) ?_
  intro κ hl ht hC hR
  subst hl; subst ht
  unfold Xx_fill
  refine g_iload_n hC d_Xx_fill_0 rfl ?_
  refine g_iconst hC d_Xx_fill_1 k_im1 ?_
  refine g_icmp_ne (tgt := 21) hC d_Xx_fill_2 (by decide) (fun _ => ?_) (fun _ => ?_)
  · refine g_aload_n hC d_Xx_fill_21 rfl ?_
    refine fg_Xx_29 hC lc_0 d_Xx_fill_22 p0_0_2 ?_
    refine g_iload_n hC d_Xx_fill_25 rfl ?_
    refine gv_callVi hC [.int a1] cw_Xx_192 (To_isColumn_c F a1 M) lc_18 rfl rfl rfl rfl rfl rfl rfl d_Xx_fill_26 (fun r1 M2 => ?_)
    refine g_if_ne (tgt := 35) hC d_Xx_fill_29 (by decide) (fun _ => ?_) (fun _ => ?_)
    · refine g_aload_n hC d_Xx_fill_35 rfl ?_
      refine fg_Xx_45 hC lc_0 d_Xx_fill_36 p0_0_4 ?_
      refine gv_callVi hC [] cw_Xx_212 (Ag_readingsFit_c F M2) lc_70 rfl rfl rfl rfl rfl rfl rfl d_Xx_fill_39 (fun r3 M4 => ?_)
      refine g_if_eq (tgt := 56) hC d_Xx_fill_42 (by decide) (fun _ => ?_) (fun _ => ?_)
      · refine g_ldc hC d_Xx_fill_56 wk_Xx_166 ?_
        exact g_iret hC hR d_Xx_fill_58
      · refine g_aload_n hC d_Xx_fill_45 rfl ?_
        refine fg_Xx_45 hC lc_0 d_Xx_fill_46 p0_0_4 ?_
        refine g_iload_n hC d_Xx_fill_49 rfl ?_
        refine gv_callVi hC [.int a1] cw_Xx_215 (Ag_fillNumber_c F a1 M4) lc_70 rfl rfl rfl rfl rfl rfl rfl d_Xx_fill_50 (fun r5 M6 => ?_)
        refine g_goto (tgt := 58) hC d_Xx_fill_53 (by decide) ?_
        exact g_iret hC hR d_Xx_fill_58
    · refine g_ldc hC d_Xx_fill_32 wk_Xx_83 ?_
      exact g_iret hC hR d_Xx_fill_34
  · refine g_aload_n hC d_Xx_fill_5 rfl ?_
    refine fg_Xx_45 hC lc_0 d_Xx_fill_6 p0_0_4 ?_
    refine gv_callVi hC [] cw_Xx_212 (Ag_readingsFit_c F M) lc_70 rfl rfl rfl rfl rfl rfl rfl d_Xx_fill_9 (fun r7 M8 => ?_)
    refine g_if_eq (tgt := 19) hC d_Xx_fill_12 (by decide) (fun _ => ?_) (fun _ => ?_)
    · refine g_iconst hC d_Xx_fill_19 k_i0 ?_
      exact g_iret hC hR d_Xx_fill_20
    · refine g_iconst hC d_Xx_fill_15 k_i1 ?_
      refine g_goto (tgt := 20) hC d_Xx_fill_16 (by decide) ?_
      exact g_iret hC hR d_Xx_fill_20
theorem d_Ag_isFixed_0 : decode prog_2_method_10_code 0 = .ok (.aload_n 0, 1) := by decide +kernel
theorem d_Ag_isFixed_1 : decode prog_2_method_10_code 1 = .ok (.invokevirtual 97, 3) := by decide +kernel
theorem d_Ag_isFixed_4 : decode prog_2_method_10_code 4 = .ok (.aload_n 0, 1) := by decide +kernel
theorem d_Ag_isFixed_5 : decode prog_2_method_10_code 5 = .ok (.getfield 30, 3) := by decide +kernel
theorem d_Ag_isFixed_8 : decode prog_2_method_10_code 8 = .ok (.iload_n 1, 1) := by decide +kernel
theorem d_Ag_isFixed_9 : decode prog_2_method_10_code 9 = .ok (.invokevirtual 51, 3) := by decide +kernel
theorem d_Ag_isFixed_12 : decode prog_2_method_10_code 12 = .ok (.istore_n 2, 1) := by decide +kernel
theorem d_Ag_isFixed_13 : decode prog_2_method_10_code 13 = .ok (.iload_n 2, 1) := by decide +kernel
theorem d_Ag_isFixed_14 : decode prog_2_method_10_code 14 = .ok (.ifCond .ge 5, 3) := by decide +kernel
theorem d_Ag_isFixed_17 : decode prog_2_method_10_code 17 = .ok (.iconst 0, 1) := by decide +kernel
theorem d_Ag_isFixed_18 : decode prog_2_method_10_code 18 = .ok (.ireturn, 1) := by decide +kernel
theorem d_Ag_isFixed_19 : decode prog_2_method_10_code 19 = .ok (.iconst 0, 1) := by decide +kernel
theorem d_Ag_isFixed_20 : decode prog_2_method_10_code 20 = .ok (.istore_n 3, 1) := by decide +kernel
theorem d_Ag_isFixed_21 : decode prog_2_method_10_code 21 = .ok (.iload_n 3, 1) := by decide +kernel
theorem d_Ag_isFixed_22 : decode prog_2_method_10_code 22 = .ok (.aload_n 0, 1) := by decide +kernel
theorem d_Ag_isFixed_23 : decode prog_2_method_10_code 23 = .ok (.getfield 9, 3) := by decide +kernel
theorem d_Ag_isFixed_26 : decode prog_2_method_10_code 26 = .ok (.getfield 40, 3) := by decide +kernel
theorem d_Ag_isFixed_29 : decode prog_2_method_10_code 29 = .ok (.if_icmp .ge 34, 3) := by decide +kernel
theorem d_Ag_isFixed_32 : decode prog_2_method_10_code 32 = .ok (.aload_n 0, 1) := by decide +kernel
theorem d_Ag_isFixed_33 : decode prog_2_method_10_code 33 = .ok (.getfield 30, 3) := by decide +kernel
theorem d_Ag_isFixed_36 : decode prog_2_method_10_code 36 = .ok (.iload_n 3, 1) := by decide +kernel
theorem d_Ag_isFixed_37 : decode prog_2_method_10_code 37 = .ok (.invokevirtual 51, 3) := by decide +kernel
theorem d_Ag_isFixed_40 : decode prog_2_method_10_code 40 = .ok (.ifCond .ge 17, 3) := by decide +kernel
theorem d_Ag_isFixed_43 : decode prog_2_method_10_code 43 = .ok (.aload_n 0, 1) := by decide +kernel
theorem d_Ag_isFixed_44 : decode prog_2_method_10_code 44 = .ok (.getfield 30, 3) := by decide +kernel
theorem d_Ag_isFixed_47 : decode prog_2_method_10_code 47 = .ok (.iload_n 2, 1) := by decide +kernel
theorem d_Ag_isFixed_48 : decode prog_2_method_10_code 48 = .ok (.iload_n 3, 1) := by decide +kernel
theorem d_Ag_isFixed_49 : decode prog_2_method_10_code 49 = .ok (.invokevirtual 54, 3) := by decide +kernel
theorem d_Ag_isFixed_52 : decode prog_2_method_10_code 52 = .ok (.ifCond .eq 5, 3) := by decide +kernel
theorem d_Ag_isFixed_55 : decode prog_2_method_10_code 55 = .ok (.iconst 0, 1) := by decide +kernel
theorem d_Ag_isFixed_56 : decode prog_2_method_10_code 56 = .ok (.ireturn, 1) := by decide +kernel
theorem d_Ag_isFixed_57 : decode prog_2_method_10_code 57 = .ok (.iinc 3 1, 3) := by decide +kernel
theorem d_Ag_isFixed_60 : decode prog_2_method_10_code 60 = .ok (.goto (-39), 3) := by decide +kernel
theorem d_Ag_isFixed_63 : decode prog_2_method_10_code 63 = .ok (.iconst 1, 1) := by decide +kernel
theorem d_Ag_isFixed_64 : decode prog_2_method_10_code 64 = .ok (.ireturn, 1) := by decide +kernel
set_option maxHeartbeats 2000000 in
theorem Ag_isFixed_L21_g {κ : tv_Kt} (hC : tv_Cx κ "TiedViews$Agreement" prog_2_method_10_code 4 5) (hR : tv_Re κ (some .boolean)) (F : Nat) : ∀ (n : Nat) (l2 : Int32) (l3 : Int32) (M : tv_M), tv_G κ 4 (tv_Qm κ tv_ei) 21 [some (.ref (κ.b + 70)), none, some (.int l2), some (.int l3)] [] M (Ag_isFixed_L21 F n l2 l3 M) := by
  intro n
  induction n with
  | zero => intro _ _ _; exact g_none
  | succ nn ih =>
    intro l2 l3 M
    rw [Ag_isFixed_L21]
    refine g_iload_n hC d_Ag_isFixed_21 rfl ?_
    refine g_aload_n hC d_Ag_isFixed_22 rfl ?_
    refine fg_Ag_9 hC lc_70 d_Ag_isFixed_23 p0_70_0 ?_
    refine fg_Ag_40 hC lc_18 d_Ag_isFixed_26 ?_
    refine g_icmp_ge (tgt := 63) hC d_Ag_isFixed_29 (by decide) (fun _ => ?_) (fun _ => ?_)
    · refine g_iconst hC d_Ag_isFixed_63 k_i1 ?_
      exact g_zret hC hR tv_z1 d_Ag_isFixed_64
    · refine g_aload_n hC d_Ag_isFixed_32 rfl ?_
      refine fg_Ag_30 hC lc_70 d_Ag_isFixed_33 p0_70_2 ?_
      refine g_iload_n hC d_Ag_isFixed_36 rfl ?_
      refine gv_callVi hC [.int l3] cw_Ag_51 (St_leaderAt_c F 106 l3 M) lc_106 rfl rfl rfl rfl rfl rfl rfl d_Ag_isFixed_37 (fun r5 M6 => ?_)
      refine g_if_ge (tgt := 57) hC d_Ag_isFixed_40 (by decide) (fun _ => ?_) (fun _ => ?_)
      · refine g_iinc (ls' := [some (.ref (κ.b + 70)), none, some (.int l2), some (.int (l3 + 1))]) hC d_Ag_isFixed_57 rfl k_i1 rfl rfl ?_
        refine g_goto (tgt := 21) hC d_Ag_isFixed_60 (by decide) ?_
        exact ih l2 (l3 + 1) M6
      · refine g_aload_n hC d_Ag_isFixed_43 rfl ?_
        refine fg_Ag_30 hC lc_70 d_Ag_isFixed_44 p0_70_2 ?_
        refine g_iload_n hC d_Ag_isFixed_47 rfl ?_
        refine g_iload_n hC d_Ag_isFixed_48 rfl ?_
        refine gv_callVi hC [.int l2, .int l3] cw_Ag_54 (St_numberAt_c F 106 l2 l3 M6) lc_106 rfl rfl rfl rfl rfl rfl rfl d_Ag_isFixed_49 (fun r7 M8 => ?_)
        refine g_if_eq (tgt := 57) hC d_Ag_isFixed_52 (by decide) (fun _ => ?_) (fun _ => ?_)
        · refine g_iinc (ls' := [some (.ref (κ.b + 70)), none, some (.int l2), some (.int (l3 + 1))]) hC d_Ag_isFixed_57 rfl k_i1 rfl rfl ?_
          refine g_goto (tgt := 21) hC d_Ag_isFixed_60 (by decide) ?_
          exact ih l2 (l3 + 1) M8
        · refine g_iconst hC d_Ag_isFixed_55 k_i0 ?_
          exact g_zret hC hR tv_z0 d_Ag_isFixed_56
set_option maxHeartbeats 2000000 in
theorem Ag_isFixed_c {l : Launch} {θ : tv_Th} (F : Nat) (a1 : Int32) (M : tv_M) : tv_Ct l θ ⟨"TiedViews$Agreement", "isFixed", "(I)Z"⟩ prog_2_method_10_code 4 (some .boolean) 5 tv_ei [.ref (θ.1 + 70), .int a1] M (Ag_isFixed F a1 M) := by
  refine tv_ofG [some (.ref (θ.1 + 70)), some (.int a1), none, none] rfl rfl (tv_ent 2 rfl) ?_
  intro κ hl ht hC hR
  subst hl; subst ht
  unfold Ag_isFixed
  refine g_aload_n hC d_Ag_isFixed_0 rfl ?_
  refine gv_callVv hC [] cw_Ag_97 (Ag_learnFill_c F M) lc_70 rfl rfl rfl rfl rfl rfl rfl d_Ag_isFixed_1 (fun r1 M2 => ?_)
  refine g_aload_n hC d_Ag_isFixed_4 rfl ?_
  refine fg_Ag_30 hC lc_70 d_Ag_isFixed_5 p0_70_2 ?_
  refine g_iload_n hC d_Ag_isFixed_8 rfl ?_
  refine gv_callVi hC [.int a1] cw_Ag_51 (St_leaderAt_c F 106 a1 M2) lc_106 rfl rfl rfl rfl rfl rfl rfl d_Ag_isFixed_9 (fun r3 M4 => ?_)
  refine g_istore_n (ls' := [some (.ref (κ.b + 70)), some (.int a1), some (.int r3), none]) hC d_Ag_isFixed_12 rfl rfl ?_
  refine g_iload_n hC d_Ag_isFixed_13 rfl ?_
  refine g_if_ge (tgt := 19) hC d_Ag_isFixed_14 (by decide) (fun _ => ?_) (fun _ => ?_)
  · refine g_iconst hC d_Ag_isFixed_19 k_i0 ?_
    refine g_istore_n (ls' := [some (.ref (κ.b + 70)), some (.int a1), some (.int r3), some (.int 0)]) hC d_Ag_isFixed_20 rfl rfl ?_
    refine g_mask [true, false, true, true] (ls' := [some (.ref (κ.b + 70)), none, some (.int r3), some (.int 0)]) rfl ?_
    exact Ag_isFixed_L21_g hC hR F F r3 0 M4
  · refine g_iconst hC d_Ag_isFixed_17 k_i0 ?_
    exact g_zret hC hR tv_z0 d_Ag_isFixed_18
theorem d_Xx_fixed_0 : decode prog_1_method_15_code 0 = .ok (.aload_n 0, 1) := by decide +kernel
theorem d_Xx_fixed_1 : decode prog_1_method_15_code 1 = .ok (.getfield 29, 3) := by decide +kernel
theorem d_Xx_fixed_4 : decode prog_1_method_15_code 4 = .ok (.iload_n 1, 1) := by decide +kernel
theorem d_Xx_fixed_5 : decode prog_1_method_15_code 5 = .ok (.invokevirtual 192, 3) := by decide +kernel
theorem d_Xx_fixed_8 : decode prog_1_method_15_code 8 = .ok (.ifCond .ne 6, 3) := by decide +kernel
theorem d_Xx_fixed_11 : decode prog_1_method_15_code 11 = .ok (.ldc 83, 2) := by decide +kernel
theorem d_Xx_fixed_13 : decode prog_1_method_15_code 13 = .ok (.ireturn, 1) := by decide +kernel
theorem d_Xx_fixed_14 : decode prog_1_method_15_code 14 = .ok (.aload_n 0, 1) := by decide +kernel
theorem d_Xx_fixed_15 : decode prog_1_method_15_code 15 = .ok (.getfield 45, 3) := by decide +kernel
theorem d_Xx_fixed_18 : decode prog_1_method_15_code 18 = .ok (.invokevirtual 212, 3) := by decide +kernel
theorem d_Xx_fixed_21 : decode prog_1_method_15_code 21 = .ok (.ifCond .eq 25, 3) := by decide +kernel
theorem d_Xx_fixed_24 : decode prog_1_method_15_code 24 = .ok (.aload_n 0, 1) := by decide +kernel
theorem d_Xx_fixed_25 : decode prog_1_method_15_code 25 = .ok (.getfield 45, 3) := by decide +kernel
theorem d_Xx_fixed_28 : decode prog_1_method_15_code 28 = .ok (.iload_n 1, 1) := by decide +kernel
theorem d_Xx_fixed_29 : decode prog_1_method_15_code 29 = .ok (.invokevirtual 218, 3) := by decide +kernel
theorem d_Xx_fixed_32 : decode prog_1_method_15_code 32 = .ok (.ifCond .eq 14, 3) := by decide +kernel
theorem d_Xx_fixed_35 : decode prog_1_method_15_code 35 = .ok (.aload_n 0, 1) := by decide +kernel
theorem d_Xx_fixed_36 : decode prog_1_method_15_code 36 = .ok (.getfield 45, 3) := by decide +kernel
theorem d_Xx_fixed_39 : decode prog_1_method_15_code 39 = .ok (.iload_n 1, 1) := by decide +kernel
theorem d_Xx_fixed_40 : decode prog_1_method_15_code 40 = .ok (.invokevirtual 215, 3) := by decide +kernel
theorem d_Xx_fixed_43 : decode prog_1_method_15_code 43 = .ok (.goto 5, 3) := by decide +kernel
theorem d_Xx_fixed_46 : decode prog_1_method_15_code 46 = .ok (.ldc 166, 2) := by decide +kernel
theorem d_Xx_fixed_48 : decode prog_1_method_15_code 48 = .ok (.ireturn, 1) := by decide +kernel
set_option maxHeartbeats 2000000 in
theorem Xx_fixed_c {l : Launch} {θ : tv_Th} (F : Nat) (a1 : Int32) (M : tv_M) : tv_Ct l θ ⟨"TiedViews", "fixed", "(I)I"⟩ prog_1_method_15_code 2 (some .int) 6 tv_ei [.ref (θ.1 + 0), .int a1] M (Xx_fixed F a1 M) := by
  refine tv_ofG [some (.ref (θ.1 + 0)), some (.int a1)] rfl rfl (tv_ent 0 rfl) ?_
  intro κ hl ht hC hR
  subst hl; subst ht
  unfold Xx_fixed
  refine g_aload_n hC d_Xx_fixed_0 rfl ?_
  refine fg_Xx_29 hC lc_0 d_Xx_fixed_1 p0_0_2 ?_
  refine g_iload_n hC d_Xx_fixed_4 rfl ?_
  refine gv_callVi hC [.int a1] cw_Xx_192 (To_isColumn_c F a1 M) lc_18 rfl rfl rfl rfl rfl rfl rfl d_Xx_fixed_5 (fun r1 M2 => ?_)
  refine g_if_ne (tgt := 14) hC d_Xx_fixed_8 (by decide) (fun _ => ?_) (fun _ => ?_)
  · refine g_aload_n hC d_Xx_fixed_14 rfl ?_
    refine fg_Xx_45 hC lc_0 d_Xx_fixed_15 p0_0_4 ?_
    refine gv_callVi hC [] cw_Xx_212 (Ag_readingsFit_c F M2) lc_70 rfl rfl rfl rfl rfl rfl rfl d_Xx_fixed_18 (fun r3 M4 => ?_)
    refine g_if_eq (tgt := 46) hC d_Xx_fixed_21 (by decide) (fun _ => ?_) (fun _ => ?_)
    · refine g_ldc hC d_Xx_fixed_46 wk_Xx_166 ?_
      exact g_iret hC hR d_Xx_fixed_48
    · refine g_aload_n hC d_Xx_fixed_24 rfl ?_
      refine fg_Xx_45 hC lc_0 d_Xx_fixed_25 p0_0_4 ?_
      refine g_iload_n hC d_Xx_fixed_28 rfl ?_
      refine gv_callVi hC [.int a1] cw_Xx_218 (Ag_isFixed_c F a1 M4) lc_70 rfl rfl rfl rfl rfl rfl rfl d_Xx_fixed_29 (fun r5 M6 => ?_)
      refine g_if_eq (tgt := 46) hC d_Xx_fixed_32 (by decide) (fun _ => ?_) (fun _ => ?_)
      · refine g_ldc hC d_Xx_fixed_46 wk_Xx_166 ?_
        exact g_iret hC hR d_Xx_fixed_48
      · refine g_aload_n hC d_Xx_fixed_35 rfl ?_
        refine fg_Xx_45 hC lc_0 d_Xx_fixed_36 p0_0_4 ?_
        refine g_iload_n hC d_Xx_fixed_39 rfl ?_
        refine gv_callVi hC [.int a1] cw_Xx_215 (Ag_fillNumber_c F a1 M6) lc_70 rfl rfl rfl rfl rfl rfl rfl d_Xx_fixed_40 (fun r7 M8 => ?_)
        refine g_goto (tgt := 48) hC d_Xx_fixed_43 (by decide) ?_
        exact g_iret hC hR d_Xx_fixed_48
  · refine g_ldc hC d_Xx_fixed_11 wk_Xx_83 ?_
    exact g_iret hC hR d_Xx_fixed_13
theorem d_Jv_bitCount_0 : decode prog_15_method_49_code 0 = .ok (.iload_n 0, 1) := by decide +kernel
theorem d_Jv_bitCount_1 : decode prog_15_method_49_code 1 = .ok (.iload_n 0, 1) := by decide +kernel
theorem d_Jv_bitCount_2 : decode prog_15_method_49_code 2 = .ok (.iconst 1, 1) := by decide +kernel
theorem d_Jv_bitCount_3 : decode prog_15_method_49_code 3 = .ok (.iushr, 1) := by decide +kernel
theorem d_Jv_bitCount_4 : decode prog_15_method_49_code 4 = .ok (.ldc_w 265, 3) := by decide +kernel
theorem d_Jv_bitCount_7 : decode prog_15_method_49_code 7 = .ok (.iand, 1) := by decide +kernel
theorem d_Jv_bitCount_8 : decode prog_15_method_49_code 8 = .ok (.isub, 1) := by decide +kernel
theorem d_Jv_bitCount_9 : decode prog_15_method_49_code 9 = .ok (.istore_n 0, 1) := by decide +kernel
theorem d_Jv_bitCount_10 : decode prog_15_method_49_code 10 = .ok (.iload_n 0, 1) := by decide +kernel
theorem d_Jv_bitCount_11 : decode prog_15_method_49_code 11 = .ok (.ldc_w 266, 3) := by decide +kernel
theorem d_Jv_bitCount_14 : decode prog_15_method_49_code 14 = .ok (.iand, 1) := by decide +kernel
theorem d_Jv_bitCount_15 : decode prog_15_method_49_code 15 = .ok (.iload_n 0, 1) := by decide +kernel
theorem d_Jv_bitCount_16 : decode prog_15_method_49_code 16 = .ok (.iconst 2, 1) := by decide +kernel
theorem d_Jv_bitCount_17 : decode prog_15_method_49_code 17 = .ok (.iushr, 1) := by decide +kernel
theorem d_Jv_bitCount_18 : decode prog_15_method_49_code 18 = .ok (.ldc_w 266, 3) := by decide +kernel
theorem d_Jv_bitCount_21 : decode prog_15_method_49_code 21 = .ok (.iand, 1) := by decide +kernel
theorem d_Jv_bitCount_22 : decode prog_15_method_49_code 22 = .ok (.iadd, 1) := by decide +kernel
theorem d_Jv_bitCount_23 : decode prog_15_method_49_code 23 = .ok (.istore_n 0, 1) := by decide +kernel
theorem d_Jv_bitCount_24 : decode prog_15_method_49_code 24 = .ok (.iload_n 0, 1) := by decide +kernel
theorem d_Jv_bitCount_25 : decode prog_15_method_49_code 25 = .ok (.iload_n 0, 1) := by decide +kernel
theorem d_Jv_bitCount_26 : decode prog_15_method_49_code 26 = .ok (.iconst 4, 1) := by decide +kernel
theorem d_Jv_bitCount_27 : decode prog_15_method_49_code 27 = .ok (.iushr, 1) := by decide +kernel
theorem d_Jv_bitCount_28 : decode prog_15_method_49_code 28 = .ok (.iadd, 1) := by decide +kernel
theorem d_Jv_bitCount_29 : decode prog_15_method_49_code 29 = .ok (.ldc_w 267, 3) := by decide +kernel
theorem d_Jv_bitCount_32 : decode prog_15_method_49_code 32 = .ok (.iand, 1) := by decide +kernel
theorem d_Jv_bitCount_33 : decode prog_15_method_49_code 33 = .ok (.istore_n 0, 1) := by decide +kernel
theorem d_Jv_bitCount_34 : decode prog_15_method_49_code 34 = .ok (.iload_n 0, 1) := by decide +kernel
theorem d_Jv_bitCount_35 : decode prog_15_method_49_code 35 = .ok (.iload_n 0, 1) := by decide +kernel
theorem d_Jv_bitCount_36 : decode prog_15_method_49_code 36 = .ok (.bipush 8, 2) := by decide +kernel
theorem d_Jv_bitCount_38 : decode prog_15_method_49_code 38 = .ok (.iushr, 1) := by decide +kernel
theorem d_Jv_bitCount_39 : decode prog_15_method_49_code 39 = .ok (.iadd, 1) := by decide +kernel
theorem d_Jv_bitCount_40 : decode prog_15_method_49_code 40 = .ok (.istore_n 0, 1) := by decide +kernel
theorem d_Jv_bitCount_41 : decode prog_15_method_49_code 41 = .ok (.iload_n 0, 1) := by decide +kernel
theorem d_Jv_bitCount_42 : decode prog_15_method_49_code 42 = .ok (.iload_n 0, 1) := by decide +kernel
theorem d_Jv_bitCount_43 : decode prog_15_method_49_code 43 = .ok (.bipush 16, 2) := by decide +kernel
theorem d_Jv_bitCount_45 : decode prog_15_method_49_code 45 = .ok (.iushr, 1) := by decide +kernel
theorem d_Jv_bitCount_46 : decode prog_15_method_49_code 46 = .ok (.iadd, 1) := by decide +kernel
theorem d_Jv_bitCount_47 : decode prog_15_method_49_code 47 = .ok (.istore_n 0, 1) := by decide +kernel
theorem d_Jv_bitCount_48 : decode prog_15_method_49_code 48 = .ok (.iload_n 0, 1) := by decide +kernel
theorem d_Jv_bitCount_49 : decode prog_15_method_49_code 49 = .ok (.bipush 63, 2) := by decide +kernel
theorem d_Jv_bitCount_51 : decode prog_15_method_49_code 51 = .ok (.iand, 1) := by decide +kernel
theorem d_Jv_bitCount_52 : decode prog_15_method_49_code 52 = .ok (.ireturn, 1) := by decide +kernel
set_option maxHeartbeats 2000000 in
theorem Jv_bitCount_c {l : Launch} {θ : tv_Th} (F : Nat) (a0 : Int32) (M : tv_M) : tv_Ct l θ ⟨"java/lang/Integer", "bitCount", "(I)I"⟩ prog_15_method_49_code 1 (some .int) 0 tv_ei [.int a0] M (Jv_bitCount F a0 M) := by
  refine tv_ofGF [some (.int a0)] (by decide +kernel) rfl (tv_ent 0 rfl) ?_
  intro κ hl ht hC hR
  subst hl; subst ht
  unfold Jv_bitCount
  refine g_iload_n hC d_Jv_bitCount_0 rfl ?_
  refine g_iload_n hC d_Jv_bitCount_1 rfl ?_
  refine g_iconst hC d_Jv_bitCount_2 k_i1 ?_
  refine g_iushr hC d_Jv_bitCount_3 ?_
  refine g_ldcw hC d_Jv_bitCount_4 wk_Jv_265 ?_
  refine g_iand hC d_Jv_bitCount_7 ?_
  refine g_isub hC d_Jv_bitCount_8 ?_
  refine g_let (fun x1 => ?_)
  refine g_istore_n (ls' := [some (.int x1)]) hC d_Jv_bitCount_9 rfl rfl ?_
  refine g_iload_n hC d_Jv_bitCount_10 rfl ?_
  refine g_ldcw hC d_Jv_bitCount_11 wk_Jv_266 ?_
  refine g_iand hC d_Jv_bitCount_14 ?_
  refine g_iload_n hC d_Jv_bitCount_15 rfl ?_
  refine g_iconst hC d_Jv_bitCount_16 k_i2 ?_
  refine g_iushr hC d_Jv_bitCount_17 ?_
  refine g_ldcw hC d_Jv_bitCount_18 wk_Jv_266 ?_
  refine g_iand hC d_Jv_bitCount_21 ?_
  refine g_iadd hC d_Jv_bitCount_22 ?_
  refine g_let (fun x2 => ?_)
  refine g_istore_n (ls' := [some (.int x2)]) hC d_Jv_bitCount_23 rfl rfl ?_
  refine g_iload_n hC d_Jv_bitCount_24 rfl ?_
  refine g_iload_n hC d_Jv_bitCount_25 rfl ?_
  refine g_iconst hC d_Jv_bitCount_26 k_i4 ?_
  refine g_iushr hC d_Jv_bitCount_27 ?_
  refine g_iadd hC d_Jv_bitCount_28 ?_
  refine g_ldcw hC d_Jv_bitCount_29 wk_Jv_267 ?_
  refine g_iand hC d_Jv_bitCount_32 ?_
  refine g_let (fun x3 => ?_)
  refine g_istore_n (ls' := [some (.int x3)]) hC d_Jv_bitCount_33 rfl rfl ?_
  refine g_iload_n hC d_Jv_bitCount_34 rfl ?_
  refine g_iload_n hC d_Jv_bitCount_35 rfl ?_
  refine g_bipush hC d_Jv_bitCount_36 k_b8 ?_
  refine g_iushr hC d_Jv_bitCount_38 ?_
  refine g_iadd hC d_Jv_bitCount_39 ?_
  refine g_let (fun x4 => ?_)
  refine g_istore_n (ls' := [some (.int x4)]) hC d_Jv_bitCount_40 rfl rfl ?_
  refine g_iload_n hC d_Jv_bitCount_41 rfl ?_
  refine g_iload_n hC d_Jv_bitCount_42 rfl ?_
  refine g_bipush hC d_Jv_bitCount_43 k_b16 ?_
  refine g_iushr hC d_Jv_bitCount_45 ?_
  refine g_iadd hC d_Jv_bitCount_46 ?_
  refine g_let (fun x5 => ?_)
  refine g_istore_n (ls' := [some (.int x5)]) hC d_Jv_bitCount_47 rfl rfl ?_
  refine g_iload_n hC d_Jv_bitCount_48 rfl ?_
  refine g_bipush hC d_Jv_bitCount_49 k_b63 ?_
  refine g_iand hC d_Jv_bitCount_51 ?_
  exact g_iret hC hR d_Jv_bitCount_52
theorem d_Dr_takeOffOthers_0 : decode prog_5_method_7_code 0 = .ok (.iconst 0, 1) := by decide +kernel
theorem d_Dr_takeOffOthers_1 : decode prog_5_method_7_code 1 = .ok (.istore_n 2, 1) := by decide +kernel
theorem d_Dr_takeOffOthers_2 : decode prog_5_method_7_code 2 = .ok (.iload_n 2, 1) := by decide +kernel
theorem d_Dr_takeOffOthers_3 : decode prog_5_method_7_code 3 = .ok (.aload_n 0, 1) := by decide +kernel
theorem d_Dr_takeOffOthers_4 : decode prog_5_method_7_code 4 = .ok (.getfield 48, 3) := by decide +kernel
theorem d_Dr_takeOffOthers_7 : decode prog_5_method_7_code 7 = .ok (.if_icmp .ge 54, 3) := by decide +kernel
theorem d_Dr_takeOffOthers_10 : decode prog_5_method_7_code 10 = .ok (.aload_n 1, 1) := by decide +kernel
theorem d_Dr_takeOffOthers_11 : decode prog_5_method_7_code 11 = .ok (.aload_n 0, 1) := by decide +kernel
theorem d_Dr_takeOffOthers_12 : decode prog_5_method_7_code 12 = .ok (.getfield 16, 3) := by decide +kernel
theorem d_Dr_takeOffOthers_15 : decode prog_5_method_7_code 15 = .ok (.iload_n 2, 1) := by decide +kernel
theorem d_Dr_takeOffOthers_16 : decode prog_5_method_7_code 16 = .ok (.iaload, 1) := by decide +kernel
theorem d_Dr_takeOffOthers_17 : decode prog_5_method_7_code 17 = .ok (.iaload, 1) := by decide +kernel
theorem d_Dr_takeOffOthers_18 : decode prog_5_method_7_code 18 = .ok (.istore_n 3, 1) := by decide +kernel
theorem d_Dr_takeOffOthers_19 : decode prog_5_method_7_code 19 = .ok (.iload_n 3, 1) := by decide +kernel
theorem d_Dr_takeOffOthers_20 : decode prog_5_method_7_code 20 = .ok (.ifCond .eq 35, 3) := by decide +kernel
theorem d_Dr_takeOffOthers_23 : decode prog_5_method_7_code 23 = .ok (.aload_n 1, 1) := by decide +kernel
theorem d_Dr_takeOffOthers_24 : decode prog_5_method_7_code 24 = .ok (.aload_n 0, 1) := by decide +kernel
theorem d_Dr_takeOffOthers_25 : decode prog_5_method_7_code 25 = .ok (.getfield 11, 3) := by decide +kernel
theorem d_Dr_takeOffOthers_28 : decode prog_5_method_7_code 28 = .ok (.iload_n 2, 1) := by decide +kernel
theorem d_Dr_takeOffOthers_29 : decode prog_5_method_7_code 29 = .ok (.aaload, 1) := by decide +kernel
theorem d_Dr_takeOffOthers_30 : decode prog_5_method_7_code 30 = .ok (.aload_n 0, 1) := by decide +kernel
theorem d_Dr_takeOffOthers_31 : decode prog_5_method_7_code 31 = .ok (.getfield 20, 3) := by decide +kernel
theorem d_Dr_takeOffOthers_34 : decode prog_5_method_7_code 34 = .ok (.getfield 109, 3) := by decide +kernel
theorem d_Dr_takeOffOthers_37 : decode prog_5_method_7_code 37 = .ok (.iload_n 3, 1) := by decide +kernel
theorem d_Dr_takeOffOthers_38 : decode prog_5_method_7_code 38 = .ok (.isub, 1) := by decide +kernel
theorem d_Dr_takeOffOthers_39 : decode prog_5_method_7_code 39 = .ok (.aload_n 0, 1) := by decide +kernel
theorem d_Dr_takeOffOthers_40 : decode prog_5_method_7_code 40 = .ok (.getfield 44, 3) := by decide +kernel
theorem d_Dr_takeOffOthers_43 : decode prog_5_method_7_code 43 = .ok (.iconst 1, 1) := by decide +kernel
theorem d_Dr_takeOffOthers_44 : decode prog_5_method_7_code 44 = .ok (.iadd, 1) := by decide +kernel
theorem d_Dr_takeOffOthers_45 : decode prog_5_method_7_code 45 = .ok (.aload_n 0, 1) := by decide +kernel
theorem d_Dr_takeOffOthers_46 : decode prog_5_method_7_code 46 = .ok (.getfield 20, 3) := by decide +kernel
theorem d_Dr_takeOffOthers_49 : decode prog_5_method_7_code 49 = .ok (.getfield 109, 3) := by decide +kernel
theorem d_Dr_takeOffOthers_52 : decode prog_5_method_7_code 52 = .ok (.invokestatic 118, 3) := by decide +kernel
theorem d_Dr_takeOffOthers_55 : decode prog_5_method_7_code 55 = .ok (.iinc 2 1, 3) := by decide +kernel
theorem d_Dr_takeOffOthers_58 : decode prog_5_method_7_code 58 = .ok (.goto (-56), 3) := by decide +kernel
theorem d_Dr_takeOffOthers_61 : decode prog_5_method_7_code 61 = .ok (.return_, 1) := by decide +kernel
set_option maxHeartbeats 2000000 in
theorem Dr_takeOffOthers_L2_g {κ : tv_Kt} (hC : tv_Cx κ "TiedViews$Dropping" prog_5_method_7_code 4 1) (hR : tv_Re κ none) (F : Nat) : ∀ (n : Nat) (l1 : Nat) (l2 : Int32) (M : tv_M), tv_G κ 4 (tv_Qm κ tv_ev) 2 [some (.ref (κ.b + 165)), some (.ref (κ.b + l1)), some (.int l2), none] [] M (Dr_takeOffOthers_L2 F n l1 l2 M) := by
  intro n
  induction n with
  | zero => intro _ _ _; exact g_none
  | succ nn ih =>
    intro l1 l2 M
    rw [Dr_takeOffOthers_L2]
    refine g_gn (fun n4 h3 => ?_)
    refine g_iload_n hC d_Dr_takeOffOthers_2 rfl ?_
    refine g_aload_n hC d_Dr_takeOffOthers_3 rfl ?_
    refine fg_Dr_48 hC lc_165 d_Dr_takeOffOthers_4 ?_
    refine g_icmp_ge (tgt := 61) hC d_Dr_takeOffOthers_7 (by decide) (fun _ => ?_) (fun _ => ?_)
    · exact g_vret hC hR d_Dr_takeOffOthers_61
    · refine g_aload_n hC d_Dr_takeOffOthers_10 rfl ?_
      refine g_aload_n hC d_Dr_takeOffOthers_11 rfl ?_
      refine fg_Dr_16 hC lc_165 d_Dr_takeOffOthers_12 p0_165_3 ?_
      refine g_iload_n hC d_Dr_takeOffOthers_15 rfl ?_
      refine gv_iald hC ly_192 d_Dr_takeOffOthers_16 (fun x5 => ?_)
      refine gv_iald hC h3 d_Dr_takeOffOthers_17 (fun x6 => ?_)
      refine g_istore_n (ls' := [some (.ref (κ.b + 165)), some (.ref (κ.b + l1)), some (.int l2), some (.int x6)]) hC d_Dr_takeOffOthers_18 rfl rfl ?_
      refine g_iload_n hC d_Dr_takeOffOthers_19 rfl ?_
      refine g_if_eq (tgt := 55) hC d_Dr_takeOffOthers_20 (by decide) (fun _ => ?_) (fun _ => ?_)
      · refine g_iinc (ls' := [some (.ref (κ.b + 165)), some (.ref (κ.b + l1)), some (.int (l2 + 1)), some (.int x6)]) hC d_Dr_takeOffOthers_55 rfl k_i1 rfl rfl ?_
        refine g_goto (tgt := 2) hC d_Dr_takeOffOthers_58 (by decide) ?_
        refine g_mask [true, true, true, false] (ls' := [some (.ref (κ.b + 165)), some (.ref (κ.b + l1)), some (.int (l2 + 1)), none]) rfl ?_
        exact ih l1 (l2 + 1) M
      · refine g_aload_n hC d_Dr_takeOffOthers_23 rfl ?_
        refine g_aload_n hC d_Dr_takeOffOthers_24 rfl ?_
        refine fg_Dr_11 hC lc_165 d_Dr_takeOffOthers_25 p0_165_2 ?_
        refine g_iload_n hC d_Dr_takeOffOthers_28 rfl ?_
        refine gv_aald hC 3 ly_166 rfl d_Dr_takeOffOthers_29 (fun p7 => ?_)
        refine g_gn (fun n9 h8 => ?_)
        refine g_aload_n hC d_Dr_takeOffOthers_30 rfl ?_
        refine fg_Dr_20 hC lc_165 d_Dr_takeOffOthers_31 p0_165_0 ?_
        refine fg_Dr_109 hC lc_18 d_Dr_takeOffOthers_34 ?_
        refine g_iload_n hC d_Dr_takeOffOthers_37 rfl ?_
        refine g_isub hC d_Dr_takeOffOthers_38 ?_
        refine g_aload_n hC d_Dr_takeOffOthers_39 rfl ?_
        refine fg_Dr_44 hC lc_165 d_Dr_takeOffOthers_40 ?_
        refine g_iconst hC d_Dr_takeOffOthers_43 k_i1 ?_
        refine g_iadd hC d_Dr_takeOffOthers_44 ?_
        refine g_aload_n hC d_Dr_takeOffOthers_45 rfl ?_
        refine fg_Dr_20 hC lc_165 d_Dr_takeOffOthers_46 p0_165_0 ?_
        refine fg_Dr_109 hC lc_18 d_Dr_takeOffOthers_49 ?_
        refine gv_callNv hC [.ref (κ.b + l1), .ref (κ.b + p7), .int ((M.1 18 0) - x6), .int ((M.1 165 5) + 1), .int (M.1 18 0)] cw_Dr_118 (Xx_addTimes_c F l1 p7 ((M.1 18 0) - x6) ((M.1 165 5) + 1) (M.1 18 0) M) rfl rfl rfl rfl rfl d_Dr_takeOffOthers_52 (fun r10 M11 => ?_)
        refine g_iinc (ls' := [some (.ref (κ.b + 165)), some (.ref (κ.b + l1)), some (.int (l2 + 1)), some (.int x6)]) hC d_Dr_takeOffOthers_55 rfl k_i1 rfl rfl ?_
        refine g_goto (tgt := 2) hC d_Dr_takeOffOthers_58 (by decide) ?_
        refine g_mask [true, true, true, false] (ls' := [some (.ref (κ.b + 165)), some (.ref (κ.b + l1)), some (.int (l2 + 1)), none]) rfl ?_
        exact ih l1 (l2 + 1) M11
set_option maxHeartbeats 2000000 in
theorem Dr_takeOffOthers_c {l : Launch} {θ : tv_Th} (F : Nat) (a1 : Nat) (M : tv_M) : tv_Ct l θ ⟨"TiedViews$Dropping", "takeOffOthers", "([I)V"⟩ prog_5_method_7_code 4 none 1 tv_ev [.ref (θ.1 + 165), .ref (θ.1 + a1)] M (Dr_takeOffOthers F a1 M) := by
  refine tv_ofG [some (.ref (θ.1 + 165)), some (.ref (θ.1 + a1)), none, none] rfl rfl (tv_ent 2 rfl) ?_
  intro κ hl ht hC hR
  subst hl; subst ht
  unfold Dr_takeOffOthers
  refine g_gn (fun n2 h1 => ?_)
  refine g_iconst hC d_Dr_takeOffOthers_0 k_i0 ?_
  refine g_istore_n (ls' := [some (.ref (κ.b + 165)), some (.ref (κ.b + a1)), some (.int 0), none]) hC d_Dr_takeOffOthers_1 rfl rfl ?_
  exact Dr_takeOffOthers_L2_g hC hR F F a1 0 M
theorem d_Dr_firstNotNought_0 : decode prog_5_method_8_code 0 = .ok (.iconst 0, 1) := by decide +kernel
theorem d_Dr_firstNotNought_1 : decode prog_5_method_8_code 1 = .ok (.istore_n 2, 1) := by decide +kernel
theorem d_Dr_firstNotNought_2 : decode prog_5_method_8_code 2 = .ok (.iload_n 2, 1) := by decide +kernel
theorem d_Dr_firstNotNought_3 : decode prog_5_method_8_code 3 = .ok (.aload_n 0, 1) := by decide +kernel
theorem d_Dr_firstNotNought_4 : decode prog_5_method_8_code 4 = .ok (.getfield 44, 3) := by decide +kernel
theorem d_Dr_firstNotNought_7 : decode prog_5_method_8_code 7 = .ok (.if_icmp .ge 17, 3) := by decide +kernel
theorem d_Dr_firstNotNought_10 : decode prog_5_method_8_code 10 = .ok (.aload_n 1, 1) := by decide +kernel
theorem d_Dr_firstNotNought_11 : decode prog_5_method_8_code 11 = .ok (.iload_n 2, 1) := by decide +kernel
theorem d_Dr_firstNotNought_12 : decode prog_5_method_8_code 12 = .ok (.iaload, 1) := by decide +kernel
theorem d_Dr_firstNotNought_13 : decode prog_5_method_8_code 13 = .ok (.ifCond .eq 5, 3) := by decide +kernel
theorem d_Dr_firstNotNought_16 : decode prog_5_method_8_code 16 = .ok (.iload_n 2, 1) := by decide +kernel
theorem d_Dr_firstNotNought_17 : decode prog_5_method_8_code 17 = .ok (.ireturn, 1) := by decide +kernel
theorem d_Dr_firstNotNought_18 : decode prog_5_method_8_code 18 = .ok (.iinc 2 1, 3) := by decide +kernel
theorem d_Dr_firstNotNought_21 : decode prog_5_method_8_code 21 = .ok (.goto (-19), 3) := by decide +kernel
theorem d_Dr_firstNotNought_24 : decode prog_5_method_8_code 24 = .ok (.iconst (-1), 1) := by decide +kernel
theorem d_Dr_firstNotNought_25 : decode prog_5_method_8_code 25 = .ok (.ireturn, 1) := by decide +kernel
set_option maxHeartbeats 2000000 in
theorem Dr_firstNotNought_L2_g {κ : tv_Kt} (hC : tv_Cx κ "TiedViews$Dropping" prog_5_method_8_code 3 0) (hR : tv_Re κ (some .int)) (F : Nat) : ∀ (n : Nat) (l1 : Nat) (l2 : Int32) (M : tv_M), tv_G κ 3 (tv_Qm κ tv_ei) 2 [some (.ref (κ.b + 165)), some (.ref (κ.b + l1)), some (.int l2)] [] M (Dr_firstNotNought_L2 F n l1 l2 M) := by
  intro n
  induction n with
  | zero => intro _ _ _; exact g_none
  | succ nn ih =>
    intro l1 l2 M
    rw [Dr_firstNotNought_L2]
    refine g_gn (fun n4 h3 => ?_)
    refine g_iload_n hC d_Dr_firstNotNought_2 rfl ?_
    refine g_aload_n hC d_Dr_firstNotNought_3 rfl ?_
    refine fg_Dr_44 hC lc_165 d_Dr_firstNotNought_4 ?_
    refine g_icmp_ge (tgt := 24) hC d_Dr_firstNotNought_7 (by decide) (fun _ => ?_) (fun _ => ?_)
    · refine g_iconst hC d_Dr_firstNotNought_24 k_im1 ?_
      exact g_iret hC hR d_Dr_firstNotNought_25
    · refine g_aload_n hC d_Dr_firstNotNought_10 rfl ?_
      refine g_iload_n hC d_Dr_firstNotNought_11 rfl ?_
      refine gv_iald hC h3 d_Dr_firstNotNought_12 (fun x5 => ?_)
      refine g_if_eq (tgt := 18) hC d_Dr_firstNotNought_13 (by decide) (fun _ => ?_) (fun _ => ?_)
      · refine g_iinc (ls' := [some (.ref (κ.b + 165)), some (.ref (κ.b + l1)), some (.int (l2 + 1))]) hC d_Dr_firstNotNought_18 rfl k_i1 rfl rfl ?_
        refine g_goto (tgt := 2) hC d_Dr_firstNotNought_21 (by decide) ?_
        exact ih l1 (l2 + 1) M
      · refine g_iload_n hC d_Dr_firstNotNought_16 rfl ?_
        exact g_iret hC hR d_Dr_firstNotNought_17
set_option maxHeartbeats 2000000 in
theorem Dr_firstNotNought_c {l : Launch} {θ : tv_Th} (F : Nat) (a1 : Nat) (M : tv_M) : tv_Ct l θ ⟨"TiedViews$Dropping", "firstNotNought", "([I)I"⟩ prog_5_method_8_code 3 (some .int) 0 tv_ei [.ref (θ.1 + 165), .ref (θ.1 + a1)] M (Dr_firstNotNought F a1 M) := by
  refine tv_ofG [some (.ref (θ.1 + 165)), some (.ref (θ.1 + a1)), none] rfl rfl (tv_ent 1 rfl) ?_
  intro κ hl ht hC hR
  subst hl; subst ht
  unfold Dr_firstNotNought
  refine g_gn (fun n2 h1 => ?_)
  refine g_iconst hC d_Dr_firstNotNought_0 k_i0 ?_
  refine g_istore_n (ls' := [some (.ref (κ.b + 165)), some (.ref (κ.b + a1)), some (.int 0)]) hC d_Dr_firstNotNought_1 rfl rfl ?_
  exact Dr_firstNotNought_L2_g hC hR F F a1 0 M
theorem d_Dr_addEquation_0 : decode prog_5_method_6_code 0 = .ok (.aload_n 0, 1) := by decide +kernel
theorem d_Dr_addEquation_1 : decode prog_5_method_6_code 1 = .ok (.getfield 48, 3) := by decide +kernel
theorem d_Dr_addEquation_4 : decode prog_5_method_6_code 4 = .ok (.bipush 24, 2) := by decide +kernel
theorem d_Dr_addEquation_6 : decode prog_5_method_6_code 6 = .ok (.if_icmp .le 5, 3) := by decide +kernel
theorem d_Dr_addEquation_9 : decode prog_5_method_6_code 9 = .ok (.iconst 0, 1) := by decide +kernel
theorem d_Dr_addEquation_10 : decode prog_5_method_6_code 10 = .ok (.ireturn, 1) := by decide +kernel
theorem d_Dr_addEquation_11 : decode prog_5_method_6_code 11 = .ok (.aload_n 0, 1) := by decide +kernel
theorem d_Dr_addEquation_12 : decode prog_5_method_6_code 12 = .ok (.getfield 11, 3) := by decide +kernel
theorem d_Dr_addEquation_15 : decode prog_5_method_6_code 15 = .ok (.aload_n 0, 1) := by decide +kernel
theorem d_Dr_addEquation_16 : decode prog_5_method_6_code 16 = .ok (.getfield 48, 3) := by decide +kernel
theorem d_Dr_addEquation_19 : decode prog_5_method_6_code 19 = .ok (.aaload, 1) := by decide +kernel
theorem d_Dr_addEquation_20 : decode prog_5_method_6_code 20 = .ok (.astore_n 3, 1) := by decide +kernel
theorem d_Dr_addEquation_21 : decode prog_5_method_6_code 21 = .ok (.iconst 0, 1) := by decide +kernel
theorem d_Dr_addEquation_22 : decode prog_5_method_6_code 22 = .ok (.istore 4, 2) := by decide +kernel
theorem d_Dr_addEquation_24 : decode prog_5_method_6_code 24 = .ok (.iload 4, 2) := by decide +kernel
theorem d_Dr_addEquation_26 : decode prog_5_method_6_code 26 = .ok (.aload_n 0, 1) := by decide +kernel
theorem d_Dr_addEquation_27 : decode prog_5_method_6_code 27 = .ok (.getfield 44, 3) := by decide +kernel
theorem d_Dr_addEquation_30 : decode prog_5_method_6_code 30 = .ok (.if_icmp .ge 23, 3) := by decide +kernel
theorem d_Dr_addEquation_33 : decode prog_5_method_6_code 33 = .ok (.aload_n 3, 1) := by decide +kernel
theorem d_Dr_addEquation_34 : decode prog_5_method_6_code 34 = .ok (.iload 4, 2) := by decide +kernel
theorem d_Dr_addEquation_36 : decode prog_5_method_6_code 36 = .ok (.aload_n 0, 1) := by decide +kernel
theorem d_Dr_addEquation_37 : decode prog_5_method_6_code 37 = .ok (.getfield 24, 3) := by decide +kernel
theorem d_Dr_addEquation_40 : decode prog_5_method_6_code 40 = .ok (.iload 4, 2) := by decide +kernel
theorem d_Dr_addEquation_42 : decode prog_5_method_6_code 42 = .ok (.iload_n 1, 1) := by decide +kernel
theorem d_Dr_addEquation_43 : decode prog_5_method_6_code 43 = .ok (.invokevirtual 98, 3) := by decide +kernel
theorem d_Dr_addEquation_46 : decode prog_5_method_6_code 46 = .ok (.iastore, 1) := by decide +kernel
theorem d_Dr_addEquation_47 : decode prog_5_method_6_code 47 = .ok (.iinc 4 1, 3) := by decide +kernel
theorem d_Dr_addEquation_50 : decode prog_5_method_6_code 50 = .ok (.goto (-26), 3) := by decide +kernel
theorem d_Dr_addEquation_53 : decode prog_5_method_6_code 53 = .ok (.aload_n 3, 1) := by decide +kernel
theorem d_Dr_addEquation_54 : decode prog_5_method_6_code 54 = .ok (.aload_n 0, 1) := by decide +kernel
theorem d_Dr_addEquation_55 : decode prog_5_method_6_code 55 = .ok (.getfield 44, 3) := by decide +kernel
theorem d_Dr_addEquation_58 : decode prog_5_method_6_code 58 = .ok (.iload_n 2, 1) := by decide +kernel
theorem d_Dr_addEquation_59 : decode prog_5_method_6_code 59 = .ok (.iastore, 1) := by decide +kernel
theorem d_Dr_addEquation_60 : decode prog_5_method_6_code 60 = .ok (.aload_n 0, 1) := by decide +kernel
theorem d_Dr_addEquation_61 : decode prog_5_method_6_code 61 = .ok (.aload_n 3, 1) := by decide +kernel
theorem d_Dr_addEquation_62 : decode prog_5_method_6_code 62 = .ok (.invokevirtual 101, 3) := by decide +kernel
theorem d_Dr_addEquation_65 : decode prog_5_method_6_code 65 = .ok (.aload_n 0, 1) := by decide +kernel
theorem d_Dr_addEquation_66 : decode prog_5_method_6_code 66 = .ok (.aload_n 3, 1) := by decide +kernel
theorem d_Dr_addEquation_67 : decode prog_5_method_6_code 67 = .ok (.invokevirtual 105, 3) := by decide +kernel
theorem d_Dr_addEquation_70 : decode prog_5_method_6_code 70 = .ok (.istore 4, 2) := by decide +kernel
theorem d_Dr_addEquation_72 : decode prog_5_method_6_code 72 = .ok (.iload 4, 2) := by decide +kernel
theorem d_Dr_addEquation_74 : decode prog_5_method_6_code 74 = .ok (.ifCond .ge 18, 3) := by decide +kernel
theorem d_Dr_addEquation_77 : decode prog_5_method_6_code 77 = .ok (.aload_n 3, 1) := by decide +kernel
theorem d_Dr_addEquation_78 : decode prog_5_method_6_code 78 = .ok (.aload_n 0, 1) := by decide +kernel
theorem d_Dr_addEquation_79 : decode prog_5_method_6_code 79 = .ok (.getfield 44, 3) := by decide +kernel
theorem d_Dr_addEquation_82 : decode prog_5_method_6_code 82 = .ok (.iaload, 1) := by decide +kernel
theorem d_Dr_addEquation_83 : decode prog_5_method_6_code 83 = .ok (.ifCond .ne 7, 3) := by decide +kernel
theorem d_Dr_addEquation_86 : decode prog_5_method_6_code 86 = .ok (.iconst 1, 1) := by decide +kernel
theorem d_Dr_addEquation_87 : decode prog_5_method_6_code 87 = .ok (.goto 4, 3) := by decide +kernel
theorem d_Dr_addEquation_90 : decode prog_5_method_6_code 90 = .ok (.iconst 0, 1) := by decide +kernel
theorem d_Dr_addEquation_91 : decode prog_5_method_6_code 91 = .ok (.ireturn, 1) := by decide +kernel
theorem d_Dr_addEquation_92 : decode prog_5_method_6_code 92 = .ok (.aload_n 3, 1) := by decide +kernel
theorem d_Dr_addEquation_93 : decode prog_5_method_6_code 93 = .ok (.iload 4, 2) := by decide +kernel
theorem d_Dr_addEquation_95 : decode prog_5_method_6_code 95 = .ok (.iaload, 1) := by decide +kernel
theorem d_Dr_addEquation_96 : decode prog_5_method_6_code 96 = .ok (.aload_n 0, 1) := by decide +kernel
theorem d_Dr_addEquation_97 : decode prog_5_method_6_code 97 = .ok (.getfield 20, 3) := by decide +kernel
theorem d_Dr_addEquation_100 : decode prog_5_method_6_code 100 = .ok (.getfield 109, 3) := by decide +kernel
theorem d_Dr_addEquation_103 : decode prog_5_method_6_code 103 = .ok (.invokestatic 112, 3) := by decide +kernel
theorem d_Dr_addEquation_106 : decode prog_5_method_6_code 106 = .ok (.istore 5, 2) := by decide +kernel
theorem d_Dr_addEquation_108 : decode prog_5_method_6_code 108 = .ok (.iconst 0, 1) := by decide +kernel
theorem d_Dr_addEquation_109 : decode prog_5_method_6_code 109 = .ok (.istore 6, 2) := by decide +kernel
theorem d_Dr_addEquation_111 : decode prog_5_method_6_code 111 = .ok (.iload 6, 2) := by decide +kernel
theorem d_Dr_addEquation_113 : decode prog_5_method_6_code 113 = .ok (.aload_n 0, 1) := by decide +kernel
theorem d_Dr_addEquation_114 : decode prog_5_method_6_code 114 = .ok (.getfield 44, 3) := by decide +kernel
theorem d_Dr_addEquation_117 : decode prog_5_method_6_code 117 = .ok (.if_icmp .gt 30, 3) := by decide +kernel
theorem d_Dr_addEquation_120 : decode prog_5_method_6_code 120 = .ok (.aload_n 3, 1) := by decide +kernel
theorem d_Dr_addEquation_121 : decode prog_5_method_6_code 121 = .ok (.iload 6, 2) := by decide +kernel
theorem d_Dr_addEquation_123 : decode prog_5_method_6_code 123 = .ok (.aload_n 3, 1) := by decide +kernel
theorem d_Dr_addEquation_124 : decode prog_5_method_6_code 124 = .ok (.iload 6, 2) := by decide +kernel
theorem d_Dr_addEquation_126 : decode prog_5_method_6_code 126 = .ok (.iaload, 1) := by decide +kernel
theorem d_Dr_addEquation_127 : decode prog_5_method_6_code 127 = .ok (.iload 5, 2) := by decide +kernel
theorem d_Dr_addEquation_129 : decode prog_5_method_6_code 129 = .ok (.imul, 1) := by decide +kernel
theorem d_Dr_addEquation_130 : decode prog_5_method_6_code 130 = .ok (.aload_n 0, 1) := by decide +kernel
theorem d_Dr_addEquation_131 : decode prog_5_method_6_code 131 = .ok (.getfield 20, 3) := by decide +kernel
theorem d_Dr_addEquation_134 : decode prog_5_method_6_code 134 = .ok (.getfield 109, 3) := by decide +kernel
theorem d_Dr_addEquation_137 : decode prog_5_method_6_code 137 = .ok (.invokestatic 115, 3) := by decide +kernel
theorem d_Dr_addEquation_140 : decode prog_5_method_6_code 140 = .ok (.iastore, 1) := by decide +kernel
theorem d_Dr_addEquation_141 : decode prog_5_method_6_code 141 = .ok (.iinc 6 1, 3) := by decide +kernel
theorem d_Dr_addEquation_144 : decode prog_5_method_6_code 144 = .ok (.goto (-33), 3) := by decide +kernel
theorem d_Dr_addEquation_147 : decode prog_5_method_6_code 147 = .ok (.aload_n 0, 1) := by decide +kernel
theorem d_Dr_addEquation_148 : decode prog_5_method_6_code 148 = .ok (.getfield 16, 3) := by decide +kernel
theorem d_Dr_addEquation_151 : decode prog_5_method_6_code 151 = .ok (.aload_n 0, 1) := by decide +kernel
theorem d_Dr_addEquation_152 : decode prog_5_method_6_code 152 = .ok (.getfield 48, 3) := by decide +kernel
theorem d_Dr_addEquation_155 : decode prog_5_method_6_code 155 = .ok (.iload 4, 2) := by decide +kernel
theorem d_Dr_addEquation_157 : decode prog_5_method_6_code 157 = .ok (.iastore, 1) := by decide +kernel
theorem d_Dr_addEquation_158 : decode prog_5_method_6_code 158 = .ok (.aload_n 0, 1) := by decide +kernel
theorem d_Dr_addEquation_159 : decode prog_5_method_6_code 159 = .ok (.dup, 1) := by decide +kernel
theorem d_Dr_addEquation_160 : decode prog_5_method_6_code 160 = .ok (.getfield 48, 3) := by decide +kernel
theorem d_Dr_addEquation_163 : decode prog_5_method_6_code 163 = .ok (.iconst 1, 1) := by decide +kernel
theorem d_Dr_addEquation_164 : decode prog_5_method_6_code 164 = .ok (.iadd, 1) := by decide +kernel
theorem d_Dr_addEquation_165 : decode prog_5_method_6_code 165 = .ok (.putfield 48, 3) := by decide +kernel
theorem d_Dr_addEquation_168 : decode prog_5_method_6_code 168 = .ok (.iconst 1, 1) := by decide +kernel
theorem d_Dr_addEquation_169 : decode prog_5_method_6_code 169 = .ok (.ireturn, 1) := by decide +kernel
set_option maxHeartbeats 2000000 in
theorem Dr_addEquation_L111_g {κ : tv_Kt} (hC : tv_Cx κ "TiedViews$Dropping" prog_5_method_6_code 7 2) (hR : tv_Re κ (some .boolean)) (F : Nat) : ∀ (n : Nat) (l3 : Nat) (l4 : Int32) (l5 : Int32) (l6 : Int32) (M : tv_M), tv_G κ 7 (tv_Qm κ tv_ei) 111 [some (.ref (κ.b + 165)), none, none, some (.ref (κ.b + l3)), some (.int l4), some (.int l5), some (.int l6)] [] M (Dr_addEquation_L111 F n l3 l4 l5 l6 M) := by
  intro n
  induction n with
  | zero => intro _ _ _ _ _; exact g_none
  | succ nn ih =>
    intro l3 l4 l5 l6 M
    rw [Dr_addEquation_L111]
    refine g_gn (fun n19 h18 => ?_)
    refine g_iload hC d_Dr_addEquation_111 rfl ?_
    refine g_aload_n hC d_Dr_addEquation_113 rfl ?_
    refine fg_Dr_44 hC lc_165 d_Dr_addEquation_114 ?_
    refine g_icmp_gt (tgt := 147) hC d_Dr_addEquation_117 (by decide) (fun _ => ?_) (fun _ => ?_)
    · refine g_aload_n hC d_Dr_addEquation_147 rfl ?_
      refine fg_Dr_16 hC lc_165 d_Dr_addEquation_148 p0_165_3 ?_
      refine g_aload_n hC d_Dr_addEquation_151 rfl ?_
      refine fg_Dr_48 hC lc_165 d_Dr_addEquation_152 ?_
      refine g_iload hC d_Dr_addEquation_155 rfl ?_
      refine gv_iast hC ly_192 d_Dr_addEquation_157 (fun M20 => ?_)
      refine g_aload_n hC d_Dr_addEquation_158 rfl ?_
      refine g_dup hC d_Dr_addEquation_159 rfl ?_
      refine fg_Dr_48 hC lc_165 d_Dr_addEquation_160 ?_
      refine g_iconst hC d_Dr_addEquation_163 k_i1 ?_
      refine g_iadd hC d_Dr_addEquation_164 ?_
      refine fp_Dr_48 hC lc_165 d_Dr_addEquation_165 (fun M21 => ?_)
      refine g_iconst hC d_Dr_addEquation_168 k_i1 ?_
      exact g_zret hC hR tv_z1 d_Dr_addEquation_169
    · refine g_aload_n hC d_Dr_addEquation_120 rfl ?_
      refine g_iload hC d_Dr_addEquation_121 rfl ?_
      refine g_aload_n hC d_Dr_addEquation_123 rfl ?_
      refine g_iload hC d_Dr_addEquation_124 rfl ?_
      refine gv_iald hC h18 d_Dr_addEquation_126 (fun x22 => ?_)
      refine g_iload hC d_Dr_addEquation_127 rfl ?_
      refine g_imul hC d_Dr_addEquation_129 ?_
      refine g_aload_n hC d_Dr_addEquation_130 rfl ?_
      refine fg_Dr_20 hC lc_165 d_Dr_addEquation_131 p0_165_0 ?_
      refine fg_Dr_109 hC lc_18 d_Dr_addEquation_134 ?_
      refine gv_callNi hC [.int (x22 * l5), .int (M.1 18 0)] cw_Dr_115 (Xx_restOf_c F (x22 * l5) (M.1 18 0) M) rfl rfl rfl rfl rfl d_Dr_addEquation_137 (fun r23 M24 => ?_)
      refine gv_iast hC h18 d_Dr_addEquation_140 (fun M25 => ?_)
      refine g_iinc (ls' := [some (.ref (κ.b + 165)), none, none, some (.ref (κ.b + l3)), some (.int l4), some (.int l5), some (.int (l6 + 1))]) hC d_Dr_addEquation_141 rfl k_i1 rfl rfl ?_
      refine g_goto (tgt := 111) hC d_Dr_addEquation_144 (by decide) ?_
      exact ih l3 l4 l5 (l6 + 1) M25
set_option maxHeartbeats 2000000 in
theorem Dr_addEquation_L24_g {κ : tv_Kt} (hC : tv_Cx κ "TiedViews$Dropping" prog_5_method_6_code 7 2) (hR : tv_Re κ (some .boolean)) (F : Nat) : ∀ (n : Nat) (l1 : Int32) (l2 : Int32) (l3 : Nat) (l4 : Int32) (M : tv_M), tv_G κ 7 (tv_Qm κ tv_ei) 24 [some (.ref (κ.b + 165)), some (.int l1), some (.int l2), some (.ref (κ.b + l3)), some (.int l4), none, none] [] M (Dr_addEquation_L24 F n l1 l2 l3 l4 M) := by
  intro n
  induction n with
  | zero => intro _ _ _ _ _; exact g_none
  | succ nn ih =>
    intro l1 l2 l3 l4 M
    rw [Dr_addEquation_L24]
    refine g_gn (fun n5 h4 => ?_)
    refine g_iload hC d_Dr_addEquation_24 rfl ?_
    refine g_aload_n hC d_Dr_addEquation_26 rfl ?_
    refine fg_Dr_44 hC lc_165 d_Dr_addEquation_27 ?_
    refine g_icmp_ge (tgt := 53) hC d_Dr_addEquation_30 (by decide) (fun _ => ?_) (fun _ => ?_)
    · refine g_aload_n hC d_Dr_addEquation_53 rfl ?_
      refine g_aload_n hC d_Dr_addEquation_54 rfl ?_
      refine fg_Dr_44 hC lc_165 d_Dr_addEquation_55 ?_
      refine g_iload_n hC d_Dr_addEquation_58 rfl ?_
      refine gv_iast hC h4 d_Dr_addEquation_59 (fun M6 => ?_)
      refine g_aload_n hC d_Dr_addEquation_60 rfl ?_
      refine g_aload_n hC d_Dr_addEquation_61 rfl ?_
      refine gv_callVv hC [.ref (κ.b + l3)] cw_Dr_101 (Dr_takeOffOthers_c F l3 M6) lc_165 rfl rfl rfl rfl rfl rfl rfl d_Dr_addEquation_62 (fun r7 M8 => ?_)
      refine g_aload_n hC d_Dr_addEquation_65 rfl ?_
      refine g_aload_n hC d_Dr_addEquation_66 rfl ?_
      refine gv_callVi hC [.ref (κ.b + l3)] cw_Dr_105 (Dr_firstNotNought_c F l3 M8) lc_165 rfl rfl rfl rfl rfl rfl rfl d_Dr_addEquation_67 (fun r9 M10 => ?_)
      refine g_istore (ls' := [some (.ref (κ.b + 165)), some (.int l1), some (.int l2), some (.ref (κ.b + l3)), some (.int r9), none, none]) hC d_Dr_addEquation_70 rfl rfl ?_
      refine g_iload hC d_Dr_addEquation_72 rfl ?_
      refine g_if_ge (tgt := 92) hC d_Dr_addEquation_74 (by decide) (fun _ => ?_) (fun _ => ?_)
      · refine g_aload_n hC d_Dr_addEquation_92 rfl ?_
        refine g_iload hC d_Dr_addEquation_93 rfl ?_
        refine gv_iald hC h4 d_Dr_addEquation_95 (fun x11 => ?_)
        refine g_aload_n hC d_Dr_addEquation_96 rfl ?_
        refine fg_Dr_20 hC lc_165 d_Dr_addEquation_97 p0_165_0 ?_
        refine fg_Dr_109 hC lc_18 d_Dr_addEquation_100 ?_
        refine gv_callNi hC [.int x11, .int (M10.1 18 0)] cw_Dr_112 (Xx_inverseOf_c F x11 (M10.1 18 0) M10) rfl rfl rfl rfl rfl d_Dr_addEquation_103 (fun r12 M13 => ?_)
        refine g_istore (ls' := [some (.ref (κ.b + 165)), some (.int l1), some (.int l2), some (.ref (κ.b + l3)), some (.int r9), some (.int r12), none]) hC d_Dr_addEquation_106 rfl rfl ?_
        refine g_iconst hC d_Dr_addEquation_108 k_i0 ?_
        refine g_istore (ls' := [some (.ref (κ.b + 165)), some (.int l1), some (.int l2), some (.ref (κ.b + l3)), some (.int r9), some (.int r12), some (.int 0)]) hC d_Dr_addEquation_109 rfl rfl ?_
        refine g_mask [true, false, false, true, true, true, true] (ls' := [some (.ref (κ.b + 165)), none, none, some (.ref (κ.b + l3)), some (.int r9), some (.int r12), some (.int 0)]) rfl ?_
        exact Dr_addEquation_L111_g hC hR F F l3 r9 r12 0 M13
      · refine g_aload_n hC d_Dr_addEquation_77 rfl ?_
        refine g_aload_n hC d_Dr_addEquation_78 rfl ?_
        refine fg_Dr_44 hC lc_165 d_Dr_addEquation_79 ?_
        refine gv_iald hC h4 d_Dr_addEquation_82 (fun x14 => ?_)
        refine g_if_ne (tgt := 90) hC d_Dr_addEquation_83 (by decide) (fun _ => ?_) (fun _ => ?_)
        · refine g_iconst hC d_Dr_addEquation_90 k_i0 ?_
          exact g_zret hC hR tv_z0 d_Dr_addEquation_91
        · refine g_iconst hC d_Dr_addEquation_86 k_i1 ?_
          refine g_goto (tgt := 91) hC d_Dr_addEquation_87 (by decide) ?_
          exact g_zret hC hR tv_z1 d_Dr_addEquation_91
    · refine g_aload_n hC d_Dr_addEquation_33 rfl ?_
      refine g_iload hC d_Dr_addEquation_34 rfl ?_
      refine g_aload_n hC d_Dr_addEquation_36 rfl ?_
      refine fg_Dr_24 hC lc_165 d_Dr_addEquation_37 p0_165_1 ?_
      refine g_iload hC d_Dr_addEquation_40 rfl ?_
      refine g_iload_n hC d_Dr_addEquation_42 rfl ?_
      refine gv_callVi hC [.int l4, .int l1] cw_Dr_98 (Ag_basisNumber_c F l4 l1 M) lc_70 rfl rfl rfl rfl rfl rfl rfl d_Dr_addEquation_43 (fun r15 M16 => ?_)
      refine gv_iast hC h4 d_Dr_addEquation_46 (fun M17 => ?_)
      refine g_iinc (ls' := [some (.ref (κ.b + 165)), some (.int l1), some (.int l2), some (.ref (κ.b + l3)), some (.int (l4 + 1)), none, none]) hC d_Dr_addEquation_47 rfl k_i1 rfl rfl ?_
      refine g_goto (tgt := 24) hC d_Dr_addEquation_50 (by decide) ?_
      exact ih l1 l2 l3 (l4 + 1) M17
set_option maxHeartbeats 2000000 in
theorem Dr_addEquation_c {l : Launch} {θ : tv_Th} (F : Nat) (a1 : Int32) (a2 : Int32) (M : tv_M) : tv_Ct l θ ⟨"TiedViews$Dropping", "addEquation", "(II)Z"⟩ prog_5_method_6_code 7 (some .boolean) 2 tv_ei [.ref (θ.1 + 165), .int a1, .int a2] M (Dr_addEquation F a1 a2 M) := by
  refine tv_ofG [some (.ref (θ.1 + 165)), some (.int a1), some (.int a2), none, none, none, none] rfl rfl (tv_ent 4 rfl) ?_
  intro κ hl ht hC hR
  subst hl; subst ht
  unfold Dr_addEquation
  refine g_aload_n hC d_Dr_addEquation_0 rfl ?_
  refine fg_Dr_48 hC lc_165 d_Dr_addEquation_1 ?_
  refine g_bipush hC d_Dr_addEquation_4 k_b24 ?_
  refine g_icmp_le (tgt := 11) hC d_Dr_addEquation_6 (by decide) (fun _ => ?_) (fun _ => ?_)
  · refine g_aload_n hC d_Dr_addEquation_11 rfl ?_
    refine fg_Dr_11 hC lc_165 d_Dr_addEquation_12 p0_165_2 ?_
    refine g_aload_n hC d_Dr_addEquation_15 rfl ?_
    refine fg_Dr_48 hC lc_165 d_Dr_addEquation_16 ?_
    refine gv_aald hC 3 ly_166 rfl d_Dr_addEquation_19 (fun p1 => ?_)
    refine g_gn (fun n3 h2 => ?_)
    refine g_astore_n (ls' := [some (.ref (κ.b + 165)), some (.int a1), some (.int a2), some (.ref (κ.b + p1)), none, none, none]) hC d_Dr_addEquation_20 rfl rfl ?_
    refine g_iconst hC d_Dr_addEquation_21 k_i0 ?_
    refine g_istore (ls' := [some (.ref (κ.b + 165)), some (.int a1), some (.int a2), some (.ref (κ.b + p1)), some (.int 0), none, none]) hC d_Dr_addEquation_22 rfl rfl ?_
    exact Dr_addEquation_L24_g hC hR F F a1 a2 p1 0 M
  · refine g_iconst hC d_Dr_addEquation_9 k_i0 ?_
    exact g_zret hC hR tv_z0 d_Dr_addEquation_10
theorem d_Dr_addReading_0 : decode prog_5_method_5_code 0 = .ok (.iconst 0, 1) := by decide +kernel
theorem d_Dr_addReading_1 : decode prog_5_method_5_code 1 = .ok (.istore_n 2, 1) := by decide +kernel
theorem d_Dr_addReading_2 : decode prog_5_method_5_code 2 = .ok (.iload_n 2, 1) := by decide +kernel
theorem d_Dr_addReading_3 : decode prog_5_method_5_code 3 = .ok (.aload_n 1, 1) := by decide +kernel
theorem d_Dr_addReading_4 : decode prog_5_method_5_code 4 = .ok (.getfield 85, 3) := by decide +kernel
theorem d_Dr_addReading_7 : decode prog_5_method_5_code 7 = .ok (.if_icmp .ge 30, 3) := by decide +kernel
theorem d_Dr_addReading_10 : decode prog_5_method_5_code 10 = .ok (.aload_n 0, 1) := by decide +kernel
theorem d_Dr_addReading_11 : decode prog_5_method_5_code 11 = .ok (.aload_n 1, 1) := by decide +kernel
theorem d_Dr_addReading_12 : decode prog_5_method_5_code 12 = .ok (.getfield 88, 3) := by decide +kernel
theorem d_Dr_addReading_15 : decode prog_5_method_5_code 15 = .ok (.iload_n 2, 1) := by decide +kernel
theorem d_Dr_addReading_16 : decode prog_5_method_5_code 16 = .ok (.iadd, 1) := by decide +kernel
theorem d_Dr_addReading_17 : decode prog_5_method_5_code 17 = .ok (.aload_n 1, 1) := by decide +kernel
theorem d_Dr_addReading_18 : decode prog_5_method_5_code 18 = .ok (.getfield 91, 3) := by decide +kernel
theorem d_Dr_addReading_21 : decode prog_5_method_5_code 21 = .ok (.iload_n 2, 1) := by decide +kernel
theorem d_Dr_addReading_22 : decode prog_5_method_5_code 22 = .ok (.iaload, 1) := by decide +kernel
theorem d_Dr_addReading_23 : decode prog_5_method_5_code 23 = .ok (.invokevirtual 94, 3) := by decide +kernel
theorem d_Dr_addReading_26 : decode prog_5_method_5_code 26 = .ok (.ifCond .ne 5, 3) := by decide +kernel
theorem d_Dr_addReading_29 : decode prog_5_method_5_code 29 = .ok (.iconst 0, 1) := by decide +kernel
theorem d_Dr_addReading_30 : decode prog_5_method_5_code 30 = .ok (.ireturn, 1) := by decide +kernel
theorem d_Dr_addReading_31 : decode prog_5_method_5_code 31 = .ok (.iinc 2 1, 3) := by decide +kernel
theorem d_Dr_addReading_34 : decode prog_5_method_5_code 34 = .ok (.goto (-32), 3) := by decide +kernel
theorem d_Dr_addReading_37 : decode prog_5_method_5_code 37 = .ok (.iconst 1, 1) := by decide +kernel
theorem d_Dr_addReading_38 : decode prog_5_method_5_code 38 = .ok (.ireturn, 1) := by decide +kernel
set_option maxHeartbeats 2000000 in
theorem Dr_addReading_L2_g {κ : tv_Kt} (hC : tv_Cx κ "TiedViews$Dropping" prog_5_method_5_code 3 3) (hR : tv_Re κ (some .boolean)) (F : Nat) : ∀ (n : Nat) (l1 : Nat) (l2 : Int32) (M : tv_M), tv_G κ 3 (tv_Qm κ tv_ei) 2 [some (.ref (κ.b + 165)), some (.ref (κ.b + l1)), some (.int l2)] [] M (Dr_addReading_L2 F n l1 l2 M) := by
  intro n
  induction n with
  | zero => intro _ _ _; exact g_none
  | succ nn ih =>
    intro l1 l2 M
    rw [Dr_addReading_L2]
    refine g_gl (fun h2 => ?_)
    refine g_iload_n hC d_Dr_addReading_2 rfl ?_
    refine g_aload_n hC d_Dr_addReading_3 rfl ?_
    refine fg_Dr_85 hC h2 d_Dr_addReading_4 ?_
    refine g_icmp_ge (tgt := 37) hC d_Dr_addReading_7 (by decide) (fun _ => ?_) (fun _ => ?_)
    · refine g_iconst hC d_Dr_addReading_37 k_i1 ?_
      exact g_zret hC hR tv_z1 d_Dr_addReading_38
    · refine g_aload_n hC d_Dr_addReading_10 rfl ?_
      refine g_aload_n hC d_Dr_addReading_11 rfl ?_
      refine fg_Dr_88 hC h2 d_Dr_addReading_12 ?_
      refine g_iload_n hC d_Dr_addReading_15 rfl ?_
      refine g_iadd hC d_Dr_addReading_16 ?_
      refine g_aload_n hC d_Dr_addReading_17 rfl ?_
      refine g_nn (fun p3 e9 => ?_)
      refine fg_Dr_91 hC h2 d_Dr_addReading_18 e9 ?_
      refine g_gn (fun n5 h4 => ?_)
      refine g_iload_n hC d_Dr_addReading_21 rfl ?_
      refine gv_iald hC h4 d_Dr_addReading_22 (fun x6 => ?_)
      refine gv_callVi hC [.int ((M.1 l1 3) + l2), .int x6] cw_Dr_94 (Dr_addEquation_c F ((M.1 l1 3) + l2) x6 M) lc_165 rfl rfl rfl rfl rfl rfl rfl d_Dr_addReading_23 (fun r7 M8 => ?_)
      refine g_if_ne (tgt := 31) hC d_Dr_addReading_26 (by decide) (fun _ => ?_) (fun _ => ?_)
      · refine g_iinc (ls' := [some (.ref (κ.b + 165)), some (.ref (κ.b + l1)), some (.int (l2 + 1))]) hC d_Dr_addReading_31 rfl k_i1 rfl rfl ?_
        refine g_goto (tgt := 2) hC d_Dr_addReading_34 (by decide) ?_
        exact ih l1 (l2 + 1) M8
      · refine g_iconst hC d_Dr_addReading_29 k_i0 ?_
        exact g_zret hC hR tv_z0 d_Dr_addReading_30
set_option maxHeartbeats 2000000 in
theorem Dr_addReading_c {l : Launch} {θ : tv_Th} (F : Nat) (a1 : Nat) (M : tv_M) : tv_Ct l θ ⟨"TiedViews$Dropping", "addReading", "(LTiedViews$Eye;)Z"⟩ prog_5_method_5_code 3 (some .boolean) 3 tv_ei [.ref (θ.1 + 165), .ref (θ.1 + a1)] M (Dr_addReading F a1 M) := by
  refine tv_ofG [some (.ref (θ.1 + 165)), some (.ref (θ.1 + a1)), none] rfl rfl (tv_ent 1 rfl) ?_
  intro κ hl ht hC hR
  subst hl; subst ht
  unfold Dr_addReading
  refine g_gl (fun h1 => ?_)
  refine g_iconst hC d_Dr_addReading_0 k_i0 ?_
  refine g_istore_n (ls' := [some (.ref (κ.b + 165)), some (.ref (κ.b + a1)), some (.int 0)]) hC d_Dr_addReading_1 rfl rfl ?_
  exact Dr_addReading_L2_g hC hR F F a1 0 M
theorem d_Dr_searchFrom_0 : decode prog_5_method_4_code 0 = .ok (.iload_n 2, 1) := by decide +kernel
theorem d_Dr_searchFrom_1 : decode prog_5_method_4_code 1 = .ok (.invokestatic 66, 3) := by decide +kernel
theorem d_Dr_searchFrom_4 : decode prog_5_method_4_code 4 = .ok (.istore_n 3, 1) := by decide +kernel
theorem d_Dr_searchFrom_5 : decode prog_5_method_4_code 5 = .ok (.iload_n 3, 1) := by decide +kernel
theorem d_Dr_searchFrom_6 : decode prog_5_method_4_code 6 = .ok (.aload_n 0, 1) := by decide +kernel
theorem d_Dr_searchFrom_7 : decode prog_5_method_4_code 7 = .ok (.getfield 54, 3) := by decide +kernel
theorem d_Dr_searchFrom_10 : decode prog_5_method_4_code 10 = .ok (.if_icmp .lt 4, 3) := by decide +kernel
theorem d_Dr_searchFrom_13 : decode prog_5_method_4_code 13 = .ok (.return_, 1) := by decide +kernel
theorem d_Dr_searchFrom_14 : decode prog_5_method_4_code 14 = .ok (.aload_n 0, 1) := by decide +kernel
theorem d_Dr_searchFrom_15 : decode prog_5_method_4_code 15 = .ok (.getfield 20, 3) := by decide +kernel
theorem d_Dr_searchFrom_18 : decode prog_5_method_4_code 18 = .ok (.iload_n 1, 1) := by decide +kernel
theorem d_Dr_searchFrom_19 : decode prog_5_method_4_code 19 = .ok (.invokevirtual 72, 3) := by decide +kernel
theorem d_Dr_searchFrom_22 : decode prog_5_method_4_code 22 = .ok (.astore 4, 2) := by decide +kernel
theorem d_Dr_searchFrom_24 : decode prog_5_method_4_code 24 = .ok (.aload 4, 2) := by decide +kernel
theorem d_Dr_searchFrom_26 : decode prog_5_method_4_code 26 = .ok (.ifnonnull 14, 3) := by decide +kernel
theorem d_Dr_searchFrom_29 : decode prog_5_method_4_code 29 = .ok (.aload_n 0, 1) := by decide +kernel
theorem d_Dr_searchFrom_30 : decode prog_5_method_4_code 30 = .ok (.iload_n 2, 1) := by decide +kernel
theorem d_Dr_searchFrom_31 : decode prog_5_method_4_code 31 = .ok (.putfield 51, 3) := by decide +kernel
theorem d_Dr_searchFrom_34 : decode prog_5_method_4_code 34 = .ok (.aload_n 0, 1) := by decide +kernel
theorem d_Dr_searchFrom_35 : decode prog_5_method_4_code 35 = .ok (.iload_n 3, 1) := by decide +kernel
theorem d_Dr_searchFrom_36 : decode prog_5_method_4_code 36 = .ok (.putfield 54, 3) := by decide +kernel
theorem d_Dr_searchFrom_39 : decode prog_5_method_4_code 39 = .ok (.return_, 1) := by decide +kernel
theorem d_Dr_searchFrom_40 : decode prog_5_method_4_code 40 = .ok (.aload_n 0, 1) := by decide +kernel
theorem d_Dr_searchFrom_41 : decode prog_5_method_4_code 41 = .ok (.getfield 48, 3) := by decide +kernel
theorem d_Dr_searchFrom_44 : decode prog_5_method_4_code 44 = .ok (.istore 5, 2) := by decide +kernel
theorem d_Dr_searchFrom_46 : decode prog_5_method_4_code 46 = .ok (.aload 4, 2) := by decide +kernel
theorem d_Dr_searchFrom_48 : decode prog_5_method_4_code 48 = .ok (.getfield 76, 3) := by decide +kernel
theorem d_Dr_searchFrom_51 : decode prog_5_method_4_code 51 = .ok (.ifCond .eq 12, 3) := by decide +kernel
theorem d_Dr_searchFrom_54 : decode prog_5_method_4_code 54 = .ok (.aload_n 0, 1) := by decide +kernel
theorem d_Dr_searchFrom_55 : decode prog_5_method_4_code 55 = .ok (.aload 4, 2) := by decide +kernel
theorem d_Dr_searchFrom_57 : decode prog_5_method_4_code 57 = .ok (.invokevirtual 81, 3) := by decide +kernel
theorem d_Dr_searchFrom_60 : decode prog_5_method_4_code 60 = .ok (.ifCond .eq 11, 3) := by decide +kernel
theorem d_Dr_searchFrom_63 : decode prog_5_method_4_code 63 = .ok (.aload_n 0, 1) := by decide +kernel
theorem d_Dr_searchFrom_64 : decode prog_5_method_4_code 64 = .ok (.iload_n 1, 1) := by decide +kernel
theorem d_Dr_searchFrom_65 : decode prog_5_method_4_code 65 = .ok (.iconst 1, 1) := by decide +kernel
theorem d_Dr_searchFrom_66 : decode prog_5_method_4_code 66 = .ok (.isub, 1) := by decide +kernel
theorem d_Dr_searchFrom_67 : decode prog_5_method_4_code 67 = .ok (.iload_n 2, 1) := by decide +kernel
theorem d_Dr_searchFrom_68 : decode prog_5_method_4_code 68 = .ok (.invokevirtual 62, 3) := by decide +kernel
theorem d_Dr_searchFrom_71 : decode prog_5_method_4_code 71 = .ok (.aload_n 0, 1) := by decide +kernel
theorem d_Dr_searchFrom_72 : decode prog_5_method_4_code 72 = .ok (.iload 5, 2) := by decide +kernel
theorem d_Dr_searchFrom_74 : decode prog_5_method_4_code 74 = .ok (.putfield 48, 3) := by decide +kernel
theorem d_Dr_searchFrom_77 : decode prog_5_method_4_code 77 = .ok (.aload 4, 2) := by decide +kernel
theorem d_Dr_searchFrom_79 : decode prog_5_method_4_code 79 = .ok (.getfield 76, 3) := by decide +kernel
theorem d_Dr_searchFrom_82 : decode prog_5_method_4_code 82 = .ok (.ifCond .eq 15, 3) := by decide +kernel
theorem d_Dr_searchFrom_85 : decode prog_5_method_4_code 85 = .ok (.aload_n 0, 1) := by decide +kernel
theorem d_Dr_searchFrom_86 : decode prog_5_method_4_code 86 = .ok (.iload_n 1, 1) := by decide +kernel
theorem d_Dr_searchFrom_87 : decode prog_5_method_4_code 87 = .ok (.iconst 1, 1) := by decide +kernel
theorem d_Dr_searchFrom_88 : decode prog_5_method_4_code 88 = .ok (.isub, 1) := by decide +kernel
theorem d_Dr_searchFrom_89 : decode prog_5_method_4_code 89 = .ok (.iload_n 2, 1) := by decide +kernel
theorem d_Dr_searchFrom_90 : decode prog_5_method_4_code 90 = .ok (.iconst 1, 1) := by decide +kernel
theorem d_Dr_searchFrom_91 : decode prog_5_method_4_code 91 = .ok (.iload_n 1, 1) := by decide +kernel
theorem d_Dr_searchFrom_92 : decode prog_5_method_4_code 92 = .ok (.ishl, 1) := by decide +kernel
theorem d_Dr_searchFrom_93 : decode prog_5_method_4_code 93 = .ok (.ior, 1) := by decide +kernel
theorem d_Dr_searchFrom_94 : decode prog_5_method_4_code 94 = .ok (.invokevirtual 62, 3) := by decide +kernel
theorem d_Dr_searchFrom_97 : decode prog_5_method_4_code 97 = .ok (.return_, 1) := by decide +kernel
set_option maxHeartbeats 2000000 in
theorem Dr_searchFrom_L71_g {κ : tv_Kt} {d ds : Nat} (hC : tv_Cx κ "TiedViews$Dropping" prog_5_method_4_code 6 d) (hR : tv_Re κ none) (hdd : Nat.ble 4 d = true) (hds : Nat.ble 4 ds = true) (hdp : Nat.ble (ds + 1) d = true) {self : Int32 → Int32 → tv_M → Option (Unit × tv_M)} (ihs : ∀ (a1 : Int32) (a2 : Int32) (M : tv_M), tv_Ct κ.l κ.th ⟨"TiedViews$Dropping", "searchFrom", "(II)V"⟩ prog_5_method_4_code 6 none ds tv_ev [.ref (κ.th.1 + 165), .int a1, .int a2] M (self a1 a2 M)) (F : Nat) (l1 : Int32) (l2 : Int32) (l4 : Nat) (l5 : Int32) (M : tv_M) : tv_G κ 6 (tv_Qm κ tv_ev) 71 [some (.ref (κ.b + 165)), some (.int l1), some (.int l2), none, some (.ref (κ.b + l4)), some (.int l5)] [] M (Dr_searchFrom_L71 F self l1 l2 l4 l5 M) := by
  rw [Dr_searchFrom_L71]
  refine g_gl (fun h15 => ?_)
  refine g_aload_n hC d_Dr_searchFrom_71 rfl ?_
  refine g_iload hC d_Dr_searchFrom_72 rfl ?_
  refine fp_Dr_48 hC lc_165 d_Dr_searchFrom_74 (fun M16 => ?_)
  refine g_aload hC d_Dr_searchFrom_77 rfl ?_
  refine fg_Dr_76 hC h15 d_Dr_searchFrom_79 ?_
  refine g_if_eq (tgt := 97) hC d_Dr_searchFrom_82 (by decide) (fun _ => ?_) (fun _ => ?_)
  · exact g_vret hC hR d_Dr_searchFrom_97
  · refine g_aload_n hC d_Dr_searchFrom_85 rfl ?_
    refine g_iload_n hC d_Dr_searchFrom_86 rfl ?_
    refine g_iconst hC d_Dr_searchFrom_87 k_i1 ?_
    refine g_isub hC d_Dr_searchFrom_88 ?_
    refine g_iload_n hC d_Dr_searchFrom_89 rfl ?_
    refine g_iconst hC d_Dr_searchFrom_90 k_i1 ?_
    refine g_iload_n hC d_Dr_searchFrom_91 rfl ?_
    refine g_ishl hC d_Dr_searchFrom_92 ?_
    refine g_ior hC d_Dr_searchFrom_93 ?_
    refine gv_callVv hC [.int (l1 - 1), .int (l2 ||| (1 <<< (l1 &&& 31)))] cw_Dr_62 (ihs (l1 - 1) (l2 ||| (1 <<< (l1 &&& 31))) M16) lc_165 rfl rfl rfl rfl rfl hdp rfl d_Dr_searchFrom_94 (fun r17 M18 => ?_)
    exact g_vret hC hR d_Dr_searchFrom_97
set_option maxHeartbeats 2000000 in
theorem Dr_searchFrom_c {l : Launch} {θ : tv_Th} (F : Nat) : ∀ (n : Nat) (a1 : Int32) (a2 : Int32) (M : tv_M), tv_Ct l θ ⟨"TiedViews$Dropping", "searchFrom", "(II)V"⟩ prog_5_method_4_code 6 none (4 + 1 * n) tv_ev [.ref (θ.1 + 165), .int a1, .int a2] M (Dr_searchFrom F n a1 a2 M) := by
  intro n
  induction n with
  | zero => intro a1 a2 M; exact tv_ctn (by rw [Dr_searchFrom])
  | succ nn ihs =>
    intro a1 a2 M
    refine tv_ofG [some (.ref (θ.1 + 165)), some (.int a1), some (.int a2), none, none, none] rfl rfl (tv_ent 3 rfl) ?_
    intro κ hl ht hC hR
    subst hl; subst ht
    have hdd : Nat.ble 4 (4 + 1 * (nn + 1)) = true := tv_dge _ _ _
    have hds : Nat.ble 4 (4 + 1 * nn) = true := tv_dge _ _ _
    have hdp : Nat.ble (4 + 1 * nn + 1) (4 + 1 * (nn + 1)) = true := tv_dpm _ _ _
    rw [Dr_searchFrom]
    refine g_iload_n hC d_Dr_searchFrom_0 rfl ?_
    refine gv_callSi hC [.int a2] cw_Dr_66 (Jv_bitCount_c F a2 M) rfl rfl rfl (tv_dtr hdd rfl) rfl d_Dr_searchFrom_1 (fun r1 M2 => ?_)
    refine g_istore_n (ls' := [some (.ref (κ.b + 165)), some (.int a1), some (.int a2), some (.int r1), none, none]) hC d_Dr_searchFrom_4 rfl rfl ?_
    refine g_iload_n hC d_Dr_searchFrom_5 rfl ?_
    refine g_aload_n hC d_Dr_searchFrom_6 rfl ?_
    refine fg_Dr_54 hC lc_165 d_Dr_searchFrom_7 ?_
    refine g_icmp_lt (tgt := 14) hC d_Dr_searchFrom_10 (by decide) (fun _ => ?_) (fun _ => ?_)
    · refine g_aload_n hC d_Dr_searchFrom_14 rfl ?_
      refine fg_Dr_20 hC lc_165 d_Dr_searchFrom_15 p0_165_0 ?_
      refine g_iload_n hC d_Dr_searchFrom_18 rfl ?_
      refine gv_callVr hC [.int a1] cw_Dr_72 (To_eyeAt_c F a1 M2) lc_18 rfl rfl rfl rfl rfl (tv_dtr hdd rfl) rfl d_Dr_searchFrom_19 (fun r3 M4 => ?_)
      refine g_astoreQ (ls' := [some (.ref (κ.b + 165)), some (.int a1), some (.int a2), some (.int r1), some (tv_re κ.b r3), none]) hC d_Dr_searchFrom_22 rfl rfl ?_
      refine g_aloadQ hC d_Dr_searchFrom_24 rfl ?_
      rcases r3 with _ | p5
      · refine g_nlN ?_
        refine g_ifnonnullN hC d_Dr_searchFrom_26 ?_
        refine g_aload_n hC d_Dr_searchFrom_29 rfl ?_
        refine g_iload_n hC d_Dr_searchFrom_30 rfl ?_
        refine fp_Dr_51 hC lc_165 d_Dr_searchFrom_31 (fun M6 => ?_)
        refine g_aload_n hC d_Dr_searchFrom_34 rfl ?_
        refine g_iload_n hC d_Dr_searchFrom_35 rfl ?_
        refine fp_Dr_54 hC lc_165 d_Dr_searchFrom_36 (fun M7 => ?_)
        exact g_vret hC hR d_Dr_searchFrom_39
      · refine g_nlS ?_
        refine g_ifnonnullR (tgt := 40) hC d_Dr_searchFrom_26 (by decide) ?_
        refine g_gl (fun h8 => ?_)
        refine g_aload_n hC d_Dr_searchFrom_40 rfl ?_
        refine fg_Dr_48 hC lc_165 d_Dr_searchFrom_41 ?_
        refine g_istore (ls' := [some (.ref (κ.b + 165)), some (.int a1), some (.int a2), some (.int r1), some (.ref (κ.b + p5)), some (.int (M4.1 165 4))]) hC d_Dr_searchFrom_44 rfl rfl ?_
        refine g_aload hC d_Dr_searchFrom_46 rfl ?_
        refine fg_Dr_76 hC h8 d_Dr_searchFrom_48 ?_
        refine g_if_eq (tgt := 63) hC d_Dr_searchFrom_51 (by decide) (fun _ => ?_) (fun _ => ?_)
        · refine g_aload_n hC d_Dr_searchFrom_63 rfl ?_
          refine g_iload_n hC d_Dr_searchFrom_64 rfl ?_
          refine g_iconst hC d_Dr_searchFrom_65 k_i1 ?_
          refine g_isub hC d_Dr_searchFrom_66 ?_
          refine g_iload_n hC d_Dr_searchFrom_67 rfl ?_
          refine gv_callVv hC [.int (a1 - 1), .int a2] cw_Dr_62 (ihs (a1 - 1) a2 M4) lc_165 rfl rfl rfl rfl rfl hdp rfl d_Dr_searchFrom_68 (fun r9 M10 => ?_)
          refine g_mask [true, true, true, false, true, true] (ls' := [some (.ref (κ.b + 165)), some (.int a1), some (.int a2), none, some (.ref (κ.b + p5)), some (.int (M4.1 165 4))]) rfl ?_
          exact Dr_searchFrom_L71_g hC hR hdd hds hdp ihs F a1 a2 p5 (M4.1 165 4) M10
        · refine g_aload_n hC d_Dr_searchFrom_54 rfl ?_
          refine g_aload hC d_Dr_searchFrom_55 rfl ?_
          refine gv_callVi hC [.ref (κ.b + p5)] cw_Dr_81 (Dr_addReading_c F p5 M4) lc_165 rfl rfl rfl rfl rfl (tv_dtr hdd rfl) rfl d_Dr_searchFrom_57 (fun r11 M12 => ?_)
          refine g_if_eq (tgt := 71) hC d_Dr_searchFrom_60 (by decide) (fun _ => ?_) (fun _ => ?_)
          · refine g_mask [true, true, true, false, true, true] (ls' := [some (.ref (κ.b + 165)), some (.int a1), some (.int a2), none, some (.ref (κ.b + p5)), some (.int (M4.1 165 4))]) rfl ?_
            exact Dr_searchFrom_L71_g hC hR hdd hds hdp ihs F a1 a2 p5 (M4.1 165 4) M12
          · refine g_aload_n hC d_Dr_searchFrom_63 rfl ?_
            refine g_iload_n hC d_Dr_searchFrom_64 rfl ?_
            refine g_iconst hC d_Dr_searchFrom_65 k_i1 ?_
            refine g_isub hC d_Dr_searchFrom_66 ?_
            refine g_iload_n hC d_Dr_searchFrom_67 rfl ?_
            refine gv_callVv hC [.int (a1 - 1), .int a2] cw_Dr_62 (ihs (a1 - 1) a2 M12) lc_165 rfl rfl rfl rfl rfl hdp rfl d_Dr_searchFrom_68 (fun r13 M14 => ?_)
            refine g_mask [true, true, true, false, true, true] (ls' := [some (.ref (κ.b + 165)), some (.int a1), some (.int a2), none, some (.ref (κ.b + p5)), some (.int (M4.1 165 4))]) rfl ?_
            exact Dr_searchFrom_L71_g hC hR hdd hds hdp ihs F a1 a2 p5 (M4.1 165 4) M14
    · exact g_vret hC hR d_Dr_searchFrom_13
