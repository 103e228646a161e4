theorem d_Re_takeTable_0 : decode prog_8_method_14_code 0 = .ok (.aload_n 0, 1) := by decide +kernel
theorem d_Re_takeTable_1 : decode prog_8_method_14_code 1 = .ok (.getfield 15, 3) := by decide +kernel
theorem d_Re_takeTable_4 : decode prog_8_method_14_code 4 = .ok (.iload_n 2, 1) := by decide +kernel
theorem d_Re_takeTable_5 : decode prog_8_method_14_code 5 = .ok (.invokevirtual 151, 3) := by decide +kernel
theorem d_Re_takeTable_8 : decode prog_8_method_14_code 8 = .ok (.astore_n 3, 1) := by decide +kernel
theorem d_Re_takeTable_9 : decode prog_8_method_14_code 9 = .ok (.aload_n 3, 1) := by decide +kernel
theorem d_Re_takeTable_10 : decode prog_8_method_14_code 10 = .ok (.ifnonnull 9, 3) := by decide +kernel
theorem d_Re_takeTable_13 : decode prog_8_method_14_code 13 = .ok (.aload_n 0, 1) := by decide +kernel
theorem d_Re_takeTable_14 : decode prog_8_method_14_code 14 = .ok (.iconst 2, 1) := by decide +kernel
theorem d_Re_takeTable_15 : decode prog_8_method_14_code 15 = .ok (.invokevirtual 88, 3) := by decide +kernel
theorem d_Re_takeTable_18 : decode prog_8_method_14_code 18 = .ok (.ireturn, 1) := by decide +kernel
theorem d_Re_takeTable_19 : decode prog_8_method_14_code 19 = .ok (.aload_n 1, 1) := by decide +kernel
theorem d_Re_takeTable_20 : decode prog_8_method_14_code 20 = .ok (.iload_n 2, 1) := by decide +kernel
theorem d_Re_takeTable_21 : decode prog_8_method_14_code 21 = .ok (.invokevirtual 155, 3) := by decide +kernel
theorem d_Re_takeTable_24 : decode prog_8_method_14_code 24 = .ok (.astore 4, 2) := by decide +kernel
theorem d_Re_takeTable_26 : decode prog_8_method_14_code 26 = .ok (.iconst 0, 1) := by decide +kernel
theorem d_Re_takeTable_27 : decode prog_8_method_14_code 27 = .ok (.istore 5, 2) := by decide +kernel
theorem d_Re_takeTable_29 : decode prog_8_method_14_code 29 = .ok (.iload 5, 2) := by decide +kernel
theorem d_Re_takeTable_31 : decode prog_8_method_14_code 31 = .ok (.aload_n 1, 1) := by decide +kernel
theorem d_Re_takeTable_32 : decode prog_8_method_14_code 32 = .ok (.getfield 121, 3) := by decide +kernel
theorem d_Re_takeTable_35 : decode prog_8_method_14_code 35 = .ok (.if_icmp .ge 76, 3) := by decide +kernel
theorem d_Re_takeTable_38 : decode prog_8_method_14_code 38 = .ok (.iload 5, 2) := by decide +kernel
theorem d_Re_takeTable_40 : decode prog_8_method_14_code 40 = .ok (.ifCond .le 14, 3) := by decide +kernel
theorem d_Re_takeTable_43 : decode prog_8_method_14_code 43 = .ok (.aload_n 0, 1) := by decide +kernel
theorem d_Re_takeTable_44 : decode prog_8_method_14_code 44 = .ok (.bipush 44, 2) := by decide +kernel
theorem d_Re_takeTable_46 : decode prog_8_method_14_code 46 = .ok (.invokevirtual 105, 3) := by decide +kernel
theorem d_Re_takeTable_49 : decode prog_8_method_14_code 49 = .ok (.ifCond .ne 5, 3) := by decide +kernel
theorem d_Re_takeTable_52 : decode prog_8_method_14_code 52 = .ok (.iconst 0, 1) := by decide +kernel
theorem d_Re_takeTable_53 : decode prog_8_method_14_code 53 = .ok (.ireturn, 1) := by decide +kernel
theorem d_Re_takeTable_54 : decode prog_8_method_14_code 54 = .ok (.iconst 0, 1) := by decide +kernel
theorem d_Re_takeTable_55 : decode prog_8_method_14_code 55 = .ok (.istore 6, 2) := by decide +kernel
theorem d_Re_takeTable_57 : decode prog_8_method_14_code 57 = .ok (.iload 6, 2) := by decide +kernel
theorem d_Re_takeTable_59 : decode prog_8_method_14_code 59 = .ok (.aload_n 3, 1) := by decide +kernel
theorem d_Re_takeTable_60 : decode prog_8_method_14_code 60 = .ok (.getfield 159, 3) := by decide +kernel
theorem d_Re_takeTable_63 : decode prog_8_method_14_code 63 = .ok (.if_icmp .ge 42, 3) := by decide +kernel
theorem d_Re_takeTable_66 : decode prog_8_method_14_code 66 = .ok (.aload_n 0, 1) := by decide +kernel
theorem d_Re_takeTable_67 : decode prog_8_method_14_code 67 = .ok (.iconst 0, 1) := by decide +kernel
theorem d_Re_takeTable_68 : decode prog_8_method_14_code 68 = .ok (.aload_n 0, 1) := by decide +kernel
theorem d_Re_takeTable_69 : decode prog_8_method_14_code 69 = .ok (.getfield 15, 3) := by decide +kernel
theorem d_Re_takeTable_72 : decode prog_8_method_14_code 72 = .ok (.getfield 164, 3) := by decide +kernel
theorem d_Re_takeTable_75 : decode prog_8_method_14_code 75 = .ok (.iconst 1, 1) := by decide +kernel
theorem d_Re_takeTable_76 : decode prog_8_method_14_code 76 = .ok (.isub, 1) := by decide +kernel
theorem d_Re_takeTable_77 : decode prog_8_method_14_code 77 = .ok (.invokevirtual 101, 3) := by decide +kernel
theorem d_Re_takeTable_80 : decode prog_8_method_14_code 80 = .ok (.ifCond .ne 5, 3) := by decide +kernel
theorem d_Re_takeTable_83 : decode prog_8_method_14_code 83 = .ok (.iconst 0, 1) := by decide +kernel
theorem d_Re_takeTable_84 : decode prog_8_method_14_code 84 = .ok (.ireturn, 1) := by decide +kernel
theorem d_Re_takeTable_85 : decode prog_8_method_14_code 85 = .ok (.aload 4, 2) := by decide +kernel
theorem d_Re_takeTable_87 : decode prog_8_method_14_code 87 = .ok (.iload 5, 2) := by decide +kernel
theorem d_Re_takeTable_89 : decode prog_8_method_14_code 89 = .ok (.iconst 3, 1) := by decide +kernel
theorem d_Re_takeTable_90 : decode prog_8_method_14_code 90 = .ok (.imul, 1) := by decide +kernel
theorem d_Re_takeTable_91 : decode prog_8_method_14_code 91 = .ok (.iload 6, 2) := by decide +kernel
theorem d_Re_takeTable_93 : decode prog_8_method_14_code 93 = .ok (.iadd, 1) := by decide +kernel
theorem d_Re_takeTable_94 : decode prog_8_method_14_code 94 = .ok (.aload_n 0, 1) := by decide +kernel
theorem d_Re_takeTable_95 : decode prog_8_method_14_code 95 = .ok (.getfield 98, 3) := by decide +kernel
theorem d_Re_takeTable_98 : decode prog_8_method_14_code 98 = .ok (.iastore, 1) := by decide +kernel
theorem d_Re_takeTable_99 : decode prog_8_method_14_code 99 = .ok (.iinc 6 1, 3) := by decide +kernel
theorem d_Re_takeTable_102 : decode prog_8_method_14_code 102 = .ok (.goto (-45), 3) := by decide +kernel
theorem d_Re_takeTable_105 : decode prog_8_method_14_code 105 = .ok (.iinc 5 1, 3) := by decide +kernel
theorem d_Re_takeTable_108 : decode prog_8_method_14_code 108 = .ok (.goto (-79), 3) := by decide +kernel
theorem d_Re_takeTable_111 : decode prog_8_method_14_code 111 = .ok (.iconst 1, 1) := by decide +kernel
theorem d_Re_takeTable_112 : decode prog_8_method_14_code 112 = .ok (.ireturn, 1) := by decide +kernel
set_option maxHeartbeats 2000000 in
theorem Re_takeTable_L57_g {κ : tv_Kt} (hC : tv_Cx κ "TiedViews$Reader" prog_8_method_14_code 7 3) (hR : tv_Re κ (some .boolean)) (F : Nat) {k29 : Nat → Nat → Nat → Int32 → tv_M → Option (Int32 × tv_M)} (hk29 : ∀ (l1 : Nat) (l3 : Nat) (l4 : Nat) (l5 : Int32) (M : tv_M), tv_G κ 7 (tv_Qm κ tv_ei) 29 [some (.ref (κ.b + 68)), some (.ref (κ.b + l1)), none, some (.ref (κ.b + l3)), some (.ref (κ.b + l4)), some (.int l5), none] [] M (k29 l1 l3 l4 l5 M)) : ∀ (n : Nat) (l1 : Nat) (l3 : Nat) (l4 : Nat) (l5 : Int32) (l6 : Int32) (M : tv_M), tv_G κ 7 (tv_Qm κ tv_ei) 57 [some (.ref (κ.b + 68)), some (.ref (κ.b + l1)), none, some (.ref (κ.b + l3)), some (.ref (κ.b + l4)), some (.int l5), some (.int l6)] [] M (Re_takeTable_L57 F k29 n l1 l3 l4 l5 l6 M) := by
  intro n
  induction n with
  | zero => intro _ _ _ _ _ _; exact g_none
  | succ nn ih =>
    intro l1 l3 l4 l5 l6 M
    rw [Re_takeTable_L57]
    refine g_gl (fun h20 => ?_)
    refine g_gl (fun h21 => ?_)
    refine g_gn (fun n23 h22 => ?_)
    refine g_iload hC d_Re_takeTable_57 rfl ?_
    refine g_aload_n hC d_Re_takeTable_59 rfl ?_
    refine fg_Re_159 hC h21 d_Re_takeTable_60 ?_
    refine g_icmp_ge (tgt := 105) hC d_Re_takeTable_63 (by decide) (fun _ => ?_) (fun _ => ?_)
    · refine g_iinc (ls' := [some (.ref (κ.b + 68)), some (.ref (κ.b + l1)), none, some (.ref (κ.b + l3)), some (.ref (κ.b + l4)), some (.int (l5 + 1)), some (.int l6)]) hC d_Re_takeTable_105 rfl k_i1 rfl rfl ?_
      refine g_goto (tgt := 29) hC d_Re_takeTable_108 (by decide) ?_
      refine g_mask [true, true, false, true, true, true, false] (ls' := [some (.ref (κ.b + 68)), some (.ref (κ.b + l1)), none, some (.ref (κ.b + l3)), some (.ref (κ.b + l4)), some (.int (l5 + 1)), none]) rfl ?_
      exact hk29 l1 l3 l4 (l5 + 1) M
    · refine g_aload_n hC d_Re_takeTable_66 rfl ?_
      refine g_iconst hC d_Re_takeTable_67 k_i0 ?_
      refine g_aload_n hC d_Re_takeTable_68 rfl ?_
      refine fg_Re_15 hC lc_68 d_Re_takeTable_69 p0_68_0 ?_
      refine fg_Re_164 hC lc_18 d_Re_takeTable_72 ?_
      refine g_iconst hC d_Re_takeTable_75 k_i1 ?_
      refine g_isub hC d_Re_takeTable_76 ?_
      refine gv_callVi hC [.int 0, .int ((M.1 18 0) - 1)] cw_Re_101 (Re_takeNumber_c F 0 ((M.1 18 0) - 1) M) lc_68 rfl rfl rfl rfl rfl rfl rfl d_Re_takeTable_77 (fun r24 M25 => ?_)
      refine g_if_ne (tgt := 85) hC d_Re_takeTable_80 (by decide) (fun _ => ?_) (fun _ => ?_)
      · refine g_aload hC d_Re_takeTable_85 rfl ?_
        refine g_iload hC d_Re_takeTable_87 rfl ?_
        refine g_iconst hC d_Re_takeTable_89 k_i3 ?_
        refine g_imul hC d_Re_takeTable_90 ?_
        refine g_iload hC d_Re_takeTable_91 rfl ?_
        refine g_iadd hC d_Re_takeTable_93 ?_
        refine g_aload_n hC d_Re_takeTable_94 rfl ?_
        refine fg_Re_98 hC lc_68 d_Re_takeTable_95 ?_
        refine gv_iast hC h22 d_Re_takeTable_98 (fun M26 => ?_)
        refine g_iinc (ls' := [some (.ref (κ.b + 68)), some (.ref (κ.b + l1)), none, some (.ref (κ.b + l3)), some (.ref (κ.b + l4)), some (.int l5), some (.int (l6 + 1))]) hC d_Re_takeTable_99 rfl k_i1 rfl rfl ?_
        refine g_goto (tgt := 57) hC d_Re_takeTable_102 (by decide) ?_
        exact ih l1 l3 l4 l5 (l6 + 1) M26
      · refine g_iconst hC d_Re_takeTable_83 k_i0 ?_
        exact g_zret hC hR tv_z0 d_Re_takeTable_84
set_option maxHeartbeats 2000000 in
theorem Re_takeTable_L29_g {κ : tv_Kt} (hC : tv_Cx κ "TiedViews$Reader" prog_8_method_14_code 7 3) (hR : tv_Re κ (some .boolean)) (F : Nat) : ∀ (n : Nat) (l1 : Nat) (l3 : Nat) (l4 : Nat) (l5 : Int32) (M : tv_M), tv_G κ 7 (tv_Qm κ tv_ei) 29 [some (.ref (κ.b + 68)), some (.ref (κ.b + l1)), none, some (.ref (κ.b + l3)), some (.ref (κ.b + l4)), some (.int l5), none] [] M (Re_takeTable_L29 F n l1 l3 l4 l5 M) := by
  intro n
  induction n with
  | zero => intro _ _ _ _ _; exact g_none
  | succ nn ih =>
    intro l1 l3 l4 l5 M
    rw [Re_takeTable_L29]
    refine g_gl (fun h14 => ?_)
    refine g_gl (fun h15 => ?_)
    refine g_gn (fun n17 h16 => ?_)
    refine g_iload hC d_Re_takeTable_29 rfl ?_
    refine g_aload_n hC d_Re_takeTable_31 rfl ?_
    refine fg_Re_121 hC h14 d_Re_takeTable_32 ?_
    refine g_icmp_ge (tgt := 111) hC d_Re_takeTable_35 (by decide) (fun _ => ?_) (fun _ => ?_)
    · refine g_iconst hC d_Re_takeTable_111 k_i1 ?_
      exact g_zret hC hR tv_z1 d_Re_takeTable_112
    · refine g_iload hC d_Re_takeTable_38 rfl ?_
      refine g_if_le (tgt := 54) hC d_Re_takeTable_40 (by decide) (fun _ => ?_) (fun _ => ?_)
      · refine g_iconst hC d_Re_takeTable_54 k_i0 ?_
        refine g_istore (ls' := [some (.ref (κ.b + 68)), some (.ref (κ.b + l1)), none, some (.ref (κ.b + l3)), some (.ref (κ.b + l4)), some (.int l5), some (.int 0)]) hC d_Re_takeTable_55 rfl rfl ?_
        exact Re_takeTable_L57_g hC hR F ih F l1 l3 l4 l5 0 M
      · refine g_aload_n hC d_Re_takeTable_43 rfl ?_
        refine g_bipush hC d_Re_takeTable_44 k_b44 ?_
        refine gv_callVi hC [.int 44] cw_Re_105 (Re_takeSign_c F 44 M) lc_68 rfl rfl rfl rfl rfl rfl rfl d_Re_takeTable_46 (fun r18 M19 => ?_)
        refine g_if_ne (tgt := 54) hC d_Re_takeTable_49 (by decide) (fun _ => ?_) (fun _ => ?_)
        · refine g_iconst hC d_Re_takeTable_54 k_i0 ?_
          refine g_istore (ls' := [some (.ref (κ.b + 68)), some (.ref (κ.b + l1)), none, some (.ref (κ.b + l3)), some (.ref (κ.b + l4)), some (.int l5), some (.int 0)]) hC d_Re_takeTable_55 rfl rfl ?_
          exact Re_takeTable_L57_g hC hR F ih F l1 l3 l4 l5 0 M19
        · refine g_iconst hC d_Re_takeTable_52 k_i0 ?_
          exact g_zret hC hR tv_z0 d_Re_takeTable_53
set_option maxHeartbeats 2000000 in
theorem Re_takeTable_c {l : Launch} {θ : tv_Th} (F : Nat) (a1 : Nat) (a2 : Int32) (M : tv_M) : tv_Ct l θ ⟨"TiedViews$Reader", "takeTable", "(LTiedViews$Tie;I)Z"⟩ prog_8_method_14_code 7 (some .boolean) 3 tv_ei [.ref (θ.1 + 68), .ref (θ.1 + a1), .int a2] M (Re_takeTable F a1 a2 M) := by
  refine tv_ofG [some (.ref (θ.1 + 68)), some (.ref (θ.1 + a1)), some (.int a2), none, none, none, none] rfl rfl (tv_ent 4 rfl) ?_
  intro κ hl ht hC hR
  subst hl; subst ht
  unfold Re_takeTable
  refine g_gl (fun h1 => ?_)
  refine g_aload_n hC d_Re_takeTable_0 rfl ?_
  refine fg_Re_15 hC lc_68 d_Re_takeTable_1 p0_68_0 ?_
  refine g_iload_n hC d_Re_takeTable_4 rfl ?_
  refine gv_callVr hC [.int a2] cw_Re_151 (To_linearAt_c F a2 M) lc_18 rfl rfl rfl rfl rfl rfl rfl d_Re_takeTable_5 (fun r2 M3 => ?_)
  refine g_astore_nQ (ls' := [some (.ref (κ.b + 68)), some (.ref (κ.b + a1)), some (.int a2), some (tv_re κ.b r2), none, none, none]) hC d_Re_takeTable_8 rfl rfl ?_
  refine g_aload_nQ hC d_Re_takeTable_9 rfl ?_
  rcases r2 with _ | p4
  · refine g_nlN ?_
    refine g_ifnonnullN hC d_Re_takeTable_10 ?_
    refine g_aload_n hC d_Re_takeTable_13 rfl ?_
    refine g_iconst hC d_Re_takeTable_14 k_i2 ?_
    refine gv_callVi hC [.int 2] cw_Re_88 (Re_fails_c F 2 M3) lc_68 rfl rfl rfl rfl rfl rfl rfl d_Re_takeTable_15 (fun r5 M6 => ?_)
    refine g_zo (fun z7 => ?_)
    exact g_zret hC hR z7 d_Re_takeTable_18
  · refine g_nlS ?_
    refine g_ifnonnullR (tgt := 19) hC d_Re_takeTable_10 (by decide) ?_
    refine g_gl (fun h8 => ?_)
    refine g_aload_n hC d_Re_takeTable_19 rfl ?_
    refine g_iload_n hC d_Re_takeTable_20 rfl ?_
    refine gv_callVr hC [.int a2] cw_Re_155 (Ti_tableOf_c F a1 a2 M3) h1 rfl rfl rfl rfl rfl rfl rfl d_Re_takeTable_21 (fun r9 M10 => ?_)
    refine g_nn (fun p11 e => ?_)
    subst e
    refine g_gn (fun n13 h12 => ?_)
    refine g_astore (ls' := [some (.ref (κ.b + 68)), some (.ref (κ.b + a1)), some (.int a2), some (.ref (κ.b + p4)), some (.ref (κ.b + p11)), none, none]) hC d_Re_takeTable_24 rfl rfl ?_
    refine g_iconst hC d_Re_takeTable_26 k_i0 ?_
    refine g_istore (ls' := [some (.ref (κ.b + 68)), some (.ref (κ.b + a1)), some (.int a2), some (.ref (κ.b + p4)), some (.ref (κ.b + p11)), some (.int 0), none]) hC d_Re_takeTable_27 rfl rfl ?_
    refine g_mask [true, true, false, true, true, true, false] (ls' := [some (.ref (κ.b + 68)), some (.ref (κ.b + a1)), none, some (.ref (κ.b + p4)), some (.ref (κ.b + p11)), some (.int 0), none]) rfl ?_
    exact Re_takeTable_L29_g hC hR F F a1 p4 p11 0 M10
theorem d_To_addNextTie_0 : decode prog_12_method_14_code 0 = .ok (.aload_n 0, 1) := by decide +kernel
theorem d_To_addNextTie_1 : decode prog_12_method_14_code 1 = .ok (.getfield 41, 3) := by decide +kernel
theorem d_To_addNextTie_4 : decode prog_12_method_14_code 4 = .ok (.bipush 10, 2) := by decide +kernel
theorem d_To_addNextTie_6 : decode prog_12_method_14_code 6 = .ok (.if_icmp .ge 34, 3) := by decide +kernel
theorem d_To_addNextTie_9 : decode prog_12_method_14_code 9 = .ok (.aload_n 0, 1) := by decide +kernel
theorem d_To_addNextTie_10 : decode prog_12_method_14_code 10 = .ok (.dup, 1) := by decide +kernel
theorem d_To_addNextTie_11 : decode prog_12_method_14_code 11 = .ok (.getfield 59, 3) := by decide +kernel
theorem d_To_addNextTie_14 : decode prog_12_method_14_code 14 = .ok (.aload_n 0, 1) := by decide +kernel
theorem d_To_addNextTie_15 : decode prog_12_method_14_code 15 = .ok (.getfield 19, 3) := by decide +kernel
theorem d_To_addNextTie_18 : decode prog_12_method_14_code 18 = .ok (.aload_n 0, 1) := by decide +kernel
theorem d_To_addNextTie_19 : decode prog_12_method_14_code 19 = .ok (.getfield 41, 3) := by decide +kernel
theorem d_To_addNextTie_22 : decode prog_12_method_14_code 22 = .ok (.aaload, 1) := by decide +kernel
theorem d_To_addNextTie_23 : decode prog_12_method_14_code 23 = .ok (.getfield 85, 3) := by decide +kernel
theorem d_To_addNextTie_26 : decode prog_12_method_14_code 26 = .ok (.iadd, 1) := by decide +kernel
theorem d_To_addNextTie_27 : decode prog_12_method_14_code 27 = .ok (.putfield 59, 3) := by decide +kernel
theorem d_To_addNextTie_30 : decode prog_12_method_14_code 30 = .ok (.aload_n 0, 1) := by decide +kernel
theorem d_To_addNextTie_31 : decode prog_12_method_14_code 31 = .ok (.dup, 1) := by decide +kernel
theorem d_To_addNextTie_32 : decode prog_12_method_14_code 32 = .ok (.getfield 41, 3) := by decide +kernel
theorem d_To_addNextTie_35 : decode prog_12_method_14_code 35 = .ok (.iconst 1, 1) := by decide +kernel
theorem d_To_addNextTie_36 : decode prog_12_method_14_code 36 = .ok (.iadd, 1) := by decide +kernel
theorem d_To_addNextTie_37 : decode prog_12_method_14_code 37 = .ok (.putfield 41, 3) := by decide +kernel
theorem d_To_addNextTie_40 : decode prog_12_method_14_code 40 = .ok (.return_, 1) := by decide +kernel
set_option maxHeartbeats 2000000 in
theorem To_addNextTie_c {l : Launch} {θ : tv_Th} (F : Nat) (M : tv_M) : tv_Ct l θ ⟨"TiedViews$Told", "addNextTie", "()V"⟩ prog_12_method_14_code 1 none 0 tv_ev [.ref (θ.1 + 18)] M (To_addNextTie F M) := by
  refine tv_ofG [some (.ref (θ.1 + 18))] rfl rfl (tv_ent 0 rfl) ?_
  intro κ hl ht hC hR
  subst hl; subst ht
  unfold To_addNextTie
  refine g_aload_n hC d_To_addNextTie_0 rfl ?_
  refine fg_To_41 hC lc_18 d_To_addNextTie_1 ?_
  refine g_bipush hC d_To_addNextTie_4 k_b10 ?_
  refine g_icmp_ge (tgt := 40) hC d_To_addNextTie_6 (by decide) (fun _ => ?_) (fun _ => ?_)
  · exact g_vret hC hR d_To_addNextTie_40
  · refine g_aload_n hC d_To_addNextTie_9 rfl ?_
    refine g_dup hC d_To_addNextTie_10 rfl ?_
    refine fg_To_59 hC lc_18 d_To_addNextTie_11 ?_
    refine g_aload_n hC d_To_addNextTie_14 rfl ?_
    refine fg_To_19 hC lc_18 d_To_addNextTie_15 p0_18_2 ?_
    refine g_aload_n hC d_To_addNextTie_18 rfl ?_
    refine fg_To_41 hC lc_18 d_To_addNextTie_19 ?_
    refine gv_aald hC 2 ly_20 rfl d_To_addNextTie_22 (fun p1 => ?_)
    refine g_gl (fun h2 => ?_)
    refine fg_To_85 hC h2 d_To_addNextTie_23 ?_
    refine g_iadd hC d_To_addNextTie_26 ?_
    refine fp_To_59 hC lc_18 d_To_addNextTie_27 (fun M3 => ?_)
    refine g_aload_n hC d_To_addNextTie_30 rfl ?_
    refine g_dup hC d_To_addNextTie_31 rfl ?_
    refine fg_To_41 hC lc_18 d_To_addNextTie_32 ?_
    refine g_iconst hC d_To_addNextTie_35 k_i1 ?_
    refine g_iadd hC d_To_addNextTie_36 ?_
    refine fp_To_41 hC lc_18 d_To_addNextTie_37 (fun M4 => ?_)
    exact g_vret hC hR d_To_addNextTie_40
theorem d_Re_takeTieSentence_0 : decode prog_8_method_12_code 0 = .ok (.aload_n 0, 1) := by decide +kernel
theorem d_Re_takeTieSentence_1 : decode prog_8_method_12_code 1 = .ok (.getfield 15, 3) := by decide +kernel
theorem d_Re_takeTieSentence_4 : decode prog_8_method_12_code 4 = .ok (.invokevirtual 113, 3) := by decide +kernel
theorem d_Re_takeTieSentence_7 : decode prog_8_method_12_code 7 = .ok (.astore_n 1, 1) := by decide +kernel
theorem d_Re_takeTieSentence_8 : decode prog_8_method_12_code 8 = .ok (.aload_n 1, 1) := by decide +kernel
theorem d_Re_takeTieSentence_9 : decode prog_8_method_12_code 9 = .ok (.ifnonnull 9, 3) := by decide +kernel
theorem d_Re_takeTieSentence_12 : decode prog_8_method_12_code 12 = .ok (.aload_n 0, 1) := by decide +kernel
theorem d_Re_takeTieSentence_13 : decode prog_8_method_12_code 13 = .ok (.iconst 3, 1) := by decide +kernel
theorem d_Re_takeTieSentence_14 : decode prog_8_method_12_code 14 = .ok (.invokevirtual 88, 3) := by decide +kernel
theorem d_Re_takeTieSentence_17 : decode prog_8_method_12_code 17 = .ok (.ireturn, 1) := by decide +kernel
theorem d_Re_takeTieSentence_18 : decode prog_8_method_12_code 18 = .ok (.aload_n 0, 1) := by decide +kernel
theorem d_Re_takeTieSentence_19 : decode prog_8_method_12_code 19 = .ok (.invokevirtual 31, 3) := by decide +kernel
theorem d_Re_takeTieSentence_22 : decode prog_8_method_12_code 22 = .ok (.aload_n 0, 1) := by decide +kernel
theorem d_Re_takeTieSentence_23 : decode prog_8_method_12_code 23 = .ok (.aload_n 1, 1) := by decide +kernel
theorem d_Re_takeTieSentence_24 : decode prog_8_method_12_code 24 = .ok (.invokevirtual 117, 3) := by decide +kernel
theorem d_Re_takeTieSentence_27 : decode prog_8_method_12_code 27 = .ok (.ifCond .eq 12, 3) := by decide +kernel
theorem d_Re_takeTieSentence_30 : decode prog_8_method_12_code 30 = .ok (.aload_n 0, 1) := by decide +kernel
theorem d_Re_takeTieSentence_31 : decode prog_8_method_12_code 31 = .ok (.iconst 1, 1) := by decide +kernel
theorem d_Re_takeTieSentence_32 : decode prog_8_method_12_code 32 = .ok (.iconst 3, 1) := by decide +kernel
theorem d_Re_takeTieSentence_33 : decode prog_8_method_12_code 33 = .ok (.invokevirtual 101, 3) := by decide +kernel
theorem d_Re_takeTieSentence_36 : decode prog_8_method_12_code 36 = .ok (.ifCond .ne 5, 3) := by decide +kernel
theorem d_Re_takeTieSentence_39 : decode prog_8_method_12_code 39 = .ok (.iconst 0, 1) := by decide +kernel
theorem d_Re_takeTieSentence_40 : decode prog_8_method_12_code 40 = .ok (.ireturn, 1) := by decide +kernel
theorem d_Re_takeTieSentence_41 : decode prog_8_method_12_code 41 = .ok (.aload_n 1, 1) := by decide +kernel
theorem d_Re_takeTieSentence_42 : decode prog_8_method_12_code 42 = .ok (.aload_n 0, 1) := by decide +kernel
theorem d_Re_takeTieSentence_43 : decode prog_8_method_12_code 43 = .ok (.getfield 98, 3) := by decide +kernel
theorem d_Re_takeTieSentence_46 : decode prog_8_method_12_code 46 = .ok (.putfield 121, 3) := by decide +kernel
theorem d_Re_takeTieSentence_49 : decode prog_8_method_12_code 49 = .ok (.aload_n 0, 1) := by decide +kernel
theorem d_Re_takeTieSentence_50 : decode prog_8_method_12_code 50 = .ok (.ldc 126, 2) := by decide +kernel
theorem d_Re_takeTieSentence_52 : decode prog_8_method_12_code 52 = .ok (.invokevirtual 128, 3) := by decide +kernel
theorem d_Re_takeTieSentence_55 : decode prog_8_method_12_code 55 = .ok (.ifCond .eq 15, 3) := by decide +kernel
theorem d_Re_takeTieSentence_58 : decode prog_8_method_12_code 58 = .ok (.aload_n 0, 1) := by decide +kernel
theorem d_Re_takeTieSentence_59 : decode prog_8_method_12_code 59 = .ok (.aload_n 1, 1) := by decide +kernel
theorem d_Re_takeTieSentence_60 : decode prog_8_method_12_code 60 = .ok (.aload_n 1, 1) := by decide +kernel
theorem d_Re_takeTieSentence_61 : decode prog_8_method_12_code 61 = .ok (.getfield 131, 3) := by decide +kernel
theorem d_Re_takeTieSentence_64 : decode prog_8_method_12_code 64 = .ok (.invokevirtual 134, 3) := by decide +kernel
theorem d_Re_takeTieSentence_67 : decode prog_8_method_12_code 67 = .ok (.ifCond .ne 5, 3) := by decide +kernel
theorem d_Re_takeTieSentence_70 : decode prog_8_method_12_code 70 = .ok (.iconst 0, 1) := by decide +kernel
theorem d_Re_takeTieSentence_71 : decode prog_8_method_12_code 71 = .ok (.ireturn, 1) := by decide +kernel
theorem d_Re_takeTieSentence_72 : decode prog_8_method_12_code 72 = .ok (.aload_n 0, 1) := by decide +kernel
theorem d_Re_takeTieSentence_73 : decode prog_8_method_12_code 73 = .ok (.ldc 138, 2) := by decide +kernel
theorem d_Re_takeTieSentence_75 : decode prog_8_method_12_code 75 = .ok (.invokevirtual 128, 3) := by decide +kernel
theorem d_Re_takeTieSentence_78 : decode prog_8_method_12_code 78 = .ok (.ifCond .eq 24, 3) := by decide +kernel
theorem d_Re_takeTieSentence_81 : decode prog_8_method_12_code 81 = .ok (.aload_n 0, 1) := by decide +kernel
theorem d_Re_takeTieSentence_82 : decode prog_8_method_12_code 82 = .ok (.aload_n 1, 1) := by decide +kernel
theorem d_Re_takeTieSentence_83 : decode prog_8_method_12_code 83 = .ok (.aload_n 1, 1) := by decide +kernel
theorem d_Re_takeTieSentence_84 : decode prog_8_method_12_code 84 = .ok (.getfield 140, 3) := by decide +kernel
theorem d_Re_takeTieSentence_87 : decode prog_8_method_12_code 87 = .ok (.invokevirtual 134, 3) := by decide +kernel
theorem d_Re_takeTieSentence_90 : decode prog_8_method_12_code 90 = .ok (.ifCond .eq 12, 3) := by decide +kernel
theorem d_Re_takeTieSentence_93 : decode prog_8_method_12_code 93 = .ok (.aload_n 0, 1) := by decide +kernel
theorem d_Re_takeTieSentence_94 : decode prog_8_method_12_code 94 = .ok (.bipush 59, 2) := by decide +kernel
theorem d_Re_takeTieSentence_96 : decode prog_8_method_12_code 96 = .ok (.invokevirtual 105, 3) := by decide +kernel
theorem d_Re_takeTieSentence_99 : decode prog_8_method_12_code 99 = .ok (.ifCond .ne 5, 3) := by decide +kernel
theorem d_Re_takeTieSentence_102 : decode prog_8_method_12_code 102 = .ok (.iconst 0, 1) := by decide +kernel
theorem d_Re_takeTieSentence_103 : decode prog_8_method_12_code 103 = .ok (.ireturn, 1) := by decide +kernel
theorem d_Re_takeTieSentence_104 : decode prog_8_method_12_code 104 = .ok (.aload_n 0, 1) := by decide +kernel
theorem d_Re_takeTieSentence_105 : decode prog_8_method_12_code 105 = .ok (.getfield 15, 3) := by decide +kernel
theorem d_Re_takeTieSentence_108 : decode prog_8_method_12_code 108 = .ok (.invokevirtual 143, 3) := by decide +kernel
theorem d_Re_takeTieSentence_111 : decode prog_8_method_12_code 111 = .ok (.iconst 1, 1) := by decide +kernel
theorem d_Re_takeTieSentence_112 : decode prog_8_method_12_code 112 = .ok (.ireturn, 1) := by decide +kernel
set_option maxHeartbeats 2000000 in
theorem Re_takeTieSentence_c {l : Launch} {θ : tv_Th} (F : Nat) (M : tv_M) : tv_Ct l θ ⟨"TiedViews$Reader", "takeTieSentence", "()Z"⟩ prog_8_method_12_code 2 (some .boolean) 6 tv_ei [.ref (θ.1 + 68)] M (Re_takeTieSentence F M) := by
  refine tv_ofG [some (.ref (θ.1 + 68)), none] rfl rfl (tv_ent 1 rfl) ?_
  intro κ hl ht hC hR
  subst hl; subst ht
  unfold Re_takeTieSentence
  refine g_aload_n hC d_Re_takeTieSentence_0 rfl ?_
  refine fg_Re_15 hC lc_68 d_Re_takeTieSentence_1 p0_68_0 ?_
  refine gv_callVr hC [] cw_Re_113 (To_nextTie_c F M) lc_18 rfl rfl rfl rfl rfl rfl rfl d_Re_takeTieSentence_4 (fun r1 M2 => ?_)
  refine g_astore_nQ (ls' := [some (.ref (κ.b + 68)), some (tv_re κ.b r1)]) hC d_Re_takeTieSentence_7 rfl rfl ?_
  refine g_aload_nQ hC d_Re_takeTieSentence_8 rfl ?_
  rcases r1 with _ | p3
  · refine g_nlN ?_
    refine g_ifnonnullN hC d_Re_takeTieSentence_9 ?_
    refine g_aload_n hC d_Re_takeTieSentence_12 rfl ?_
    refine g_iconst hC d_Re_takeTieSentence_13 k_i3 ?_
    refine gv_callVi hC [.int 3] cw_Re_88 (Re_fails_c F 3 M2) lc_68 rfl rfl rfl rfl rfl rfl rfl d_Re_takeTieSentence_14 (fun r4 M5 => ?_)
    refine g_zo (fun z6 => ?_)
    exact g_zret hC hR z6 d_Re_takeTieSentence_17
  · refine g_nlS ?_
    refine g_ifnonnullR (tgt := 18) hC d_Re_takeTieSentence_9 (by decide) ?_
    refine g_gl (fun h7 => ?_)
    refine g_aload_n hC d_Re_takeTieSentence_18 rfl ?_
    refine gv_callVv hC [] cw_Re_31 (Re_goOn_c F M2) lc_68 rfl rfl rfl rfl rfl rfl rfl d_Re_takeTieSentence_19 (fun r8 M9 => ?_)
    refine g_aload_n hC d_Re_takeTieSentence_22 rfl ?_
    refine g_aload_n hC d_Re_takeTieSentence_23 rfl ?_
    refine gv_callVi hC [.ref (κ.b + p3)] cw_Re_117 (Re_takeEyes_c F p3 M9) lc_68 rfl rfl rfl rfl rfl rfl rfl d_Re_takeTieSentence_24 (fun r10 M11 => ?_)
    refine g_if_eq (tgt := 39) hC d_Re_takeTieSentence_27 (by decide) (fun _ => ?_) (fun _ => ?_)
    · refine g_iconst hC d_Re_takeTieSentence_39 k_i0 ?_
      exact g_zret hC hR tv_z0 d_Re_takeTieSentence_40
    · refine g_aload_n hC d_Re_takeTieSentence_30 rfl ?_
      refine g_iconst hC d_Re_takeTieSentence_31 k_i1 ?_
      refine g_iconst hC d_Re_takeTieSentence_32 k_i3 ?_
      refine gv_callVi hC [.int 1, .int 3] cw_Re_101 (Re_takeNumber_c F 1 3 M11) lc_68 rfl rfl rfl rfl rfl rfl rfl d_Re_takeTieSentence_33 (fun r12 M13 => ?_)
      refine g_if_ne (tgt := 41) hC d_Re_takeTieSentence_36 (by decide) (fun _ => ?_) (fun _ => ?_)
      · refine g_aload_n hC d_Re_takeTieSentence_41 rfl ?_
        refine g_aload_n hC d_Re_takeTieSentence_42 rfl ?_
        refine fg_Re_98 hC lc_68 d_Re_takeTieSentence_43 ?_
        refine fp_Re_121 hC h7 d_Re_takeTieSentence_46 (fun M14 => ?_)
        refine g_aload_n hC d_Re_takeTieSentence_49 rfl ?_
        refine g_lds hC 6 rfl d_Re_takeTieSentence_50 ?_
        refine gv_callVi hC [.ref (κ.th.2.2.2.1 6)] cw_Re_128 (Re_takeWord_c F 6 M14) lc_68 rfl rfl rfl rfl rfl rfl rfl d_Re_takeTieSentence_52 (fun r15 M16 => ?_)
        refine g_if_eq (tgt := 70) hC d_Re_takeTieSentence_55 (by decide) (fun _ => ?_) (fun _ => ?_)
        · refine g_iconst hC d_Re_takeTieSentence_70 k_i0 ?_
          exact g_zret hC hR tv_z0 d_Re_takeTieSentence_71
        · refine g_aload_n hC d_Re_takeTieSentence_58 rfl ?_
          refine g_aload_n hC d_Re_takeTieSentence_59 rfl ?_
          refine g_aload_n hC d_Re_takeTieSentence_60 rfl ?_
          refine fg_Re_131 hC h7 d_Re_takeTieSentence_61 ?_
          refine gv_callVi hC [.ref (κ.b + p3), .int (M16.1 p3 0)] cw_Re_134 (Re_takeTable_c F p3 (M16.1 p3 0) M16) lc_68 rfl rfl rfl rfl rfl rfl rfl d_Re_takeTieSentence_64 (fun r17 M18 => ?_)
          refine g_if_ne (tgt := 72) hC d_Re_takeTieSentence_67 (by decide) (fun _ => ?_) (fun _ => ?_)
          · refine g_aload_n hC d_Re_takeTieSentence_72 rfl ?_
            refine g_lds hC 7 rfl d_Re_takeTieSentence_73 ?_
            refine gv_callVi hC [.ref (κ.th.2.2.2.1 7)] cw_Re_128 (Re_takeWord_c F 7 M18) lc_68 rfl rfl rfl rfl rfl rfl rfl d_Re_takeTieSentence_75 (fun r19 M20 => ?_)
            refine g_if_eq (tgt := 102) hC d_Re_takeTieSentence_78 (by decide) (fun _ => ?_) (fun _ => ?_)
            · refine g_iconst hC d_Re_takeTieSentence_102 k_i0 ?_
              exact g_zret hC hR tv_z0 d_Re_takeTieSentence_103
            · refine g_aload_n hC d_Re_takeTieSentence_81 rfl ?_
              refine g_aload_n hC d_Re_takeTieSentence_82 rfl ?_
              refine g_aload_n hC d_Re_takeTieSentence_83 rfl ?_
              refine fg_Re_140 hC h7 d_Re_takeTieSentence_84 ?_
              refine gv_callVi hC [.ref (κ.b + p3), .int (M20.1 p3 1)] cw_Re_134 (Re_takeTable_c F p3 (M20.1 p3 1) M20) lc_68 rfl rfl rfl rfl rfl rfl rfl d_Re_takeTieSentence_87 (fun r21 M22 => ?_)
              refine g_if_eq (tgt := 102) hC d_Re_takeTieSentence_90 (by decide) (fun _ => ?_) (fun _ => ?_)
              · refine g_iconst hC d_Re_takeTieSentence_102 k_i0 ?_
                exact g_zret hC hR tv_z0 d_Re_takeTieSentence_103
              · refine g_aload_n hC d_Re_takeTieSentence_93 rfl ?_
                refine g_bipush hC d_Re_takeTieSentence_94 k_b59 ?_
                refine gv_callVi hC [.int 59] cw_Re_105 (Re_takeSign_c F 59 M22) lc_68 rfl rfl rfl rfl rfl rfl rfl d_Re_takeTieSentence_96 (fun r23 M24 => ?_)
                refine g_if_ne (tgt := 104) hC d_Re_takeTieSentence_99 (by decide) (fun _ => ?_) (fun _ => ?_)
                · refine g_aload_n hC d_Re_takeTieSentence_104 rfl ?_
                  refine fg_Re_15 hC lc_68 d_Re_takeTieSentence_105 p0_68_0 ?_
                  refine gv_callVv hC [] cw_Re_143 (To_addNextTie_c F M24) lc_18 rfl rfl rfl rfl rfl rfl rfl d_Re_takeTieSentence_108 (fun r25 M26 => ?_)
                  refine g_iconst hC d_Re_takeTieSentence_111 k_i1 ?_
                  exact g_zret hC hR tv_z1 d_Re_takeTieSentence_112
                · refine g_iconst hC d_Re_takeTieSentence_102 k_i0 ?_
                  exact g_zret hC hR tv_z0 d_Re_takeTieSentence_103
          · refine g_iconst hC d_Re_takeTieSentence_70 k_i0 ?_
            exact g_zret hC hR tv_z0 d_Re_takeTieSentence_71
      · refine g_iconst hC d_Re_takeTieSentence_39 k_i0 ?_
        exact g_zret hC hR tv_z0 d_Re_takeTieSentence_40
theorem d_To_choiceAt_0 : decode prog_12_method_6_code 0 = .ok (.aload_n 0, 1) := by decide +kernel
theorem d_To_choiceAt_1 : decode prog_12_method_6_code 1 = .ok (.iload_n 1, 1) := by decide +kernel
theorem d_To_choiceAt_2 : decode prog_12_method_6_code 2 = .ok (.invokevirtual 65, 3) := by decide +kernel
theorem d_To_choiceAt_5 : decode prog_12_method_6_code 5 = .ok (.astore_n 2, 1) := by decide +kernel
theorem d_To_choiceAt_6 : decode prog_12_method_6_code 6 = .ok (.aload_n 2, 1) := by decide +kernel
theorem d_To_choiceAt_7 : decode prog_12_method_6_code 7 = .ok (.ifnull 10, 3) := by decide +kernel
theorem d_To_choiceAt_10 : decode prog_12_method_6_code 10 = .ok (.aload_n 2, 1) := by decide +kernel
theorem d_To_choiceAt_11 : decode prog_12_method_6_code 11 = .ok (.invokevirtual 69, 3) := by decide +kernel
theorem d_To_choiceAt_14 : decode prog_12_method_6_code 14 = .ok (.ifCond .ne 7, 3) := by decide +kernel
theorem d_To_choiceAt_17 : decode prog_12_method_6_code 17 = .ok (.aconst_null, 1) := by decide +kernel
theorem d_To_choiceAt_18 : decode prog_12_method_6_code 18 = .ok (.goto 4, 3) := by decide +kernel
theorem d_To_choiceAt_21 : decode prog_12_method_6_code 21 = .ok (.aload_n 2, 1) := by decide +kernel
theorem d_To_choiceAt_22 : decode prog_12_method_6_code 22 = .ok (.areturn, 1) := by decide +kernel
set_option maxHeartbeats 2000000 in
theorem To_choiceAt_c {l : Launch} {θ : tv_Th} (F : Nat) (a1 : Int32) (M : tv_M) : tv_Ct l θ ⟨"TiedViews$Told", "choiceAt", "(I)LTiedViews$Eye;"⟩ prog_12_method_6_code 3 (some (.object "TiedViews$Eye")) 1 (tv_er θ.1) [.ref (θ.1 + 18), .int a1] M (To_choiceAt F a1 M) := by
  refine tv_ofG [some (.ref (θ.1 + 18)), some (.int a1), none] rfl rfl (tv_ent 1 rfl) ?_
  intro κ hl ht hC hR
  subst hl; subst ht
  unfold To_choiceAt
  refine g_aload_n hC d_To_choiceAt_0 rfl ?_
  refine g_iload_n hC d_To_choiceAt_1 rfl ?_
  refine gv_callVr hC [.int a1] cw_To_65 (To_eyeAt_c F a1 M) lc_18 rfl rfl rfl rfl rfl rfl rfl d_To_choiceAt_2 (fun r1 M2 => ?_)
  refine g_astore_nQ (ls' := [some (.ref (κ.b + 18)), some (.int a1), some (tv_re κ.b r1)]) hC d_To_choiceAt_5 rfl rfl ?_
  refine g_aload_nQ hC d_To_choiceAt_6 rfl ?_
  rcases r1 with _ | p3
  · refine g_nlN ?_
    refine g_ifnullN (tgt := 17) hC d_To_choiceAt_7 (by decide) ?_
    refine g_null hC d_To_choiceAt_17 ?_
    refine g_goto (tgt := 22) hC d_To_choiceAt_18 (by decide) ?_
    exact g_aret hC hR (Or.inl ⟨_, rfl⟩) (none) d_To_choiceAt_22
  · refine g_nlS ?_
    refine g_ifnullR hC d_To_choiceAt_7 ?_
    refine g_gl (fun h4 => ?_)
    refine g_aload_n hC d_To_choiceAt_10 rfl ?_
    refine gv_callVi hC [] cw_To_69 (Ey_isChoice_c F p3 M2) h4 rfl rfl rfl rfl rfl rfl rfl d_To_choiceAt_11 (fun r5 M6 => ?_)
    refine g_if_ne (tgt := 21) hC d_To_choiceAt_14 (by decide) (fun _ => ?_) (fun _ => ?_)
    · refine g_aload_n hC d_To_choiceAt_21 rfl ?_
      exact g_aret hC hR (Or.inl ⟨_, rfl⟩) (some p3) d_To_choiceAt_22
    · refine g_null hC d_To_choiceAt_17 ?_
      refine g_goto (tgt := 22) hC d_To_choiceAt_18 (by decide) ?_
      exact g_aret hC hR (Or.inl ⟨_, rfl⟩) (none) d_To_choiceAt_22
theorem d_Re_takeValueOf_0 : decode prog_8_method_19_code 0 = .ok (.aload_n 0, 1) := by decide +kernel
theorem d_Re_takeValueOf_1 : decode prog_8_method_19_code 1 = .ok (.getfield 15, 3) := by decide +kernel
theorem d_Re_takeValueOf_4 : decode prog_8_method_19_code 4 = .ok (.iload_n 1, 1) := by decide +kernel
theorem d_Re_takeValueOf_5 : decode prog_8_method_19_code 5 = .ok (.invokevirtual 191, 3) := by decide +kernel
theorem d_Re_takeValueOf_8 : decode prog_8_method_19_code 8 = .ok (.astore_n 2, 1) := by decide +kernel
theorem d_Re_takeValueOf_9 : decode prog_8_method_19_code 9 = .ok (.aload_n 0, 1) := by decide +kernel
theorem d_Re_takeValueOf_10 : decode prog_8_method_19_code 10 = .ok (.iconst 0, 1) := by decide +kernel
theorem d_Re_takeValueOf_11 : decode prog_8_method_19_code 11 = .ok (.aload_n 2, 1) := by decide +kernel
theorem d_Re_takeValueOf_12 : decode prog_8_method_19_code 12 = .ok (.ifnonnull 7, 3) := by decide +kernel
theorem d_Re_takeValueOf_15 : decode prog_8_method_19_code 15 = .ok (.iconst (-1), 1) := by decide +kernel
theorem d_Re_takeValueOf_16 : decode prog_8_method_19_code 16 = .ok (.goto 9, 3) := by decide +kernel
theorem d_Re_takeValueOf_19 : decode prog_8_method_19_code 19 = .ok (.aload_n 2, 1) := by decide +kernel
theorem d_Re_takeValueOf_20 : decode prog_8_method_19_code 20 = .ok (.getfield 159, 3) := by decide +kernel
theorem d_Re_takeValueOf_23 : decode prog_8_method_19_code 23 = .ok (.iconst 1, 1) := by decide +kernel
theorem d_Re_takeValueOf_24 : decode prog_8_method_19_code 24 = .ok (.isub, 1) := by decide +kernel
theorem d_Re_takeValueOf_25 : decode prog_8_method_19_code 25 = .ok (.invokevirtual 101, 3) := by decide +kernel
theorem d_Re_takeValueOf_28 : decode prog_8_method_19_code 28 = .ok (.ireturn, 1) := by decide +kernel
set_option maxHeartbeats 2000000 in
theorem Re_takeValueOf_c {l : Launch} {θ : tv_Th} (F : Nat) (a1 : Int32) (M : tv_M) : tv_Ct l θ ⟨"TiedViews$Reader", "takeValueOf", "(I)Z"⟩ prog_8_method_19_code 3 (some .boolean) 3 tv_ei [.ref (θ.1 + 68), .int a1] M (Re_takeValueOf F a1 M) := by
  refine tv_ofG [some (.ref (θ.1 + 68)), some (.int a1), none] rfl rfl (tv_ent 1 rfl) ?_
  intro κ hl ht hC hR
  subst hl; subst ht
  unfold Re_takeValueOf
  refine g_aload_n hC d_Re_takeValueOf_0 rfl ?_
  refine fg_Re_15 hC lc_68 d_Re_takeValueOf_1 p0_68_0 ?_
  refine g_iload_n hC d_Re_takeValueOf_4 rfl ?_
  refine gv_callVr hC [.int a1] cw_Re_191 (To_choiceAt_c F a1 M) lc_18 rfl rfl rfl rfl rfl rfl rfl d_Re_takeValueOf_5 (fun r1 M2 => ?_)
  refine g_astore_nQ (ls' := [some (.ref (κ.b + 68)), some (.int a1), some (tv_re κ.b r1)]) hC d_Re_takeValueOf_8 rfl rfl ?_
  refine g_aload_n hC d_Re_takeValueOf_9 rfl ?_
  refine g_iconst hC d_Re_takeValueOf_10 k_i0 ?_
  refine g_aload_nQ hC d_Re_takeValueOf_11 rfl ?_
  rcases r1 with _ | p3
  · refine g_nlN ?_
    refine g_ifnonnullN hC d_Re_takeValueOf_12 ?_
    refine g_iconst hC d_Re_takeValueOf_15 k_im1 ?_
    refine g_goto (tgt := 25) hC d_Re_takeValueOf_16 (by decide) ?_
    refine gv_callVi hC [.int 0, .int (-1)] cw_Re_101 (Re_takeNumber_c F 0 (-1) M2) lc_68 rfl rfl rfl rfl rfl rfl rfl d_Re_takeValueOf_25 (fun r4 M5 => ?_)
    refine g_zo (fun z6 => ?_)
    exact g_zret hC hR z6 d_Re_takeValueOf_28
  · refine g_nlS ?_
    refine g_ifnonnullR (tgt := 19) hC d_Re_takeValueOf_12 (by decide) ?_
    refine g_gl (fun h7 => ?_)
    refine g_aload_n hC d_Re_takeValueOf_19 rfl ?_
    refine fg_Re_159 hC h7 d_Re_takeValueOf_20 ?_
    refine g_iconst hC d_Re_takeValueOf_23 k_i1 ?_
    refine g_isub hC d_Re_takeValueOf_24 ?_
    refine gv_callVi hC [.int 0, .int ((M2.1 p3 2) - 1)] cw_Re_101 (Re_takeNumber_c F 0 ((M2.1 p3 2) - 1) M2) lc_68 rfl rfl rfl rfl rfl rfl rfl d_Re_takeValueOf_25 (fun r8 M9 => ?_)
    refine g_zo (fun z10 => ?_)
    exact g_zret hC hR z10 d_Re_takeValueOf_28
theorem d_To_addBar_0 : decode prog_12_method_15_code 0 = .ok (.aload_n 0, 1) := by decide +kernel
theorem d_To_addBar_1 : decode prog_12_method_15_code 1 = .ok (.getfield 47, 3) := by decide +kernel
theorem d_To_addBar_4 : decode prog_12_method_15_code 4 = .ok (.bipush 30, 2) := by decide +kernel
theorem d_To_addBar_6 : decode prog_12_method_15_code 6 = .ok (.if_icmp .lt 4, 3) := by decide +kernel
theorem d_To_addBar_9 : decode prog_12_method_15_code 9 = .ok (.return_, 1) := by decide +kernel
theorem d_To_addBar_10 : decode prog_12_method_15_code 10 = .ok (.aload_n 0, 1) := by decide +kernel
theorem d_To_addBar_11 : decode prog_12_method_15_code 11 = .ok (.getfield 47, 3) := by decide +kernel
theorem d_To_addBar_14 : decode prog_12_method_15_code 14 = .ok (.iconst 4, 1) := by decide +kernel
theorem d_To_addBar_15 : decode prog_12_method_15_code 15 = .ok (.imul, 1) := by decide +kernel
theorem d_To_addBar_16 : decode prog_12_method_15_code 16 = .ok (.istore 5, 2) := by decide +kernel
theorem d_To_addBar_18 : decode prog_12_method_15_code 18 = .ok (.aload_n 0, 1) := by decide +kernel
theorem d_To_addBar_19 : decode prog_12_method_15_code 19 = .ok (.getfield 23, 3) := by decide +kernel
theorem d_To_addBar_22 : decode prog_12_method_15_code 22 = .ok (.iload 5, 2) := by decide +kernel
theorem d_To_addBar_24 : decode prog_12_method_15_code 24 = .ok (.iload_n 1, 1) := by decide +kernel
theorem d_To_addBar_25 : decode prog_12_method_15_code 25 = .ok (.iastore, 1) := by decide +kernel
theorem d_To_addBar_26 : decode prog_12_method_15_code 26 = .ok (.aload_n 0, 1) := by decide +kernel
theorem d_To_addBar_27 : decode prog_12_method_15_code 27 = .ok (.getfield 23, 3) := by decide +kernel
theorem d_To_addBar_30 : decode prog_12_method_15_code 30 = .ok (.iload 5, 2) := by decide +kernel
theorem d_To_addBar_32 : decode prog_12_method_15_code 32 = .ok (.iconst 1, 1) := by decide +kernel
theorem d_To_addBar_33 : decode prog_12_method_15_code 33 = .ok (.iadd, 1) := by decide +kernel
theorem d_To_addBar_34 : decode prog_12_method_15_code 34 = .ok (.iload_n 2, 1) := by decide +kernel
theorem d_To_addBar_35 : decode prog_12_method_15_code 35 = .ok (.iastore, 1) := by decide +kernel
theorem d_To_addBar_36 : decode prog_12_method_15_code 36 = .ok (.aload_n 0, 1) := by decide +kernel
theorem d_To_addBar_37 : decode prog_12_method_15_code 37 = .ok (.getfield 23, 3) := by decide +kernel
theorem d_To_addBar_40 : decode prog_12_method_15_code 40 = .ok (.iload 5, 2) := by decide +kernel
theorem d_To_addBar_42 : decode prog_12_method_15_code 42 = .ok (.iconst 2, 1) := by decide +kernel
theorem d_To_addBar_43 : decode prog_12_method_15_code 43 = .ok (.iadd, 1) := by decide +kernel
theorem d_To_addBar_44 : decode prog_12_method_15_code 44 = .ok (.iload_n 3, 1) := by decide +kernel
theorem d_To_addBar_45 : decode prog_12_method_15_code 45 = .ok (.iastore, 1) := by decide +kernel
theorem d_To_addBar_46 : decode prog_12_method_15_code 46 = .ok (.aload_n 0, 1) := by decide +kernel
theorem d_To_addBar_47 : decode prog_12_method_15_code 47 = .ok (.getfield 23, 3) := by decide +kernel
theorem d_To_addBar_50 : decode prog_12_method_15_code 50 = .ok (.iload 5, 2) := by decide +kernel
theorem d_To_addBar_52 : decode prog_12_method_15_code 52 = .ok (.iconst 3, 1) := by decide +kernel
theorem d_To_addBar_53 : decode prog_12_method_15_code 53 = .ok (.iadd, 1) := by decide +kernel
theorem d_To_addBar_54 : decode prog_12_method_15_code 54 = .ok (.iload 4, 2) := by decide +kernel
theorem d_To_addBar_56 : decode prog_12_method_15_code 56 = .ok (.iastore, 1) := by decide +kernel
theorem d_To_addBar_57 : decode prog_12_method_15_code 57 = .ok (.aload_n 0, 1) := by decide +kernel
theorem d_To_addBar_58 : decode prog_12_method_15_code 58 = .ok (.dup, 1) := by decide +kernel
theorem d_To_addBar_59 : decode prog_12_method_15_code 59 = .ok (.getfield 47, 3) := by decide +kernel
theorem d_To_addBar_62 : decode prog_12_method_15_code 62 = .ok (.iconst 1, 1) := by decide +kernel
theorem d_To_addBar_63 : decode prog_12_method_15_code 63 = .ok (.iadd, 1) := by decide +kernel
theorem d_To_addBar_64 : decode prog_12_method_15_code 64 = .ok (.putfield 47, 3) := by decide +kernel
theorem d_To_addBar_67 : decode prog_12_method_15_code 67 = .ok (.return_, 1) := by decide +kernel
set_option maxHeartbeats 2000000 in
theorem To_addBar_c {l : Launch} {θ : tv_Th} (F : Nat) (a1 : Int32) (a2 : Int32) (a3 : Int32) (a4 : Int32) (M : tv_M) : tv_Ct l θ ⟨"TiedViews$Told", "addBar", "(IIII)V"⟩ prog_12_method_15_code 6 none 0 tv_ev [.ref (θ.1 + 18), .int a1, .int a2, .int a3, .int a4] M (To_addBar F a1 a2 a3 a4 M) := by
  refine tv_ofG [some (.ref (θ.1 + 18)), some (.int a1), some (.int a2), some (.int a3), some (.int a4), none] rfl rfl (tv_ent 1 rfl) ?_
  intro κ hl ht hC hR
  subst hl; subst ht
  unfold To_addBar
  refine g_aload_n hC d_To_addBar_0 rfl ?_
  refine fg_To_47 hC lc_18 d_To_addBar_1 ?_
  refine g_bipush hC d_To_addBar_4 k_b30 ?_
  refine g_icmp_lt (tgt := 10) hC d_To_addBar_6 (by decide) (fun _ => ?_) (fun _ => ?_)
  · refine g_aload_n hC d_To_addBar_10 rfl ?_
    refine fg_To_47 hC lc_18 d_To_addBar_11 ?_
    refine g_iconst hC d_To_addBar_14 k_i4 ?_
    refine g_imul hC d_To_addBar_15 ?_
    refine g_istore (ls' := [some (.ref (κ.b + 18)), some (.int a1), some (.int a2), some (.int a3), some (.int a4), some (.int ((M.1 18 6) * 4))]) hC d_To_addBar_16 rfl rfl ?_
    refine g_aload_n hC d_To_addBar_18 rfl ?_
    refine fg_To_23 hC lc_18 d_To_addBar_19 p0_18_3 ?_
    refine g_iload hC d_To_addBar_22 rfl ?_
    refine g_iload_n hC d_To_addBar_24 rfl ?_
    refine gv_iast hC ly_21 d_To_addBar_25 (fun M1 => ?_)
    refine g_aload_n hC d_To_addBar_26 rfl ?_
    refine fg_To_23 hC lc_18 d_To_addBar_27 p0_18_3 ?_
    refine g_iload hC d_To_addBar_30 rfl ?_
    refine g_iconst hC d_To_addBar_32 k_i1 ?_
    refine g_iadd hC d_To_addBar_33 ?_
    refine g_iload_n hC d_To_addBar_34 rfl ?_
    refine gv_iast hC ly_21 d_To_addBar_35 (fun M2 => ?_)
    refine g_aload_n hC d_To_addBar_36 rfl ?_
    refine fg_To_23 hC lc_18 d_To_addBar_37 p0_18_3 ?_
    refine g_iload hC d_To_addBar_40 rfl ?_
    refine g_iconst hC d_To_addBar_42 k_i2 ?_
    refine g_iadd hC d_To_addBar_43 ?_
    refine g_iload_n hC d_To_addBar_44 rfl ?_
    refine gv_iast hC ly_21 d_To_addBar_45 (fun M3 => ?_)
    refine g_aload_n hC d_To_addBar_46 rfl ?_
    refine fg_To_23 hC lc_18 d_To_addBar_47 p0_18_3 ?_
    refine g_iload hC d_To_addBar_50 rfl ?_
    refine g_iconst hC d_To_addBar_52 k_i3 ?_
    refine g_iadd hC d_To_addBar_53 ?_
    refine g_iload hC d_To_addBar_54 rfl ?_
    refine gv_iast hC ly_21 d_To_addBar_56 (fun M4 => ?_)
    refine g_aload_n hC d_To_addBar_57 rfl ?_
    refine g_dup hC d_To_addBar_58 rfl ?_
    refine fg_To_47 hC lc_18 d_To_addBar_59 ?_
    refine g_iconst hC d_To_addBar_62 k_i1 ?_
    refine g_iadd hC d_To_addBar_63 ?_
    refine fp_To_47 hC lc_18 d_To_addBar_64 (fun M5 => ?_)
    exact g_vret hC hR d_To_addBar_67
  · exact g_vret hC hR d_To_addBar_9
theorem d_Re_takeBarSentence_0 : decode prog_8_method_15_code 0 = .ok (.aload_n 0, 1) := by decide +kernel
theorem d_Re_takeBarSentence_1 : decode prog_8_method_15_code 1 = .ok (.getfield 15, 3) := by decide +kernel
theorem d_Re_takeBarSentence_4 : decode prog_8_method_15_code 4 = .ok (.getfield 167, 3) := by decide +kernel
theorem d_Re_takeBarSentence_7 : decode prog_8_method_15_code 7 = .ok (.bipush 30, 2) := by decide +kernel
theorem d_Re_takeBarSentence_9 : decode prog_8_method_15_code 9 = .ok (.if_icmp .lt 9, 3) := by decide +kernel
theorem d_Re_takeBarSentence_12 : decode prog_8_method_15_code 12 = .ok (.aload_n 0, 1) := by decide +kernel
theorem d_Re_takeBarSentence_13 : decode prog_8_method_15_code 13 = .ok (.iconst 3, 1) := by decide +kernel
theorem d_Re_takeBarSentence_14 : decode prog_8_method_15_code 14 = .ok (.invokevirtual 88, 3) := by decide +kernel
theorem d_Re_takeBarSentence_17 : decode prog_8_method_15_code 17 = .ok (.ireturn, 1) := by decide +kernel
theorem d_Re_takeBarSentence_18 : decode prog_8_method_15_code 18 = .ok (.aload_n 0, 1) := by decide +kernel
theorem d_Re_takeBarSentence_19 : decode prog_8_method_15_code 19 = .ok (.invokevirtual 31, 3) := by decide +kernel
theorem d_Re_takeBarSentence_22 : decode prog_8_method_15_code 22 = .ok (.aload_n 0, 1) := by decide +kernel
theorem d_Re_takeBarSentence_23 : decode prog_8_method_15_code 23 = .ok (.iconst 1, 1) := by decide +kernel
theorem d_Re_takeBarSentence_24 : decode prog_8_method_15_code 24 = .ok (.ldc 146, 2) := by decide +kernel
theorem d_Re_takeBarSentence_26 : decode prog_8_method_15_code 26 = .ok (.invokevirtual 147, 3) := by decide +kernel
theorem d_Re_takeBarSentence_29 : decode prog_8_method_15_code 29 = .ok (.ifCond .ne 5, 3) := by decide +kernel
theorem d_Re_takeBarSentence_32 : decode prog_8_method_15_code 32 = .ok (.iconst 0, 1) := by decide +kernel
theorem d_Re_takeBarSentence_33 : decode prog_8_method_15_code 33 = .ok (.ireturn, 1) := by decide +kernel
theorem d_Re_takeBarSentence_34 : decode prog_8_method_15_code 34 = .ok (.aload_n 0, 1) := by decide +kernel
theorem d_Re_takeBarSentence_35 : decode prog_8_method_15_code 35 = .ok (.getfield 98, 3) := by decide +kernel
theorem d_Re_takeBarSentence_38 : decode prog_8_method_15_code 38 = .ok (.istore_n 1, 1) := by decide +kernel
theorem d_Re_takeBarSentence_39 : decode prog_8_method_15_code 39 = .ok (.aload_n 0, 1) := by decide +kernel
theorem d_Re_takeBarSentence_40 : decode prog_8_method_15_code 40 = .ok (.iload_n 1, 1) := by decide +kernel
theorem d_Re_takeBarSentence_41 : decode prog_8_method_15_code 41 = .ok (.invokevirtual 170, 3) := by decide +kernel
theorem d_Re_takeBarSentence_44 : decode prog_8_method_15_code 44 = .ok (.ifCond .ne 5, 3) := by decide +kernel
theorem d_Re_takeBarSentence_47 : decode prog_8_method_15_code 47 = .ok (.iconst 0, 1) := by decide +kernel
theorem d_Re_takeBarSentence_48 : decode prog_8_method_15_code 48 = .ok (.ireturn, 1) := by decide +kernel
theorem d_Re_takeBarSentence_49 : decode prog_8_method_15_code 49 = .ok (.aload_n 0, 1) := by decide +kernel
theorem d_Re_takeBarSentence_50 : decode prog_8_method_15_code 50 = .ok (.getfield 98, 3) := by decide +kernel
theorem d_Re_takeBarSentence_53 : decode prog_8_method_15_code 53 = .ok (.istore_n 2, 1) := by decide +kernel
theorem d_Re_takeBarSentence_54 : decode prog_8_method_15_code 54 = .ok (.aload_n 0, 1) := by decide +kernel
theorem d_Re_takeBarSentence_55 : decode prog_8_method_15_code 55 = .ok (.iconst 1, 1) := by decide +kernel
theorem d_Re_takeBarSentence_56 : decode prog_8_method_15_code 56 = .ok (.iload_n 1, 1) := by decide +kernel
theorem d_Re_takeBarSentence_57 : decode prog_8_method_15_code 57 = .ok (.invokevirtual 147, 3) := by decide +kernel
theorem d_Re_takeBarSentence_60 : decode prog_8_method_15_code 60 = .ok (.ifCond .ne 5, 3) := by decide +kernel
theorem d_Re_takeBarSentence_63 : decode prog_8_method_15_code 63 = .ok (.iconst 0, 1) := by decide +kernel
theorem d_Re_takeBarSentence_64 : decode prog_8_method_15_code 64 = .ok (.ireturn, 1) := by decide +kernel
theorem d_Re_takeBarSentence_65 : decode prog_8_method_15_code 65 = .ok (.aload_n 0, 1) := by decide +kernel
theorem d_Re_takeBarSentence_66 : decode prog_8_method_15_code 66 = .ok (.getfield 98, 3) := by decide +kernel
theorem d_Re_takeBarSentence_69 : decode prog_8_method_15_code 69 = .ok (.istore_n 3, 1) := by decide +kernel
theorem d_Re_takeBarSentence_70 : decode prog_8_method_15_code 70 = .ok (.aload_n 0, 1) := by decide +kernel
theorem d_Re_takeBarSentence_71 : decode prog_8_method_15_code 71 = .ok (.iload_n 3, 1) := by decide +kernel
theorem d_Re_takeBarSentence_72 : decode prog_8_method_15_code 72 = .ok (.invokevirtual 170, 3) := by decide +kernel
theorem d_Re_takeBarSentence_75 : decode prog_8_method_15_code 75 = .ok (.ifCond .ne 5, 3) := by decide +kernel
theorem d_Re_takeBarSentence_78 : decode prog_8_method_15_code 78 = .ok (.iconst 0, 1) := by decide +kernel
theorem d_Re_takeBarSentence_79 : decode prog_8_method_15_code 79 = .ok (.ireturn, 1) := by decide +kernel
theorem d_Re_takeBarSentence_80 : decode prog_8_method_15_code 80 = .ok (.aload_n 0, 1) := by decide +kernel
theorem d_Re_takeBarSentence_81 : decode prog_8_method_15_code 81 = .ok (.getfield 98, 3) := by decide +kernel
theorem d_Re_takeBarSentence_84 : decode prog_8_method_15_code 84 = .ok (.istore 4, 2) := by decide +kernel
theorem d_Re_takeBarSentence_86 : decode prog_8_method_15_code 86 = .ok (.aload_n 0, 1) := by decide +kernel
theorem d_Re_takeBarSentence_87 : decode prog_8_method_15_code 87 = .ok (.bipush 59, 2) := by decide +kernel
theorem d_Re_takeBarSentence_89 : decode prog_8_method_15_code 89 = .ok (.invokevirtual 105, 3) := by decide +kernel
theorem d_Re_takeBarSentence_92 : decode prog_8_method_15_code 92 = .ok (.ifCond .ne 5, 3) := by decide +kernel
theorem d_Re_takeBarSentence_95 : decode prog_8_method_15_code 95 = .ok (.iconst 0, 1) := by decide +kernel
theorem d_Re_takeBarSentence_96 : decode prog_8_method_15_code 96 = .ok (.ireturn, 1) := by decide +kernel
theorem d_Re_takeBarSentence_97 : decode prog_8_method_15_code 97 = .ok (.aload_n 0, 1) := by decide +kernel
theorem d_Re_takeBarSentence_98 : decode prog_8_method_15_code 98 = .ok (.getfield 15, 3) := by decide +kernel
theorem d_Re_takeBarSentence_101 : decode prog_8_method_15_code 101 = .ok (.iload_n 1, 1) := by decide +kernel
theorem d_Re_takeBarSentence_102 : decode prog_8_method_15_code 102 = .ok (.iload_n 2, 1) := by decide +kernel
theorem d_Re_takeBarSentence_103 : decode prog_8_method_15_code 103 = .ok (.iload_n 3, 1) := by decide +kernel
theorem d_Re_takeBarSentence_104 : decode prog_8_method_15_code 104 = .ok (.iload 4, 2) := by decide +kernel
theorem d_Re_takeBarSentence_106 : decode prog_8_method_15_code 106 = .ok (.invokevirtual 173, 3) := by decide +kernel
theorem d_Re_takeBarSentence_109 : decode prog_8_method_15_code 109 = .ok (.iconst 1, 1) := by decide +kernel
theorem d_Re_takeBarSentence_110 : decode prog_8_method_15_code 110 = .ok (.ireturn, 1) := by decide +kernel
set_option maxHeartbeats 2000000 in
theorem Re_takeBarSentence_c {l : Launch} {θ : tv_Th} (F : Nat) (M : tv_M) : tv_Ct l θ ⟨"TiedViews$Reader", "takeBarSentence", "()Z"⟩ prog_8_method_15_code 5 (some .boolean) 4 tv_ei [.ref (θ.1 + 68)] M (Re_takeBarSentence F M) := by
  refine tv_ofG [some (.ref (θ.1 + 68)), none, none, none, none] rfl rfl (tv_ent 4 rfl) ?_
  intro κ hl ht hC hR
  subst hl; subst ht
  unfold Re_takeBarSentence
  refine g_aload_n hC d_Re_takeBarSentence_0 rfl ?_
  refine fg_Re_15 hC lc_68 d_Re_takeBarSentence_1 p0_68_0 ?_
  refine fg_Re_167 hC lc_18 d_Re_takeBarSentence_4 ?_
  refine g_bipush hC d_Re_takeBarSentence_7 k_b30 ?_
  refine g_icmp_lt (tgt := 18) hC d_Re_takeBarSentence_9 (by decide) (fun _ => ?_) (fun _ => ?_)
  · refine g_aload_n hC d_Re_takeBarSentence_18 rfl ?_
    refine gv_callVv hC [] cw_Re_31 (Re_goOn_c F M) lc_68 rfl rfl rfl rfl rfl rfl rfl d_Re_takeBarSentence_19 (fun r1 M2 => ?_)
    refine g_aload_n hC d_Re_takeBarSentence_22 rfl ?_
    refine g_iconst hC d_Re_takeBarSentence_23 k_i1 ?_
    refine g_ldc hC d_Re_takeBarSentence_24 wk_Re_146 ?_
    refine gv_callVi hC [.int 1, .int (-1000000)] cw_Re_147 (Re_takeEye_c F 1 (-1000000) M2) lc_68 rfl rfl rfl rfl rfl rfl rfl d_Re_takeBarSentence_26 (fun r3 M4 => ?_)
    refine g_if_ne (tgt := 34) hC d_Re_takeBarSentence_29 (by decide) (fun _ => ?_) (fun _ => ?_)
    · refine g_aload_n hC d_Re_takeBarSentence_34 rfl ?_
      refine fg_Re_98 hC lc_68 d_Re_takeBarSentence_35 ?_
      refine g_istore_n (ls' := [some (.ref (κ.b + 68)), some (.int (M4.1 68 8)), none, none, none]) hC d_Re_takeBarSentence_38 rfl rfl ?_
      refine g_aload_n hC d_Re_takeBarSentence_39 rfl ?_
      refine g_iload_n hC d_Re_takeBarSentence_40 rfl ?_
      refine gv_callVi hC [.int (M4.1 68 8)] cw_Re_170 (Re_takeValueOf_c F (M4.1 68 8) M4) lc_68 rfl rfl rfl rfl rfl rfl rfl d_Re_takeBarSentence_41 (fun r5 M6 => ?_)
      refine g_if_ne (tgt := 49) hC d_Re_takeBarSentence_44 (by decide) (fun _ => ?_) (fun _ => ?_)
      · refine g_aload_n hC d_Re_takeBarSentence_49 rfl ?_
        refine fg_Re_98 hC lc_68 d_Re_takeBarSentence_50 ?_
        refine g_istore_n (ls' := [some (.ref (κ.b + 68)), some (.int (M4.1 68 8)), some (.int (M6.1 68 8)), none, none]) hC d_Re_takeBarSentence_53 rfl rfl ?_
        refine g_aload_n hC d_Re_takeBarSentence_54 rfl ?_
        refine g_iconst hC d_Re_takeBarSentence_55 k_i1 ?_
        refine g_iload_n hC d_Re_takeBarSentence_56 rfl ?_
        refine gv_callVi hC [.int 1, .int (M4.1 68 8)] cw_Re_147 (Re_takeEye_c F 1 (M4.1 68 8) M6) lc_68 rfl rfl rfl rfl rfl rfl rfl d_Re_takeBarSentence_57 (fun r7 M8 => ?_)
        refine g_if_ne (tgt := 65) hC d_Re_takeBarSentence_60 (by decide) (fun _ => ?_) (fun _ => ?_)
        · refine g_aload_n hC d_Re_takeBarSentence_65 rfl ?_
          refine fg_Re_98 hC lc_68 d_Re_takeBarSentence_66 ?_
          refine g_istore_n (ls' := [some (.ref (κ.b + 68)), some (.int (M4.1 68 8)), some (.int (M6.1 68 8)), some (.int (M8.1 68 8)), none]) hC d_Re_takeBarSentence_69 rfl rfl ?_
          refine g_aload_n hC d_Re_takeBarSentence_70 rfl ?_
          refine g_iload_n hC d_Re_takeBarSentence_71 rfl ?_
          refine gv_callVi hC [.int (M8.1 68 8)] cw_Re_170 (Re_takeValueOf_c F (M8.1 68 8) M8) lc_68 rfl rfl rfl rfl rfl rfl rfl d_Re_takeBarSentence_72 (fun r9 M10 => ?_)
          refine g_if_ne (tgt := 80) hC d_Re_takeBarSentence_75 (by decide) (fun _ => ?_) (fun _ => ?_)
          · refine g_aload_n hC d_Re_takeBarSentence_80 rfl ?_
            refine fg_Re_98 hC lc_68 d_Re_takeBarSentence_81 ?_
            refine g_istore (ls' := [some (.ref (κ.b + 68)), some (.int (M4.1 68 8)), some (.int (M6.1 68 8)), some (.int (M8.1 68 8)), some (.int (M10.1 68 8))]) hC d_Re_takeBarSentence_84 rfl rfl ?_
            refine g_aload_n hC d_Re_takeBarSentence_86 rfl ?_
            refine g_bipush hC d_Re_takeBarSentence_87 k_b59 ?_
            refine gv_callVi hC [.int 59] cw_Re_105 (Re_takeSign_c F 59 M10) lc_68 rfl rfl rfl rfl rfl rfl rfl d_Re_takeBarSentence_89 (fun r11 M12 => ?_)
            refine g_if_ne (tgt := 97) hC d_Re_takeBarSentence_92 (by decide) (fun _ => ?_) (fun _ => ?_)
            · refine g_aload_n hC d_Re_takeBarSentence_97 rfl ?_
              refine fg_Re_15 hC lc_68 d_Re_takeBarSentence_98 p0_68_0 ?_
              refine g_iload_n hC d_Re_takeBarSentence_101 rfl ?_
              refine g_iload_n hC d_Re_takeBarSentence_102 rfl ?_
              refine g_iload_n hC d_Re_takeBarSentence_103 rfl ?_
              refine g_iload hC d_Re_takeBarSentence_104 rfl ?_
              refine gv_callVv hC [.int (M4.1 68 8), .int (M6.1 68 8), .int (M8.1 68 8), .int (M10.1 68 8)] cw_Re_173 (To_addBar_c F (M4.1 68 8) (M6.1 68 8) (M8.1 68 8) (M10.1 68 8) M12) lc_18 rfl rfl rfl rfl rfl rfl rfl d_Re_takeBarSentence_106 (fun r13 M14 => ?_)
              refine g_iconst hC d_Re_takeBarSentence_109 k_i1 ?_
              exact g_zret hC hR tv_z1 d_Re_takeBarSentence_110
            · refine g_iconst hC d_Re_takeBarSentence_95 k_i0 ?_
              exact g_zret hC hR tv_z0 d_Re_takeBarSentence_96
          · refine g_iconst hC d_Re_takeBarSentence_78 k_i0 ?_
            exact g_zret hC hR tv_z0 d_Re_takeBarSentence_79
        · refine g_iconst hC d_Re_takeBarSentence_63 k_i0 ?_
          exact g_zret hC hR tv_z0 d_Re_takeBarSentence_64
      · refine g_iconst hC d_Re_takeBarSentence_47 k_i0 ?_
        exact g_zret hC hR tv_z0 d_Re_takeBarSentence_48
    · refine g_iconst hC d_Re_takeBarSentence_32 k_i0 ?_
      exact g_zret hC hR tv_z0 d_Re_takeBarSentence_33
  · refine g_aload_n hC d_Re_takeBarSentence_12 rfl ?_
    refine g_iconst hC d_Re_takeBarSentence_13 k_i3 ?_
    refine gv_callVi hC [.int 3] cw_Re_88 (Re_fails_c F 3 M) lc_68 rfl rfl rfl rfl rfl rfl rfl d_Re_takeBarSentence_14 (fun r15 M16 => ?_)
    refine g_zo (fun z17 => ?_)
    exact g_zret hC hR z17 d_Re_takeBarSentence_17
theorem d_Re_takeSentence_0 : decode prog_8_method_10_code 0 = .ok (.aload_n 0, 1) := by decide +kernel
theorem d_Re_takeSentence_1 : decode prog_8_method_10_code 1 = .ok (.ldc 69, 2) := by decide +kernel
theorem d_Re_takeSentence_3 : decode prog_8_method_10_code 3 = .ok (.invokevirtual 71, 3) := by decide +kernel
theorem d_Re_takeSentence_6 : decode prog_8_method_10_code 6 = .ok (.ifCond .eq 8, 3) := by decide +kernel
theorem d_Re_takeSentence_9 : decode prog_8_method_10_code 9 = .ok (.aload_n 0, 1) := by decide +kernel
theorem d_Re_takeSentence_10 : decode prog_8_method_10_code 10 = .ok (.invokevirtual 75, 3) := by decide +kernel
theorem d_Re_takeSentence_13 : decode prog_8_method_10_code 13 = .ok (.ireturn, 1) := by decide +kernel
theorem d_Re_takeSentence_14 : decode prog_8_method_10_code 14 = .ok (.aload_n 0, 1) := by decide +kernel
theorem d_Re_takeSentence_15 : decode prog_8_method_10_code 15 = .ok (.ldc 78, 2) := by decide +kernel
theorem d_Re_takeSentence_17 : decode prog_8_method_10_code 17 = .ok (.invokevirtual 71, 3) := by decide +kernel
theorem d_Re_takeSentence_20 : decode prog_8_method_10_code 20 = .ok (.ifCond .eq 8, 3) := by decide +kernel
theorem d_Re_takeSentence_23 : decode prog_8_method_10_code 23 = .ok (.aload_n 0, 1) := by decide +kernel
theorem d_Re_takeSentence_24 : decode prog_8_method_10_code 24 = .ok (.invokevirtual 80, 3) := by decide +kernel
theorem d_Re_takeSentence_27 : decode prog_8_method_10_code 27 = .ok (.ireturn, 1) := by decide +kernel
theorem d_Re_takeSentence_28 : decode prog_8_method_10_code 28 = .ok (.aload_n 0, 1) := by decide +kernel
theorem d_Re_takeSentence_29 : decode prog_8_method_10_code 29 = .ok (.ldc 83, 2) := by decide +kernel
theorem d_Re_takeSentence_31 : decode prog_8_method_10_code 31 = .ok (.invokevirtual 71, 3) := by decide +kernel
theorem d_Re_takeSentence_34 : decode prog_8_method_10_code 34 = .ok (.ifCond .eq 10, 3) := by decide +kernel
theorem d_Re_takeSentence_37 : decode prog_8_method_10_code 37 = .ok (.aload_n 0, 1) := by decide +kernel
theorem d_Re_takeSentence_38 : decode prog_8_method_10_code 38 = .ok (.invokevirtual 85, 3) := by decide +kernel
theorem d_Re_takeSentence_41 : decode prog_8_method_10_code 41 = .ok (.goto 8, 3) := by decide +kernel
theorem d_Re_takeSentence_44 : decode prog_8_method_10_code 44 = .ok (.aload_n 0, 1) := by decide +kernel
theorem d_Re_takeSentence_45 : decode prog_8_method_10_code 45 = .ok (.iconst 1, 1) := by decide +kernel
theorem d_Re_takeSentence_46 : decode prog_8_method_10_code 46 = .ok (.invokevirtual 88, 3) := by decide +kernel
theorem d_Re_takeSentence_49 : decode prog_8_method_10_code 49 = .ok (.ireturn, 1) := by decide +kernel
set_option maxHeartbeats 2000000 in
theorem Re_takeSentence_c {l : Launch} {θ : tv_Th} (F : Nat) (M : tv_M) : tv_Ct l θ ⟨"TiedViews$Reader", "takeSentence", "()Z"⟩ prog_8_method_10_code 1 (some .boolean) 7 tv_ei [.ref (θ.1 + 68)] M (Re_takeSentence F M) := by
  refine tv_ofG [some (.ref (θ.1 + 68))] rfl rfl (tv_ent 0 rfl) ?_
  intro κ hl ht hC hR
  subst hl; subst ht
  unfold Re_takeSentence
  refine g_aload_n hC d_Re_takeSentence_0 rfl ?_
  refine g_lds hC 0 rfl d_Re_takeSentence_1 ?_
  refine gv_callVi hC [.ref (κ.th.2.2.2.1 0)] cw_Re_71 (Re_isWord_c F 0 M) lc_68 rfl rfl rfl rfl rfl rfl rfl d_Re_takeSentence_3 (fun r1 M2 => ?_)
  refine g_if_eq (tgt := 14) hC d_Re_takeSentence_6 (by decide) (fun _ => ?_) (fun _ => ?_)
  · refine g_aload_n hC d_Re_takeSentence_14 rfl ?_
    refine g_lds hC 5 rfl d_Re_takeSentence_15 ?_
    refine gv_callVi hC [.ref (κ.th.2.2.2.1 5)] cw_Re_71 (Re_isWord_c F 5 M2) lc_68 rfl rfl rfl rfl rfl rfl rfl d_Re_takeSentence_17 (fun r3 M4 => ?_)
    refine g_if_eq (tgt := 28) hC d_Re_takeSentence_20 (by decide) (fun _ => ?_) (fun _ => ?_)
    · refine g_aload_n hC d_Re_takeSentence_28 rfl ?_
      refine g_lds hC 8 rfl d_Re_takeSentence_29 ?_
      refine gv_callVi hC [.ref (κ.th.2.2.2.1 8)] cw_Re_71 (Re_isWord_c F 8 M4) lc_68 rfl rfl rfl rfl rfl rfl rfl d_Re_takeSentence_31 (fun r5 M6 => ?_)
      refine g_if_eq (tgt := 44) hC d_Re_takeSentence_34 (by decide) (fun _ => ?_) (fun _ => ?_)
      · refine g_aload_n hC d_Re_takeSentence_44 rfl ?_
        refine g_iconst hC d_Re_takeSentence_45 k_i1 ?_
        refine gv_callVi hC [.int 1] cw_Re_88 (Re_fails_c F 1 M6) lc_68 rfl rfl rfl rfl rfl rfl rfl d_Re_takeSentence_46 (fun r7 M8 => ?_)
        refine g_zo (fun z9 => ?_)
        exact g_zret hC hR z9 d_Re_takeSentence_49
      · refine g_aload_n hC d_Re_takeSentence_37 rfl ?_
        refine gv_callVi hC [] cw_Re_85 (Re_takeBarSentence_c F M6) lc_68 rfl rfl rfl rfl rfl rfl rfl d_Re_takeSentence_38 (fun r10 M11 => ?_)
        refine g_goto (tgt := 49) hC d_Re_takeSentence_41 (by decide) ?_
        refine g_zo (fun z12 => ?_)
        exact g_zret hC hR z12 d_Re_takeSentence_49
    · refine g_aload_n hC d_Re_takeSentence_23 rfl ?_
      refine gv_callVi hC [] cw_Re_80 (Re_takeTieSentence_c F M4) lc_68 rfl rfl rfl rfl rfl rfl rfl d_Re_takeSentence_24 (fun r13 M14 => ?_)
      refine g_zo (fun z15 => ?_)
      exact g_zret hC hR z15 d_Re_takeSentence_27
  · refine g_aload_n hC d_Re_takeSentence_9 rfl ?_
    refine gv_callVi hC [] cw_Re_75 (Re_takeEyeSentence_c F M2) lc_68 rfl rfl rfl rfl rfl rfl rfl d_Re_takeSentence_10 (fun r16 M17 => ?_)
    refine g_zo (fun z18 => ?_)
    exact g_zret hC hR z18 d_Re_takeSentence_13
theorem d_To_goBack_0 : decode prog_12_method_3_code 0 = .ok (.aload_n 0, 1) := by decide +kernel
theorem d_To_goBack_1 : decode prog_12_method_3_code 1 = .ok (.aload_n 0, 1) := by decide +kernel
theorem d_To_goBack_2 : decode prog_12_method_3_code 2 = .ok (.getfield 38, 3) := by decide +kernel
theorem d_To_goBack_5 : decode prog_12_method_3_code 5 = .ok (.putfield 35, 3) := by decide +kernel
theorem d_To_goBack_8 : decode prog_12_method_3_code 8 = .ok (.aload_n 0, 1) := by decide +kernel
theorem d_To_goBack_9 : decode prog_12_method_3_code 9 = .ok (.aload_n 0, 1) := by decide +kernel
theorem d_To_goBack_10 : decode prog_12_method_3_code 10 = .ok (.getfield 44, 3) := by decide +kernel
theorem d_To_goBack_13 : decode prog_12_method_3_code 13 = .ok (.putfield 41, 3) := by decide +kernel
theorem d_To_goBack_16 : decode prog_12_method_3_code 16 = .ok (.aload_n 0, 1) := by decide +kernel
theorem d_To_goBack_17 : decode prog_12_method_3_code 17 = .ok (.aload_n 0, 1) := by decide +kernel
theorem d_To_goBack_18 : decode prog_12_method_3_code 18 = .ok (.getfield 50, 3) := by decide +kernel
theorem d_To_goBack_21 : decode prog_12_method_3_code 21 = .ok (.putfield 47, 3) := by decide +kernel
theorem d_To_goBack_24 : decode prog_12_method_3_code 24 = .ok (.aload_n 0, 1) := by decide +kernel
theorem d_To_goBack_25 : decode prog_12_method_3_code 25 = .ok (.aload_n 0, 1) := by decide +kernel
theorem d_To_goBack_26 : decode prog_12_method_3_code 26 = .ok (.getfield 56, 3) := by decide +kernel
theorem d_To_goBack_29 : decode prog_12_method_3_code 29 = .ok (.putfield 53, 3) := by decide +kernel
theorem d_To_goBack_32 : decode prog_12_method_3_code 32 = .ok (.aload_n 0, 1) := by decide +kernel
theorem d_To_goBack_33 : decode prog_12_method_3_code 33 = .ok (.aload_n 0, 1) := by decide +kernel
theorem d_To_goBack_34 : decode prog_12_method_3_code 34 = .ok (.getfield 62, 3) := by decide +kernel
theorem d_To_goBack_37 : decode prog_12_method_3_code 37 = .ok (.putfield 59, 3) := by decide +kernel
theorem d_To_goBack_40 : decode prog_12_method_3_code 40 = .ok (.return_, 1) := by decide +kernel
set_option maxHeartbeats 2000000 in
theorem To_goBack_c {l : Launch} {θ : tv_Th} (F : Nat) (M : tv_M) : tv_Ct l θ ⟨"TiedViews$Told", "goBack", "()V"⟩ prog_12_method_3_code 1 none 0 tv_ev [.ref (θ.1 + 18)] M (To_goBack F M) := by
  refine tv_ofG [some (.ref (θ.1 + 18))] rfl rfl (tv_ent 0 rfl) ?_
  intro κ hl ht hC hR
  subst hl; subst ht
  unfold To_goBack
  refine g_aload_n hC d_To_goBack_0 rfl ?_
  refine g_aload_n hC d_To_goBack_1 rfl ?_
  refine fg_To_38 hC lc_18 d_To_goBack_2 ?_
  refine fp_To_35 hC lc_18 d_To_goBack_5 (fun M1 => ?_)
  refine g_aload_n hC d_To_goBack_8 rfl ?_
  refine g_aload_n hC d_To_goBack_9 rfl ?_
  refine fg_To_44 hC lc_18 d_To_goBack_10 ?_
  refine fp_To_41 hC lc_18 d_To_goBack_13 (fun M2 => ?_)
  refine g_aload_n hC d_To_goBack_16 rfl ?_
  refine g_aload_n hC d_To_goBack_17 rfl ?_
  refine fg_To_50 hC lc_18 d_To_goBack_18 ?_
  refine fp_To_47 hC lc_18 d_To_goBack_21 (fun M3 => ?_)
  refine g_aload_n hC d_To_goBack_24 rfl ?_
  refine g_aload_n hC d_To_goBack_25 rfl ?_
  refine fg_To_56 hC lc_18 d_To_goBack_26 ?_
  refine fp_To_53 hC lc_18 d_To_goBack_29 (fun M4 => ?_)
  refine g_aload_n hC d_To_goBack_32 rfl ?_
  refine g_aload_n hC d_To_goBack_33 rfl ?_
  refine fg_To_62 hC lc_18 d_To_goBack_34 ?_
  refine fp_To_59 hC lc_18 d_To_goBack_37 (fun M5 => ?_)
  exact g_vret hC hR d_To_goBack_40
theorem d_Re_takeIn_0 : decode prog_8_method_4_code 0 = .ok (.aload_n 0, 1) := by decide +kernel
theorem d_Re_takeIn_1 : decode prog_8_method_4_code 1 = .ok (.getfield 15, 3) := by decide +kernel
theorem d_Re_takeIn_4 : decode prog_8_method_4_code 4 = .ok (.invokevirtual 23, 3) := by decide +kernel
theorem d_Re_takeIn_7 : decode prog_8_method_4_code 7 = .ok (.aload_n 0, 1) := by decide +kernel
theorem d_Re_takeIn_8 : decode prog_8_method_4_code 8 = .ok (.iconst 0, 1) := by decide +kernel
theorem d_Re_takeIn_9 : decode prog_8_method_4_code 9 = .ok (.putfield 28, 3) := by decide +kernel
theorem d_Re_takeIn_12 : decode prog_8_method_4_code 12 = .ok (.aload_n 0, 1) := by decide +kernel
theorem d_Re_takeIn_13 : decode prog_8_method_4_code 13 = .ok (.invokevirtual 31, 3) := by decide +kernel
theorem d_Re_takeIn_16 : decode prog_8_method_4_code 16 = .ok (.iconst 1, 1) := by decide +kernel
theorem d_Re_takeIn_17 : decode prog_8_method_4_code 17 = .ok (.istore_n 1, 1) := by decide +kernel
theorem d_Re_takeIn_18 : decode prog_8_method_4_code 18 = .ok (.iconst 0, 1) := by decide +kernel
theorem d_Re_takeIn_19 : decode prog_8_method_4_code 19 = .ok (.istore_n 2, 1) := by decide +kernel
theorem d_Re_takeIn_20 : decode prog_8_method_4_code 20 = .ok (.iload_n 2, 1) := by decide +kernel
theorem d_Re_takeIn_21 : decode prog_8_method_4_code 21 = .ok (.sipush 500, 3) := by decide +kernel
theorem d_Re_takeIn_24 : decode prog_8_method_4_code 24 = .ok (.if_icmp .ge 25, 3) := by decide +kernel
theorem d_Re_takeIn_27 : decode prog_8_method_4_code 27 = .ok (.iload_n 1, 1) := by decide +kernel
theorem d_Re_takeIn_28 : decode prog_8_method_4_code 28 = .ok (.ifCond .eq 21, 3) := by decide +kernel
theorem d_Re_takeIn_31 : decode prog_8_method_4_code 31 = .ok (.aload_n 0, 1) := by decide +kernel
theorem d_Re_takeIn_32 : decode prog_8_method_4_code 32 = .ok (.getfield 34, 3) := by decide +kernel
theorem d_Re_takeIn_35 : decode prog_8_method_4_code 35 = .ok (.ifCond .eq 14, 3) := by decide +kernel
theorem d_Re_takeIn_38 : decode prog_8_method_4_code 38 = .ok (.aload_n 0, 1) := by decide +kernel
theorem d_Re_takeIn_39 : decode prog_8_method_4_code 39 = .ok (.invokevirtual 37, 3) := by decide +kernel
theorem d_Re_takeIn_42 : decode prog_8_method_4_code 42 = .ok (.istore_n 1, 1) := by decide +kernel
theorem d_Re_takeIn_43 : decode prog_8_method_4_code 43 = .ok (.iinc 2 1, 3) := by decide +kernel
theorem d_Re_takeIn_46 : decode prog_8_method_4_code 46 = .ok (.goto (-26), 3) := by decide +kernel
theorem d_Re_takeIn_49 : decode prog_8_method_4_code 49 = .ok (.aload_n 0, 1) := by decide +kernel
theorem d_Re_takeIn_50 : decode prog_8_method_4_code 50 = .ok (.iconst 0, 1) := by decide +kernel
theorem d_Re_takeIn_51 : decode prog_8_method_4_code 51 = .ok (.putfield 19, 3) := by decide +kernel
theorem d_Re_takeIn_54 : decode prog_8_method_4_code 54 = .ok (.iload_n 1, 1) := by decide +kernel
theorem d_Re_takeIn_55 : decode prog_8_method_4_code 55 = .ok (.ifCond .eq 5, 3) := by decide +kernel
theorem d_Re_takeIn_58 : decode prog_8_method_4_code 58 = .ok (.iconst (-1), 1) := by decide +kernel
theorem d_Re_takeIn_59 : decode prog_8_method_4_code 59 = .ok (.ireturn, 1) := by decide +kernel
theorem d_Re_takeIn_60 : decode prog_8_method_4_code 60 = .ok (.aload_n 0, 1) := by decide +kernel
theorem d_Re_takeIn_61 : decode prog_8_method_4_code 61 = .ok (.getfield 15, 3) := by decide +kernel
theorem d_Re_takeIn_64 : decode prog_8_method_4_code 64 = .ok (.invokevirtual 41, 3) := by decide +kernel
theorem d_Re_takeIn_67 : decode prog_8_method_4_code 67 = .ok (.aload_n 0, 1) := by decide +kernel
theorem d_Re_takeIn_68 : decode prog_8_method_4_code 68 = .ok (.getfield 44, 3) := by decide +kernel
theorem d_Re_takeIn_71 : decode prog_8_method_4_code 71 = .ok (.ireturn, 1) := by decide +kernel
set_option maxHeartbeats 2000000 in
theorem Re_takeIn_L49_g {κ : tv_Kt} (hC : tv_Cx κ "TiedViews$Reader" prog_8_method_4_code 3 8) (hR : tv_Re κ (some .int)) (F : Nat) (l1 : Int32) (M : tv_M) : tv_G κ 3 (tv_Qm κ tv_ei) 49 [some (.ref (κ.b + 68)), some (.int l1), none] [] M (Re_takeIn_L49 F l1 M) := by
  rw [Re_takeIn_L49]
  refine g_aload_n hC d_Re_takeIn_49 rfl ?_
  refine g_iconst hC d_Re_takeIn_50 k_i0 ?_
  refine fp_Re_19 hC lc_68 d_Re_takeIn_51 (fun M8 => ?_)
  refine g_iload_n hC d_Re_takeIn_54 rfl ?_
  refine g_if_eq (tgt := 60) hC d_Re_takeIn_55 (by decide) (fun _ => ?_) (fun _ => ?_)
  · refine g_aload_n hC d_Re_takeIn_60 rfl ?_
    refine fg_Re_15 hC lc_68 d_Re_takeIn_61 p0_68_0 ?_
    refine gv_callVv hC [] cw_Re_41 (To_goBack_c F M8) lc_18 rfl rfl rfl rfl rfl rfl rfl d_Re_takeIn_64 (fun r9 M10 => ?_)
    refine g_aload_n hC d_Re_takeIn_67 rfl ?_
    refine fg_Re_44 hC lc_68 d_Re_takeIn_68 ?_
    exact g_iret hC hR d_Re_takeIn_71
  · refine g_iconst hC d_Re_takeIn_58 k_im1 ?_
    exact g_iret hC hR d_Re_takeIn_59
set_option maxHeartbeats 2000000 in
theorem Re_takeIn_L20_g {κ : tv_Kt} (hC : tv_Cx κ "TiedViews$Reader" prog_8_method_4_code 3 8) (hR : tv_Re κ (some .int)) (F : Nat) : ∀ (n : Nat) (l1 : Int32) (l2 : Int32) (M : tv_M), tv_G κ 3 (tv_Qm κ tv_ei) 20 [some (.ref (κ.b + 68)), some (.int l1), some (.int l2)] [] M (Re_takeIn_L20 F n l1 l2 M) := by
  intro n
  induction n with
  | zero => intro _ _ _; exact g_none
  | succ nn ih =>
    intro l1 l2 M
    rw [Re_takeIn_L20]
    refine g_iload_n hC d_Re_takeIn_20 rfl ?_
    refine g_sipush hC d_Re_takeIn_21 k_s500 ?_
    refine g_icmp_ge (tgt := 49) hC d_Re_takeIn_24 (by decide) (fun _ => ?_) (fun _ => ?_)
    · refine g_mask [true, true, false] (ls' := [some (.ref (κ.b + 68)), some (.int l1), none]) rfl ?_
      exact Re_takeIn_L49_g hC hR F l1 M
    · refine g_iload_n hC d_Re_takeIn_27 rfl ?_
      refine g_if_eq (tgt := 49) hC d_Re_takeIn_28 (by decide) (fun _ => ?_) (fun _ => ?_)
      · refine g_mask [true, true, false] (ls' := [some (.ref (κ.b + 68)), some (.int l1), none]) rfl ?_
        exact Re_takeIn_L49_g hC hR F l1 M
      · refine g_aload_n hC d_Re_takeIn_31 rfl ?_
        refine fg_Re_34 hC lc_68 d_Re_takeIn_32 ?_
        refine g_if_eq (tgt := 49) hC d_Re_takeIn_35 (by decide) (fun _ => ?_) (fun _ => ?_)
        · refine g_mask [true, true, false] (ls' := [some (.ref (κ.b + 68)), some (.int l1), none]) rfl ?_
          exact Re_takeIn_L49_g hC hR F l1 M
        · refine g_aload_n hC d_Re_takeIn_38 rfl ?_
          refine gv_callVi hC [] cw_Re_37 (Re_takeSentence_c F M) lc_68 rfl rfl rfl rfl rfl rfl rfl d_Re_takeIn_39 (fun r6 M7 => ?_)
          refine g_istore_n (ls' := [some (.ref (κ.b + 68)), some (.int r6), some (.int l2)]) hC d_Re_takeIn_42 rfl rfl ?_
          refine g_iinc (ls' := [some (.ref (κ.b + 68)), some (.int r6), some (.int (l2 + 1))]) hC d_Re_takeIn_43 rfl k_i1 rfl rfl ?_
          refine g_goto (tgt := 20) hC d_Re_takeIn_46 (by decide) ?_
          exact ih r6 (l2 + 1) M7
set_option maxHeartbeats 2000000 in
theorem Re_takeIn_c {l : Launch} {θ : tv_Th} (F : Nat) (M : tv_M) : tv_Ct l θ ⟨"TiedViews$Reader", "takeIn", "()I"⟩ prog_8_method_4_code 3 (some .int) 8 tv_ei [.ref (θ.1 + 68)] M (Re_takeIn F M) := by
  refine tv_ofG [some (.ref (θ.1 + 68)), none, none] rfl rfl (tv_ent 2 rfl) ?_
  intro κ hl ht hC hR
  subst hl; subst ht
  unfold Re_takeIn
  refine g_aload_n hC d_Re_takeIn_0 rfl ?_
  refine fg_Re_15 hC lc_68 d_Re_takeIn_1 p0_68_0 ?_
  refine gv_callVv hC [] cw_Re_23 (To_keep_c F M) lc_18 rfl rfl rfl rfl rfl rfl rfl d_Re_takeIn_4 (fun r1 M2 => ?_)
  refine g_aload_n hC d_Re_takeIn_7 rfl ?_
  refine g_iconst hC d_Re_takeIn_8 k_i0 ?_
  refine fp_Re_28 hC lc_68 d_Re_takeIn_9 (fun M3 => ?_)
  refine g_aload_n hC d_Re_takeIn_12 rfl ?_
  refine gv_callVv hC [] cw_Re_31 (Re_goOn_c F M3) lc_68 rfl rfl rfl rfl rfl rfl rfl d_Re_takeIn_13 (fun r4 M5 => ?_)
  refine g_iconst hC d_Re_takeIn_16 k_i1 ?_
  refine g_istore_n (ls' := [some (.ref (κ.b + 68)), some (.int 1), none]) hC d_Re_takeIn_17 rfl rfl ?_
  refine g_iconst hC d_Re_takeIn_18 k_i0 ?_
  refine g_istore_n (ls' := [some (.ref (κ.b + 68)), some (.int 1), some (.int 0)]) hC d_Re_takeIn_19 rfl rfl ?_
  exact Re_takeIn_L20_g hC hR F F 1 0 M5
theorem d_Jv_min_0 : decode prog_16_method_69_code 0 = .ok (.iload_n 0, 1) := by decide +kernel
theorem d_Jv_min_1 : decode prog_16_method_69_code 1 = .ok (.iload_n 1, 1) := by decide +kernel
theorem d_Jv_min_2 : decode prog_16_method_69_code 2 = .ok (.if_icmp .gt 7, 3) := by decide +kernel
theorem d_Jv_min_5 : decode prog_16_method_69_code 5 = .ok (.iload_n 0, 1) := by decide +kernel
theorem d_Jv_min_6 : decode prog_16_method_69_code 6 = .ok (.goto 4, 3) := by decide +kernel
theorem d_Jv_min_9 : decode prog_16_method_69_code 9 = .ok (.iload_n 1, 1) := by decide +kernel
theorem d_Jv_min_10 : decode prog_16_method_69_code 10 = .ok (.ireturn, 1) := by decide +kernel
set_option maxHeartbeats 2000000 in
theorem Jv_min_c {l : Launch} {θ : tv_Th} (F : Nat) (a0 : Int32) (a1 : Int32) (M : tv_M) : tv_Ct l θ ⟨"java/lang/Math", "min", "(II)I"⟩ prog_16_method_69_code 2 (some .int) 0 tv_ei [.int a0, .int a1] M (Jv_min F a0 a1 M) := by
  refine tv_ofGF [some (.int a0), some (.int a1)] (by decide +kernel) rfl (tv_ent 0 rfl) ?_
  intro κ hl ht hC hR
  subst hl; subst ht
  unfold Jv_min
  refine g_iload_n hC d_Jv_min_0 rfl ?_
  refine g_iload_n hC d_Jv_min_1 rfl ?_
  refine g_icmp_gt (tgt := 9) hC d_Jv_min_2 (by decide) (fun _ => ?_) (fun _ => ?_)
  · refine g_iload_n hC d_Jv_min_9 rfl ?_
    exact g_iret hC hR d_Jv_min_10
  · refine g_iload_n hC d_Jv_min_5 rfl ?_
    refine g_goto (tgt := 10) hC d_Jv_min_6 (by decide) ?_
    exact g_iret hC hR d_Jv_min_10
theorem d_St_begin_0 : decode prog_10_method_2_code 0 = .ok (.aload_n 0, 1) := by decide +kernel
theorem d_St_begin_1 : decode prog_10_method_2_code 1 = .ok (.iload_n 1, 1) := by decide +kernel
theorem d_St_begin_2 : decode prog_10_method_2_code 2 = .ok (.bipush 24, 2) := by decide +kernel
theorem d_St_begin_4 : decode prog_10_method_2_code 4 = .ok (.invokestatic 33, 3) := by decide +kernel
theorem d_St_begin_7 : decode prog_10_method_2_code 7 = .ok (.putfield 39, 3) := by decide +kernel
theorem d_St_begin_10 : decode prog_10_method_2_code 10 = .ok (.aload_n 0, 1) := by decide +kernel
theorem d_St_begin_11 : decode prog_10_method_2_code 11 = .ok (.aload_n 0, 1) := by decide +kernel
theorem d_St_begin_12 : decode prog_10_method_2_code 12 = .ok (.getfield 39, 3) := by decide +kernel
theorem d_St_begin_15 : decode prog_10_method_2_code 15 = .ok (.iload_n 2, 1) := by decide +kernel
theorem d_St_begin_16 : decode prog_10_method_2_code 16 = .ok (.aload_n 0, 1) := by decide +kernel
theorem d_St_begin_17 : decode prog_10_method_2_code 17 = .ok (.getfield 22, 3) := by decide +kernel
theorem d_St_begin_20 : decode prog_10_method_2_code 20 = .ok (.invokestatic 33, 3) := by decide +kernel
theorem d_St_begin_23 : decode prog_10_method_2_code 23 = .ok (.iadd, 1) := by decide +kernel
theorem d_St_begin_24 : decode prog_10_method_2_code 24 = .ok (.putfield 42, 3) := by decide +kernel
theorem d_St_begin_27 : decode prog_10_method_2_code 27 = .ok (.aload_n 0, 1) := by decide +kernel
theorem d_St_begin_28 : decode prog_10_method_2_code 28 = .ok (.iconst 0, 1) := by decide +kernel
theorem d_St_begin_29 : decode prog_10_method_2_code 29 = .ok (.putfield 45, 3) := by decide +kernel
theorem d_St_begin_32 : decode prog_10_method_2_code 32 = .ok (.aload_n 0, 1) := by decide +kernel
theorem d_St_begin_33 : decode prog_10_method_2_code 33 = .ok (.iconst 0, 1) := by decide +kernel
theorem d_St_begin_34 : decode prog_10_method_2_code 34 = .ok (.putfield 48, 3) := by decide +kernel
theorem d_St_begin_37 : decode prog_10_method_2_code 37 = .ok (.aload_n 0, 1) := by decide +kernel
theorem d_St_begin_38 : decode prog_10_method_2_code 38 = .ok (.iconst 0, 1) := by decide +kernel
theorem d_St_begin_39 : decode prog_10_method_2_code 39 = .ok (.putfield 51, 3) := by decide +kernel
theorem d_St_begin_42 : decode prog_10_method_2_code 42 = .ok (.return_, 1) := by decide +kernel
set_option maxHeartbeats 2000000 in
theorem St_begin_c {l : Launch} {θ : tv_Th} (F : Nat) (t : Nat) (a1 : Int32) (a2 : Int32) (M : tv_M) : tv_Ct l θ ⟨"TiedViews$Steps", "begin", "(II)V"⟩ prog_10_method_2_code 3 none 1 tv_ev [.ref (θ.1 + t), .int a1, .int a2] M (St_begin F t a1 a2 M) := by
  refine tv_ofG [some (.ref (θ.1 + t)), some (.int a1), some (.int a2)] rfl rfl (tv_ent 0 rfl) ?_
  intro κ hl ht hC hR
  subst hl; subst ht
  unfold St_begin
  refine g_gl (fun h1 => ?_)
  refine g_aload_n hC d_St_begin_0 rfl ?_
  refine g_iload_n hC d_St_begin_1 rfl ?_
  refine g_bipush hC d_St_begin_2 k_b24 ?_
  refine gv_callSi hC [.int a1, .int 24] cw_St_33 (Jv_min_c F a1 24 M) rfl rfl rfl rfl rfl d_St_begin_4 (fun r2 M3 => ?_)
  refine fp_St_39 hC h1 d_St_begin_7 (fun M4 => ?_)
  refine g_aload_n hC d_St_begin_10 rfl ?_
  refine g_aload_n hC d_St_begin_11 rfl ?_
  refine fg_St_39 hC h1 d_St_begin_12 ?_
  refine g_iload_n hC d_St_begin_15 rfl ?_
  refine g_aload_n hC d_St_begin_16 rfl ?_
  refine fg_St_22 hC h1 d_St_begin_17 ?_
  refine gv_callSi hC [.int a2, .int (M4.1 t 1)] cw_St_33 (Jv_min_c F a2 (M4.1 t 1) M4) rfl rfl rfl rfl rfl d_St_begin_20 (fun r5 M6 => ?_)
  refine g_iadd hC d_St_begin_23 ?_
  refine fp_St_42 hC h1 d_St_begin_24 (fun M7 => ?_)
  refine g_aload_n hC d_St_begin_27 rfl ?_
  refine g_iconst hC d_St_begin_28 k_i0 ?_
  refine fp_St_45 hC h1 d_St_begin_29 (fun M8 => ?_)
  refine g_aload_n hC d_St_begin_32 rfl ?_
  refine g_iconst hC d_St_begin_33 k_i0 ?_
  refine fp_St_48 hC h1 d_St_begin_34 (fun M9 => ?_)
  refine g_aload_n hC d_St_begin_37 rfl ?_
  refine g_iconst hC d_St_begin_38 k_i0 ?_
  refine fp_St_51 hC h1 d_St_begin_39 (fun M10 => ?_)
  exact g_vret hC hR d_St_begin_42
theorem d_St_addLine_0 : decode prog_10_method_3_code 0 = .ok (.aload_n 0, 1) := by decide +kernel
theorem d_St_addLine_1 : decode prog_10_method_3_code 1 = .ok (.getfield 45, 3) := by decide +kernel
theorem d_St_addLine_4 : decode prog_10_method_3_code 4 = .ok (.aload_n 0, 1) := by decide +kernel
theorem d_St_addLine_5 : decode prog_10_method_3_code 5 = .ok (.getfield 27, 3) := by decide +kernel
theorem d_St_addLine_8 : decode prog_10_method_3_code 8 = .ok (.arraylength, 1) := by decide +kernel
theorem d_St_addLine_9 : decode prog_10_method_3_code 9 = .ok (.if_icmp .lt 5, 3) := by decide +kernel
theorem d_St_addLine_12 : decode prog_10_method_3_code 12 = .ok (.aconst_null, 1) := by decide +kernel
theorem d_St_addLine_13 : decode prog_10_method_3_code 13 = .ok (.areturn, 1) := by decide +kernel
theorem d_St_addLine_14 : decode prog_10_method_3_code 14 = .ok (.aload_n 0, 1) := by decide +kernel
theorem d_St_addLine_15 : decode prog_10_method_3_code 15 = .ok (.getfield 27, 3) := by decide +kernel
theorem d_St_addLine_18 : decode prog_10_method_3_code 18 = .ok (.aload_n 0, 1) := by decide +kernel
theorem d_St_addLine_19 : decode prog_10_method_3_code 19 = .ok (.getfield 45, 3) := by decide +kernel
theorem d_St_addLine_22 : decode prog_10_method_3_code 22 = .ok (.aaload, 1) := by decide +kernel
theorem d_St_addLine_23 : decode prog_10_method_3_code 23 = .ok (.astore_n 1, 1) := by decide +kernel
theorem d_St_addLine_24 : decode prog_10_method_3_code 24 = .ok (.aload_n 1, 1) := by decide +kernel
theorem d_St_addLine_25 : decode prog_10_method_3_code 25 = .ok (.iconst 0, 1) := by decide +kernel
theorem d_St_addLine_26 : decode prog_10_method_3_code 26 = .ok (.invokestatic 54, 3) := by decide +kernel
theorem d_St_addLine_29 : decode prog_10_method_3_code 29 = .ok (.aload_n 0, 1) := by decide +kernel
theorem d_St_addLine_30 : decode prog_10_method_3_code 30 = .ok (.getfield 30, 3) := by decide +kernel
theorem d_St_addLine_33 : decode prog_10_method_3_code 33 = .ok (.aload_n 0, 1) := by decide +kernel
theorem d_St_addLine_34 : decode prog_10_method_3_code 34 = .ok (.getfield 45, 3) := by decide +kernel
theorem d_St_addLine_37 : decode prog_10_method_3_code 37 = .ok (.iconst (-1), 1) := by decide +kernel
theorem d_St_addLine_38 : decode prog_10_method_3_code 38 = .ok (.iastore, 1) := by decide +kernel
theorem d_St_addLine_39 : decode prog_10_method_3_code 39 = .ok (.aload_n 0, 1) := by decide +kernel
theorem d_St_addLine_40 : decode prog_10_method_3_code 40 = .ok (.dup, 1) := by decide +kernel
theorem d_St_addLine_41 : decode prog_10_method_3_code 41 = .ok (.getfield 45, 3) := by decide +kernel
theorem d_St_addLine_44 : decode prog_10_method_3_code 44 = .ok (.iconst 1, 1) := by decide +kernel
theorem d_St_addLine_45 : decode prog_10_method_3_code 45 = .ok (.iadd, 1) := by decide +kernel
theorem d_St_addLine_46 : decode prog_10_method_3_code 46 = .ok (.putfield 45, 3) := by decide +kernel
theorem d_St_addLine_49 : decode prog_10_method_3_code 49 = .ok (.aload_n 1, 1) := by decide +kernel
theorem d_St_addLine_50 : decode prog_10_method_3_code 50 = .ok (.areturn, 1) := by decide +kernel
set_option maxHeartbeats 2000000 in
theorem St_addLine_c {l : Launch} {θ : tv_Th} (F : Nat) (t : Nat) (M : tv_M) : tv_Ct l θ ⟨"TiedViews$Steps", "addLine", "()[I"⟩ prog_10_method_3_code 2 (some (.array .int)) 1 (tv_er θ.1) [.ref (θ.1 + t)] M (St_addLine F t M) := by
  refine tv_ofG [some (.ref (θ.1 + t)), none] rfl rfl (tv_ent 1 rfl) ?_
  intro κ hl ht hC hR
  subst hl; subst ht
  unfold St_addLine
  refine g_gl (fun h1 => ?_)
  refine g_aload_n hC d_St_addLine_0 rfl ?_
  refine fg_St_45 hC h1 d_St_addLine_1 ?_
  refine g_aload_n hC d_St_addLine_4 rfl ?_
  refine g_nn (fun p2 e20 => ?_)
  refine fg_St_27 hC h1 d_St_addLine_5 e20 ?_
  refine g_gn (fun n4 h3 => ?_)
  refine g_alen hC 27 h3 (by decide) d_St_addLine_8 rfl ?_
  refine g_icmp_lt (tgt := 14) hC d_St_addLine_9 (by decide) (fun _ => ?_) (fun _ => ?_)
  · refine g_aload_n hC d_St_addLine_14 rfl ?_
    refine g_nn (fun p5 e19 => ?_)
    refine fg_St_27 hC h1 d_St_addLine_15 e19 ?_
    refine g_gn (fun n7 h6 => ?_)
    refine g_aload_n hC d_St_addLine_18 rfl ?_
    refine fg_St_45 hC h1 d_St_addLine_19 ?_
    refine gv_aald hC 3 h6 rfl d_St_addLine_22 (fun p8 => ?_)
    refine g_gn (fun n10 h9 => ?_)
    refine g_astore_n (ls' := [some (.ref (κ.b + t)), some (.ref (κ.b + p8))]) hC d_St_addLine_23 rfl rfl ?_
    refine g_aload_n hC d_St_addLine_24 rfl ?_
    refine g_iconst hC d_St_addLine_25 k_i0 ?_
    refine gv_callSv hC [.ref (κ.b + p8), .int 0] cw_St_54 (Jv_fill_c F p8 0 M) rfl rfl rfl rfl rfl d_St_addLine_26 (fun r11 M12 => ?_)
    refine g_aload_n hC d_St_addLine_29 rfl ?_
    refine g_nn (fun p13 e18 => ?_)
    refine fg_St_30 hC h1 d_St_addLine_30 e18 ?_
    refine g_gn (fun n15 h14 => ?_)
    refine g_aload_n hC d_St_addLine_33 rfl ?_
    refine fg_St_45 hC h1 d_St_addLine_34 ?_
    refine g_iconst hC d_St_addLine_37 k_im1 ?_
    refine gv_iast hC h14 d_St_addLine_38 (fun M16 => ?_)
    refine g_aload_n hC d_St_addLine_39 rfl ?_
    refine g_dup hC d_St_addLine_40 rfl ?_
    refine fg_St_45 hC h1 d_St_addLine_41 ?_
    refine g_iconst hC d_St_addLine_44 k_i1 ?_
    refine g_iadd hC d_St_addLine_45 ?_
    refine fp_St_45 hC h1 d_St_addLine_46 (fun M17 => ?_)
    refine g_aload_n hC d_St_addLine_49 rfl ?_
    exact g_aret hC hR (Or.inr ⟨_, rfl⟩) (some p8) d_St_addLine_50
  · refine g_null hC d_St_addLine_12 ?_
    exact g_aret hC hR (Or.inr ⟨_, rfl⟩) (none) d_St_addLine_13
theorem d_Xx_restOf_0 : decode prog_1_method_39_code 0 = .ok (.iload_n 1, 1) := by decide +kernel
theorem d_Xx_restOf_1 : decode prog_1_method_39_code 1 = .ok (.iconst 2, 1) := by decide +kernel
theorem d_Xx_restOf_2 : decode prog_1_method_39_code 2 = .ok (.if_icmp .ge 7, 3) := by decide +kernel
theorem d_Xx_restOf_5 : decode prog_1_method_39_code 5 = .ok (.iconst 0, 1) := by decide +kernel
theorem d_Xx_restOf_6 : decode prog_1_method_39_code 6 = .ok (.goto 6, 3) := by decide +kernel
theorem d_Xx_restOf_9 : decode prog_1_method_39_code 9 = .ok (.iload_n 0, 1) := by decide +kernel
theorem d_Xx_restOf_10 : decode prog_1_method_39_code 10 = .ok (.iload_n 1, 1) := by decide +kernel
theorem d_Xx_restOf_11 : decode prog_1_method_39_code 11 = .ok (.irem, 1) := by decide +kernel
theorem d_Xx_restOf_12 : decode prog_1_method_39_code 12 = .ok (.ireturn, 1) := by decide +kernel
set_option maxHeartbeats 2000000 in
theorem Xx_restOf_c {l : Launch} {θ : tv_Th} (F : Nat) (a0 : Int32) (a1 : Int32) (M : tv_M) : tv_Ct l θ ⟨"TiedViews", "restOf", "(II)I"⟩ prog_1_method_39_code 2 (some .int) 0 tv_ei [.int a0, .int a1] M (Xx_restOf F a0 a1 M) := by
  refine tv_ofG [some (.int a0), some (.int a1)] rfl rfl (tv_ent 0 rfl) ?_
  intro κ hl ht hC hR
  subst hl; subst ht
  unfold Xx_restOf
  refine g_iload_n hC d_Xx_restOf_0 rfl ?_
  refine g_iconst hC d_Xx_restOf_1 k_i2 ?_
  refine g_icmp_ge (tgt := 9) hC d_Xx_restOf_2 (by decide) (fun _ => ?_) (fun _ => ?_)
  · refine g_iload_n hC d_Xx_restOf_9 rfl ?_
    refine g_iload_n hC d_Xx_restOf_10 rfl ?_
    refine g_irem hC d_Xx_restOf_11 ?_
    exact g_iret hC hR d_Xx_restOf_12
  · refine g_iconst hC d_Xx_restOf_5 k_i0 ?_
    refine g_goto (tgt := 12) hC d_Xx_restOf_6 (by decide) ?_
    exact g_iret hC hR d_Xx_restOf_12
theorem d_To_writeLine_0 : decode prog_12_method_16_code 0 = .ok (.aload_n 0, 1) := by decide +kernel
theorem d_To_writeLine_1 : decode prog_12_method_16_code 1 = .ok (.aload_n 1, 1) := by decide +kernel
theorem d_To_writeLine_2 : decode prog_12_method_16_code 2 = .ok (.getfield 88, 3) := by decide +kernel
theorem d_To_writeLine_5 : decode prog_12_method_16_code 5 = .ok (.invokevirtual 91, 3) := by decide +kernel
theorem d_To_writeLine_8 : decode prog_12_method_16_code 8 = .ok (.astore 4, 2) := by decide +kernel
theorem d_To_writeLine_10 : decode prog_12_method_16_code 10 = .ok (.aload_n 0, 1) := by decide +kernel
theorem d_To_writeLine_11 : decode prog_12_method_16_code 11 = .ok (.aload_n 1, 1) := by decide +kernel
theorem d_To_writeLine_12 : decode prog_12_method_16_code 12 = .ok (.getfield 94, 3) := by decide +kernel
theorem d_To_writeLine_15 : decode prog_12_method_16_code 15 = .ok (.invokevirtual 91, 3) := by decide +kernel
theorem d_To_writeLine_18 : decode prog_12_method_16_code 18 = .ok (.astore 5, 2) := by decide +kernel
theorem d_To_writeLine_20 : decode prog_12_method_16_code 20 = .ok (.aload 4, 2) := by decide +kernel
theorem d_To_writeLine_22 : decode prog_12_method_16_code 22 = .ok (.ifnull 17, 3) := by decide +kernel
theorem d_To_writeLine_25 : decode prog_12_method_16_code 25 = .ok (.aload 5, 2) := by decide +kernel
theorem d_To_writeLine_27 : decode prog_12_method_16_code 27 = .ok (.ifnull 12, 3) := by decide +kernel
theorem d_To_writeLine_30 : decode prog_12_method_16_code 30 = .ok (.iload_n 2, 1) := by decide +kernel
theorem d_To_writeLine_31 : decode prog_12_method_16_code 31 = .ok (.ifCond .lt 8, 3) := by decide +kernel
theorem d_To_writeLine_34 : decode prog_12_method_16_code 34 = .ok (.iload_n 2, 1) := by decide +kernel
theorem d_To_writeLine_35 : decode prog_12_method_16_code 35 = .ok (.iconst 3, 1) := by decide +kernel
theorem d_To_writeLine_36 : decode prog_12_method_16_code 36 = .ok (.if_icmp .lt 4, 3) := by decide +kernel
theorem d_To_writeLine_39 : decode prog_12_method_16_code 39 = .ok (.return_, 1) := by decide +kernel
theorem d_To_writeLine_40 : decode prog_12_method_16_code 40 = .ok (.iload_n 2, 1) := by decide +kernel
theorem d_To_writeLine_41 : decode prog_12_method_16_code 41 = .ok (.iconst 3, 1) := by decide +kernel
theorem d_To_writeLine_42 : decode prog_12_method_16_code 42 = .ok (.imul, 1) := by decide +kernel
theorem d_To_writeLine_43 : decode prog_12_method_16_code 43 = .ok (.istore 6, 2) := by decide +kernel
theorem d_To_writeLine_45 : decode prog_12_method_16_code 45 = .ok (.iconst 0, 1) := by decide +kernel
theorem d_To_writeLine_46 : decode prog_12_method_16_code 46 = .ok (.istore 7, 2) := by decide +kernel
theorem d_To_writeLine_48 : decode prog_12_method_16_code 48 = .ok (.iload 7, 2) := by decide +kernel
theorem d_To_writeLine_50 : decode prog_12_method_16_code 50 = .ok (.aload 4, 2) := by decide +kernel
theorem d_To_writeLine_52 : decode prog_12_method_16_code 52 = .ok (.getfield 97, 3) := by decide +kernel
theorem d_To_writeLine_55 : decode prog_12_method_16_code 55 = .ok (.if_icmp .ge 29, 3) := by decide +kernel
theorem d_To_writeLine_58 : decode prog_12_method_16_code 58 = .ok (.aload_n 3, 1) := by decide +kernel
theorem d_To_writeLine_59 : decode prog_12_method_16_code 59 = .ok (.aload 4, 2) := by decide +kernel
theorem d_To_writeLine_61 : decode prog_12_method_16_code 61 = .ok (.getfield 100, 3) := by decide +kernel
theorem d_To_writeLine_64 : decode prog_12_method_16_code 64 = .ok (.iload 7, 2) := by decide +kernel
theorem d_To_writeLine_66 : decode prog_12_method_16_code 66 = .ok (.iadd, 1) := by decide +kernel
theorem d_To_writeLine_67 : decode prog_12_method_16_code 67 = .ok (.aload_n 1, 1) := by decide +kernel
theorem d_To_writeLine_68 : decode prog_12_method_16_code 68 = .ok (.getfield 103, 3) := by decide +kernel
theorem d_To_writeLine_71 : decode prog_12_method_16_code 71 = .ok (.iload 6, 2) := by decide +kernel
theorem d_To_writeLine_73 : decode prog_12_method_16_code 73 = .ok (.iload 7, 2) := by decide +kernel
theorem d_To_writeLine_75 : decode prog_12_method_16_code 75 = .ok (.iadd, 1) := by decide +kernel
theorem d_To_writeLine_76 : decode prog_12_method_16_code 76 = .ok (.iaload, 1) := by decide +kernel
theorem d_To_writeLine_77 : decode prog_12_method_16_code 77 = .ok (.iastore, 1) := by decide +kernel
theorem d_To_writeLine_78 : decode prog_12_method_16_code 78 = .ok (.iinc 7 1, 3) := by decide +kernel
theorem d_To_writeLine_81 : decode prog_12_method_16_code 81 = .ok (.goto (-33), 3) := by decide +kernel
theorem d_To_writeLine_84 : decode prog_12_method_16_code 84 = .ok (.iconst 0, 1) := by decide +kernel
theorem d_To_writeLine_85 : decode prog_12_method_16_code 85 = .ok (.istore 7, 2) := by decide +kernel
theorem d_To_writeLine_87 : decode prog_12_method_16_code 87 = .ok (.iload 7, 2) := by decide +kernel
theorem d_To_writeLine_89 : decode prog_12_method_16_code 89 = .ok (.aload 5, 2) := by decide +kernel
theorem d_To_writeLine_91 : decode prog_12_method_16_code 91 = .ok (.getfield 97, 3) := by decide +kernel
theorem d_To_writeLine_94 : decode prog_12_method_16_code 94 = .ok (.if_icmp .ge 41, 3) := by decide +kernel
theorem d_To_writeLine_97 : decode prog_12_method_16_code 97 = .ok (.aload_n 3, 1) := by decide +kernel
theorem d_To_writeLine_98 : decode prog_12_method_16_code 98 = .ok (.aload 5, 2) := by decide +kernel
theorem d_To_writeLine_100 : decode prog_12_method_16_code 100 = .ok (.getfield 100, 3) := by decide +kernel
theorem d_To_writeLine_103 : decode prog_12_method_16_code 103 = .ok (.iload 7, 2) := by decide +kernel
theorem d_To_writeLine_105 : decode prog_12_method_16_code 105 = .ok (.iadd, 1) := by decide +kernel
theorem d_To_writeLine_106 : decode prog_12_method_16_code 106 = .ok (.aload_n 0, 1) := by decide +kernel
theorem d_To_writeLine_107 : decode prog_12_method_16_code 107 = .ok (.getfield 27, 3) := by decide +kernel
theorem d_To_writeLine_110 : decode prog_12_method_16_code 110 = .ok (.aload_n 1, 1) := by decide +kernel
theorem d_To_writeLine_111 : decode prog_12_method_16_code 111 = .ok (.getfield 106, 3) := by decide +kernel
theorem d_To_writeLine_114 : decode prog_12_method_16_code 114 = .ok (.iload 6, 2) := by decide +kernel
theorem d_To_writeLine_116 : decode prog_12_method_16_code 116 = .ok (.iload 7, 2) := by decide +kernel
theorem d_To_writeLine_118 : decode prog_12_method_16_code 118 = .ok (.iadd, 1) := by decide +kernel
theorem d_To_writeLine_119 : decode prog_12_method_16_code 119 = .ok (.iaload, 1) := by decide +kernel
theorem d_To_writeLine_120 : decode prog_12_method_16_code 120 = .ok (.isub, 1) := by decide +kernel
theorem d_To_writeLine_121 : decode prog_12_method_16_code 121 = .ok (.aload_n 0, 1) := by decide +kernel
theorem d_To_writeLine_122 : decode prog_12_method_16_code 122 = .ok (.getfield 27, 3) := by decide +kernel
theorem d_To_writeLine_125 : decode prog_12_method_16_code 125 = .ok (.invokestatic 109, 3) := by decide +kernel
theorem d_To_writeLine_128 : decode prog_12_method_16_code 128 = .ok (.iastore, 1) := by decide +kernel
theorem d_To_writeLine_129 : decode prog_12_method_16_code 129 = .ok (.iinc 7 1, 3) := by decide +kernel
theorem d_To_writeLine_132 : decode prog_12_method_16_code 132 = .ok (.goto (-45), 3) := by decide +kernel
theorem d_To_writeLine_135 : decode prog_12_method_16_code 135 = .ok (.return_, 1) := by decide +kernel
set_option maxHeartbeats 2000000 in
theorem To_writeLine_L87_g {κ : tv_Kt} (hC : tv_Cx κ "TiedViews$Told" prog_12_method_16_code 8 2) (hR : tv_Re κ none) (F : Nat) : ∀ (n : Nat) (l1 : Nat) (l3 : Nat) (l5 : Nat) (l6 : Int32) (l7 : Int32) (M : tv_M), tv_G κ 8 (tv_Qm κ tv_ev) 87 [some (.ref (κ.b + 18)), some (.ref (κ.b + l1)), none, some (.ref (κ.b + l3)), none, some (.ref (κ.b + l5)), some (.int l6), some (.int l7)] [] M (To_writeLine_L87 F n l1 l3 l5 l6 l7 M) := by
  intro n
  induction n with
  | zero => intro _ _ _ _ _ _; exact g_none
  | succ nn ih =>
    intro l1 l3 l5 l6 l7 M
    rw [To_writeLine_L87]
    refine g_gl (fun h23 => ?_)
    refine g_gn (fun n25 h24 => ?_)
    refine g_gl (fun h26 => ?_)
    refine g_iload hC d_To_writeLine_87 rfl ?_
    refine g_aload hC d_To_writeLine_89 rfl ?_
    refine fg_To_97 hC h26 d_To_writeLine_91 ?_
    refine g_icmp_ge (tgt := 135) hC d_To_writeLine_94 (by decide) (fun _ => ?_) (fun _ => ?_)
    · exact g_vret hC hR d_To_writeLine_135
    · refine g_aload_n hC d_To_writeLine_97 rfl ?_
      refine g_aload hC d_To_writeLine_98 rfl ?_
      refine fg_To_100 hC h26 d_To_writeLine_100 ?_
      refine g_iload hC d_To_writeLine_103 rfl ?_
      refine g_iadd hC d_To_writeLine_105 ?_
      refine g_aload_n hC d_To_writeLine_106 rfl ?_
      refine fg_To_27 hC lc_18 d_To_writeLine_107 ?_
      refine g_aload_n hC d_To_writeLine_110 rfl ?_
      refine g_nn (fun p27 e34 => ?_)
      refine fg_To_106 hC h23 d_To_writeLine_111 e34 ?_
      refine g_gn (fun n29 h28 => ?_)
      refine g_iload hC d_To_writeLine_114 rfl ?_
      refine g_iload hC d_To_writeLine_116 rfl ?_
      refine g_iadd hC d_To_writeLine_118 ?_
      refine gv_iald hC h28 d_To_writeLine_119 (fun x30 => ?_)
      refine g_isub hC d_To_writeLine_120 ?_
      refine g_aload_n hC d_To_writeLine_121 rfl ?_
      refine fg_To_27 hC lc_18 d_To_writeLine_122 ?_
      refine gv_callNi hC [.int ((M.1 18 0) - x30), .int (M.1 18 0)] cw_To_109 (Xx_restOf_c F ((M.1 18 0) - x30) (M.1 18 0) M) rfl rfl rfl rfl rfl d_To_writeLine_125 (fun r31 M32 => ?_)
      refine gv_iast hC h24 d_To_writeLine_128 (fun M33 => ?_)
      refine g_iinc (ls' := [some (.ref (κ.b + 18)), some (.ref (κ.b + l1)), none, some (.ref (κ.b + l3)), none, some (.ref (κ.b + l5)), some (.int l6), some (.int (l7 + 1))]) hC d_To_writeLine_129 rfl k_i1 rfl rfl ?_
      refine g_goto (tgt := 87) hC d_To_writeLine_132 (by decide) ?_
      exact ih l1 l3 l5 l6 (l7 + 1) M33
set_option maxHeartbeats 2000000 in
theorem To_writeLine_L48_g {κ : tv_Kt} (hC : tv_Cx κ "TiedViews$Told" prog_12_method_16_code 8 2) (hR : tv_Re κ none) (F : Nat) : ∀ (n : Nat) (l1 : Nat) (l3 : Nat) (l4 : Nat) (l5 : Nat) (l6 : Int32) (l7 : Int32) (M : tv_M), tv_G κ 8 (tv_Qm κ tv_ev) 48 [some (.ref (κ.b + 18)), some (.ref (κ.b + l1)), none, some (.ref (κ.b + l3)), some (.ref (κ.b + l4)), some (.ref (κ.b + l5)), some (.int l6), some (.int l7)] [] M (To_writeLine_L48 F n l1 l3 l4 l5 l6 l7 M) := by
  intro n
  induction n with
  | zero => intro _ _ _ _ _ _ _; exact g_none
  | succ nn ih =>
    intro l1 l3 l4 l5 l6 l7 M
    rw [To_writeLine_L48]
    refine g_gl (fun h12 => ?_)
    refine g_gn (fun n14 h13 => ?_)
    refine g_gl (fun h15 => ?_)
    refine g_gl (fun h16 => ?_)
    refine g_iload hC d_To_writeLine_48 rfl ?_
    refine g_aload hC d_To_writeLine_50 rfl ?_
    refine fg_To_97 hC h15 d_To_writeLine_52 ?_
    refine g_icmp_ge (tgt := 84) hC d_To_writeLine_55 (by decide) (fun _ => ?_) (fun _ => ?_)
    · refine g_iconst hC d_To_writeLine_84 k_i0 ?_
      refine g_istore (ls' := [some (.ref (κ.b + 18)), some (.ref (κ.b + l1)), none, some (.ref (κ.b + l3)), some (.ref (κ.b + l4)), some (.ref (κ.b + l5)), some (.int l6), some (.int 0)]) hC d_To_writeLine_85 rfl rfl ?_
      refine g_mask [true, true, false, true, false, true, true, true] (ls' := [some (.ref (κ.b + 18)), some (.ref (κ.b + l1)), none, some (.ref (κ.b + l3)), none, some (.ref (κ.b + l5)), some (.int l6), some (.int 0)]) rfl ?_
      exact To_writeLine_L87_g hC hR F F l1 l3 l5 l6 0 M
    · refine g_aload_n hC d_To_writeLine_58 rfl ?_
      refine g_aload hC d_To_writeLine_59 rfl ?_
      refine fg_To_100 hC h15 d_To_writeLine_61 ?_
      refine g_iload hC d_To_writeLine_64 rfl ?_
      refine g_iadd hC d_To_writeLine_66 ?_
      refine g_aload_n hC d_To_writeLine_67 rfl ?_
      refine g_nn (fun p17 e22 => ?_)
      refine fg_To_103 hC h12 d_To_writeLine_68 e22 ?_
      refine g_gn (fun n19 h18 => ?_)
      refine g_iload hC d_To_writeLine_71 rfl ?_
      refine g_iload hC d_To_writeLine_73 rfl ?_
      refine g_iadd hC d_To_writeLine_75 ?_
      refine gv_iald hC h18 d_To_writeLine_76 (fun x20 => ?_)
      refine gv_iast hC h13 d_To_writeLine_77 (fun M21 => ?_)
      refine g_iinc (ls' := [some (.ref (κ.b + 18)), some (.ref (κ.b + l1)), none, some (.ref (κ.b + l3)), some (.ref (κ.b + l4)), some (.ref (κ.b + l5)), some (.int l6), some (.int (l7 + 1))]) hC d_To_writeLine_78 rfl k_i1 rfl rfl ?_
      refine g_goto (tgt := 48) hC d_To_writeLine_81 (by decide) ?_
      exact ih l1 l3 l4 l5 l6 (l7 + 1) M21
set_option maxHeartbeats 2000000 in
theorem To_writeLine_c {l : Launch} {θ : tv_Th} (F : Nat) (a1 : Nat) (a2 : Int32) (a3 : Nat) (M : tv_M) : tv_Ct l θ ⟨"TiedViews$Told", "writeLine", "(LTiedViews$Tie;I[I)V"⟩ prog_12_method_16_code 8 none 2 tv_ev [.ref (θ.1 + 18), .ref (θ.1 + a1), .int a2, .ref (θ.1 + a3)] M (To_writeLine F a1 a2 a3 M) := by
  refine tv_ofG [some (.ref (θ.1 + 18)), some (.ref (θ.1 + a1)), some (.int a2), some (.ref (θ.1 + a3)), none, none, none, none] rfl rfl (tv_ent 4 rfl) ?_
  intro κ hl ht hC hR
  subst hl; subst ht
  unfold To_writeLine
  refine g_gl (fun h1 => ?_)
  refine g_gn (fun n3 h2 => ?_)
  refine g_aload_n hC d_To_writeLine_0 rfl ?_
  refine g_aload_n hC d_To_writeLine_1 rfl ?_
  refine fg_To_88 hC h1 d_To_writeLine_2 ?_
  refine gv_callVr hC [.int (M.1 a1 0)] cw_To_91 (To_linearAt_c F (M.1 a1 0) M) lc_18 rfl rfl rfl rfl rfl rfl rfl d_To_writeLine_5 (fun r4 M5 => ?_)
  refine g_astoreQ (ls' := [some (.ref (κ.b + 18)), some (.ref (κ.b + a1)), some (.int a2), some (.ref (κ.b + a3)), some (tv_re κ.b r4), none, none, none]) hC d_To_writeLine_8 rfl rfl ?_
  refine g_aload_n hC d_To_writeLine_10 rfl ?_
  refine g_aload_n hC d_To_writeLine_11 rfl ?_
  refine fg_To_94 hC h1 d_To_writeLine_12 ?_
  refine gv_callVr hC [.int (M5.1 a1 1)] cw_To_91 (To_linearAt_c F (M5.1 a1 1) M5) lc_18 rfl rfl rfl rfl rfl rfl rfl d_To_writeLine_15 (fun r6 M7 => ?_)
  refine g_astoreQ (ls' := [some (.ref (κ.b + 18)), some (.ref (κ.b + a1)), some (.int a2), some (.ref (κ.b + a3)), some (tv_re κ.b r4), some (tv_re κ.b r6), none, none]) hC d_To_writeLine_18 (by simp [tv_sto, tv_sto2, tv_clr, tv_re_cat]) rfl ?_
  refine g_aloadQ hC d_To_writeLine_20 rfl ?_
  rcases r4 with _ | p8
  · refine g_nlN ?_
    refine g_ifnullN (tgt := 39) hC d_To_writeLine_22 (by decide) ?_
    exact g_vret hC hR d_To_writeLine_39
  · refine g_nlS ?_
    refine g_ifnullR hC d_To_writeLine_22 ?_
    refine g_gl (fun h9 => ?_)
    refine g_aloadQ hC d_To_writeLine_25 rfl ?_
    rcases r6 with _ | p10
    · refine g_nlN ?_
      refine g_ifnullN (tgt := 39) hC d_To_writeLine_27 (by decide) ?_
      exact g_vret hC hR d_To_writeLine_39
    · refine g_nlS ?_
      refine g_ifnullR hC d_To_writeLine_27 ?_
      refine g_gl (fun h11 => ?_)
      refine g_iload_n hC d_To_writeLine_30 rfl ?_
      refine g_if_lt (tgt := 39) hC d_To_writeLine_31 (by decide) (fun _ => ?_) (fun _ => ?_)
      · exact g_vret hC hR d_To_writeLine_39
      · refine g_iload_n hC d_To_writeLine_34 rfl ?_
        refine g_iconst hC d_To_writeLine_35 k_i3 ?_
        refine g_icmp_lt (tgt := 40) hC d_To_writeLine_36 (by decide) (fun _ => ?_) (fun _ => ?_)
        · refine g_iload_n hC d_To_writeLine_40 rfl ?_
          refine g_iconst hC d_To_writeLine_41 k_i3 ?_
          refine g_imul hC d_To_writeLine_42 ?_
          refine g_istore (ls' := [some (.ref (κ.b + 18)), some (.ref (κ.b + a1)), some (.int a2), some (.ref (κ.b + a3)), some (.ref (κ.b + p8)), some (.ref (κ.b + p10)), some (.int (a2 * 3)), none]) hC d_To_writeLine_43 rfl rfl ?_
          refine g_iconst hC d_To_writeLine_45 k_i0 ?_
          refine g_istore (ls' := [some (.ref (κ.b + 18)), some (.ref (κ.b + a1)), some (.int a2), some (.ref (κ.b + a3)), some (.ref (κ.b + p8)), some (.ref (κ.b + p10)), some (.int (a2 * 3)), some (.int 0)]) hC d_To_writeLine_46 rfl rfl ?_
          refine g_mask [true, true, false, true, true, true, true, true] (ls' := [some (.ref (κ.b + 18)), some (.ref (κ.b + a1)), none, some (.ref (κ.b + a3)), some (.ref (κ.b + p8)), some (.ref (κ.b + p10)), some (.int (a2 * 3)), some (.int 0)]) rfl ?_
          exact To_writeLine_L48_g hC hR F F a1 a3 p8 p10 (a2 * 3) 0 M7
        · exact g_vret hC hR d_To_writeLine_39
theorem d_Ag_addLines_0 : decode prog_2_method_7_code 0 = .ok (.iconst 0, 1) := by decide +kernel
theorem d_Ag_addLines_1 : decode prog_2_method_7_code 1 = .ok (.istore 4, 2) := by decide +kernel
theorem d_Ag_addLines_3 : decode prog_2_method_7_code 3 = .ok (.iload 4, 2) := by decide +kernel
theorem d_Ag_addLines_5 : decode prog_2_method_7_code 5 = .ok (.aload_n 0, 1) := by decide +kernel
theorem d_Ag_addLines_6 : decode prog_2_method_7_code 6 = .ok (.getfield 9, 3) := by decide +kernel
theorem d_Ag_addLines_9 : decode prog_2_method_7_code 9 = .ok (.getfield 74, 3) := by decide +kernel
theorem d_Ag_addLines_12 : decode prog_2_method_7_code 12 = .ok (.if_icmp .ge 95, 3) := by decide +kernel
theorem d_Ag_addLines_15 : decode prog_2_method_7_code 15 = .ok (.aload_n 0, 1) := by decide +kernel
theorem d_Ag_addLines_16 : decode prog_2_method_7_code 16 = .ok (.getfield 9, 3) := by decide +kernel
theorem d_Ag_addLines_19 : decode prog_2_method_7_code 19 = .ok (.getfield 77, 3) := by decide +kernel
theorem d_Ag_addLines_22 : decode prog_2_method_7_code 22 = .ok (.iload 4, 2) := by decide +kernel
theorem d_Ag_addLines_24 : decode prog_2_method_7_code 24 = .ok (.aaload, 1) := by decide +kernel
theorem d_Ag_addLines_25 : decode prog_2_method_7_code 25 = .ok (.astore 5, 2) := by decide +kernel
theorem d_Ag_addLines_27 : decode prog_2_method_7_code 27 = .ok (.iconst 0, 1) := by decide +kernel
theorem d_Ag_addLines_28 : decode prog_2_method_7_code 28 = .ok (.istore 6, 2) := by decide +kernel
theorem d_Ag_addLines_30 : decode prog_2_method_7_code 30 = .ok (.iload 6, 2) := by decide +kernel
theorem d_Ag_addLines_32 : decode prog_2_method_7_code 32 = .ok (.aload 5, 2) := by decide +kernel
theorem d_Ag_addLines_34 : decode prog_2_method_7_code 34 = .ok (.getfield 81, 3) := by decide +kernel
theorem d_Ag_addLines_37 : decode prog_2_method_7_code 37 = .ok (.if_icmp .ge 64, 3) := by decide +kernel
theorem d_Ag_addLines_40 : decode prog_2_method_7_code 40 = .ok (.iload 4, 2) := by decide +kernel
theorem d_Ag_addLines_42 : decode prog_2_method_7_code 42 = .ok (.iload_n 2, 1) := by decide +kernel
theorem d_Ag_addLines_43 : decode prog_2_method_7_code 43 = .ok (.if_icmp .eq 58, 3) := by decide +kernel
theorem d_Ag_addLines_46 : decode prog_2_method_7_code 46 = .ok (.aload_n 1, 1) := by decide +kernel
theorem d_Ag_addLines_47 : decode prog_2_method_7_code 47 = .ok (.getfield 86, 3) := by decide +kernel
theorem d_Ag_addLines_50 : decode prog_2_method_7_code 50 = .ok (.istore 7, 2) := by decide +kernel
theorem d_Ag_addLines_52 : decode prog_2_method_7_code 52 = .ok (.aload_n 1, 1) := by decide +kernel
theorem d_Ag_addLines_53 : decode prog_2_method_7_code 53 = .ok (.invokevirtual 89, 3) := by decide +kernel
theorem d_Ag_addLines_56 : decode prog_2_method_7_code 56 = .ok (.astore 8, 2) := by decide +kernel
theorem d_Ag_addLines_58 : decode prog_2_method_7_code 58 = .ok (.aload 8, 2) := by decide +kernel
theorem d_Ag_addLines_60 : decode prog_2_method_7_code 60 = .ok (.ifnonnull 4, 3) := by decide +kernel
theorem d_Ag_addLines_63 : decode prog_2_method_7_code 63 = .ok (.return_, 1) := by decide +kernel
theorem d_Ag_addLines_64 : decode prog_2_method_7_code 64 = .ok (.aload_n 0, 1) := by decide +kernel
theorem d_Ag_addLines_65 : decode prog_2_method_7_code 65 = .ok (.getfield 9, 3) := by decide +kernel
theorem d_Ag_addLines_68 : decode prog_2_method_7_code 68 = .ok (.aload 5, 2) := by decide +kernel
theorem d_Ag_addLines_70 : decode prog_2_method_7_code 70 = .ok (.iload 6, 2) := by decide +kernel
theorem d_Ag_addLines_72 : decode prog_2_method_7_code 72 = .ok (.aload 8, 2) := by decide +kernel
theorem d_Ag_addLines_74 : decode prog_2_method_7_code 74 = .ok (.invokevirtual 93, 3) := by decide +kernel
theorem d_Ag_addLines_77 : decode prog_2_method_7_code 77 = .ok (.iload_n 3, 1) := by decide +kernel
theorem d_Ag_addLines_78 : decode prog_2_method_7_code 78 = .ok (.ifCond .eq 17, 3) := by decide +kernel
theorem d_Ag_addLines_81 : decode prog_2_method_7_code 81 = .ok (.aload 8, 2) := by decide +kernel
theorem d_Ag_addLines_83 : decode prog_2_method_7_code 83 = .ok (.aload_n 0, 1) := by decide +kernel
theorem d_Ag_addLines_84 : decode prog_2_method_7_code 84 = .ok (.getfield 9, 3) := by decide +kernel
theorem d_Ag_addLines_87 : decode prog_2_method_7_code 87 = .ok (.getfield 40, 3) := by decide +kernel
theorem d_Ag_addLines_90 : decode prog_2_method_7_code 90 = .ok (.iload 7, 2) := by decide +kernel
theorem d_Ag_addLines_92 : decode prog_2_method_7_code 92 = .ok (.iadd, 1) := by decide +kernel
theorem d_Ag_addLines_93 : decode prog_2_method_7_code 93 = .ok (.iconst 1, 1) := by decide +kernel
theorem d_Ag_addLines_94 : decode prog_2_method_7_code 94 = .ok (.iastore, 1) := by decide +kernel
theorem d_Ag_addLines_95 : decode prog_2_method_7_code 95 = .ok (.iinc 6 1, 3) := by decide +kernel
theorem d_Ag_addLines_98 : decode prog_2_method_7_code 98 = .ok (.goto (-68), 3) := by decide +kernel
theorem d_Ag_addLines_101 : decode prog_2_method_7_code 101 = .ok (.iinc 4 1, 3) := by decide +kernel
theorem d_Ag_addLines_104 : decode prog_2_method_7_code 104 = .ok (.goto (-101), 3) := by decide +kernel
theorem d_Ag_addLines_107 : decode prog_2_method_7_code 107 = .ok (.return_, 1) := by decide +kernel
set_option maxHeartbeats 2000000 in
theorem Ag_addLines_L30_g {κ : tv_Kt} (hC : tv_Cx κ "TiedViews$Agreement" prog_2_method_7_code 9 3) (hR : tv_Re κ none) (F : Nat) {k3 : Nat → Int32 → Int32 → Int32 → tv_M → Option (Unit × tv_M)} (hk3 : ∀ (l1 : Nat) (l2 : Int32) (l3 : Int32) (l4 : Int32) (M : tv_M), tv_G κ 9 (tv_Qm κ tv_ev) 3 [some (.ref (κ.b + 70)), some (.ref (κ.b + l1)), some (.int l2), some (.int l3), some (.int l4), none, none, none, none] [] M (k3 l1 l2 l3 l4 M)) : ∀ (n : Nat) (l1 : Nat) (l2 : Int32) (l3 : Int32) (l4 : Int32) (l5 : Nat) (l6 : Int32) (M : tv_M), tv_G κ 9 (tv_Qm κ tv_ev) 30 [some (.ref (κ.b + 70)), some (.ref (κ.b + l1)), some (.int l2), some (.int l3), some (.int l4), some (.ref (κ.b + l5)), some (.int l6), none, none] [] M (Ag_addLines_L30 F k3 n l1 l2 l3 l4 l5 l6 M) := by
  intro n
  induction n with
  | zero => intro _ _ _ _ _ _ _; exact g_none
  | succ nn ih =>
    intro l1 l2 l3 l4 l5 l6 M
    rw [Ag_addLines_L30]
    refine g_gl (fun h5 => ?_)
    refine g_gl (fun h6 => ?_)
    refine g_iload hC d_Ag_addLines_30 rfl ?_
    refine g_aload hC d_Ag_addLines_32 rfl ?_
    refine fg_Ag_81 hC h6 d_Ag_addLines_34 ?_
    refine g_icmp_ge (tgt := 101) hC d_Ag_addLines_37 (by decide) (fun _ => ?_) (fun _ => ?_)
    · refine g_iinc (ls' := [some (.ref (κ.b + 70)), some (.ref (κ.b + l1)), some (.int l2), some (.int l3), some (.int (l4 + 1)), some (.ref (κ.b + l5)), some (.int l6), none, none]) hC d_Ag_addLines_101 rfl k_i1 rfl rfl ?_
      refine g_goto (tgt := 3) hC d_Ag_addLines_104 (by decide) ?_
      refine g_mask [true, true, true, true, true, false, false, false, false] (ls' := [some (.ref (κ.b + 70)), some (.ref (κ.b + l1)), some (.int l2), some (.int l3), some (.int (l4 + 1)), none, none, none, none]) rfl ?_
      exact hk3 l1 l2 l3 (l4 + 1) M
    · refine g_iload hC d_Ag_addLines_40 rfl ?_
      refine g_iload_n hC d_Ag_addLines_42 rfl ?_
      refine g_icmp_eq (tgt := 101) hC d_Ag_addLines_43 (by decide) (fun _ => ?_) (fun _ => ?_)
      · refine g_iinc (ls' := [some (.ref (κ.b + 70)), some (.ref (κ.b + l1)), some (.int l2), some (.int l3), some (.int (l4 + 1)), some (.ref (κ.b + l5)), some (.int l6), none, none]) hC d_Ag_addLines_101 rfl k_i1 rfl rfl ?_
        refine g_goto (tgt := 3) hC d_Ag_addLines_104 (by decide) ?_
        refine g_mask [true, true, true, true, true, false, false, false, false] (ls' := [some (.ref (κ.b + 70)), some (.ref (κ.b + l1)), some (.int l2), some (.int l3), some (.int (l4 + 1)), none, none, none, none]) rfl ?_
        exact hk3 l1 l2 l3 (l4 + 1) M
      · refine g_aload_n hC d_Ag_addLines_46 rfl ?_
        refine fg_Ag_86 hC h5 d_Ag_addLines_47 ?_
        refine g_istore (ls' := [some (.ref (κ.b + 70)), some (.ref (κ.b + l1)), some (.int l2), some (.int l3), some (.int l4), some (.ref (κ.b + l5)), some (.int l6), some (.int (M.1 l1 6)), none]) hC d_Ag_addLines_50 rfl rfl ?_
        refine g_aload_n hC d_Ag_addLines_52 rfl ?_
        refine gv_callVr hC [] cw_Ag_89 (St_addLine_c F l1 M) h5 rfl rfl rfl rfl rfl rfl rfl d_Ag_addLines_53 (fun r7 M8 => ?_)
        refine g_astoreQ (ls' := [some (.ref (κ.b + 70)), some (.ref (κ.b + l1)), some (.int l2), some (.int l3), some (.int l4), some (.ref (κ.b + l5)), some (.int l6), some (.int (M.1 l1 6)), some (tv_re κ.b r7)]) hC d_Ag_addLines_56 rfl rfl ?_
        refine g_aloadQ hC d_Ag_addLines_58 rfl ?_
        rcases r7 with _ | p9
        · refine g_nlN ?_
          refine g_ifnonnullN hC d_Ag_addLines_60 ?_
          exact g_vret hC hR d_Ag_addLines_63
        · refine g_nlS ?_
          refine g_ifnonnullR (tgt := 64) hC d_Ag_addLines_60 (by decide) ?_
          refine g_gn (fun n11 h10 => ?_)
          refine g_aload_n hC d_Ag_addLines_64 rfl ?_
          refine fg_Ag_9 hC lc_70 d_Ag_addLines_65 p0_70_0 ?_
          refine g_aload hC d_Ag_addLines_68 rfl ?_
          refine g_iload hC d_Ag_addLines_70 rfl ?_
          refine g_aload hC d_Ag_addLines_72 rfl ?_
          refine gv_callVv hC [.ref (κ.b + l5), .int l6, .ref (κ.b + p9)] cw_Ag_93 (To_writeLine_c F l5 l6 p9 M8) lc_18 rfl rfl rfl rfl rfl rfl rfl d_Ag_addLines_74 (fun r12 M13 => ?_)
          refine g_iload_n hC d_Ag_addLines_77 rfl ?_
          refine g_if_eq (tgt := 95) hC d_Ag_addLines_78 (by decide) (fun _ => ?_) (fun _ => ?_)
          · refine g_iinc (ls' := [some (.ref (κ.b + 70)), some (.ref (κ.b + l1)), some (.int l2), some (.int l3), some (.int l4), some (.ref (κ.b + l5)), some (.int (l6 + 1)), some (.int (M.1 l1 6)), some (.ref (κ.b + p9))]) hC d_Ag_addLines_95 rfl k_i1 rfl rfl ?_
            refine g_goto (tgt := 30) hC d_Ag_addLines_98 (by decide) ?_
            refine g_mask [true, true, true, true, true, true, true, false, false] (ls' := [some (.ref (κ.b + 70)), some (.ref (κ.b + l1)), some (.int l2), some (.int l3), some (.int l4), some (.ref (κ.b + l5)), some (.int (l6 + 1)), none, none]) rfl ?_
            exact ih l1 l2 l3 l4 l5 (l6 + 1) M13
          · refine g_aload hC d_Ag_addLines_81 rfl ?_
            refine g_aload_n hC d_Ag_addLines_83 rfl ?_
            refine fg_Ag_9 hC lc_70 d_Ag_addLines_84 p0_70_0 ?_
            refine fg_Ag_40 hC lc_18 d_Ag_addLines_87 ?_
            refine g_iload hC d_Ag_addLines_90 rfl ?_
            refine g_iadd hC d_Ag_addLines_92 ?_
            refine g_iconst hC d_Ag_addLines_93 k_i1 ?_
            refine gv_iast hC h10 d_Ag_addLines_94 (fun M14 => ?_)
            refine g_iinc (ls' := [some (.ref (κ.b + 70)), some (.ref (κ.b + l1)), some (.int l2), some (.int l3), some (.int l4), some (.ref (κ.b + l5)), some (.int (l6 + 1)), some (.int (M.1 l1 6)), some (.ref (κ.b + p9))]) hC d_Ag_addLines_95 rfl k_i1 rfl rfl ?_
            refine g_goto (tgt := 30) hC d_Ag_addLines_98 (by decide) ?_
            refine g_mask [true, true, true, true, true, true, true, false, false] (ls' := [some (.ref (κ.b + 70)), some (.ref (κ.b + l1)), some (.int l2), some (.int l3), some (.int l4), some (.ref (κ.b + l5)), some (.int (l6 + 1)), none, none]) rfl ?_
            exact ih l1 l2 l3 l4 l5 (l6 + 1) M14
set_option maxHeartbeats 2000000 in
theorem Ag_addLines_L3_g {κ : tv_Kt} (hC : tv_Cx κ "TiedViews$Agreement" prog_2_method_7_code 9 3) (hR : tv_Re κ none) (F : Nat) : ∀ (n : Nat) (l1 : Nat) (l2 : Int32) (l3 : Int32) (l4 : Int32) (M : tv_M), tv_G κ 9 (tv_Qm κ tv_ev) 3 [some (.ref (κ.b + 70)), some (.ref (κ.b + l1)), some (.int l2), some (.int l3), some (.int l4), none, none, none, none] [] M (Ag_addLines_L3 F n l1 l2 l3 l4 M) := by
  intro n
  induction n with
  | zero => intro _ _ _ _ _; exact g_none
  | succ nn ih =>
    intro l1 l2 l3 l4 M
    rw [Ag_addLines_L3]
    refine g_gl (fun h2 => ?_)
    refine g_iload hC d_Ag_addLines_3 rfl ?_
    refine g_aload_n hC d_Ag_addLines_5 rfl ?_
    refine fg_Ag_9 hC lc_70 d_Ag_addLines_6 p0_70_0 ?_
    refine fg_Ag_74 hC lc_18 d_Ag_addLines_9 ?_
    refine g_icmp_ge (tgt := 107) hC d_Ag_addLines_12 (by decide) (fun _ => ?_) (fun _ => ?_)
    · exact g_vret hC hR d_Ag_addLines_107
    · refine g_aload_n hC d_Ag_addLines_15 rfl ?_
      refine fg_Ag_9 hC lc_70 d_Ag_addLines_16 p0_70_0 ?_
      refine fg_Ag_77 hC lc_18 d_Ag_addLines_19 p0_18_2 ?_
      refine g_iload hC d_Ag_addLines_22 rfl ?_
      refine gv_aald hC 2 ly_20 rfl d_Ag_addLines_24 (fun p3 => ?_)
      refine g_gl (fun h4 => ?_)
      refine g_astore (ls' := [some (.ref (κ.b + 70)), some (.ref (κ.b + l1)), some (.int l2), some (.int l3), some (.int l4), some (.ref (κ.b + p3)), none, none, none]) hC d_Ag_addLines_25 rfl rfl ?_
      refine g_iconst hC d_Ag_addLines_27 k_i0 ?_
      refine g_istore (ls' := [some (.ref (κ.b + 70)), some (.ref (κ.b + l1)), some (.int l2), some (.int l3), some (.int l4), some (.ref (κ.b + p3)), some (.int 0), none, none]) hC d_Ag_addLines_28 rfl rfl ?_
      exact Ag_addLines_L30_g hC hR F ih F l1 l2 l3 l4 p3 0 M
set_option maxHeartbeats 2000000 in
theorem Ag_addLines_c {l : Launch} {θ : tv_Th} (F : Nat) (a1 : Nat) (a2 : Int32) (a3 : Int32) (M : tv_M) : tv_Ct l θ ⟨"TiedViews$Agreement", "addLines", "(LTiedViews$Steps;IZ)V"⟩ prog_2_method_7_code 9 none 3 tv_ev [.ref (θ.1 + 70), .ref (θ.1 + a1), .int a2, .int a3] M (Ag_addLines F a1 a2 a3 M) := by
  refine tv_ofG [some (.ref (θ.1 + 70)), some (.ref (θ.1 + a1)), some (.int a2), some (.int a3), none, none, none, none, none] rfl rfl (tv_ent 5 rfl) ?_
  intro κ hl ht hC hR
  subst hl; subst ht
  unfold Ag_addLines
  refine g_gl (fun h1 => ?_)
  refine g_iconst hC d_Ag_addLines_0 k_i0 ?_
  refine g_istore (ls' := [some (.ref (κ.b + 70)), some (.ref (κ.b + a1)), some (.int a2), some (.int a3), some (.int 0), none, none, none, none]) hC d_Ag_addLines_1 rfl rfl ?_
  exact Ag_addLines_L3_g hC hR F F a1 a2 a3 0 M
theorem d_St_leastLineAt_0 : decode prog_10_method_5_code 0 = .ok (.iconst 0, 1) := by decide +kernel
theorem d_St_leastLineAt_1 : decode prog_10_method_5_code 1 = .ok (.istore_n 2, 1) := by decide +kernel
theorem d_St_leastLineAt_2 : decode prog_10_method_5_code 2 = .ok (.iload_n 2, 1) := by decide +kernel
theorem d_St_leastLineAt_3 : decode prog_10_method_5_code 3 = .ok (.aload_n 0, 1) := by decide +kernel
theorem d_St_leastLineAt_4 : decode prog_10_method_5_code 4 = .ok (.getfield 45, 3) := by decide +kernel
theorem d_St_leastLineAt_7 : decode prog_10_method_5_code 7 = .ok (.if_icmp .ge 31, 3) := by decide +kernel
theorem d_St_leastLineAt_10 : decode prog_10_method_5_code 10 = .ok (.aload_n 0, 1) := by decide +kernel
theorem d_St_leastLineAt_11 : decode prog_10_method_5_code 11 = .ok (.getfield 30, 3) := by decide +kernel
theorem d_St_leastLineAt_14 : decode prog_10_method_5_code 14 = .ok (.iload_n 2, 1) := by decide +kernel
theorem d_St_leastLineAt_15 : decode prog_10_method_5_code 15 = .ok (.iaload, 1) := by decide +kernel
theorem d_St_leastLineAt_16 : decode prog_10_method_5_code 16 = .ok (.ifCond .ge 16, 3) := by decide +kernel
theorem d_St_leastLineAt_19 : decode prog_10_method_5_code 19 = .ok (.aload_n 0, 1) := by decide +kernel
theorem d_St_leastLineAt_20 : decode prog_10_method_5_code 20 = .ok (.getfield 27, 3) := by decide +kernel
theorem d_St_leastLineAt_23 : decode prog_10_method_5_code 23 = .ok (.iload_n 2, 1) := by decide +kernel
theorem d_St_leastLineAt_24 : decode prog_10_method_5_code 24 = .ok (.aaload, 1) := by decide +kernel
theorem d_St_leastLineAt_25 : decode prog_10_method_5_code 25 = .ok (.iload_n 1, 1) := by decide +kernel
theorem d_St_leastLineAt_26 : decode prog_10_method_5_code 26 = .ok (.iaload, 1) := by decide +kernel
theorem d_St_leastLineAt_27 : decode prog_10_method_5_code 27 = .ok (.ifCond .eq 5, 3) := by decide +kernel
theorem d_St_leastLineAt_30 : decode prog_10_method_5_code 30 = .ok (.iload_n 2, 1) := by decide +kernel
theorem d_St_leastLineAt_31 : decode prog_10_method_5_code 31 = .ok (.ireturn, 1) := by decide +kernel
theorem d_St_leastLineAt_32 : decode prog_10_method_5_code 32 = .ok (.iinc 2 1, 3) := by decide +kernel
theorem d_St_leastLineAt_35 : decode prog_10_method_5_code 35 = .ok (.goto (-33), 3) := by decide +kernel
theorem d_St_leastLineAt_38 : decode prog_10_method_5_code 38 = .ok (.iconst (-1), 1) := by decide +kernel
theorem d_St_leastLineAt_39 : decode prog_10_method_5_code 39 = .ok (.ireturn, 1) := by decide +kernel
set_option maxHeartbeats 2000000 in
theorem St_leastLineAt_L2_g {κ : tv_Kt} (hC : tv_Cx κ "TiedViews$Steps" prog_10_method_5_code 3 0) (hR : tv_Re κ (some .int)) (F : Nat) : ∀ (n : Nat) (l0 : Nat) (l1 : Int32) (l2 : Int32) (M : tv_M), tv_G κ 3 (tv_Qm κ tv_ei) 2 [some (.ref (κ.b + l0)), some (.int l1), some (.int l2)] [] M (St_leastLineAt_L2 F n l0 l1 l2 M) := by
  intro n
  induction n with
  | zero => intro _ _ _ _; exact g_none
  | succ nn ih =>
    intro l0 l1 l2 M
    rw [St_leastLineAt_L2]
    refine g_gl (fun h2 => ?_)
    refine g_iload_n hC d_St_leastLineAt_2 rfl ?_
    refine g_aload_n hC d_St_leastLineAt_3 rfl ?_
    refine fg_St_45 hC h2 d_St_leastLineAt_4 ?_
    refine g_icmp_ge (tgt := 38) hC d_St_leastLineAt_7 (by decide) (fun _ => ?_) (fun _ => ?_)
    · refine g_iconst hC d_St_leastLineAt_38 k_im1 ?_
      exact g_iret hC hR d_St_leastLineAt_39
    · refine g_aload_n hC d_St_leastLineAt_10 rfl ?_
      refine g_nn (fun p3 e15 => ?_)
      refine fg_St_30 hC h2 d_St_leastLineAt_11 e15 ?_
      refine g_gn (fun n5 h4 => ?_)
      refine g_iload_n hC d_St_leastLineAt_14 rfl ?_
      refine gv_iald hC h4 d_St_leastLineAt_15 (fun x6 => ?_)
      refine g_if_ge (tgt := 32) hC d_St_leastLineAt_16 (by decide) (fun _ => ?_) (fun _ => ?_)
      · refine g_iinc (ls' := [some (.ref (κ.b + l0)), some (.int l1), some (.int (l2 + 1))]) hC d_St_leastLineAt_32 rfl k_i1 rfl rfl ?_
        refine g_goto (tgt := 2) hC d_St_leastLineAt_35 (by decide) ?_
        exact ih l0 l1 (l2 + 1) M
      · refine g_aload_n hC d_St_leastLineAt_19 rfl ?_
        refine g_nn (fun p7 e14 => ?_)
        refine fg_St_27 hC h2 d_St_leastLineAt_20 e14 ?_
        refine g_gn (fun n9 h8 => ?_)
        refine g_iload_n hC d_St_leastLineAt_23 rfl ?_
        refine gv_aald hC 3 h8 rfl d_St_leastLineAt_24 (fun p10 => ?_)
        refine g_gn (fun n12 h11 => ?_)
        refine g_iload_n hC d_St_leastLineAt_25 rfl ?_
        refine gv_iald hC h11 d_St_leastLineAt_26 (fun x13 => ?_)
        refine g_if_eq (tgt := 32) hC d_St_leastLineAt_27 (by decide) (fun _ => ?_) (fun _ => ?_)
        · refine g_iinc (ls' := [some (.ref (κ.b + l0)), some (.int l1), some (.int (l2 + 1))]) hC d_St_leastLineAt_32 rfl k_i1 rfl rfl ?_
          refine g_goto (tgt := 2) hC d_St_leastLineAt_35 (by decide) ?_
          exact ih l0 l1 (l2 + 1) M
        · refine g_iload_n hC d_St_leastLineAt_30 rfl ?_
          exact g_iret hC hR d_St_leastLineAt_31
set_option maxHeartbeats 2000000 in
theorem St_leastLineAt_c {l : Launch} {θ : tv_Th} (F : Nat) (t : Nat) (a1 : Int32) (M : tv_M) : tv_Ct l θ ⟨"TiedViews$Steps", "leastLineAt", "(I)I"⟩ prog_10_method_5_code 3 (some .int) 0 tv_ei [.ref (θ.1 + t), .int a1] M (St_leastLineAt F t a1 M) := by
  refine tv_ofG [some (.ref (θ.1 + t)), some (.int a1), none] rfl rfl (tv_ent 1 rfl) ?_
  intro κ hl ht hC hR
  subst hl; subst ht
  unfold St_leastLineAt
  refine g_gl (fun h1 => ?_)
  refine g_iconst hC d_St_leastLineAt_0 k_i0 ?_
  refine g_istore_n (ls' := [some (.ref (κ.b + t)), some (.int a1), some (.int 0)]) hC d_St_leastLineAt_1 rfl rfl ?_
  exact St_leastLineAt_L2_g hC hR F F t a1 0 M
theorem d_Xx_inverseOf_0 : decode prog_1_method_40_code 0 = .ok (.iconst 1, 1) := by decide +kernel
theorem d_Xx_inverseOf_1 : decode prog_1_method_40_code 1 = .ok (.istore_n 2, 1) := by decide +kernel
theorem d_Xx_inverseOf_2 : decode prog_1_method_40_code 2 = .ok (.iload_n 2, 1) := by decide +kernel
theorem d_Xx_inverseOf_3 : decode prog_1_method_40_code 3 = .ok (.iload_n 1, 1) := by decide +kernel
theorem d_Xx_inverseOf_4 : decode prog_1_method_40_code 4 = .ok (.if_icmp .ge 22, 3) := by decide +kernel
theorem d_Xx_inverseOf_7 : decode prog_1_method_40_code 7 = .ok (.iload_n 2, 1) := by decide +kernel
theorem d_Xx_inverseOf_8 : decode prog_1_method_40_code 8 = .ok (.iload_n 0, 1) := by decide +kernel
theorem d_Xx_inverseOf_9 : decode prog_1_method_40_code 9 = .ok (.imul, 1) := by decide +kernel
theorem d_Xx_inverseOf_10 : decode prog_1_method_40_code 10 = .ok (.iload_n 1, 1) := by decide +kernel
theorem d_Xx_inverseOf_11 : decode prog_1_method_40_code 11 = .ok (.invokestatic 328, 3) := by decide +kernel
theorem d_Xx_inverseOf_14 : decode prog_1_method_40_code 14 = .ok (.iconst 1, 1) := by decide +kernel
theorem d_Xx_inverseOf_15 : decode prog_1_method_40_code 15 = .ok (.if_icmp .ne 5, 3) := by decide +kernel
theorem d_Xx_inverseOf_18 : decode prog_1_method_40_code 18 = .ok (.iload_n 2, 1) := by decide +kernel
theorem d_Xx_inverseOf_19 : decode prog_1_method_40_code 19 = .ok (.ireturn, 1) := by decide +kernel
theorem d_Xx_inverseOf_20 : decode prog_1_method_40_code 20 = .ok (.iinc 2 1, 3) := by decide +kernel
theorem d_Xx_inverseOf_23 : decode prog_1_method_40_code 23 = .ok (.goto (-21), 3) := by decide +kernel
theorem d_Xx_inverseOf_26 : decode prog_1_method_40_code 26 = .ok (.iconst 1, 1) := by decide +kernel
theorem d_Xx_inverseOf_27 : decode prog_1_method_40_code 27 = .ok (.ireturn, 1) := by decide +kernel
set_option maxHeartbeats 2000000 in
theorem Xx_inverseOf_L2_g {κ : tv_Kt} (hC : tv_Cx κ "TiedViews" prog_1_method_40_code 3 1) (hR : tv_Re κ (some .int)) (F : Nat) : ∀ (n : Nat) (l0 : Int32) (l1 : Int32) (l2 : Int32) (M : tv_M), tv_G κ 3 (tv_Qm κ tv_ei) 2 [some (.int l0), some (.int l1), some (.int l2)] [] M (Xx_inverseOf_L2 F n l0 l1 l2 M) := by
  intro n
  induction n with
  | zero => intro _ _ _ _; exact g_none
  | succ nn ih =>
    intro l0 l1 l2 M
    rw [Xx_inverseOf_L2]
    refine g_iload_n hC d_Xx_inverseOf_2 rfl ?_
    refine g_iload_n hC d_Xx_inverseOf_3 rfl ?_
    refine g_icmp_ge (tgt := 26) hC d_Xx_inverseOf_4 (by decide) (fun _ => ?_) (fun _ => ?_)
    · refine g_iconst hC d_Xx_inverseOf_26 k_i1 ?_
      exact g_iret hC hR d_Xx_inverseOf_27
    · refine g_iload_n hC d_Xx_inverseOf_7 rfl ?_
      refine g_iload_n hC d_Xx_inverseOf_8 rfl ?_
      refine g_imul hC d_Xx_inverseOf_9 ?_
      refine g_iload_n hC d_Xx_inverseOf_10 rfl ?_
      refine gv_callSi hC [.int (l2 * l0), .int l1] cw_Xx_328 (Xx_restOf_c F (l2 * l0) l1 M) rfl rfl rfl rfl rfl d_Xx_inverseOf_11 (fun r1 M2 => ?_)
      refine g_iconst hC d_Xx_inverseOf_14 k_i1 ?_
      refine g_icmp_ne (tgt := 20) hC d_Xx_inverseOf_15 (by decide) (fun _ => ?_) (fun _ => ?_)
      · refine g_iinc (ls' := [some (.int l0), some (.int l1), some (.int (l2 + 1))]) hC d_Xx_inverseOf_20 rfl k_i1 rfl rfl ?_
        refine g_goto (tgt := 2) hC d_Xx_inverseOf_23 (by decide) ?_
        exact ih l0 l1 (l2 + 1) M2
      · refine g_iload_n hC d_Xx_inverseOf_18 rfl ?_
        exact g_iret hC hR d_Xx_inverseOf_19
set_option maxHeartbeats 2000000 in
theorem Xx_inverseOf_c {l : Launch} {θ : tv_Th} (F : Nat) (a0 : Int32) (a1 : Int32) (M : tv_M) : tv_Ct l θ ⟨"TiedViews", "inverseOf", "(II)I"⟩ prog_1_method_40_code 3 (some .int) 1 tv_ei [.int a0, .int a1] M (Xx_inverseOf F a0 a1 M) := by
  refine tv_ofG [some (.int a0), some (.int a1), none] rfl rfl (tv_ent 1 rfl) ?_
  intro κ hl ht hC hR
  subst hl; subst ht
  unfold Xx_inverseOf
  refine g_iconst hC d_Xx_inverseOf_0 k_i1 ?_
  refine g_istore_n (ls' := [some (.int a0), some (.int a1), some (.int 1)]) hC d_Xx_inverseOf_1 rfl rfl ?_
  exact Xx_inverseOf_L2_g hC hR F F a0 a1 1 M
theorem d_St_makeOneAt_0 : decode prog_10_method_6_code 0 = .ok (.aload_n 0, 1) := by decide +kernel
theorem d_St_makeOneAt_1 : decode prog_10_method_6_code 1 = .ok (.getfield 27, 3) := by decide +kernel
theorem d_St_makeOneAt_4 : decode prog_10_method_6_code 4 = .ok (.iload_n 1, 1) := by decide +kernel
theorem d_St_makeOneAt_5 : decode prog_10_method_6_code 5 = .ok (.aaload, 1) := by decide +kernel
theorem d_St_makeOneAt_6 : decode prog_10_method_6_code 6 = .ok (.astore_n 3, 1) := by decide +kernel
theorem d_St_makeOneAt_7 : decode prog_10_method_6_code 7 = .ok (.aload_n 3, 1) := by decide +kernel
theorem d_St_makeOneAt_8 : decode prog_10_method_6_code 8 = .ok (.iload_n 2, 1) := by decide +kernel
theorem d_St_makeOneAt_9 : decode prog_10_method_6_code 9 = .ok (.iaload, 1) := by decide +kernel
theorem d_St_makeOneAt_10 : decode prog_10_method_6_code 10 = .ok (.iconst 1, 1) := by decide +kernel
theorem d_St_makeOneAt_11 : decode prog_10_method_6_code 11 = .ok (.if_icmp .ne 4, 3) := by decide +kernel
theorem d_St_makeOneAt_14 : decode prog_10_method_6_code 14 = .ok (.return_, 1) := by decide +kernel
theorem d_St_makeOneAt_15 : decode prog_10_method_6_code 15 = .ok (.aload_n 3, 1) := by decide +kernel
theorem d_St_makeOneAt_16 : decode prog_10_method_6_code 16 = .ok (.iload_n 2, 1) := by decide +kernel
theorem d_St_makeOneAt_17 : decode prog_10_method_6_code 17 = .ok (.iaload, 1) := by decide +kernel
theorem d_St_makeOneAt_18 : decode prog_10_method_6_code 18 = .ok (.aload_n 0, 1) := by decide +kernel
theorem d_St_makeOneAt_19 : decode prog_10_method_6_code 19 = .ok (.getfield 18, 3) := by decide +kernel
theorem d_St_makeOneAt_22 : decode prog_10_method_6_code 22 = .ok (.invokestatic 71, 3) := by decide +kernel
theorem d_St_makeOneAt_25 : decode prog_10_method_6_code 25 = .ok (.istore 4, 2) := by decide +kernel
theorem d_St_makeOneAt_27 : decode prog_10_method_6_code 27 = .ok (.iconst 0, 1) := by decide +kernel
theorem d_St_makeOneAt_28 : decode prog_10_method_6_code 28 = .ok (.istore 5, 2) := by decide +kernel
theorem d_St_makeOneAt_30 : decode prog_10_method_6_code 30 = .ok (.iload 5, 2) := by decide +kernel
theorem d_St_makeOneAt_32 : decode prog_10_method_6_code 32 = .ok (.aload_n 0, 1) := by decide +kernel
theorem d_St_makeOneAt_33 : decode prog_10_method_6_code 33 = .ok (.getfield 42, 3) := by decide +kernel
theorem d_St_makeOneAt_36 : decode prog_10_method_6_code 36 = .ok (.if_icmp .ge 27, 3) := by decide +kernel
theorem d_St_makeOneAt_39 : decode prog_10_method_6_code 39 = .ok (.aload_n 3, 1) := by decide +kernel
theorem d_St_makeOneAt_40 : decode prog_10_method_6_code 40 = .ok (.iload 5, 2) := by decide +kernel
theorem d_St_makeOneAt_42 : decode prog_10_method_6_code 42 = .ok (.aload_n 3, 1) := by decide +kernel
theorem d_St_makeOneAt_43 : decode prog_10_method_6_code 43 = .ok (.iload 5, 2) := by decide +kernel
theorem d_St_makeOneAt_45 : decode prog_10_method_6_code 45 = .ok (.iaload, 1) := by decide +kernel
theorem d_St_makeOneAt_46 : decode prog_10_method_6_code 46 = .ok (.iload 4, 2) := by decide +kernel
theorem d_St_makeOneAt_48 : decode prog_10_method_6_code 48 = .ok (.imul, 1) := by decide +kernel
theorem d_St_makeOneAt_49 : decode prog_10_method_6_code 49 = .ok (.aload_n 0, 1) := by decide +kernel
theorem d_St_makeOneAt_50 : decode prog_10_method_6_code 50 = .ok (.getfield 18, 3) := by decide +kernel
theorem d_St_makeOneAt_53 : decode prog_10_method_6_code 53 = .ok (.invokestatic 74, 3) := by decide +kernel
theorem d_St_makeOneAt_56 : decode prog_10_method_6_code 56 = .ok (.iastore, 1) := by decide +kernel
theorem d_St_makeOneAt_57 : decode prog_10_method_6_code 57 = .ok (.iinc 5 1, 3) := by decide +kernel
theorem d_St_makeOneAt_60 : decode prog_10_method_6_code 60 = .ok (.goto (-30), 3) := by decide +kernel
theorem d_St_makeOneAt_63 : decode prog_10_method_6_code 63 = .ok (.return_, 1) := by decide +kernel
set_option maxHeartbeats 2000000 in
theorem St_makeOneAt_L30_g {κ : tv_Kt} (hC : tv_Cx κ "TiedViews$Steps" prog_10_method_6_code 6 2) (hR : tv_Re κ none) (F : Nat) : ∀ (n : Nat) (l0 : Nat) (l3 : Nat) (l4 : Int32) (l5 : Int32) (M : tv_M), tv_G κ 6 (tv_Qm κ tv_ev) 30 [some (.ref (κ.b + l0)), none, none, some (.ref (κ.b + l3)), some (.int l4), some (.int l5)] [] M (St_makeOneAt_L30 F n l0 l3 l4 l5 M) := by
  intro n
  induction n with
  | zero => intro _ _ _ _ _; exact g_none
  | succ nn ih =>
    intro l0 l3 l4 l5 M
    rw [St_makeOneAt_L30]
    refine g_gl (fun h13 => ?_)
    refine g_gn (fun n15 h14 => ?_)
    refine g_iload hC d_St_makeOneAt_30 rfl ?_
    refine g_aload_n hC d_St_makeOneAt_32 rfl ?_
    refine fg_St_42 hC h13 d_St_makeOneAt_33 ?_
    refine g_icmp_ge (tgt := 63) hC d_St_makeOneAt_36 (by decide) (fun _ => ?_) (fun _ => ?_)
    · exact g_vret hC hR d_St_makeOneAt_63
    · refine g_aload_n hC d_St_makeOneAt_39 rfl ?_
      refine g_iload hC d_St_makeOneAt_40 rfl ?_
      refine g_aload_n hC d_St_makeOneAt_42 rfl ?_
      refine g_iload hC d_St_makeOneAt_43 rfl ?_
      refine gv_iald hC h14 d_St_makeOneAt_45 (fun x16 => ?_)
      refine g_iload hC d_St_makeOneAt_46 rfl ?_
      refine g_imul hC d_St_makeOneAt_48 ?_
      refine g_aload_n hC d_St_makeOneAt_49 rfl ?_
      refine fg_St_18 hC h13 d_St_makeOneAt_50 ?_
      refine gv_callNi hC [.int (x16 * l4), .int (M.1 l0 0)] cw_St_74 (Xx_restOf_c F (x16 * l4) (M.1 l0 0) M) rfl rfl rfl rfl rfl d_St_makeOneAt_53 (fun r17 M18 => ?_)
      refine gv_iast hC h14 d_St_makeOneAt_56 (fun M19 => ?_)
      refine g_iinc (ls' := [some (.ref (κ.b + l0)), none, none, some (.ref (κ.b + l3)), some (.int l4), some (.int (l5 + 1))]) hC d_St_makeOneAt_57 rfl k_i1 rfl rfl ?_
      refine g_goto (tgt := 30) hC d_St_makeOneAt_60 (by decide) ?_
      exact ih l0 l3 l4 (l5 + 1) M19
set_option maxHeartbeats 2000000 in
theorem St_makeOneAt_c {l : Launch} {θ : tv_Th} (F : Nat) (t : Nat) (a1 : Int32) (a2 : Int32) (M : tv_M) : tv_Ct l θ ⟨"TiedViews$Steps", "makeOneAt", "(II)V"⟩ prog_10_method_6_code 6 none 2 tv_ev [.ref (θ.1 + t), .int a1, .int a2] M (St_makeOneAt F t a1 a2 M) := by
  refine tv_ofG [some (.ref (θ.1 + t)), some (.int a1), some (.int a2), none, none, none] rfl rfl (tv_ent 3 rfl) ?_
  intro κ hl ht hC hR
  subst hl; subst ht
  unfold St_makeOneAt
  refine g_gl (fun h1 => ?_)
  refine g_aload_n hC d_St_makeOneAt_0 rfl ?_
  refine g_nn (fun p2 e12 => ?_)
  refine fg_St_27 hC h1 d_St_makeOneAt_1 e12 ?_
  refine g_gn (fun n4 h3 => ?_)
  refine g_iload_n hC d_St_makeOneAt_4 rfl ?_
  refine gv_aald hC 3 h3 rfl d_St_makeOneAt_5 (fun p5 => ?_)
  refine g_gn (fun n7 h6 => ?_)
  refine g_astore_n (ls' := [some (.ref (κ.b + t)), some (.int a1), some (.int a2), some (.ref (κ.b + p5)), none, none]) hC d_St_makeOneAt_6 rfl rfl ?_
  refine g_aload_n hC d_St_makeOneAt_7 rfl ?_
  refine g_iload_n hC d_St_makeOneAt_8 rfl ?_
  refine gv_iald hC h6 d_St_makeOneAt_9 (fun x8 => ?_)
  refine g_iconst hC d_St_makeOneAt_10 k_i1 ?_
  refine g_icmp_ne (tgt := 15) hC d_St_makeOneAt_11 (by decide) (fun _ => ?_) (fun _ => ?_)
  · refine g_aload_n hC d_St_makeOneAt_15 rfl ?_
    refine g_iload_n hC d_St_makeOneAt_16 rfl ?_
    refine gv_iald hC h6 d_St_makeOneAt_17 (fun x9 => ?_)
    refine g_aload_n hC d_St_makeOneAt_18 rfl ?_
    refine fg_St_18 hC h1 d_St_makeOneAt_19 ?_
    refine gv_callNi hC [.int x9, .int (M.1 t 0)] cw_St_71 (Xx_inverseOf_c F x9 (M.1 t 0) M) rfl rfl rfl rfl rfl d_St_makeOneAt_22 (fun r10 M11 => ?_)
    refine g_istore (ls' := [some (.ref (κ.b + t)), some (.int a1), some (.int a2), some (.ref (κ.b + p5)), some (.int r10), none]) hC d_St_makeOneAt_25 rfl rfl ?_
    refine g_iconst hC d_St_makeOneAt_27 k_i0 ?_
    refine g_istore (ls' := [some (.ref (κ.b + t)), some (.int a1), some (.int a2), some (.ref (κ.b + p5)), some (.int r10), some (.int 0)]) hC d_St_makeOneAt_28 rfl rfl ?_
    refine g_mask [true, false, false, true, true, true] (ls' := [some (.ref (κ.b + t)), none, none, some (.ref (κ.b + p5)), some (.int r10), some (.int 0)]) rfl ?_
    exact St_makeOneAt_L30_g hC hR F F t p5 r10 0 M11
  · exact g_vret hC hR d_St_makeOneAt_14
theorem d_Xx_addTimes_0 : decode prog_1_method_41_code 0 = .ok (.iload 4, 2) := by decide +kernel
theorem d_Xx_addTimes_2 : decode prog_1_method_41_code 2 = .ok (.iconst 2, 1) := by decide +kernel
theorem d_Xx_addTimes_3 : decode prog_1_method_41_code 3 = .ok (.if_icmp .ge 4, 3) := by decide +kernel
theorem d_Xx_addTimes_6 : decode prog_1_method_41_code 6 = .ok (.return_, 1) := by decide +kernel
theorem d_Xx_addTimes_7 : decode prog_1_method_41_code 7 = .ok (.iconst 0, 1) := by decide +kernel
theorem d_Xx_addTimes_8 : decode prog_1_method_41_code 8 = .ok (.istore 5, 2) := by decide +kernel
theorem d_Xx_addTimes_10 : decode prog_1_method_41_code 10 = .ok (.iload 5, 2) := by decide +kernel
theorem d_Xx_addTimes_12 : decode prog_1_method_41_code 12 = .ok (.iload_n 3, 1) := by decide +kernel
theorem d_Xx_addTimes_13 : decode prog_1_method_41_code 13 = .ok (.if_icmp .ge 27, 3) := by decide +kernel
theorem d_Xx_addTimes_16 : decode prog_1_method_41_code 16 = .ok (.aload_n 0, 1) := by decide +kernel
theorem d_Xx_addTimes_17 : decode prog_1_method_41_code 17 = .ok (.iload 5, 2) := by decide +kernel
theorem d_Xx_addTimes_19 : decode prog_1_method_41_code 19 = .ok (.aload_n 0, 1) := by decide +kernel
theorem d_Xx_addTimes_20 : decode prog_1_method_41_code 20 = .ok (.iload 5, 2) := by decide +kernel
theorem d_Xx_addTimes_22 : decode prog_1_method_41_code 22 = .ok (.iaload, 1) := by decide +kernel
theorem d_Xx_addTimes_23 : decode prog_1_method_41_code 23 = .ok (.iload_n 2, 1) := by decide +kernel
theorem d_Xx_addTimes_24 : decode prog_1_method_41_code 24 = .ok (.aload_n 1, 1) := by decide +kernel
theorem d_Xx_addTimes_25 : decode prog_1_method_41_code 25 = .ok (.iload 5, 2) := by decide +kernel
theorem d_Xx_addTimes_27 : decode prog_1_method_41_code 27 = .ok (.iaload, 1) := by decide +kernel
theorem d_Xx_addTimes_28 : decode prog_1_method_41_code 28 = .ok (.imul, 1) := by decide +kernel
theorem d_Xx_addTimes_29 : decode prog_1_method_41_code 29 = .ok (.iadd, 1) := by decide +kernel
theorem d_Xx_addTimes_30 : decode prog_1_method_41_code 30 = .ok (.iload 4, 2) := by decide +kernel
theorem d_Xx_addTimes_32 : decode prog_1_method_41_code 32 = .ok (.irem, 1) := by decide +kernel
theorem d_Xx_addTimes_33 : decode prog_1_method_41_code 33 = .ok (.iastore, 1) := by decide +kernel
theorem d_Xx_addTimes_34 : decode prog_1_method_41_code 34 = .ok (.iinc 5 1, 3) := by decide +kernel
theorem d_Xx_addTimes_37 : decode prog_1_method_41_code 37 = .ok (.goto (-27), 3) := by decide +kernel
theorem d_Xx_addTimes_40 : decode prog_1_method_41_code 40 = .ok (.return_, 1) := by decide +kernel
set_option maxHeartbeats 2000000 in
theorem Xx_addTimes_L10_g {κ : tv_Kt} (hC : tv_Cx κ "TiedViews" prog_1_method_41_code 6 0) (hR : tv_Re κ none) (F : Nat) : ∀ (n : Nat) (l0 : Nat) (l1 : Nat) (l2 : Int32) (l3 : Int32) (l4 : Int32) (l5 : Int32) (M : tv_M), tv_G κ 6 (tv_Qm κ tv_ev) 10 [some (.ref (κ.b + l0)), some (.ref (κ.b + l1)), some (.int l2), some (.int l3), some (.int l4), some (.int l5)] [] M (Xx_addTimes_L10 F n l0 l1 l2 l3 l4 l5 M) := by
  intro n
  induction n with
  | zero => intro _ _ _ _ _ _ _; exact g_none
  | succ nn ih =>
    intro l0 l1 l2 l3 l4 l5 M
    rw [Xx_addTimes_L10]
    refine g_gn (fun n6 h5 => ?_)
    refine g_gn (fun n8 h7 => ?_)
    refine g_iload hC d_Xx_addTimes_10 rfl ?_
    refine g_iload_n hC d_Xx_addTimes_12 rfl ?_
    refine g_icmp_ge (tgt := 40) hC d_Xx_addTimes_13 (by decide) (fun _ => ?_) (fun _ => ?_)
    · exact g_vret hC hR d_Xx_addTimes_40
    · refine g_aload_n hC d_Xx_addTimes_16 rfl ?_
      refine g_iload hC d_Xx_addTimes_17 rfl ?_
      refine g_aload_n hC d_Xx_addTimes_19 rfl ?_
      refine g_iload hC d_Xx_addTimes_20 rfl ?_
      refine gv_iald hC h5 d_Xx_addTimes_22 (fun x9 => ?_)
      refine g_iload_n hC d_Xx_addTimes_23 rfl ?_
      refine g_aload_n hC d_Xx_addTimes_24 rfl ?_
      refine g_iload hC d_Xx_addTimes_25 rfl ?_
      refine gv_iald hC h7 d_Xx_addTimes_27 (fun x10 => ?_)
      refine g_imul hC d_Xx_addTimes_28 ?_
      refine g_iadd hC d_Xx_addTimes_29 ?_
      refine g_iload hC d_Xx_addTimes_30 rfl ?_
      refine g_irem hC d_Xx_addTimes_32 ?_
      refine gv_iast hC h5 d_Xx_addTimes_33 (fun M11 => ?_)
      refine g_iinc (ls' := [some (.ref (κ.b + l0)), some (.ref (κ.b + l1)), some (.int l2), some (.int l3), some (.int l4), some (.int (l5 + 1))]) hC d_Xx_addTimes_34 rfl k_i1 rfl rfl ?_
      refine g_goto (tgt := 10) hC d_Xx_addTimes_37 (by decide) ?_
      exact ih l0 l1 l2 l3 l4 (l5 + 1) M11
set_option maxHeartbeats 2000000 in
theorem Xx_addTimes_c {l : Launch} {θ : tv_Th} (F : Nat) (a0 : Nat) (a1 : Nat) (a2 : Int32) (a3 : Int32) (a4 : Int32) (M : tv_M) : tv_Ct l θ ⟨"TiedViews", "addTimes", "([I[IIII)V"⟩ prog_1_method_41_code 6 none 0 tv_ev [.ref (θ.1 + a0), .ref (θ.1 + a1), .int a2, .int a3, .int a4] M (Xx_addTimes F a0 a1 a2 a3 a4 M) := by
  refine tv_ofG [some (.ref (θ.1 + a0)), some (.ref (θ.1 + a1)), some (.int a2), some (.int a3), some (.int a4), none] rfl rfl (tv_ent 1 rfl) ?_
  intro κ hl ht hC hR
  subst hl; subst ht
  unfold Xx_addTimes
  refine g_gn (fun n2 h1 => ?_)
  refine g_gn (fun n4 h3 => ?_)
  refine g_iload hC d_Xx_addTimes_0 rfl ?_
  refine g_iconst hC d_Xx_addTimes_2 k_i2 ?_
  refine g_icmp_ge (tgt := 7) hC d_Xx_addTimes_3 (by decide) (fun _ => ?_) (fun _ => ?_)
  · refine g_iconst hC d_Xx_addTimes_7 k_i0 ?_
    refine g_istore (ls' := [some (.ref (κ.b + a0)), some (.ref (κ.b + a1)), some (.int a2), some (.int a3), some (.int a4), some (.int 0)]) hC d_Xx_addTimes_8 rfl rfl ?_
    exact Xx_addTimes_L10_g hC hR F F a0 a1 a2 a3 a4 0 M
  · exact g_vret hC hR d_Xx_addTimes_6
theorem d_St_takeOffOthers_0 : decode prog_10_method_7_code 0 = .ok (.iconst 0, 1) := by decide +kernel
theorem d_St_takeOffOthers_1 : decode prog_10_method_7_code 1 = .ok (.istore_n 3, 1) := by decide +kernel
theorem d_St_takeOffOthers_2 : decode prog_10_method_7_code 2 = .ok (.iload_n 3, 1) := by decide +kernel
theorem d_St_takeOffOthers_3 : decode prog_10_method_7_code 3 = .ok (.aload_n 0, 1) := by decide +kernel
theorem d_St_takeOffOthers_4 : decode prog_10_method_7_code 4 = .ok (.getfield 45, 3) := by decide +kernel
theorem d_St_takeOffOthers_7 : decode prog_10_method_7_code 7 = .ok (.if_icmp .ge 59, 3) := by decide +kernel
theorem d_St_takeOffOthers_10 : decode prog_10_method_7_code 10 = .ok (.aload_n 0, 1) := by decide +kernel
theorem d_St_takeOffOthers_11 : decode prog_10_method_7_code 11 = .ok (.getfield 27, 3) := by decide +kernel
theorem d_St_takeOffOthers_14 : decode prog_10_method_7_code 14 = .ok (.iload_n 3, 1) := by decide +kernel
theorem d_St_takeOffOthers_15 : decode prog_10_method_7_code 15 = .ok (.aaload, 1) := by decide +kernel
theorem d_St_takeOffOthers_16 : decode prog_10_method_7_code 16 = .ok (.iload_n 2, 1) := by decide +kernel
theorem d_St_takeOffOthers_17 : decode prog_10_method_7_code 17 = .ok (.iaload, 1) := by decide +kernel
theorem d_St_takeOffOthers_18 : decode prog_10_method_7_code 18 = .ok (.istore 4, 2) := by decide +kernel
theorem d_St_takeOffOthers_20 : decode prog_10_method_7_code 20 = .ok (.iload_n 3, 1) := by decide +kernel
theorem d_St_takeOffOthers_21 : decode prog_10_method_7_code 21 = .ok (.iload_n 1, 1) := by decide +kernel
theorem d_St_takeOffOthers_22 : decode prog_10_method_7_code 22 = .ok (.if_icmp .eq 38, 3) := by decide +kernel
theorem d_St_takeOffOthers_25 : decode prog_10_method_7_code 25 = .ok (.iload 4, 2) := by decide +kernel
theorem d_St_takeOffOthers_27 : decode prog_10_method_7_code 27 = .ok (.ifCond .eq 33, 3) := by decide +kernel
theorem d_St_takeOffOthers_30 : decode prog_10_method_7_code 30 = .ok (.aload_n 0, 1) := by decide +kernel
theorem d_St_takeOffOthers_31 : decode prog_10_method_7_code 31 = .ok (.getfield 27, 3) := by decide +kernel
theorem d_St_takeOffOthers_34 : decode prog_10_method_7_code 34 = .ok (.iload_n 3, 1) := by decide +kernel
theorem d_St_takeOffOthers_35 : decode prog_10_method_7_code 35 = .ok (.aaload, 1) := by decide +kernel
theorem d_St_takeOffOthers_36 : decode prog_10_method_7_code 36 = .ok (.aload_n 0, 1) := by decide +kernel
theorem d_St_takeOffOthers_37 : decode prog_10_method_7_code 37 = .ok (.getfield 27, 3) := by decide +kernel
theorem d_St_takeOffOthers_40 : decode prog_10_method_7_code 40 = .ok (.iload_n 1, 1) := by decide +kernel
theorem d_St_takeOffOthers_41 : decode prog_10_method_7_code 41 = .ok (.aaload, 1) := by decide +kernel
theorem d_St_takeOffOthers_42 : decode prog_10_method_7_code 42 = .ok (.aload_n 0, 1) := by decide +kernel
theorem d_St_takeOffOthers_43 : decode prog_10_method_7_code 43 = .ok (.getfield 18, 3) := by decide +kernel
theorem d_St_takeOffOthers_46 : decode prog_10_method_7_code 46 = .ok (.iload 4, 2) := by decide +kernel
theorem d_St_takeOffOthers_48 : decode prog_10_method_7_code 48 = .ok (.isub, 1) := by decide +kernel
theorem d_St_takeOffOthers_49 : decode prog_10_method_7_code 49 = .ok (.aload_n 0, 1) := by decide +kernel
theorem d_St_takeOffOthers_50 : decode prog_10_method_7_code 50 = .ok (.getfield 42, 3) := by decide +kernel
theorem d_St_takeOffOthers_53 : decode prog_10_method_7_code 53 = .ok (.aload_n 0, 1) := by decide +kernel
theorem d_St_takeOffOthers_54 : decode prog_10_method_7_code 54 = .ok (.getfield 18, 3) := by decide +kernel
theorem d_St_takeOffOthers_57 : decode prog_10_method_7_code 57 = .ok (.invokestatic 77, 3) := by decide +kernel
theorem d_St_takeOffOthers_60 : decode prog_10_method_7_code 60 = .ok (.iinc 3 1, 3) := by decide +kernel
theorem d_St_takeOffOthers_63 : decode prog_10_method_7_code 63 = .ok (.goto (-61), 3) := by decide +kernel
theorem d_St_takeOffOthers_66 : decode prog_10_method_7_code 66 = .ok (.return_, 1) := by decide +kernel
set_option maxHeartbeats 2000000 in
theorem St_takeOffOthers_L2_g {κ : tv_Kt} (hC : tv_Cx κ "TiedViews$Steps" prog_10_method_7_code 5 1) (hR : tv_Re κ none) (F : Nat) : ∀ (n : Nat) (l0 : Nat) (l1 : Int32) (l2 : Int32) (l3 : Int32) (M : tv_M), tv_G κ 5 (tv_Qm κ tv_ev) 2 [some (.ref (κ.b + l0)), some (.int l1), some (.int l2), some (.int l3), none] [] M (St_takeOffOthers_L2 F n l0 l1 l2 l3 M) := by
  intro n
  induction n with
  | zero => intro _ _ _ _ _; exact g_none
  | succ nn ih =>
    intro l0 l1 l2 l3 M
    rw [St_takeOffOthers_L2]
    refine g_gl (fun h2 => ?_)
    refine g_iload_n hC d_St_takeOffOthers_2 rfl ?_
    refine g_aload_n hC d_St_takeOffOthers_3 rfl ?_
    refine fg_St_45 hC h2 d_St_takeOffOthers_4 ?_
    refine g_icmp_ge (tgt := 66) hC d_St_takeOffOthers_7 (by decide) (fun _ => ?_) (fun _ => ?_)
    · exact g_vret hC hR d_St_takeOffOthers_66
    · refine g_aload_n hC d_St_takeOffOthers_10 rfl ?_
      refine g_nn (fun p3 e26 => ?_)
      refine fg_St_27 hC h2 d_St_takeOffOthers_11 e26 ?_
      refine g_gn (fun n5 h4 => ?_)
      refine g_iload_n hC d_St_takeOffOthers_14 rfl ?_
      refine gv_aald hC 3 h4 rfl d_St_takeOffOthers_15 (fun p6 => ?_)
      refine g_gn (fun n8 h7 => ?_)
      refine g_iload_n hC d_St_takeOffOthers_16 rfl ?_
      refine gv_iald hC h7 d_St_takeOffOthers_17 (fun x9 => ?_)
      refine g_istore (ls' := [some (.ref (κ.b + l0)), some (.int l1), some (.int l2), some (.int l3), some (.int x9)]) hC d_St_takeOffOthers_18 rfl rfl ?_
      refine g_iload_n hC d_St_takeOffOthers_20 rfl ?_
      refine g_iload_n hC d_St_takeOffOthers_21 rfl ?_
      refine g_icmp_eq (tgt := 60) hC d_St_takeOffOthers_22 (by decide) (fun _ => ?_) (fun _ => ?_)
      · refine g_iinc (ls' := [some (.ref (κ.b + l0)), some (.int l1), some (.int l2), some (.int (l3 + 1)), some (.int x9)]) hC d_St_takeOffOthers_60 rfl k_i1 rfl rfl ?_
        refine g_goto (tgt := 2) hC d_St_takeOffOthers_63 (by decide) ?_
        refine g_mask [true, true, true, true, false] (ls' := [some (.ref (κ.b + l0)), some (.int l1), some (.int l2), some (.int (l3 + 1)), none]) rfl ?_
        exact ih l0 l1 l2 (l3 + 1) M
      · refine g_iload hC d_St_takeOffOthers_25 rfl ?_
        refine g_if_eq (tgt := 60) hC d_St_takeOffOthers_27 (by decide) (fun _ => ?_) (fun _ => ?_)
        · refine g_iinc (ls' := [some (.ref (κ.b + l0)), some (.int l1), some (.int l2), some (.int (l3 + 1)), some (.int x9)]) hC d_St_takeOffOthers_60 rfl k_i1 rfl rfl ?_
          refine g_goto (tgt := 2) hC d_St_takeOffOthers_63 (by decide) ?_
          refine g_mask [true, true, true, true, false] (ls' := [some (.ref (κ.b + l0)), some (.int l1), some (.int l2), some (.int (l3 + 1)), none]) rfl ?_
          exact ih l0 l1 l2 (l3 + 1) M
        · refine g_aload_n hC d_St_takeOffOthers_30 rfl ?_
          refine g_nn (fun p10 e25 => ?_)
          refine fg_St_27 hC h2 d_St_takeOffOthers_31 e25 ?_
          refine g_gn (fun n12 h11 => ?_)
          refine g_iload_n hC d_St_takeOffOthers_34 rfl ?_
          refine gv_aald hC 3 h11 rfl d_St_takeOffOthers_35 (fun p13 => ?_)
          refine g_gn (fun n15 h14 => ?_)
          refine g_aload_n hC d_St_takeOffOthers_36 rfl ?_
          refine g_nn (fun p16 e24 => ?_)
          refine fg_St_27 hC h2 d_St_takeOffOthers_37 e24 ?_
          refine g_gn (fun n18 h17 => ?_)
          refine g_iload_n hC d_St_takeOffOthers_40 rfl ?_
          refine gv_aald hC 3 h17 rfl d_St_takeOffOthers_41 (fun p19 => ?_)
          refine g_gn (fun n21 h20 => ?_)
          refine g_aload_n hC d_St_takeOffOthers_42 rfl ?_
          refine fg_St_18 hC h2 d_St_takeOffOthers_43 ?_
          refine g_iload hC d_St_takeOffOthers_46 rfl ?_
          refine g_isub hC d_St_takeOffOthers_48 ?_
          refine g_aload_n hC d_St_takeOffOthers_49 rfl ?_
          refine fg_St_42 hC h2 d_St_takeOffOthers_50 ?_
          refine g_aload_n hC d_St_takeOffOthers_53 rfl ?_
          refine fg_St_18 hC h2 d_St_takeOffOthers_54 ?_
          refine gv_callNv hC [.ref (κ.b + p13), .ref (κ.b + p19), .int ((M.1 l0 0) - x9), .int (M.1 l0 10), .int (M.1 l0 0)] cw_St_77 (Xx_addTimes_c F p13 p19 ((M.1 l0 0) - x9) (M.1 l0 10) (M.1 l0 0) M) rfl rfl rfl rfl rfl d_St_takeOffOthers_57 (fun r22 M23 => ?_)
          refine g_iinc (ls' := [some (.ref (κ.b + l0)), some (.int l1), some (.int l2), some (.int (l3 + 1)), some (.int x9)]) hC d_St_takeOffOthers_60 rfl k_i1 rfl rfl ?_
          refine g_goto (tgt := 2) hC d_St_takeOffOthers_63 (by decide) ?_
          refine g_mask [true, true, true, true, false] (ls' := [some (.ref (κ.b + l0)), some (.int l1), some (.int l2), some (.int (l3 + 1)), none]) rfl ?_
          exact ih l0 l1 l2 (l3 + 1) M23
set_option maxHeartbeats 2000000 in
theorem St_takeOffOthers_c {l : Launch} {θ : tv_Th} (F : Nat) (t : Nat) (a1 : Int32) (a2 : Int32) (M : tv_M) : tv_Ct l θ ⟨"TiedViews$Steps", "takeOffOthers", "(II)V"⟩ prog_10_method_7_code 5 none 1 tv_ev [.ref (θ.1 + t), .int a1, .int a2] M (St_takeOffOthers F t a1 a2 M) := by
  refine tv_ofG [some (.ref (θ.1 + t)), some (.int a1), some (.int a2), none, none] rfl rfl (tv_ent 2 rfl) ?_
  intro κ hl ht hC hR
  subst hl; subst ht
  unfold St_takeOffOthers
  refine g_gl (fun h1 => ?_)
  refine g_iconst hC d_St_takeOffOthers_0 k_i0 ?_
  refine g_istore_n (ls' := [some (.ref (κ.b + t)), some (.int a1), some (.int a2), some (.int 0), none]) hC d_St_takeOffOthers_1 rfl rfl ?_
  exact St_takeOffOthers_L2_g hC hR F F t a1 a2 0 M
theorem d_St_putInSteps_0 : decode prog_10_method_4_code 0 = .ok (.iconst 0, 1) := by decide +kernel
theorem d_St_putInSteps_1 : decode prog_10_method_4_code 1 = .ok (.istore_n 1, 1) := by decide +kernel
theorem d_St_putInSteps_2 : decode prog_10_method_4_code 2 = .ok (.iload_n 1, 1) := by decide +kernel
theorem d_St_putInSteps_3 : decode prog_10_method_4_code 3 = .ok (.aload_n 0, 1) := by decide +kernel
theorem d_St_putInSteps_4 : decode prog_10_method_4_code 4 = .ok (.getfield 39, 3) := by decide +kernel
theorem d_St_putInSteps_7 : decode prog_10_method_4_code 7 = .ok (.if_icmp .ge 78, 3) := by decide +kernel
theorem d_St_putInSteps_10 : decode prog_10_method_4_code 10 = .ok (.aload_n 0, 1) := by decide +kernel
theorem d_St_putInSteps_11 : decode prog_10_method_4_code 11 = .ok (.iload_n 1, 1) := by decide +kernel
theorem d_St_putInSteps_12 : decode prog_10_method_4_code 12 = .ok (.invokevirtual 60, 3) := by decide +kernel
theorem d_St_putInSteps_15 : decode prog_10_method_4_code 15 = .ok (.istore_n 2, 1) := by decide +kernel
theorem d_St_putInSteps_16 : decode prog_10_method_4_code 16 = .ok (.aload_n 0, 1) := by decide +kernel
theorem d_St_putInSteps_17 : decode prog_10_method_4_code 17 = .ok (.getfield 9, 3) := by decide +kernel
theorem d_St_putInSteps_20 : decode prog_10_method_4_code 20 = .ok (.iload_n 1, 1) := by decide +kernel
theorem d_St_putInSteps_21 : decode prog_10_method_4_code 21 = .ok (.iload_n 2, 1) := by decide +kernel
theorem d_St_putInSteps_22 : decode prog_10_method_4_code 22 = .ok (.iastore, 1) := by decide +kernel
theorem d_St_putInSteps_23 : decode prog_10_method_4_code 23 = .ok (.iload_n 2, 1) := by decide +kernel
theorem d_St_putInSteps_24 : decode prog_10_method_4_code 24 = .ok (.ifCond .lt 35, 3) := by decide +kernel
theorem d_St_putInSteps_27 : decode prog_10_method_4_code 27 = .ok (.aload_n 0, 1) := by decide +kernel
theorem d_St_putInSteps_28 : decode prog_10_method_4_code 28 = .ok (.getfield 30, 3) := by decide +kernel
theorem d_St_putInSteps_31 : decode prog_10_method_4_code 31 = .ok (.iload_n 2, 1) := by decide +kernel
theorem d_St_putInSteps_32 : decode prog_10_method_4_code 32 = .ok (.iload_n 1, 1) := by decide +kernel
theorem d_St_putInSteps_33 : decode prog_10_method_4_code 33 = .ok (.iastore, 1) := by decide +kernel
theorem d_St_putInSteps_34 : decode prog_10_method_4_code 34 = .ok (.aload_n 0, 1) := by decide +kernel
theorem d_St_putInSteps_35 : decode prog_10_method_4_code 35 = .ok (.dup, 1) := by decide +kernel
theorem d_St_putInSteps_36 : decode prog_10_method_4_code 36 = .ok (.getfield 48, 3) := by decide +kernel
theorem d_St_putInSteps_39 : decode prog_10_method_4_code 39 = .ok (.iconst 1, 1) := by decide +kernel
theorem d_St_putInSteps_40 : decode prog_10_method_4_code 40 = .ok (.iadd, 1) := by decide +kernel
theorem d_St_putInSteps_41 : decode prog_10_method_4_code 41 = .ok (.putfield 48, 3) := by decide +kernel
theorem d_St_putInSteps_44 : decode prog_10_method_4_code 44 = .ok (.aload_n 0, 1) := by decide +kernel
theorem d_St_putInSteps_45 : decode prog_10_method_4_code 45 = .ok (.iload_n 2, 1) := by decide +kernel
theorem d_St_putInSteps_46 : decode prog_10_method_4_code 46 = .ok (.iload_n 1, 1) := by decide +kernel
theorem d_St_putInSteps_47 : decode prog_10_method_4_code 47 = .ok (.invokevirtual 64, 3) := by decide +kernel
theorem d_St_putInSteps_50 : decode prog_10_method_4_code 50 = .ok (.aload_n 0, 1) := by decide +kernel
theorem d_St_putInSteps_51 : decode prog_10_method_4_code 51 = .ok (.iload_n 2, 1) := by decide +kernel
theorem d_St_putInSteps_52 : decode prog_10_method_4_code 52 = .ok (.iload_n 1, 1) := by decide +kernel
theorem d_St_putInSteps_53 : decode prog_10_method_4_code 53 = .ok (.invokevirtual 68, 3) := by decide +kernel
theorem d_St_putInSteps_56 : decode prog_10_method_4_code 56 = .ok (.goto 23, 3) := by decide +kernel
theorem d_St_putInSteps_59 : decode prog_10_method_4_code 59 = .ok (.aload_n 0, 1) := by decide +kernel
theorem d_St_putInSteps_60 : decode prog_10_method_4_code 60 = .ok (.getfield 15, 3) := by decide +kernel
theorem d_St_putInSteps_63 : decode prog_10_method_4_code 63 = .ok (.aload_n 0, 1) := by decide +kernel
theorem d_St_putInSteps_64 : decode prog_10_method_4_code 64 = .ok (.getfield 51, 3) := by decide +kernel
theorem d_St_putInSteps_67 : decode prog_10_method_4_code 67 = .ok (.iload_n 1, 1) := by decide +kernel
theorem d_St_putInSteps_68 : decode prog_10_method_4_code 68 = .ok (.iastore, 1) := by decide +kernel
theorem d_St_putInSteps_69 : decode prog_10_method_4_code 69 = .ok (.aload_n 0, 1) := by decide +kernel
theorem d_St_putInSteps_70 : decode prog_10_method_4_code 70 = .ok (.dup, 1) := by decide +kernel
theorem d_St_putInSteps_71 : decode prog_10_method_4_code 71 = .ok (.getfield 51, 3) := by decide +kernel
theorem d_St_putInSteps_74 : decode prog_10_method_4_code 74 = .ok (.iconst 1, 1) := by decide +kernel
theorem d_St_putInSteps_75 : decode prog_10_method_4_code 75 = .ok (.iadd, 1) := by decide +kernel
theorem d_St_putInSteps_76 : decode prog_10_method_4_code 76 = .ok (.putfield 51, 3) := by decide +kernel
theorem d_St_putInSteps_79 : decode prog_10_method_4_code 79 = .ok (.iinc 1 1, 3) := by decide +kernel
theorem d_St_putInSteps_82 : decode prog_10_method_4_code 82 = .ok (.goto (-80), 3) := by decide +kernel
theorem d_St_putInSteps_85 : decode prog_10_method_4_code 85 = .ok (.return_, 1) := by decide +kernel
set_option maxHeartbeats 2000000 in
theorem St_putInSteps_L2_g {κ : tv_Kt} (hC : tv_Cx κ "TiedViews$Steps" prog_10_method_4_code 3 3) (hR : tv_Re κ none) (F : Nat) : ∀ (n : Nat) (l0 : Nat) (l1 : Int32) (M : tv_M), tv_G κ 3 (tv_Qm κ tv_ev) 2 [some (.ref (κ.b + l0)), some (.int l1), none] [] M (St_putInSteps_L2 F n l0 l1 M) := by
  intro n
  induction n with
  | zero => intro _ _ _; exact g_none
  | succ nn ih =>
    intro l0 l1 M
    rw [St_putInSteps_L2]
    refine g_gl (fun h2 => ?_)
    refine g_iload_n hC d_St_putInSteps_2 rfl ?_
    refine g_aload_n hC d_St_putInSteps_3 rfl ?_
    refine fg_St_39 hC h2 d_St_putInSteps_4 ?_
    refine g_icmp_ge (tgt := 85) hC d_St_putInSteps_7 (by decide) (fun _ => ?_) (fun _ => ?_)
    · exact g_vret hC hR d_St_putInSteps_85
    · refine g_aload_n hC d_St_putInSteps_10 rfl ?_
      refine g_iload_n hC d_St_putInSteps_11 rfl ?_
      refine gv_callVi hC [.int l1] cw_St_60 (St_leastLineAt_c F l0 l1 M) h2 rfl rfl rfl rfl rfl rfl rfl d_St_putInSteps_12 (fun r3 M4 => ?_)
      refine g_istore_n (ls' := [some (.ref (κ.b + l0)), some (.int l1), some (.int r3)]) hC d_St_putInSteps_15 rfl rfl ?_
      refine g_aload_n hC d_St_putInSteps_16 rfl ?_
      refine g_nn (fun p5 e25 => ?_)
      refine fg_St_9 hC h2 d_St_putInSteps_17 e25 ?_
      refine g_gn (fun n7 h6 => ?_)
      refine g_iload_n hC d_St_putInSteps_20 rfl ?_
      refine g_iload_n hC d_St_putInSteps_21 rfl ?_
      refine gv_iast hC h6 d_St_putInSteps_22 (fun M8 => ?_)
      refine g_iload_n hC d_St_putInSteps_23 rfl ?_
      refine g_if_lt (tgt := 59) hC d_St_putInSteps_24 (by decide) (fun _ => ?_) (fun _ => ?_)
      · refine g_aload_n hC d_St_putInSteps_59 rfl ?_
        refine g_nn (fun p9 e14 => ?_)
        refine fg_St_15 hC h2 d_St_putInSteps_60 e14 ?_
        refine g_gn (fun n11 h10 => ?_)
        refine g_aload_n hC d_St_putInSteps_63 rfl ?_
        refine fg_St_51 hC h2 d_St_putInSteps_64 ?_
        refine g_iload_n hC d_St_putInSteps_67 rfl ?_
        refine gv_iast hC h10 d_St_putInSteps_68 (fun M12 => ?_)
        refine g_aload_n hC d_St_putInSteps_69 rfl ?_
        refine g_dup hC d_St_putInSteps_70 rfl ?_
        refine fg_St_51 hC h2 d_St_putInSteps_71 ?_
        refine g_iconst hC d_St_putInSteps_74 k_i1 ?_
        refine g_iadd hC d_St_putInSteps_75 ?_
        refine fp_St_51 hC h2 d_St_putInSteps_76 (fun M13 => ?_)
        refine g_iinc (ls' := [some (.ref (κ.b + l0)), some (.int (l1 + 1)), some (.int r3)]) hC d_St_putInSteps_79 rfl k_i1 rfl rfl ?_
        refine g_goto (tgt := 2) hC d_St_putInSteps_82 (by decide) ?_
        refine g_mask [true, true, false] (ls' := [some (.ref (κ.b + l0)), some (.int (l1 + 1)), none]) rfl ?_
        exact ih l0 (l1 + 1) M13
      · refine g_aload_n hC d_St_putInSteps_27 rfl ?_
        refine g_nn (fun p15 e24 => ?_)
        refine fg_St_30 hC h2 d_St_putInSteps_28 e24 ?_
        refine g_gn (fun n17 h16 => ?_)
        refine g_iload_n hC d_St_putInSteps_31 rfl ?_
        refine g_iload_n hC d_St_putInSteps_32 rfl ?_
        refine gv_iast hC h16 d_St_putInSteps_33 (fun M18 => ?_)
        refine g_aload_n hC d_St_putInSteps_34 rfl ?_
        refine g_dup hC d_St_putInSteps_35 rfl ?_
        refine fg_St_48 hC h2 d_St_putInSteps_36 ?_
        refine g_iconst hC d_St_putInSteps_39 k_i1 ?_
        refine g_iadd hC d_St_putInSteps_40 ?_
        refine fp_St_48 hC h2 d_St_putInSteps_41 (fun M19 => ?_)
        refine g_aload_n hC d_St_putInSteps_44 rfl ?_
        refine g_iload_n hC d_St_putInSteps_45 rfl ?_
        refine g_iload_n hC d_St_putInSteps_46 rfl ?_
        refine gv_callVv hC [.int r3, .int l1] cw_St_64 (St_makeOneAt_c F l0 r3 l1 M19) h2 rfl rfl rfl rfl rfl rfl rfl d_St_putInSteps_47 (fun r20 M21 => ?_)
        refine g_aload_n hC d_St_putInSteps_50 rfl ?_
        refine g_iload_n hC d_St_putInSteps_51 rfl ?_
        refine g_iload_n hC d_St_putInSteps_52 rfl ?_
        refine gv_callVv hC [.int r3, .int l1] cw_St_68 (St_takeOffOthers_c F l0 r3 l1 M21) h2 rfl rfl rfl rfl rfl rfl rfl d_St_putInSteps_53 (fun r22 M23 => ?_)
        refine g_goto (tgt := 79) hC d_St_putInSteps_56 (by decide) ?_
        refine g_iinc (ls' := [some (.ref (κ.b + l0)), some (.int (l1 + 1)), some (.int r3)]) hC d_St_putInSteps_79 rfl k_i1 rfl rfl ?_
        refine g_goto (tgt := 2) hC d_St_putInSteps_82 (by decide) ?_
        refine g_mask [true, true, false] (ls' := [some (.ref (κ.b + l0)), some (.int (l1 + 1)), none]) rfl ?_
        exact ih l0 (l1 + 1) M23
set_option maxHeartbeats 2000000 in
theorem St_putInSteps_c {l : Launch} {θ : tv_Th} (F : Nat) (t : Nat) (M : tv_M) : tv_Ct l θ ⟨"TiedViews$Steps", "putInSteps", "()V"⟩ prog_10_method_4_code 3 none 3 tv_ev [.ref (θ.1 + t)] M (St_putInSteps F t M) := by
  refine tv_ofG [some (.ref (θ.1 + t)), none, none] rfl rfl (tv_ent 2 rfl) ?_
  intro κ hl ht hC hR
  subst hl; subst ht
  unfold St_putInSteps
  refine g_gl (fun h1 => ?_)
  refine g_iconst hC d_St_putInSteps_0 k_i0 ?_
  refine g_istore_n (ls' := [some (.ref (κ.b + t)), some (.int 0), none]) hC d_St_putInSteps_1 rfl rfl ?_
  exact St_putInSteps_L2_g hC hR F F t 0 M
theorem d_Ag_learnLines_0 : decode prog_2_method_6_code 0 = .ok (.aload_n 0, 1) := by decide +kernel
theorem d_Ag_learnLines_1 : decode prog_2_method_6_code 1 = .ok (.getfield 26, 3) := by decide +kernel
theorem d_Ag_learnLines_4 : decode prog_2_method_6_code 4 = .ok (.aload_n 0, 1) := by decide +kernel
theorem d_Ag_learnLines_5 : decode prog_2_method_6_code 5 = .ok (.getfield 9, 3) := by decide +kernel
theorem d_Ag_learnLines_8 : decode prog_2_method_6_code 8 = .ok (.getfield 40, 3) := by decide +kernel
theorem d_Ag_learnLines_11 : decode prog_2_method_6_code 11 = .ok (.aload_n 0, 1) := by decide +kernel
theorem d_Ag_learnLines_12 : decode prog_2_method_6_code 12 = .ok (.getfield 9, 3) := by decide +kernel
theorem d_Ag_learnLines_15 : decode prog_2_method_6_code 15 = .ok (.getfield 61, 3) := by decide +kernel
theorem d_Ag_learnLines_18 : decode prog_2_method_6_code 18 = .ok (.invokevirtual 63, 3) := by decide +kernel
theorem d_Ag_learnLines_21 : decode prog_2_method_6_code 21 = .ok (.aload_n 0, 1) := by decide +kernel
theorem d_Ag_learnLines_22 : decode prog_2_method_6_code 22 = .ok (.aload_n 0, 1) := by decide +kernel
theorem d_Ag_learnLines_23 : decode prog_2_method_6_code 23 = .ok (.getfield 26, 3) := by decide +kernel
theorem d_Ag_learnLines_26 : decode prog_2_method_6_code 26 = .ok (.iconst (-1), 1) := by decide +kernel
theorem d_Ag_learnLines_27 : decode prog_2_method_6_code 27 = .ok (.iconst 1, 1) := by decide +kernel
theorem d_Ag_learnLines_28 : decode prog_2_method_6_code 28 = .ok (.invokevirtual 67, 3) := by decide +kernel
theorem d_Ag_learnLines_31 : decode prog_2_method_6_code 31 = .ok (.aload_n 0, 1) := by decide +kernel
theorem d_Ag_learnLines_32 : decode prog_2_method_6_code 32 = .ok (.getfield 26, 3) := by decide +kernel
theorem d_Ag_learnLines_35 : decode prog_2_method_6_code 35 = .ok (.invokevirtual 71, 3) := by decide +kernel
theorem d_Ag_learnLines_38 : decode prog_2_method_6_code 38 = .ok (.aload_n 0, 1) := by decide +kernel
theorem d_Ag_learnLines_39 : decode prog_2_method_6_code 39 = .ok (.iconst 0, 1) := by decide +kernel
theorem d_Ag_learnLines_40 : decode prog_2_method_6_code 40 = .ok (.putfield 33, 3) := by decide +kernel
theorem d_Ag_learnLines_43 : decode prog_2_method_6_code 43 = .ok (.return_, 1) := by decide +kernel
set_option maxHeartbeats 2000000 in
theorem Ag_learnLines_c {l : Launch} {θ : tv_Th} (F : Nat) (M : tv_M) : tv_Ct l θ ⟨"TiedViews$Agreement", "learnLines", "()V"⟩ prog_2_method_6_code 1 none 4 tv_ev [.ref (θ.1 + 70)] M (Ag_learnLines F M) := by
  refine tv_ofG [some (.ref (θ.1 + 70))] rfl rfl (tv_ent 0 rfl) ?_
  intro κ hl ht hC hR
  subst hl; subst ht
  unfold Ag_learnLines
  refine g_aload_n hC d_Ag_learnLines_0 rfl ?_
  refine fg_Ag_26 hC lc_70 d_Ag_learnLines_1 p0_70_1 ?_
  refine g_aload_n hC d_Ag_learnLines_4 rfl ?_
  refine fg_Ag_9 hC lc_70 d_Ag_learnLines_5 p0_70_0 ?_
  refine fg_Ag_40 hC lc_18 d_Ag_learnLines_8 ?_
  refine g_aload_n hC d_Ag_learnLines_11 rfl ?_
  refine fg_Ag_9 hC lc_70 d_Ag_learnLines_12 p0_70_0 ?_
  refine fg_Ag_61 hC lc_18 d_Ag_learnLines_15 ?_
  refine gv_callVv hC [.int (M.1 18 7), .int (M.1 18 8)] cw_Ag_63 (St_begin_c F 71 (M.1 18 7) (M.1 18 8) M) lc_71 rfl rfl rfl rfl rfl rfl rfl d_Ag_learnLines_18 (fun r1 M2 => ?_)
  refine g_aload_n hC d_Ag_learnLines_21 rfl ?_
  refine g_aload_n hC d_Ag_learnLines_22 rfl ?_
  refine fg_Ag_26 hC lc_70 d_Ag_learnLines_23 p0_70_1 ?_
  refine g_iconst hC d_Ag_learnLines_26 k_im1 ?_
  refine g_iconst hC d_Ag_learnLines_27 k_i1 ?_
  refine gv_callVv hC [.ref (κ.b + 71), .int (-1), .int 1] cw_Ag_67 (Ag_addLines_c F 71 (-1) 1 M2) lc_70 rfl rfl rfl rfl rfl rfl rfl d_Ag_learnLines_28 (fun r3 M4 => ?_)
  refine g_aload_n hC d_Ag_learnLines_31 rfl ?_
  refine fg_Ag_26 hC lc_70 d_Ag_learnLines_32 p0_70_1 ?_
  refine gv_callVv hC [] cw_Ag_71 (St_putInSteps_c F 71 M4) lc_71 rfl rfl rfl rfl rfl rfl rfl d_Ag_learnLines_35 (fun r5 M6 => ?_)
  refine g_aload_n hC d_Ag_learnLines_38 rfl ?_
  refine g_iconst hC d_Ag_learnLines_39 k_i0 ?_
  refine fp_Ag_33 hC lc_70 tv_z0 d_Ag_learnLines_40 (fun M7 => ?_)
  exact g_vret hC hR d_Ag_learnLines_43
theorem d_Dr_forget_0 : decode prog_5_method_2_code 0 = .ok (.aload_n 0, 1) := by decide +kernel
theorem d_Dr_forget_1 : decode prog_5_method_2_code 1 = .ok (.iconst 0, 1) := by decide +kernel
theorem d_Dr_forget_2 : decode prog_5_method_2_code 2 = .ok (.putfield 28, 3) := by decide +kernel
theorem d_Dr_forget_5 : decode prog_5_method_2_code 5 = .ok (.return_, 1) := by decide +kernel
set_option maxHeartbeats 2000000 in
theorem Dr_forget_c {l : Launch} {θ : tv_Th} (F : Nat) (M : tv_M) : tv_Ct l θ ⟨"TiedViews$Dropping", "forget", "()V"⟩ prog_5_method_2_code 1 none 0 tv_ev [.ref (θ.1 + 165)] M (Dr_forget F M) := by
  refine tv_ofG [some (.ref (θ.1 + 165))] rfl rfl (tv_ent 0 rfl) ?_
  intro κ hl ht hC hR
  subst hl; subst ht
  unfold Dr_forget
  refine g_aload_n hC d_Dr_forget_0 rfl ?_
  refine g_iconst hC d_Dr_forget_1 k_i0 ?_
  refine fp_Dr_28 hC lc_165 tv_z0 d_Dr_forget_2 (fun M1 => ?_)
  exact g_vret hC hR d_Dr_forget_5
theorem d_Ch_bar_0 : decode prog_4_method_4_code 0 = .ok (.aload_n 0, 1) := by decide +kernel
theorem d_Ch_bar_1 : decode prog_4_method_4_code 1 = .ok (.getfield 11, 3) := by decide +kernel
theorem d_Ch_bar_4 : decode prog_4_method_4_code 4 = .ok (.iload_n 1, 1) := by decide +kernel
theorem d_Ch_bar_5 : decode prog_4_method_4_code 5 = .ok (.iconst 4, 1) := by decide +kernel
theorem d_Ch_bar_6 : decode prog_4_method_4_code 6 = .ok (.imul, 1) := by decide +kernel
theorem d_Ch_bar_7 : decode prog_4_method_4_code 7 = .ok (.iload_n 2, 1) := by decide +kernel
theorem d_Ch_bar_8 : decode prog_4_method_4_code 8 = .ok (.iadd, 1) := by decide +kernel
theorem d_Ch_bar_9 : decode prog_4_method_4_code 9 = .ok (.aaload, 1) := by decide +kernel
theorem d_Ch_bar_10 : decode prog_4_method_4_code 10 = .ok (.iload_n 3, 1) := by decide +kernel
theorem d_Ch_bar_11 : decode prog_4_method_4_code 11 = .ok (.dup2, 1) := by decide +kernel
theorem d_Ch_bar_12 : decode prog_4_method_4_code 12 = .ok (.iaload, 1) := by decide +kernel
theorem d_Ch_bar_13 : decode prog_4_method_4_code 13 = .ok (.iconst 1, 1) := by decide +kernel
theorem d_Ch_bar_14 : decode prog_4_method_4_code 14 = .ok (.iload 4, 2) := by decide +kernel
theorem d_Ch_bar_16 : decode prog_4_method_4_code 16 = .ok (.ishl, 1) := by decide +kernel
theorem d_Ch_bar_17 : decode prog_4_method_4_code 17 = .ok (.iconst (-1), 1) := by decide +kernel
theorem d_Ch_bar_18 : decode prog_4_method_4_code 18 = .ok (.ixor, 1) := by decide +kernel
theorem d_Ch_bar_19 : decode prog_4_method_4_code 19 = .ok (.iand, 1) := by decide +kernel
theorem d_Ch_bar_20 : decode prog_4_method_4_code 20 = .ok (.iastore, 1) := by decide +kernel
theorem d_Ch_bar_21 : decode prog_4_method_4_code 21 = .ok (.aload_n 0, 1) := by decide +kernel
theorem d_Ch_bar_22 : decode prog_4_method_4_code 22 = .ok (.getfield 11, 3) := by decide +kernel
theorem d_Ch_bar_25 : decode prog_4_method_4_code 25 = .ok (.iload_n 3, 1) := by decide +kernel
theorem d_Ch_bar_26 : decode prog_4_method_4_code 26 = .ok (.iconst 4, 1) := by decide +kernel
theorem d_Ch_bar_27 : decode prog_4_method_4_code 27 = .ok (.imul, 1) := by decide +kernel
theorem d_Ch_bar_28 : decode prog_4_method_4_code 28 = .ok (.iload 4, 2) := by decide +kernel
theorem d_Ch_bar_30 : decode prog_4_method_4_code 30 = .ok (.iadd, 1) := by decide +kernel
theorem d_Ch_bar_31 : decode prog_4_method_4_code 31 = .ok (.aaload, 1) := by decide +kernel
theorem d_Ch_bar_32 : decode prog_4_method_4_code 32 = .ok (.iload_n 1, 1) := by decide +kernel
theorem d_Ch_bar_33 : decode prog_4_method_4_code 33 = .ok (.dup2, 1) := by decide +kernel
theorem d_Ch_bar_34 : decode prog_4_method_4_code 34 = .ok (.iaload, 1) := by decide +kernel
theorem d_Ch_bar_35 : decode prog_4_method_4_code 35 = .ok (.iconst 1, 1) := by decide +kernel
theorem d_Ch_bar_36 : decode prog_4_method_4_code 36 = .ok (.iload_n 2, 1) := by decide +kernel
theorem d_Ch_bar_37 : decode prog_4_method_4_code 37 = .ok (.ishl, 1) := by decide +kernel
theorem d_Ch_bar_38 : decode prog_4_method_4_code 38 = .ok (.iconst (-1), 1) := by decide +kernel
theorem d_Ch_bar_39 : decode prog_4_method_4_code 39 = .ok (.ixor, 1) := by decide +kernel
theorem d_Ch_bar_40 : decode prog_4_method_4_code 40 = .ok (.iand, 1) := by decide +kernel
theorem d_Ch_bar_41 : decode prog_4_method_4_code 41 = .ok (.iastore, 1) := by decide +kernel
theorem d_Ch_bar_42 : decode prog_4_method_4_code 42 = .ok (.aload_n 0, 1) := by decide +kernel
theorem d_Ch_bar_43 : decode prog_4_method_4_code 43 = .ok (.getfield 16, 3) := by decide +kernel
theorem d_Ch_bar_46 : decode prog_4_method_4_code 46 = .ok (.iload_n 1, 1) := by decide +kernel
theorem d_Ch_bar_47 : decode prog_4_method_4_code 47 = .ok (.iload_n 3, 1) := by decide +kernel
theorem d_Ch_bar_48 : decode prog_4_method_4_code 48 = .ok (.invokestatic 54, 3) := by decide +kernel
theorem d_Ch_bar_51 : decode prog_4_method_4_code 51 = .ok (.iconst 1, 1) := by decide +kernel
theorem d_Ch_bar_52 : decode prog_4_method_4_code 52 = .ok (.bastore, 1) := by decide +kernel
theorem d_Ch_bar_53 : decode prog_4_method_4_code 53 = .ok (.return_, 1) := by decide +kernel
set_option maxHeartbeats 2000000 in
theorem Ch_bar_c {l : Launch} {θ : tv_Th} (F : Nat) (a1 : Int32) (a2 : Int32) (a3 : Int32) (a4 : Int32) (M : tv_M) : tv_Ct l θ ⟨"TiedViews$Choices", "bar", "(IIII)V"⟩ prog_4_method_4_code 5 none 1 tv_ev [.ref (θ.1 + 201), .int a1, .int a2, .int a3, .int a4] M (Ch_bar F a1 a2 a3 a4 M) := by
  refine tv_ofG [some (.ref (θ.1 + 201)), some (.int a1), some (.int a2), some (.int a3), some (.int a4)] rfl rfl (tv_ent 0 rfl) ?_
  intro κ hl ht hC hR
  subst hl; subst ht
  unfold Ch_bar
  refine g_aload_n hC d_Ch_bar_0 rfl ?_
  refine fg_Ch_11 hC lc_201 d_Ch_bar_1 p0_201_1 ?_
  refine g_iload_n hC d_Ch_bar_4 rfl ?_
  refine g_iconst hC d_Ch_bar_5 k_i4 ?_
  refine g_imul hC d_Ch_bar_6 ?_
  refine g_iload_n hC d_Ch_bar_7 rfl ?_
  refine g_iadd hC d_Ch_bar_8 ?_
  refine gv_aald hC 3 ly_202 rfl d_Ch_bar_9 (fun p1 => ?_)
  refine g_gn (fun n3 h2 => ?_)
  refine g_iload_n hC d_Ch_bar_10 rfl ?_
  refine g_dup2 hC d_Ch_bar_11 rfl rfl ?_
  refine gv_iald hC h2 d_Ch_bar_12 (fun x4 => ?_)
  refine g_iconst hC d_Ch_bar_13 k_i1 ?_
  refine g_iload hC d_Ch_bar_14 rfl ?_
  refine g_ishl hC d_Ch_bar_16 ?_
  refine g_iconst hC d_Ch_bar_17 k_im1 ?_
  refine g_ixor hC d_Ch_bar_18 ?_
  refine g_iand hC d_Ch_bar_19 ?_
  refine gv_iast hC h2 d_Ch_bar_20 (fun M5 => ?_)
  refine g_aload_n hC d_Ch_bar_21 rfl ?_
  refine fg_Ch_11 hC lc_201 d_Ch_bar_22 p0_201_1 ?_
  refine g_iload_n hC d_Ch_bar_25 rfl ?_
  refine g_iconst hC d_Ch_bar_26 k_i4 ?_
  refine g_imul hC d_Ch_bar_27 ?_
  refine g_iload hC d_Ch_bar_28 rfl ?_
  refine g_iadd hC d_Ch_bar_30 ?_
  refine gv_aald hC 3 ly_202 rfl d_Ch_bar_31 (fun p6 => ?_)
  refine g_gn (fun n8 h7 => ?_)
  refine g_iload_n hC d_Ch_bar_32 rfl ?_
  refine g_dup2 hC d_Ch_bar_33 rfl rfl ?_
  refine gv_iald hC h7 d_Ch_bar_34 (fun x9 => ?_)
  refine g_iconst hC d_Ch_bar_35 k_i1 ?_
  refine g_iload_n hC d_Ch_bar_36 rfl ?_
  refine g_ishl hC d_Ch_bar_37 ?_
  refine g_iconst hC d_Ch_bar_38 k_im1 ?_
  refine g_ixor hC d_Ch_bar_39 ?_
  refine g_iand hC d_Ch_bar_40 ?_
  refine gv_iast hC h7 d_Ch_bar_41 (fun M10 => ?_)
  refine g_aload_n hC d_Ch_bar_42 rfl ?_
  refine fg_Ch_16 hC lc_201 d_Ch_bar_43 p0_201_2 ?_
  refine g_iload_n hC d_Ch_bar_46 rfl ?_
  refine g_iload_n hC d_Ch_bar_47 rfl ?_
  refine gv_callSi hC [.int a1, .int a3] cw_Ch_54 (Jv_min_c F a1 a3 M10) rfl rfl rfl rfl rfl d_Ch_bar_48 (fun r11 M12 => ?_)
  refine g_iconst hC d_Ch_bar_51 k_i1 ?_
  refine gv_zast hC ly_235 d_Ch_bar_52 (fun M13 => ?_)
  exact g_vret hC hR d_Ch_bar_53
theorem d_Ch_learnBars_0 : decode prog_4_method_3_code 0 = .ok (.iconst 0, 1) := by decide +kernel
theorem d_Ch_learnBars_1 : decode prog_4_method_3_code 1 = .ok (.istore_n 1, 1) := by decide +kernel
theorem d_Ch_learnBars_2 : decode prog_4_method_3_code 2 = .ok (.iload_n 1, 1) := by decide +kernel
theorem d_Ch_learnBars_3 : decode prog_4_method_3_code 3 = .ok (.bipush 32, 2) := by decide +kernel
theorem d_Ch_learnBars_5 : decode prog_4_method_3_code 5 = .ok (.if_icmp .ge 20, 3) := by decide +kernel
theorem d_Ch_learnBars_8 : decode prog_4_method_3_code 8 = .ok (.aload_n 0, 1) := by decide +kernel
theorem d_Ch_learnBars_9 : decode prog_4_method_3_code 9 = .ok (.getfield 11, 3) := by decide +kernel
theorem d_Ch_learnBars_12 : decode prog_4_method_3_code 12 = .ok (.iload_n 1, 1) := by decide +kernel
theorem d_Ch_learnBars_13 : decode prog_4_method_3_code 13 = .ok (.aaload, 1) := by decide +kernel
theorem d_Ch_learnBars_14 : decode prog_4_method_3_code 14 = .ok (.bipush 15, 2) := by decide +kernel
theorem d_Ch_learnBars_16 : decode prog_4_method_3_code 16 = .ok (.invokestatic 35, 3) := by decide +kernel
theorem d_Ch_learnBars_19 : decode prog_4_method_3_code 19 = .ok (.iinc 1 1, 3) := by decide +kernel
theorem d_Ch_learnBars_22 : decode prog_4_method_3_code 22 = .ok (.goto (-20), 3) := by decide +kernel
theorem d_Ch_learnBars_25 : decode prog_4_method_3_code 25 = .ok (.iconst 0, 1) := by decide +kernel
theorem d_Ch_learnBars_26 : decode prog_4_method_3_code 26 = .ok (.istore_n 1, 1) := by decide +kernel
theorem d_Ch_learnBars_27 : decode prog_4_method_3_code 27 = .ok (.iload_n 1, 1) := by decide +kernel
theorem d_Ch_learnBars_28 : decode prog_4_method_3_code 28 = .ok (.bipush 8, 2) := by decide +kernel
theorem d_Ch_learnBars_30 : decode prog_4_method_3_code 30 = .ok (.if_icmp .ge 16, 3) := by decide +kernel
theorem d_Ch_learnBars_33 : decode prog_4_method_3_code 33 = .ok (.aload_n 0, 1) := by decide +kernel
theorem d_Ch_learnBars_34 : decode prog_4_method_3_code 34 = .ok (.getfield 16, 3) := by decide +kernel
theorem d_Ch_learnBars_37 : decode prog_4_method_3_code 37 = .ok (.iload_n 1, 1) := by decide +kernel
theorem d_Ch_learnBars_38 : decode prog_4_method_3_code 38 = .ok (.iconst 0, 1) := by decide +kernel
theorem d_Ch_learnBars_39 : decode prog_4_method_3_code 39 = .ok (.bastore, 1) := by decide +kernel
theorem d_Ch_learnBars_40 : decode prog_4_method_3_code 40 = .ok (.iinc 1 1, 3) := by decide +kernel
theorem d_Ch_learnBars_43 : decode prog_4_method_3_code 43 = .ok (.goto (-16), 3) := by decide +kernel
theorem d_Ch_learnBars_46 : decode prog_4_method_3_code 46 = .ok (.iconst 0, 1) := by decide +kernel
theorem d_Ch_learnBars_47 : decode prog_4_method_3_code 47 = .ok (.istore_n 1, 1) := by decide +kernel
theorem d_Ch_learnBars_48 : decode prog_4_method_3_code 48 = .ok (.iload_n 1, 1) := by decide +kernel
theorem d_Ch_learnBars_49 : decode prog_4_method_3_code 49 = .ok (.aload_n 0, 1) := by decide +kernel
theorem d_Ch_learnBars_50 : decode prog_4_method_3_code 50 = .ok (.getfield 27, 3) := by decide +kernel
theorem d_Ch_learnBars_53 : decode prog_4_method_3_code 53 = .ok (.getfield 41, 3) := by decide +kernel
theorem d_Ch_learnBars_56 : decode prog_4_method_3_code 56 = .ok (.if_icmp .ge 59, 3) := by decide +kernel
theorem d_Ch_learnBars_59 : decode prog_4_method_3_code 59 = .ok (.iload_n 1, 1) := by decide +kernel
theorem d_Ch_learnBars_60 : decode prog_4_method_3_code 60 = .ok (.iconst 4, 1) := by decide +kernel
theorem d_Ch_learnBars_61 : decode prog_4_method_3_code 61 = .ok (.imul, 1) := by decide +kernel
theorem d_Ch_learnBars_62 : decode prog_4_method_3_code 62 = .ok (.istore_n 2, 1) := by decide +kernel
theorem d_Ch_learnBars_63 : decode prog_4_method_3_code 63 = .ok (.aload_n 0, 1) := by decide +kernel
theorem d_Ch_learnBars_64 : decode prog_4_method_3_code 64 = .ok (.aload_n 0, 1) := by decide +kernel
theorem d_Ch_learnBars_65 : decode prog_4_method_3_code 65 = .ok (.getfield 27, 3) := by decide +kernel
theorem d_Ch_learnBars_68 : decode prog_4_method_3_code 68 = .ok (.getfield 47, 3) := by decide +kernel
theorem d_Ch_learnBars_71 : decode prog_4_method_3_code 71 = .ok (.iload_n 2, 1) := by decide +kernel
theorem d_Ch_learnBars_72 : decode prog_4_method_3_code 72 = .ok (.iaload, 1) := by decide +kernel
theorem d_Ch_learnBars_73 : decode prog_4_method_3_code 73 = .ok (.aload_n 0, 1) := by decide +kernel
theorem d_Ch_learnBars_74 : decode prog_4_method_3_code 74 = .ok (.getfield 27, 3) := by decide +kernel
theorem d_Ch_learnBars_77 : decode prog_4_method_3_code 77 = .ok (.getfield 47, 3) := by decide +kernel
theorem d_Ch_learnBars_80 : decode prog_4_method_3_code 80 = .ok (.iload_n 2, 1) := by decide +kernel
theorem d_Ch_learnBars_81 : decode prog_4_method_3_code 81 = .ok (.iconst 1, 1) := by decide +kernel
theorem d_Ch_learnBars_82 : decode prog_4_method_3_code 82 = .ok (.iadd, 1) := by decide +kernel
theorem d_Ch_learnBars_83 : decode prog_4_method_3_code 83 = .ok (.iaload, 1) := by decide +kernel
theorem d_Ch_learnBars_84 : decode prog_4_method_3_code 84 = .ok (.aload_n 0, 1) := by decide +kernel
theorem d_Ch_learnBars_85 : decode prog_4_method_3_code 85 = .ok (.getfield 27, 3) := by decide +kernel
theorem d_Ch_learnBars_88 : decode prog_4_method_3_code 88 = .ok (.getfield 47, 3) := by decide +kernel
theorem d_Ch_learnBars_91 : decode prog_4_method_3_code 91 = .ok (.iload_n 2, 1) := by decide +kernel
theorem d_Ch_learnBars_92 : decode prog_4_method_3_code 92 = .ok (.iconst 2, 1) := by decide +kernel
theorem d_Ch_learnBars_93 : decode prog_4_method_3_code 93 = .ok (.iadd, 1) := by decide +kernel
theorem d_Ch_learnBars_94 : decode prog_4_method_3_code 94 = .ok (.iaload, 1) := by decide +kernel
theorem d_Ch_learnBars_95 : decode prog_4_method_3_code 95 = .ok (.aload_n 0, 1) := by decide +kernel
theorem d_Ch_learnBars_96 : decode prog_4_method_3_code 96 = .ok (.getfield 27, 3) := by decide +kernel
theorem d_Ch_learnBars_99 : decode prog_4_method_3_code 99 = .ok (.getfield 47, 3) := by decide +kernel
theorem d_Ch_learnBars_102 : decode prog_4_method_3_code 102 = .ok (.iload_n 2, 1) := by decide +kernel
theorem d_Ch_learnBars_103 : decode prog_4_method_3_code 103 = .ok (.iconst 3, 1) := by decide +kernel
theorem d_Ch_learnBars_104 : decode prog_4_method_3_code 104 = .ok (.iadd, 1) := by decide +kernel
theorem d_Ch_learnBars_105 : decode prog_4_method_3_code 105 = .ok (.iaload, 1) := by decide +kernel
theorem d_Ch_learnBars_106 : decode prog_4_method_3_code 106 = .ok (.invokevirtual 50, 3) := by decide +kernel
theorem d_Ch_learnBars_109 : decode prog_4_method_3_code 109 = .ok (.iinc 1 1, 3) := by decide +kernel
theorem d_Ch_learnBars_112 : decode prog_4_method_3_code 112 = .ok (.goto (-64), 3) := by decide +kernel
theorem d_Ch_learnBars_115 : decode prog_4_method_3_code 115 = .ok (.aload_n 0, 1) := by decide +kernel
theorem d_Ch_learnBars_116 : decode prog_4_method_3_code 116 = .ok (.iconst 0, 1) := by decide +kernel
theorem d_Ch_learnBars_117 : decode prog_4_method_3_code 117 = .ok (.putfield 31, 3) := by decide +kernel
theorem d_Ch_learnBars_120 : decode prog_4_method_3_code 120 = .ok (.return_, 1) := by decide +kernel
set_option maxHeartbeats 2000000 in
theorem Ch_learnBars_L48_g {κ : tv_Kt} (hC : tv_Cx κ "TiedViews$Choices" prog_4_method_3_code 3 2) (hR : tv_Re κ none) (F : Nat) : ∀ (n : Nat) (l1 : Int32) (M : tv_M), tv_G κ 3 (tv_Qm κ tv_ev) 48 [some (.ref (κ.b + 201)), some (.int l1), none] [] M (Ch_learnBars_L48 F n l1 M) := by
  intro n
  induction n with
  | zero => intro _ _; exact g_none
  | succ nn ih =>
    intro l1 M
    rw [Ch_learnBars_L48]
    refine g_iload_n hC d_Ch_learnBars_48 rfl ?_
    refine g_aload_n hC d_Ch_learnBars_49 rfl ?_
    refine fg_Ch_27 hC lc_201 d_Ch_learnBars_50 p0_201_0 ?_
    refine fg_Ch_41 hC lc_18 d_Ch_learnBars_53 ?_
    refine g_icmp_ge (tgt := 115) hC d_Ch_learnBars_56 (by decide) (fun _ => ?_) (fun _ => ?_)
    · refine g_aload_n hC d_Ch_learnBars_115 rfl ?_
      refine g_iconst hC d_Ch_learnBars_116 k_i0 ?_
      refine fp_Ch_31 hC lc_201 tv_z0 d_Ch_learnBars_117 (fun M7 => ?_)
      exact g_vret hC hR d_Ch_learnBars_120
    · refine g_iload_n hC d_Ch_learnBars_59 rfl ?_
      refine g_iconst hC d_Ch_learnBars_60 k_i4 ?_
      refine g_imul hC d_Ch_learnBars_61 ?_
      refine g_istore_n (ls' := [some (.ref (κ.b + 201)), some (.int l1), some (.int (l1 * 4))]) hC d_Ch_learnBars_62 rfl rfl ?_
      refine g_aload_n hC d_Ch_learnBars_63 rfl ?_
      refine g_aload_n hC d_Ch_learnBars_64 rfl ?_
      refine fg_Ch_27 hC lc_201 d_Ch_learnBars_65 p0_201_0 ?_
      refine fg_Ch_47 hC lc_18 d_Ch_learnBars_68 p0_18_3 ?_
      refine g_iload_n hC d_Ch_learnBars_71 rfl ?_
      refine gv_iald hC ly_21 d_Ch_learnBars_72 (fun x8 => ?_)
      refine g_aload_n hC d_Ch_learnBars_73 rfl ?_
      refine fg_Ch_27 hC lc_201 d_Ch_learnBars_74 p0_201_0 ?_
      refine fg_Ch_47 hC lc_18 d_Ch_learnBars_77 p0_18_3 ?_
      refine g_iload_n hC d_Ch_learnBars_80 rfl ?_
      refine g_iconst hC d_Ch_learnBars_81 k_i1 ?_
      refine g_iadd hC d_Ch_learnBars_82 ?_
      refine gv_iald hC ly_21 d_Ch_learnBars_83 (fun x9 => ?_)
      refine g_aload_n hC d_Ch_learnBars_84 rfl ?_
      refine fg_Ch_27 hC lc_201 d_Ch_learnBars_85 p0_201_0 ?_
      refine fg_Ch_47 hC lc_18 d_Ch_learnBars_88 p0_18_3 ?_
      refine g_iload_n hC d_Ch_learnBars_91 rfl ?_
      refine g_iconst hC d_Ch_learnBars_92 k_i2 ?_
      refine g_iadd hC d_Ch_learnBars_93 ?_
      refine gv_iald hC ly_21 d_Ch_learnBars_94 (fun x10 => ?_)
      refine g_aload_n hC d_Ch_learnBars_95 rfl ?_
      refine fg_Ch_27 hC lc_201 d_Ch_learnBars_96 p0_201_0 ?_
      refine fg_Ch_47 hC lc_18 d_Ch_learnBars_99 p0_18_3 ?_
      refine g_iload_n hC d_Ch_learnBars_102 rfl ?_
      refine g_iconst hC d_Ch_learnBars_103 k_i3 ?_
      refine g_iadd hC d_Ch_learnBars_104 ?_
      refine gv_iald hC ly_21 d_Ch_learnBars_105 (fun x11 => ?_)
      refine gv_callVv hC [.int x8, .int x9, .int x10, .int x11] cw_Ch_50 (Ch_bar_c F x8 x9 x10 x11 M) lc_201 rfl rfl rfl rfl rfl rfl rfl d_Ch_learnBars_106 (fun r12 M13 => ?_)
      refine g_iinc (ls' := [some (.ref (κ.b + 201)), some (.int (l1 + 1)), some (.int (l1 * 4))]) hC d_Ch_learnBars_109 rfl k_i1 rfl rfl ?_
      refine g_goto (tgt := 48) hC d_Ch_learnBars_112 (by decide) ?_
      refine g_mask [true, true, false] (ls' := [some (.ref (κ.b + 201)), some (.int (l1 + 1)), none]) rfl ?_
      exact ih (l1 + 1) M13
set_option maxHeartbeats 2000000 in
theorem Ch_learnBars_L27_g {κ : tv_Kt} (hC : tv_Cx κ "TiedViews$Choices" prog_4_method_3_code 3 2) (hR : tv_Re κ none) (F : Nat) : ∀ (n : Nat) (l1 : Int32) (M : tv_M), tv_G κ 3 (tv_Qm κ tv_ev) 27 [some (.ref (κ.b + 201)), some (.int l1), none] [] M (Ch_learnBars_L27 F n l1 M) := by
  intro n
  induction n with
  | zero => intro _ _; exact g_none
  | succ nn ih =>
    intro l1 M
    rw [Ch_learnBars_L27]
    refine g_iload_n hC d_Ch_learnBars_27 rfl ?_
    refine g_bipush hC d_Ch_learnBars_28 k_b8 ?_
    refine g_icmp_ge (tgt := 46) hC d_Ch_learnBars_30 (by decide) (fun _ => ?_) (fun _ => ?_)
    · refine g_iconst hC d_Ch_learnBars_46 k_i0 ?_
      refine g_istore_n (ls' := [some (.ref (κ.b + 201)), some (.int 0), none]) hC d_Ch_learnBars_47 rfl rfl ?_
      exact Ch_learnBars_L48_g hC hR F F 0 M
    · refine g_aload_n hC d_Ch_learnBars_33 rfl ?_
      refine fg_Ch_16 hC lc_201 d_Ch_learnBars_34 p0_201_2 ?_
      refine g_iload_n hC d_Ch_learnBars_37 rfl ?_
      refine g_iconst hC d_Ch_learnBars_38 k_i0 ?_
      refine gv_zast hC ly_235 d_Ch_learnBars_39 (fun M6 => ?_)
      refine g_iinc (ls' := [some (.ref (κ.b + 201)), some (.int (l1 + 1)), none]) hC d_Ch_learnBars_40 rfl k_i1 rfl rfl ?_
      refine g_goto (tgt := 27) hC d_Ch_learnBars_43 (by decide) ?_
      exact ih (l1 + 1) M6
set_option maxHeartbeats 2000000 in
theorem Ch_learnBars_L2_g {κ : tv_Kt} (hC : tv_Cx κ "TiedViews$Choices" prog_4_method_3_code 3 2) (hR : tv_Re κ none) (F : Nat) : ∀ (n : Nat) (l1 : Int32) (M : tv_M), tv_G κ 3 (tv_Qm κ tv_ev) 2 [some (.ref (κ.b + 201)), some (.int l1), none] [] M (Ch_learnBars_L2 F n l1 M) := by
  intro n
  induction n with
  | zero => intro _ _; exact g_none
  | succ nn ih =>
    intro l1 M
    rw [Ch_learnBars_L2]
    refine g_iload_n hC d_Ch_learnBars_2 rfl ?_
    refine g_bipush hC d_Ch_learnBars_3 k_b32 ?_
    refine g_icmp_ge (tgt := 25) hC d_Ch_learnBars_5 (by decide) (fun _ => ?_) (fun _ => ?_)
    · refine g_iconst hC d_Ch_learnBars_25 k_i0 ?_
      refine g_istore_n (ls' := [some (.ref (κ.b + 201)), some (.int 0), none]) hC d_Ch_learnBars_26 rfl rfl ?_
      exact Ch_learnBars_L27_g hC hR F F 0 M
    · refine g_aload_n hC d_Ch_learnBars_8 rfl ?_
      refine fg_Ch_11 hC lc_201 d_Ch_learnBars_9 p0_201_1 ?_
      refine g_iload_n hC d_Ch_learnBars_12 rfl ?_
      refine gv_aald hC 3 ly_202 rfl d_Ch_learnBars_13 (fun p1 => ?_)
      refine g_gn (fun n3 h2 => ?_)
      refine g_bipush hC d_Ch_learnBars_14 k_b15 ?_
      refine gv_callSv hC [.ref (κ.b + p1), .int 15] cw_Ch_35 (Jv_fill_c F p1 15 M) rfl rfl rfl rfl rfl d_Ch_learnBars_16 (fun r4 M5 => ?_)
      refine g_iinc (ls' := [some (.ref (κ.b + 201)), some (.int (l1 + 1)), none]) hC d_Ch_learnBars_19 rfl k_i1 rfl rfl ?_
      refine g_goto (tgt := 2) hC d_Ch_learnBars_22 (by decide) ?_
      exact ih (l1 + 1) M5
set_option maxHeartbeats 2000000 in
theorem Ch_learnBars_c {l : Launch} {θ : tv_Th} (F : Nat) (M : tv_M) : tv_Ct l θ ⟨"TiedViews$Choices", "learnBars", "()V"⟩ prog_4_method_3_code 3 none 2 tv_ev [.ref (θ.1 + 201)] M (Ch_learnBars F M) := by
  refine tv_ofG [some (.ref (θ.1 + 201)), none, none] rfl rfl (tv_ent 2 rfl) ?_
  intro κ hl ht hC hR
  subst hl; subst ht
  unfold Ch_learnBars
  refine g_iconst hC d_Ch_learnBars_0 k_i0 ?_
  refine g_istore_n (ls' := [some (.ref (κ.b + 201)), some (.int 0), none]) hC d_Ch_learnBars_1 rfl rfl ?_
  exact Ch_learnBars_L2_g hC hR F F 0 M
