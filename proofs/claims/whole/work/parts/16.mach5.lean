theorem d_Md_copy_0 : decode prog_14_method_10_code 0 = .ok (.aload_n 0, 1) := by decide +kernel
theorem d_Md_copy_1 : decode prog_14_method_10_code 1 = .ok (.iconst 0, 1) := by decide +kernel
theorem d_Md_copy_2 : decode prog_14_method_10_code 2 = .ok (.putfield 1, 3) := by decide +kernel
theorem d_Md_copy_5 : decode prog_14_method_10_code 5 = .ok (.iload_n 1, 1) := by decide +kernel
theorem d_Md_copy_6 : decode prog_14_method_10_code 6 = .ok (.invokestatic 121, 3) := by decide +kernel
theorem d_Md_copy_9 : decode prog_14_method_10_code 9 = .ok (.ifCond .eq 10, 3) := by decide +kernel
theorem d_Md_copy_12 : decode prog_14_method_10_code 12 = .ok (.iload_n 3, 1) := by decide +kernel
theorem d_Md_copy_13 : decode prog_14_method_10_code 13 = .ok (.invokestatic 121, 3) := by decide +kernel
theorem d_Md_copy_16 : decode prog_14_method_10_code 16 = .ok (.ifCond .ne 6, 3) := by decide +kernel
theorem d_Md_copy_19 : decode prog_14_method_10_code 19 = .ok (.ldc 127, 2) := by decide +kernel
theorem d_Md_copy_21 : decode prog_14_method_10_code 21 = .ok (.ireturn, 1) := by decide +kernel
theorem d_Md_copy_22 : decode prog_14_method_10_code 22 = .ok (.aload_n 0, 1) := by decide +kernel
theorem d_Md_copy_23 : decode prog_14_method_10_code 23 = .ok (.iconst 0, 1) := by decide +kernel
theorem d_Md_copy_24 : decode prog_14_method_10_code 24 = .ok (.putfield 7, 3) := by decide +kernel
theorem d_Md_copy_27 : decode prog_14_method_10_code 27 = .ok (.aload_n 0, 1) := by decide +kernel
theorem d_Md_copy_28 : decode prog_14_method_10_code 28 = .ok (.getfield 17, 3) := by decide +kernel
theorem d_Md_copy_31 : decode prog_14_method_10_code 31 = .ok (.iload_n 1, 1) := by decide +kernel
theorem d_Md_copy_32 : decode prog_14_method_10_code 32 = .ok (.iaload, 1) := by decide +kernel
theorem d_Md_copy_33 : decode prog_14_method_10_code 33 = .ok (.ifCond .lt 12, 3) := by decide +kernel
theorem d_Md_copy_36 : decode prog_14_method_10_code 36 = .ok (.aload_n 0, 1) := by decide +kernel
theorem d_Md_copy_37 : decode prog_14_method_10_code 37 = .ok (.getfield 17, 3) := by decide +kernel
theorem d_Md_copy_40 : decode prog_14_method_10_code 40 = .ok (.iload_n 3, 1) := by decide +kernel
theorem d_Md_copy_41 : decode prog_14_method_10_code 41 = .ok (.iaload, 1) := by decide +kernel
theorem d_Md_copy_42 : decode prog_14_method_10_code 42 = .ok (.ifCond .ge 9, 3) := by decide +kernel
theorem d_Md_copy_45 : decode prog_14_method_10_code 45 = .ok (.aload_n 0, 1) := by decide +kernel
theorem d_Md_copy_46 : decode prog_14_method_10_code 46 = .ok (.iconst 1, 1) := by decide +kernel
theorem d_Md_copy_47 : decode prog_14_method_10_code 47 = .ok (.invokevirtual 128, 3) := by decide +kernel
theorem d_Md_copy_50 : decode prog_14_method_10_code 50 = .ok (.ireturn, 1) := by decide +kernel
theorem d_Md_copy_51 : decode prog_14_method_10_code 51 = .ok (.aload_n 0, 1) := by decide +kernel
theorem d_Md_copy_52 : decode prog_14_method_10_code 52 = .ok (.getfield 17, 3) := by decide +kernel
theorem d_Md_copy_55 : decode prog_14_method_10_code 55 = .ok (.iload_n 1, 1) := by decide +kernel
theorem d_Md_copy_56 : decode prog_14_method_10_code 56 = .ok (.iaload, 1) := by decide +kernel
theorem d_Md_copy_57 : decode prog_14_method_10_code 57 = .ok (.aload_n 0, 1) := by decide +kernel
theorem d_Md_copy_58 : decode prog_14_method_10_code 58 = .ok (.getfield 17, 3) := by decide +kernel
theorem d_Md_copy_61 : decode prog_14_method_10_code 61 = .ok (.iload_n 3, 1) := by decide +kernel
theorem d_Md_copy_62 : decode prog_14_method_10_code 62 = .ok (.iaload, 1) := by decide +kernel
theorem d_Md_copy_63 : decode prog_14_method_10_code 63 = .ok (.if_icmp .eq 9, 3) := by decide +kernel
theorem d_Md_copy_66 : decode prog_14_method_10_code 66 = .ok (.aload_n 0, 1) := by decide +kernel
theorem d_Md_copy_67 : decode prog_14_method_10_code 67 = .ok (.iconst 5, 1) := by decide +kernel
theorem d_Md_copy_68 : decode prog_14_method_10_code 68 = .ok (.invokevirtual 128, 3) := by decide +kernel
theorem d_Md_copy_71 : decode prog_14_method_10_code 71 = .ok (.ireturn, 1) := by decide +kernel
theorem d_Md_copy_72 : decode prog_14_method_10_code 72 = .ok (.iload_n 2, 1) := by decide +kernel
theorem d_Md_copy_73 : decode prog_14_method_10_code 73 = .ok (.ifCond .lt 48, 3) := by decide +kernel
theorem d_Md_copy_76 : decode prog_14_method_10_code 76 = .ok (.iload 4, 2) := by decide +kernel
theorem d_Md_copy_78 : decode prog_14_method_10_code 78 = .ok (.ifCond .lt 43, 3) := by decide +kernel
theorem d_Md_copy_81 : decode prog_14_method_10_code 81 = .ok (.iload 5, 2) := by decide +kernel
theorem d_Md_copy_83 : decode prog_14_method_10_code 83 = .ok (.ifCond .lt 38, 3) := by decide +kernel
theorem d_Md_copy_86 : decode prog_14_method_10_code 86 = .ok (.iload_n 2, 1) := by decide +kernel
theorem d_Md_copy_87 : decode prog_14_method_10_code 87 = .ok (.i2l, 1) := by decide +kernel
theorem d_Md_copy_88 : decode prog_14_method_10_code 88 = .ok (.iload 5, 2) := by decide +kernel
theorem d_Md_copy_90 : decode prog_14_method_10_code 90 = .ok (.i2l, 1) := by decide +kernel
theorem d_Md_copy_91 : decode prog_14_method_10_code 91 = .ok (.ladd, 1) := by decide +kernel
theorem d_Md_copy_92 : decode prog_14_method_10_code 92 = .ok (.aload_n 0, 1) := by decide +kernel
theorem d_Md_copy_93 : decode prog_14_method_10_code 93 = .ok (.getfield 21, 3) := by decide +kernel
theorem d_Md_copy_96 : decode prog_14_method_10_code 96 = .ok (.iload_n 1, 1) := by decide +kernel
theorem d_Md_copy_97 : decode prog_14_method_10_code 97 = .ok (.iaload, 1) := by decide +kernel
theorem d_Md_copy_98 : decode prog_14_method_10_code 98 = .ok (.i2l, 1) := by decide +kernel
theorem d_Md_copy_99 : decode prog_14_method_10_code 99 = .ok (.lcmp, 1) := by decide +kernel
theorem d_Md_copy_100 : decode prog_14_method_10_code 100 = .ok (.ifCond .gt 21, 3) := by decide +kernel
theorem d_Md_copy_103 : decode prog_14_method_10_code 103 = .ok (.iload 4, 2) := by decide +kernel
theorem d_Md_copy_105 : decode prog_14_method_10_code 105 = .ok (.i2l, 1) := by decide +kernel
theorem d_Md_copy_106 : decode prog_14_method_10_code 106 = .ok (.iload 5, 2) := by decide +kernel
theorem d_Md_copy_108 : decode prog_14_method_10_code 108 = .ok (.i2l, 1) := by decide +kernel
theorem d_Md_copy_109 : decode prog_14_method_10_code 109 = .ok (.ladd, 1) := by decide +kernel
theorem d_Md_copy_110 : decode prog_14_method_10_code 110 = .ok (.aload_n 0, 1) := by decide +kernel
theorem d_Md_copy_111 : decode prog_14_method_10_code 111 = .ok (.getfield 21, 3) := by decide +kernel
theorem d_Md_copy_114 : decode prog_14_method_10_code 114 = .ok (.iload_n 3, 1) := by decide +kernel
theorem d_Md_copy_115 : decode prog_14_method_10_code 115 = .ok (.iaload, 1) := by decide +kernel
theorem d_Md_copy_116 : decode prog_14_method_10_code 116 = .ok (.i2l, 1) := by decide +kernel
theorem d_Md_copy_117 : decode prog_14_method_10_code 117 = .ok (.lcmp, 1) := by decide +kernel
theorem d_Md_copy_118 : decode prog_14_method_10_code 118 = .ok (.ifCond .le 9, 3) := by decide +kernel
theorem d_Md_copy_121 : decode prog_14_method_10_code 121 = .ok (.aload_n 0, 1) := by decide +kernel
theorem d_Md_copy_122 : decode prog_14_method_10_code 122 = .ok (.iconst 2, 1) := by decide +kernel
theorem d_Md_copy_123 : decode prog_14_method_10_code 123 = .ok (.invokevirtual 128, 3) := by decide +kernel
theorem d_Md_copy_126 : decode prog_14_method_10_code 126 = .ok (.ireturn, 1) := by decide +kernel
theorem d_Md_copy_127 : decode prog_14_method_10_code 127 = .ok (.iload_n 2, 1) := by decide +kernel
theorem d_Md_copy_128 : decode prog_14_method_10_code 128 = .ok (.iload 4, 2) := by decide +kernel
theorem d_Md_copy_130 : decode prog_14_method_10_code 130 = .ok (.if_icmp .lt 7, 3) := by decide +kernel
theorem d_Md_copy_133 : decode prog_14_method_10_code 133 = .ok (.iconst 1, 1) := by decide +kernel
theorem d_Md_copy_134 : decode prog_14_method_10_code 134 = .ok (.goto 4, 3) := by decide +kernel
theorem d_Md_copy_137 : decode prog_14_method_10_code 137 = .ok (.iconst 0, 1) := by decide +kernel
theorem d_Md_copy_138 : decode prog_14_method_10_code 138 = .ok (.istore 6, 2) := by decide +kernel
theorem d_Md_copy_140 : decode prog_14_method_10_code 140 = .ok (.iconst 0, 1) := by decide +kernel
theorem d_Md_copy_141 : decode prog_14_method_10_code 141 = .ok (.istore 7, 2) := by decide +kernel
theorem d_Md_copy_143 : decode prog_14_method_10_code 143 = .ok (.iload 7, 2) := by decide +kernel
theorem d_Md_copy_145 : decode prog_14_method_10_code 145 = .ok (.iload 5, 2) := by decide +kernel
theorem d_Md_copy_147 : decode prog_14_method_10_code 147 = .ok (.if_icmp .ge 57, 3) := by decide +kernel
theorem d_Md_copy_150 : decode prog_14_method_10_code 150 = .ok (.iload 6, 2) := by decide +kernel
theorem d_Md_copy_152 : decode prog_14_method_10_code 152 = .ok (.ifCond .eq 8, 3) := by decide +kernel
theorem d_Md_copy_155 : decode prog_14_method_10_code 155 = .ok (.iload 7, 2) := by decide +kernel
theorem d_Md_copy_157 : decode prog_14_method_10_code 157 = .ok (.goto 10, 3) := by decide +kernel
theorem d_Md_copy_160 : decode prog_14_method_10_code 160 = .ok (.iload 5, 2) := by decide +kernel
theorem d_Md_copy_162 : decode prog_14_method_10_code 162 = .ok (.iconst 1, 1) := by decide +kernel
theorem d_Md_copy_163 : decode prog_14_method_10_code 163 = .ok (.isub, 1) := by decide +kernel
theorem d_Md_copy_164 : decode prog_14_method_10_code 164 = .ok (.iload 7, 2) := by decide +kernel
theorem d_Md_copy_166 : decode prog_14_method_10_code 166 = .ok (.isub, 1) := by decide +kernel
theorem d_Md_copy_167 : decode prog_14_method_10_code 167 = .ok (.istore 8, 2) := by decide +kernel
theorem d_Md_copy_169 : decode prog_14_method_10_code 169 = .ok (.aload_n 0, 1) := by decide +kernel
theorem d_Md_copy_170 : decode prog_14_method_10_code 170 = .ok (.getfield 24, 3) := by decide +kernel
theorem d_Md_copy_173 : decode prog_14_method_10_code 173 = .ok (.bipush 40, 2) := by decide +kernel
theorem d_Md_copy_175 : decode prog_14_method_10_code 175 = .ok (.iload_n 3, 1) := by decide +kernel
theorem d_Md_copy_176 : decode prog_14_method_10_code 176 = .ok (.imul, 1) := by decide +kernel
theorem d_Md_copy_177 : decode prog_14_method_10_code 177 = .ok (.iload 4, 2) := by decide +kernel
theorem d_Md_copy_179 : decode prog_14_method_10_code 179 = .ok (.iadd, 1) := by decide +kernel
theorem d_Md_copy_180 : decode prog_14_method_10_code 180 = .ok (.iload 8, 2) := by decide +kernel
theorem d_Md_copy_182 : decode prog_14_method_10_code 182 = .ok (.iadd, 1) := by decide +kernel
theorem d_Md_copy_183 : decode prog_14_method_10_code 183 = .ok (.aload_n 0, 1) := by decide +kernel
theorem d_Md_copy_184 : decode prog_14_method_10_code 184 = .ok (.getfield 24, 3) := by decide +kernel
theorem d_Md_copy_187 : decode prog_14_method_10_code 187 = .ok (.bipush 40, 2) := by decide +kernel
theorem d_Md_copy_189 : decode prog_14_method_10_code 189 = .ok (.iload_n 1, 1) := by decide +kernel
theorem d_Md_copy_190 : decode prog_14_method_10_code 190 = .ok (.imul, 1) := by decide +kernel
theorem d_Md_copy_191 : decode prog_14_method_10_code 191 = .ok (.iload_n 2, 1) := by decide +kernel
theorem d_Md_copy_192 : decode prog_14_method_10_code 192 = .ok (.iadd, 1) := by decide +kernel
theorem d_Md_copy_193 : decode prog_14_method_10_code 193 = .ok (.iload 8, 2) := by decide +kernel
theorem d_Md_copy_195 : decode prog_14_method_10_code 195 = .ok (.iadd, 1) := by decide +kernel
theorem d_Md_copy_196 : decode prog_14_method_10_code 196 = .ok (.iaload, 1) := by decide +kernel
theorem d_Md_copy_197 : decode prog_14_method_10_code 197 = .ok (.iastore, 1) := by decide +kernel
theorem d_Md_copy_198 : decode prog_14_method_10_code 198 = .ok (.iinc 7 1, 3) := by decide +kernel
theorem d_Md_copy_201 : decode prog_14_method_10_code 201 = .ok (.goto (-58), 3) := by decide +kernel
theorem d_Md_copy_204 : decode prog_14_method_10_code 204 = .ok (.iload 5, 2) := by decide +kernel
theorem d_Md_copy_206 : decode prog_14_method_10_code 206 = .ok (.ireturn, 1) := by decide +kernel
set_option maxHeartbeats 2000000 in
theorem Md_copy_L167_g {κ : tv_Kt} (hC : tv_Cx κ "TiedViewsModel" prog_14_method_10_code 9 2) (hR : tv_Re κ (some .int)) (F : Nat) {k143 : Int32 → Int32 → Int32 → Int32 → Int32 → Int32 → Int32 → tv_M → Option (Int32 × tv_M)} (hk143 : ∀ (l1 : Int32) (l2 : Int32) (l3 : Int32) (l4 : Int32) (l5 : Int32) (l6 : Int32) (l7 : Int32) (M : tv_M), tv_G κ 9 (tv_Qm κ tv_ei) 143 [some (.ref (κ.b + 249)), some (.int l1), some (.int l2), some (.int l3), some (.int l4), some (.int l5), some (.int l6), some (.int l7), none] [] M (k143 l1 l2 l3 l4 l5 l6 l7 M)) (l1 : Int32) (l2 : Int32) (l3 : Int32) (l4 : Int32) (l5 : Int32) (l6 : Int32) (l7 : Int32) (s0 : Int32) (M : tv_M) : tv_G κ 9 (tv_Qm κ tv_ei) 167 [some (.ref (κ.b + 249)), some (.int l1), some (.int l2), some (.int l3), some (.int l4), some (.int l5), some (.int l6), some (.int l7), none] [.int s0] M (Md_copy_L167 F k143 l1 l2 l3 l4 l5 l6 l7 s0 M) := by
  rw [Md_copy_L167]
  refine g_istore (ls' := [some (.ref (κ.b + 249)), some (.int l1), some (.int l2), some (.int l3), some (.int l4), some (.int l5), some (.int l6), some (.int l7), some (.int s0)]) hC d_Md_copy_167 rfl rfl ?_
  refine g_aload_n hC d_Md_copy_169 rfl ?_
  refine fg_Md_24 hC lc_249 d_Md_copy_170 p0_249_5 ?_
  refine g_bipush hC d_Md_copy_173 k_b40 ?_
  refine g_iload_n hC d_Md_copy_175 rfl ?_
  refine g_imul hC d_Md_copy_176 ?_
  refine g_iload hC d_Md_copy_177 rfl ?_
  refine g_iadd hC d_Md_copy_179 ?_
  refine g_iload hC d_Md_copy_180 rfl ?_
  refine g_iadd hC d_Md_copy_182 ?_
  refine g_aload_n hC d_Md_copy_183 rfl ?_
  refine fg_Md_24 hC lc_249 d_Md_copy_184 p0_249_5 ?_
  refine g_bipush hC d_Md_copy_187 k_b40 ?_
  refine g_iload_n hC d_Md_copy_189 rfl ?_
  refine g_imul hC d_Md_copy_190 ?_
  refine g_iload_n hC d_Md_copy_191 rfl ?_
  refine g_iadd hC d_Md_copy_192 ?_
  refine g_iload hC d_Md_copy_193 rfl ?_
  refine g_iadd hC d_Md_copy_195 ?_
  refine gv_iald hC ly_252 d_Md_copy_196 (fun x29 => ?_)
  refine gv_iast hC ly_252 d_Md_copy_197 (fun M30 => ?_)
  refine g_iinc (ls' := [some (.ref (κ.b + 249)), some (.int l1), some (.int l2), some (.int l3), some (.int l4), some (.int l5), some (.int l6), some (.int (l7 + 1)), some (.int s0)]) hC d_Md_copy_198 rfl k_i1 rfl rfl ?_
  refine g_goto (tgt := 143) hC d_Md_copy_201 (by decide) ?_
  refine g_mask [true, true, true, true, true, true, true, true, false] (ls' := [some (.ref (κ.b + 249)), some (.int l1), some (.int l2), some (.int l3), some (.int l4), some (.int l5), some (.int l6), some (.int (l7 + 1)), none]) rfl ?_
  exact hk143 l1 l2 l3 l4 l5 l6 (l7 + 1) M30
set_option maxHeartbeats 2000000 in
theorem Md_copy_L143_g {κ : tv_Kt} (hC : tv_Cx κ "TiedViewsModel" prog_14_method_10_code 9 2) (hR : tv_Re κ (some .int)) (F : Nat) : ∀ (n : Nat) (l1 : Int32) (l2 : Int32) (l3 : Int32) (l4 : Int32) (l5 : Int32) (l6 : Int32) (l7 : Int32) (M : tv_M), tv_G κ 9 (tv_Qm κ tv_ei) 143 [some (.ref (κ.b + 249)), some (.int l1), some (.int l2), some (.int l3), some (.int l4), some (.int l5), some (.int l6), some (.int l7), none] [] M (Md_copy_L143 F n l1 l2 l3 l4 l5 l6 l7 M) := by
  intro n
  induction n with
  | zero => intro _ _ _ _ _ _ _ _; exact g_none
  | succ nn ih =>
    intro l1 l2 l3 l4 l5 l6 l7 M
    rw [Md_copy_L143]
    refine g_iload hC d_Md_copy_143 rfl ?_
    refine g_iload hC d_Md_copy_145 rfl ?_
    refine g_icmp_ge (tgt := 204) hC d_Md_copy_147 (by decide) (fun _ => ?_) (fun _ => ?_)
    · refine g_iload hC d_Md_copy_204 rfl ?_
      exact g_iret hC hR d_Md_copy_206
    · refine g_iload hC d_Md_copy_150 rfl ?_
      refine g_if_eq (tgt := 160) hC d_Md_copy_152 (by decide) (fun _ => ?_) (fun _ => ?_)
      · refine g_iload hC d_Md_copy_160 rfl ?_
        refine g_iconst hC d_Md_copy_162 k_i1 ?_
        refine g_isub hC d_Md_copy_163 ?_
        refine g_iload hC d_Md_copy_164 rfl ?_
        refine g_isub hC d_Md_copy_166 ?_
        exact Md_copy_L167_g hC hR F ih l1 l2 l3 l4 l5 l6 l7 ((l5 - 1) - l7) M
      · refine g_iload hC d_Md_copy_155 rfl ?_
        refine g_goto (tgt := 167) hC d_Md_copy_157 (by decide) ?_
        exact Md_copy_L167_g hC hR F ih l1 l2 l3 l4 l5 l6 l7 l7 M
set_option maxHeartbeats 2000000 in
theorem Md_copy_c {l : Launch} {θ : tv_Th} (F : Nat) (a1 : Int32) (a2 : Int32) (a3 : Int32) (a4 : Int32) (a5 : Int32) (M : tv_M) : tv_Ct l θ ⟨"TiedViewsModel", "copy", "(IIIII)I"⟩ prog_14_method_10_code 9 (some .int) 2 tv_ei [.ref (θ.1 + 249), .int a1, .int a2, .int a3, .int a4, .int a5] M (Md_copy F a1 a2 a3 a4 a5 M) := by
  refine tv_ofG [some (.ref (θ.1 + 249)), some (.int a1), some (.int a2), some (.int a3), some (.int a4), some (.int a5), none, none, none] rfl rfl (tv_ent 3 rfl) ?_
  intro κ hl ht hC hR
  subst hl; subst ht
  unfold Md_copy
  refine g_aload_n hC d_Md_copy_0 rfl ?_
  refine g_iconst hC d_Md_copy_1 k_i0 ?_
  refine fp_Md_1 hC lc_249 d_Md_copy_2 (fun M1 => ?_)
  refine g_iload_n hC d_Md_copy_5 rfl ?_
  refine gv_callSi hC [.int a1] cw_Md_121 (Md_isSheet_c F a1 M1) rfl rfl rfl rfl rfl d_Md_copy_6 (fun r2 M3 => ?_)
  refine g_if_eq (tgt := 19) hC d_Md_copy_9 (by decide) (fun _ => ?_) (fun _ => ?_)
  · refine g_ldc hC d_Md_copy_19 wk_Md_127 ?_
    exact g_iret hC hR d_Md_copy_21
  · refine g_iload_n hC d_Md_copy_12 rfl ?_
    refine gv_callSi hC [.int a3] cw_Md_121 (Md_isSheet_c F a3 M3) rfl rfl rfl rfl rfl d_Md_copy_13 (fun r4 M5 => ?_)
    refine g_if_ne (tgt := 22) hC d_Md_copy_16 (by decide) (fun _ => ?_) (fun _ => ?_)
    · refine g_aload_n hC d_Md_copy_22 rfl ?_
      refine g_iconst hC d_Md_copy_23 k_i0 ?_
      refine fp_Md_7 hC lc_249 d_Md_copy_24 (fun M6 => ?_)
      refine g_aload_n hC d_Md_copy_27 rfl ?_
      refine fg_Md_17 hC lc_249 d_Md_copy_28 p0_249_3 ?_
      refine g_iload_n hC d_Md_copy_31 rfl ?_
      refine gv_iald hC ly_250 d_Md_copy_32 (fun x7 => ?_)
      refine g_if_lt (tgt := 45) hC d_Md_copy_33 (by decide) (fun _ => ?_) (fun _ => ?_)
      · refine g_aload_n hC d_Md_copy_45 rfl ?_
        refine g_iconst hC d_Md_copy_46 k_i1 ?_
        refine gv_callVi hC [.int 1] cw_Md_128 (Md_finding_c F 1 M6) lc_249 rfl rfl rfl rfl rfl rfl rfl d_Md_copy_47 (fun r8 M9 => ?_)
        exact g_iret hC hR d_Md_copy_50
      · refine g_aload_n hC d_Md_copy_36 rfl ?_
        refine fg_Md_17 hC lc_249 d_Md_copy_37 p0_249_3 ?_
        refine g_iload_n hC d_Md_copy_40 rfl ?_
        refine gv_iald hC ly_250 d_Md_copy_41 (fun x10 => ?_)
        refine g_if_ge (tgt := 51) hC d_Md_copy_42 (by decide) (fun _ => ?_) (fun _ => ?_)
        · refine g_aload_n hC d_Md_copy_51 rfl ?_
          refine fg_Md_17 hC lc_249 d_Md_copy_52 p0_249_3 ?_
          refine g_iload_n hC d_Md_copy_55 rfl ?_
          refine gv_iald hC ly_250 d_Md_copy_56 (fun x11 => ?_)
          refine g_aload_n hC d_Md_copy_57 rfl ?_
          refine fg_Md_17 hC lc_249 d_Md_copy_58 p0_249_3 ?_
          refine g_iload_n hC d_Md_copy_61 rfl ?_
          refine gv_iald hC ly_250 d_Md_copy_62 (fun x12 => ?_)
          refine g_icmp_eq (tgt := 72) hC d_Md_copy_63 (by decide) (fun _ => ?_) (fun _ => ?_)
          · refine g_iload_n hC d_Md_copy_72 rfl ?_
            refine g_if_lt (tgt := 121) hC d_Md_copy_73 (by decide) (fun _ => ?_) (fun _ => ?_)
            · refine g_aload_n hC d_Md_copy_121 rfl ?_
              refine g_iconst hC d_Md_copy_122 k_i2 ?_
              refine gv_callVi hC [.int 2] cw_Md_128 (Md_finding_c F 2 M6) lc_249 rfl rfl rfl rfl rfl rfl rfl d_Md_copy_123 (fun r13 M14 => ?_)
              exact g_iret hC hR d_Md_copy_126
            · refine g_iload hC d_Md_copy_76 rfl ?_
              refine g_if_lt (tgt := 121) hC d_Md_copy_78 (by decide) (fun _ => ?_) (fun _ => ?_)
              · refine g_aload_n hC d_Md_copy_121 rfl ?_
                refine g_iconst hC d_Md_copy_122 k_i2 ?_
                refine gv_callVi hC [.int 2] cw_Md_128 (Md_finding_c F 2 M6) lc_249 rfl rfl rfl rfl rfl rfl rfl d_Md_copy_123 (fun r15 M16 => ?_)
                exact g_iret hC hR d_Md_copy_126
              · refine g_iload hC d_Md_copy_81 rfl ?_
                refine g_if_lt (tgt := 121) hC d_Md_copy_83 (by decide) (fun _ => ?_) (fun _ => ?_)
                · refine g_aload_n hC d_Md_copy_121 rfl ?_
                  refine g_iconst hC d_Md_copy_122 k_i2 ?_
                  refine gv_callVi hC [.int 2] cw_Md_128 (Md_finding_c F 2 M6) lc_249 rfl rfl rfl rfl rfl rfl rfl d_Md_copy_123 (fun r17 M18 => ?_)
                  exact g_iret hC hR d_Md_copy_126
                · refine g_iload_n hC d_Md_copy_86 rfl ?_
                  refine g_i2l hC d_Md_copy_87 ?_
                  refine g_iload hC d_Md_copy_88 rfl ?_
                  refine g_i2l hC d_Md_copy_90 ?_
                  refine g_ladd hC d_Md_copy_91 ?_
                  refine g_aload_n hC d_Md_copy_92 rfl ?_
                  refine fg_Md_21 hC lc_249 d_Md_copy_93 p0_249_4 ?_
                  refine g_iload_n hC d_Md_copy_96 rfl ?_
                  refine gv_iald hC ly_251 d_Md_copy_97 (fun x19 => ?_)
                  refine g_i2l hC d_Md_copy_98 ?_
                  refine g_lcmp hC d_Md_copy_99 ?_
                  refine g_if_gt (tgt := 121) hC d_Md_copy_100 (by decide) (fun _ => ?_) (fun _ => ?_)
                  · refine g_aload_n hC d_Md_copy_121 rfl ?_
                    refine g_iconst hC d_Md_copy_122 k_i2 ?_
                    refine gv_callVi hC [.int 2] cw_Md_128 (Md_finding_c F 2 M6) lc_249 rfl rfl rfl rfl rfl rfl rfl d_Md_copy_123 (fun r20 M21 => ?_)
                    exact g_iret hC hR d_Md_copy_126
                  · refine g_iload hC d_Md_copy_103 rfl ?_
                    refine g_i2l hC d_Md_copy_105 ?_
                    refine g_iload hC d_Md_copy_106 rfl ?_
                    refine g_i2l hC d_Md_copy_108 ?_
                    refine g_ladd hC d_Md_copy_109 ?_
                    refine g_aload_n hC d_Md_copy_110 rfl ?_
                    refine fg_Md_21 hC lc_249 d_Md_copy_111 p0_249_4 ?_
                    refine g_iload_n hC d_Md_copy_114 rfl ?_
                    refine gv_iald hC ly_251 d_Md_copy_115 (fun x22 => ?_)
                    refine g_i2l hC d_Md_copy_116 ?_
                    refine g_lcmp hC d_Md_copy_117 ?_
                    refine g_if_le (tgt := 127) hC d_Md_copy_118 (by decide) (fun _ => ?_) (fun _ => ?_)
                    · refine g_iload_n hC d_Md_copy_127 rfl ?_
                      refine g_iload hC d_Md_copy_128 rfl ?_
                      refine g_icmp_lt (tgt := 137) hC d_Md_copy_130 (by decide) (fun _ => ?_) (fun _ => ?_)
                      · refine g_iconst hC d_Md_copy_137 k_i0 ?_
                        refine g_istore (ls' := [some (.ref (κ.b + 249)), some (.int a1), some (.int a2), some (.int a3), some (.int a4), some (.int a5), some (.int 0), none, none]) hC d_Md_copy_138 rfl rfl ?_
                        refine g_iconst hC d_Md_copy_140 k_i0 ?_
                        refine g_istore (ls' := [some (.ref (κ.b + 249)), some (.int a1), some (.int a2), some (.int a3), some (.int a4), some (.int a5), some (.int 0), some (.int 0), none]) hC d_Md_copy_141 rfl rfl ?_
                        exact Md_copy_L143_g hC hR F F a1 a2 a3 a4 a5 0 0 M6
                      · refine g_iconst hC d_Md_copy_133 k_i1 ?_
                        refine g_goto (tgt := 138) hC d_Md_copy_134 (by decide) ?_
                        refine g_istore (ls' := [some (.ref (κ.b + 249)), some (.int a1), some (.int a2), some (.int a3), some (.int a4), some (.int a5), some (.int 1), none, none]) hC d_Md_copy_138 rfl rfl ?_
                        refine g_iconst hC d_Md_copy_140 k_i0 ?_
                        refine g_istore (ls' := [some (.ref (κ.b + 249)), some (.int a1), some (.int a2), some (.int a3), some (.int a4), some (.int a5), some (.int 1), some (.int 0), none]) hC d_Md_copy_141 rfl rfl ?_
                        exact Md_copy_L143_g hC hR F F a1 a2 a3 a4 a5 1 0 M6
                    · refine g_aload_n hC d_Md_copy_121 rfl ?_
                      refine g_iconst hC d_Md_copy_122 k_i2 ?_
                      refine gv_callVi hC [.int 2] cw_Md_128 (Md_finding_c F 2 M6) lc_249 rfl rfl rfl rfl rfl rfl rfl d_Md_copy_123 (fun r23 M24 => ?_)
                      exact g_iret hC hR d_Md_copy_126
          · refine g_aload_n hC d_Md_copy_66 rfl ?_
            refine g_iconst hC d_Md_copy_67 k_i5 ?_
            refine gv_callVi hC [.int 5] cw_Md_128 (Md_finding_c F 5 M6) lc_249 rfl rfl rfl rfl rfl rfl rfl d_Md_copy_68 (fun r25 M26 => ?_)
            exact g_iret hC hR d_Md_copy_71
        · refine g_aload_n hC d_Md_copy_45 rfl ?_
          refine g_iconst hC d_Md_copy_46 k_i1 ?_
          refine gv_callVi hC [.int 1] cw_Md_128 (Md_finding_c F 1 M6) lc_249 rfl rfl rfl rfl rfl rfl rfl d_Md_copy_47 (fun r27 M28 => ?_)
          exact g_iret hC hR d_Md_copy_50
    · refine g_ldc hC d_Md_copy_19 wk_Md_127 ?_
      exact g_iret hC hR d_Md_copy_21
theorem d_Md_drop_0 : decode prog_14_method_11_code 0 = .ok (.aload_n 0, 1) := by decide +kernel
theorem d_Md_drop_1 : decode prog_14_method_11_code 1 = .ok (.iconst 0, 1) := by decide +kernel
theorem d_Md_drop_2 : decode prog_14_method_11_code 2 = .ok (.putfield 1, 3) := by decide +kernel
theorem d_Md_drop_5 : decode prog_14_method_11_code 5 = .ok (.iload_n 1, 1) := by decide +kernel
theorem d_Md_drop_6 : decode prog_14_method_11_code 6 = .ok (.invokestatic 121, 3) := by decide +kernel
theorem d_Md_drop_9 : decode prog_14_method_11_code 9 = .ok (.ifCond .ne 6, 3) := by decide +kernel
theorem d_Md_drop_12 : decode prog_14_method_11_code 12 = .ok (.ldc 127, 2) := by decide +kernel
theorem d_Md_drop_14 : decode prog_14_method_11_code 14 = .ok (.ireturn, 1) := by decide +kernel
theorem d_Md_drop_15 : decode prog_14_method_11_code 15 = .ok (.aload_n 0, 1) := by decide +kernel
theorem d_Md_drop_16 : decode prog_14_method_11_code 16 = .ok (.iconst 0, 1) := by decide +kernel
theorem d_Md_drop_17 : decode prog_14_method_11_code 17 = .ok (.putfield 7, 3) := by decide +kernel
theorem d_Md_drop_20 : decode prog_14_method_11_code 20 = .ok (.aload_n 0, 1) := by decide +kernel
theorem d_Md_drop_21 : decode prog_14_method_11_code 21 = .ok (.getfield 17, 3) := by decide +kernel
theorem d_Md_drop_24 : decode prog_14_method_11_code 24 = .ok (.iload_n 1, 1) := by decide +kernel
theorem d_Md_drop_25 : decode prog_14_method_11_code 25 = .ok (.iaload, 1) := by decide +kernel
theorem d_Md_drop_26 : decode prog_14_method_11_code 26 = .ok (.ifCond .ge 9, 3) := by decide +kernel
theorem d_Md_drop_29 : decode prog_14_method_11_code 29 = .ok (.aload_n 0, 1) := by decide +kernel
theorem d_Md_drop_30 : decode prog_14_method_11_code 30 = .ok (.iconst 1, 1) := by decide +kernel
theorem d_Md_drop_31 : decode prog_14_method_11_code 31 = .ok (.invokevirtual 128, 3) := by decide +kernel
theorem d_Md_drop_34 : decode prog_14_method_11_code 34 = .ok (.ireturn, 1) := by decide +kernel
theorem d_Md_drop_35 : decode prog_14_method_11_code 35 = .ok (.aload_n 0, 1) := by decide +kernel
theorem d_Md_drop_36 : decode prog_14_method_11_code 36 = .ok (.getfield 17, 3) := by decide +kernel
theorem d_Md_drop_39 : decode prog_14_method_11_code 39 = .ok (.iload_n 1, 1) := by decide +kernel
theorem d_Md_drop_40 : decode prog_14_method_11_code 40 = .ok (.iconst (-1), 1) := by decide +kernel
theorem d_Md_drop_41 : decode prog_14_method_11_code 41 = .ok (.iastore, 1) := by decide +kernel
theorem d_Md_drop_42 : decode prog_14_method_11_code 42 = .ok (.aload_n 0, 1) := by decide +kernel
theorem d_Md_drop_43 : decode prog_14_method_11_code 43 = .ok (.getfield 21, 3) := by decide +kernel
theorem d_Md_drop_46 : decode prog_14_method_11_code 46 = .ok (.iload_n 1, 1) := by decide +kernel
theorem d_Md_drop_47 : decode prog_14_method_11_code 47 = .ok (.iaload, 1) := by decide +kernel
theorem d_Md_drop_48 : decode prog_14_method_11_code 48 = .ok (.ireturn, 1) := by decide +kernel
set_option maxHeartbeats 2000000 in
theorem Md_drop_c {l : Launch} {θ : tv_Th} (F : Nat) (a1 : Int32) (M : tv_M) : tv_Ct l θ ⟨"TiedViewsModel", "drop", "(I)I"⟩ prog_14_method_11_code 2 (some .int) 2 tv_ei [.ref (θ.1 + 249), .int a1] M (Md_drop F a1 M) := by
  refine tv_ofG [some (.ref (θ.1 + 249)), some (.int a1)] rfl rfl (tv_ent 0 rfl) ?_
  intro κ hl ht hC hR
  subst hl; subst ht
  unfold Md_drop
  refine g_aload_n hC d_Md_drop_0 rfl ?_
  refine g_iconst hC d_Md_drop_1 k_i0 ?_
  refine fp_Md_1 hC lc_249 d_Md_drop_2 (fun M1 => ?_)
  refine g_iload_n hC d_Md_drop_5 rfl ?_
  refine gv_callSi hC [.int a1] cw_Md_121 (Md_isSheet_c F a1 M1) rfl rfl rfl rfl rfl d_Md_drop_6 (fun r2 M3 => ?_)
  refine g_if_ne (tgt := 15) hC d_Md_drop_9 (by decide) (fun _ => ?_) (fun _ => ?_)
  · refine g_aload_n hC d_Md_drop_15 rfl ?_
    refine g_iconst hC d_Md_drop_16 k_i0 ?_
    refine fp_Md_7 hC lc_249 d_Md_drop_17 (fun M4 => ?_)
    refine g_aload_n hC d_Md_drop_20 rfl ?_
    refine fg_Md_17 hC lc_249 d_Md_drop_21 p0_249_3 ?_
    refine g_iload_n hC d_Md_drop_24 rfl ?_
    refine gv_iald hC ly_250 d_Md_drop_25 (fun x5 => ?_)
    refine g_if_ge (tgt := 35) hC d_Md_drop_26 (by decide) (fun _ => ?_) (fun _ => ?_)
    · refine g_aload_n hC d_Md_drop_35 rfl ?_
      refine fg_Md_17 hC lc_249 d_Md_drop_36 p0_249_3 ?_
      refine g_iload_n hC d_Md_drop_39 rfl ?_
      refine g_iconst hC d_Md_drop_40 k_im1 ?_
      refine gv_iast hC ly_250 d_Md_drop_41 (fun M6 => ?_)
      refine g_aload_n hC d_Md_drop_42 rfl ?_
      refine fg_Md_21 hC lc_249 d_Md_drop_43 p0_249_4 ?_
      refine g_iload_n hC d_Md_drop_46 rfl ?_
      refine gv_iald hC ly_251 d_Md_drop_47 (fun x7 => ?_)
      exact g_iret hC hR d_Md_drop_48
    · refine g_aload_n hC d_Md_drop_29 rfl ?_
      refine g_iconst hC d_Md_drop_30 k_i1 ?_
      refine gv_callVi hC [.int 1] cw_Md_128 (Md_finding_c F 1 M4) lc_249 rfl rfl rfl rfl rfl rfl rfl d_Md_drop_31 (fun r8 M9 => ?_)
      exact g_iret hC hR d_Md_drop_34
  · refine g_ldc hC d_Md_drop_12 wk_Md_127 ?_
    exact g_iret hC hR d_Md_drop_14
theorem d_Md_feed_0 : decode prog_14_method_13_code 0 = .ok (.aload_n 0, 1) := by decide +kernel
theorem d_Md_feed_1 : decode prog_14_method_13_code 1 = .ok (.iconst 0, 1) := by decide +kernel
theorem d_Md_feed_2 : decode prog_14_method_13_code 2 = .ok (.putfield 1, 3) := by decide +kernel
theorem d_Md_feed_5 : decode prog_14_method_13_code 5 = .ok (.iload_n 3, 1) := by decide +kernel
theorem d_Md_feed_6 : decode prog_14_method_13_code 6 = .ok (.i2l, 1) := by decide +kernel
theorem d_Md_feed_7 : decode prog_14_method_13_code 7 = .ok (.lconst 1, 1) := by decide +kernel
theorem d_Md_feed_8 : decode prog_14_method_13_code 8 = .ok (.ldc2_w 135, 3) := by decide +kernel
theorem d_Md_feed_11 : decode prog_14_method_13_code 11 = .ok (.invokestatic 115, 3) := by decide +kernel
theorem d_Md_feed_14 : decode prog_14_method_13_code 14 = .ok (.ifCond .ne 6, 3) := by decide +kernel
theorem d_Md_feed_17 : decode prog_14_method_13_code 17 = .ok (.ldc 127, 2) := by decide +kernel
theorem d_Md_feed_19 : decode prog_14_method_13_code 19 = .ok (.ireturn, 1) := by decide +kernel
theorem d_Md_feed_20 : decode prog_14_method_13_code 20 = .ok (.aload_n 0, 1) := by decide +kernel
theorem d_Md_feed_21 : decode prog_14_method_13_code 21 = .ok (.getfield 137, 3) := by decide +kernel
theorem d_Md_feed_24 : decode prog_14_method_13_code 24 = .ok (.iload_n 3, 1) := by decide +kernel
theorem d_Md_feed_25 : decode prog_14_method_13_code 25 = .ok (.iadd, 1) := by decide +kernel
theorem d_Md_feed_26 : decode prog_14_method_13_code 26 = .ok (.sipush 500, 3) := by decide +kernel
theorem d_Md_feed_29 : decode prog_14_method_13_code 29 = .ok (.if_icmp .le 6, 3) := by decide +kernel
theorem d_Md_feed_32 : decode prog_14_method_13_code 32 = .ok (.ldc 140, 2) := by decide +kernel
theorem d_Md_feed_34 : decode prog_14_method_13_code 34 = .ok (.ireturn, 1) := by decide +kernel
theorem d_Md_feed_35 : decode prog_14_method_13_code 35 = .ok (.iload_n 3, 1) := by decide +kernel
theorem d_Md_feed_36 : decode prog_14_method_13_code 36 = .ok (.iconst 1, 1) := by decide +kernel
theorem d_Md_feed_37 : decode prog_14_method_13_code 37 = .ok (.isub, 1) := by decide +kernel
theorem d_Md_feed_38 : decode prog_14_method_13_code 38 = .ok (.istore 4, 2) := by decide +kernel
theorem d_Md_feed_40 : decode prog_14_method_13_code 40 = .ok (.iload 4, 2) := by decide +kernel
theorem d_Md_feed_42 : decode prog_14_method_13_code 42 = .ok (.ifCond .lt 40, 3) := by decide +kernel
theorem d_Md_feed_45 : decode prog_14_method_13_code 45 = .ok (.aload_n 0, 1) := by decide +kernel
theorem d_Md_feed_46 : decode prog_14_method_13_code 46 = .ok (.getfield 66, 3) := by decide +kernel
theorem d_Md_feed_49 : decode prog_14_method_13_code 49 = .ok (.aload_n 0, 1) := by decide +kernel
theorem d_Md_feed_50 : decode prog_14_method_13_code 50 = .ok (.getfield 137, 3) := by decide +kernel
theorem d_Md_feed_53 : decode prog_14_method_13_code 53 = .ok (.lload_n 1, 1) := by decide +kernel
theorem d_Md_feed_54 : decode prog_14_method_13_code 54 = .ok (.bipush 8, 2) := by decide +kernel
theorem d_Md_feed_56 : decode prog_14_method_13_code 56 = .ok (.iload 4, 2) := by decide +kernel
theorem d_Md_feed_58 : decode prog_14_method_13_code 58 = .ok (.imul, 1) := by decide +kernel
theorem d_Md_feed_59 : decode prog_14_method_13_code 59 = .ok (.lshr, 1) := by decide +kernel
theorem d_Md_feed_60 : decode prog_14_method_13_code 60 = .ok (.ldc2_w 141, 3) := by decide +kernel
theorem d_Md_feed_63 : decode prog_14_method_13_code 63 = .ok (.land, 1) := by decide +kernel
theorem d_Md_feed_64 : decode prog_14_method_13_code 64 = .ok (.l2i, 1) := by decide +kernel
theorem d_Md_feed_65 : decode prog_14_method_13_code 65 = .ok (.iastore, 1) := by decide +kernel
theorem d_Md_feed_66 : decode prog_14_method_13_code 66 = .ok (.aload_n 0, 1) := by decide +kernel
theorem d_Md_feed_67 : decode prog_14_method_13_code 67 = .ok (.dup, 1) := by decide +kernel
theorem d_Md_feed_68 : decode prog_14_method_13_code 68 = .ok (.getfield 137, 3) := by decide +kernel
theorem d_Md_feed_71 : decode prog_14_method_13_code 71 = .ok (.iconst 1, 1) := by decide +kernel
theorem d_Md_feed_72 : decode prog_14_method_13_code 72 = .ok (.iadd, 1) := by decide +kernel
theorem d_Md_feed_73 : decode prog_14_method_13_code 73 = .ok (.putfield 137, 3) := by decide +kernel
theorem d_Md_feed_76 : decode prog_14_method_13_code 76 = .ok (.iinc 4 (-1), 3) := by decide +kernel
theorem d_Md_feed_79 : decode prog_14_method_13_code 79 = .ok (.goto (-39), 3) := by decide +kernel
theorem d_Md_feed_82 : decode prog_14_method_13_code 82 = .ok (.aload_n 0, 1) := by decide +kernel
theorem d_Md_feed_83 : decode prog_14_method_13_code 83 = .ok (.getfield 137, 3) := by decide +kernel
theorem d_Md_feed_86 : decode prog_14_method_13_code 86 = .ok (.ireturn, 1) := by decide +kernel
set_option maxHeartbeats 2000000 in
theorem Md_feed_L40_g {κ : tv_Kt} (hC : tv_Cx κ "TiedViewsModel" prog_14_method_13_code 5 1) (hR : tv_Re κ (some .int)) (F : Nat) : ∀ (n : Nat) (l1 : Int64) (l4 : Int32) (M : tv_M), tv_G κ 5 (tv_Qm κ tv_ei) 40 [some (.ref (κ.b + 249)), some (.long l1), none, none, some (.int l4)] [] M (Md_feed_L40 F n l1 l4 M) := by
  intro n
  induction n with
  | zero => intro _ _ _; exact g_none
  | succ nn ih =>
    intro l1 l4 M
    rw [Md_feed_L40]
    refine g_iload hC d_Md_feed_40 rfl ?_
    refine g_if_lt (tgt := 82) hC d_Md_feed_42 (by decide) (fun _ => ?_) (fun _ => ?_)
    · refine g_aload_n hC d_Md_feed_82 rfl ?_
      refine fg_Md_137 hC lc_249 d_Md_feed_83 ?_
      exact g_iret hC hR d_Md_feed_86
    · refine g_aload_n hC d_Md_feed_45 rfl ?_
      refine fg_Md_66 hC lc_249 d_Md_feed_46 p0_249_23 ?_
      refine g_aload_n hC d_Md_feed_49 rfl ?_
      refine fg_Md_137 hC lc_249 d_Md_feed_50 ?_
      refine g_lload_n hC d_Md_feed_53 rfl ?_
      refine g_bipush hC d_Md_feed_54 k_b8 ?_
      refine g_iload hC d_Md_feed_56 rfl ?_
      refine g_imul hC d_Md_feed_58 ?_
      refine g_lshr hC d_Md_feed_59 ?_
      refine g_ldc2 hC d_Md_feed_60 wl_Md_141 ?_
      refine g_land hC d_Md_feed_63 ?_
      refine g_l2i hC d_Md_feed_64 ?_
      refine gv_iast hC ly_266 d_Md_feed_65 (fun M4 => ?_)
      refine g_aload_n hC d_Md_feed_66 rfl ?_
      refine g_dup hC d_Md_feed_67 rfl ?_
      refine fg_Md_137 hC lc_249 d_Md_feed_68 ?_
      refine g_iconst hC d_Md_feed_71 k_i1 ?_
      refine g_iadd hC d_Md_feed_72 ?_
      refine fp_Md_137 hC lc_249 d_Md_feed_73 (fun M5 => ?_)
      refine g_iinc (ls' := [some (.ref (κ.b + 249)), some (.long l1), none, none, some (.int (l4 + (-1)))]) hC d_Md_feed_76 rfl k_im1 rfl rfl ?_
      refine g_goto (tgt := 40) hC d_Md_feed_79 (by decide) ?_
      exact ih l1 (l4 + (-1)) M5
set_option maxHeartbeats 2000000 in
theorem Md_feed_c {l : Launch} {θ : tv_Th} (F : Nat) (a1 : Int64) (a3 : Int32) (M : tv_M) : tv_Ct l θ ⟨"TiedViewsModel", "feed", "(JI)I"⟩ prog_14_method_13_code 5 (some .int) 1 tv_ei [.ref (θ.1 + 249), .long a1, .int a3] M (Md_feed F a1 a3 M) := by
  refine tv_ofG [some (.ref (θ.1 + 249)), some (.long a1), none, some (.int a3), none] rfl rfl (tv_ent 1 rfl) ?_
  intro κ hl ht hC hR
  subst hl; subst ht
  unfold Md_feed
  refine g_aload_n hC d_Md_feed_0 rfl ?_
  refine g_iconst hC d_Md_feed_1 k_i0 ?_
  refine fp_Md_1 hC lc_249 d_Md_feed_2 (fun M1 => ?_)
  refine g_iload_n hC d_Md_feed_5 rfl ?_
  refine g_i2l hC d_Md_feed_6 ?_
  refine g_lconst hC d_Md_feed_7 k_l1 ?_
  refine g_ldc2 hC d_Md_feed_8 wl_Md_135 ?_
  refine gv_callSi hC [.long ((a3 : Int32).toInt64), .long 1, .long 8] cw_Md_115 (Md_in_c F ((a3 : Int32).toInt64) 1 8 M1) rfl rfl rfl rfl rfl d_Md_feed_11 (fun r2 M3 => ?_)
  refine g_if_ne (tgt := 20) hC d_Md_feed_14 (by decide) (fun _ => ?_) (fun _ => ?_)
  · refine g_aload_n hC d_Md_feed_20 rfl ?_
    refine fg_Md_137 hC lc_249 d_Md_feed_21 ?_
    refine g_iload_n hC d_Md_feed_24 rfl ?_
    refine g_iadd hC d_Md_feed_25 ?_
    refine g_sipush hC d_Md_feed_26 k_s500 ?_
    refine g_icmp_le (tgt := 35) hC d_Md_feed_29 (by decide) (fun _ => ?_) (fun _ => ?_)
    · refine g_iload_n hC d_Md_feed_35 rfl ?_
      refine g_iconst hC d_Md_feed_36 k_i1 ?_
      refine g_isub hC d_Md_feed_37 ?_
      refine g_istore (ls' := [some (.ref (κ.b + 249)), some (.long a1), none, some (.int a3), some (.int (a3 - 1))]) hC d_Md_feed_38 rfl rfl ?_
      refine g_mask [true, true, false, false, true] (ls' := [some (.ref (κ.b + 249)), some (.long a1), none, none, some (.int (a3 - 1))]) rfl ?_
      exact Md_feed_L40_g hC hR F F a1 (a3 - 1) M3
    · refine g_ldc hC d_Md_feed_32 wk_Md_140 ?_
      exact g_iret hC hR d_Md_feed_34
  · refine g_ldc hC d_Md_feed_17 wk_Md_127 ?_
    exact g_iret hC hR d_Md_feed_19
theorem d_Md_byteAt_0 : decode prog_14_method_14_code 0 = .ok (.iload_n 1, 1) := by decide +kernel
theorem d_Md_byteAt_1 : decode prog_14_method_14_code 1 = .ok (.aload_n 0, 1) := by decide +kernel
theorem d_Md_byteAt_2 : decode prog_14_method_14_code 2 = .ok (.getfield 143, 3) := by decide +kernel
theorem d_Md_byteAt_5 : decode prog_14_method_14_code 5 = .ok (.if_icmp .ge 12, 3) := by decide +kernel
theorem d_Md_byteAt_8 : decode prog_14_method_14_code 8 = .ok (.aload_n 0, 1) := by decide +kernel
theorem d_Md_byteAt_9 : decode prog_14_method_14_code 9 = .ok (.getfield 66, 3) := by decide +kernel
theorem d_Md_byteAt_12 : decode prog_14_method_14_code 12 = .ok (.iload_n 1, 1) := by decide +kernel
theorem d_Md_byteAt_13 : decode prog_14_method_14_code 13 = .ok (.iaload, 1) := by decide +kernel
theorem d_Md_byteAt_14 : decode prog_14_method_14_code 14 = .ok (.goto 5, 3) := by decide +kernel
theorem d_Md_byteAt_17 : decode prog_14_method_14_code 17 = .ok (.ldc 146, 2) := by decide +kernel
theorem d_Md_byteAt_19 : decode prog_14_method_14_code 19 = .ok (.ireturn, 1) := by decide +kernel
set_option maxHeartbeats 2000000 in
theorem Md_byteAt_c {l : Launch} {θ : tv_Th} (F : Nat) (a1 : Int32) (M : tv_M) : tv_Ct l θ ⟨"TiedViewsModel", "byteAt", "(I)I"⟩ prog_14_method_14_code 2 (some .int) 0 tv_ei [.ref (θ.1 + 249), .int a1] M (Md_byteAt F a1 M) := by
  refine tv_ofG [some (.ref (θ.1 + 249)), some (.int a1)] rfl rfl (tv_ent 0 rfl) ?_
  intro κ hl ht hC hR
  subst hl; subst ht
  unfold Md_byteAt
  refine g_iload_n hC d_Md_byteAt_0 rfl ?_
  refine g_aload_n hC d_Md_byteAt_1 rfl ?_
  refine fg_Md_143 hC lc_249 d_Md_byteAt_2 ?_
  refine g_icmp_ge (tgt := 17) hC d_Md_byteAt_5 (by decide) (fun _ => ?_) (fun _ => ?_)
  · refine g_ldc hC d_Md_byteAt_17 wk_Md_146 ?_
    exact g_iret hC hR d_Md_byteAt_19
  · refine g_aload_n hC d_Md_byteAt_8 rfl ?_
    refine fg_Md_66 hC lc_249 d_Md_byteAt_9 p0_249_23 ?_
    refine g_iload_n hC d_Md_byteAt_12 rfl ?_
    refine gv_iald hC ly_266 d_Md_byteAt_13 (fun x1 => ?_)
    refine g_goto (tgt := 19) hC d_Md_byteAt_14 (by decide) ?_
    exact g_iret hC hR d_Md_byteAt_19
theorem d_Md_isLetter_0 : decode prog_14_method_15_code 0 = .ok (.iload_n 0, 1) := by decide +kernel
theorem d_Md_isLetter_1 : decode prog_14_method_15_code 1 = .ok (.bipush 97, 2) := by decide +kernel
theorem d_Md_isLetter_3 : decode prog_14_method_15_code 3 = .ok (.if_icmp .lt 13, 3) := by decide +kernel
theorem d_Md_isLetter_6 : decode prog_14_method_15_code 6 = .ok (.iload_n 0, 1) := by decide +kernel
theorem d_Md_isLetter_7 : decode prog_14_method_15_code 7 = .ok (.bipush 122, 2) := by decide +kernel
theorem d_Md_isLetter_9 : decode prog_14_method_15_code 9 = .ok (.if_icmp .gt 7, 3) := by decide +kernel
theorem d_Md_isLetter_12 : decode prog_14_method_15_code 12 = .ok (.iconst 1, 1) := by decide +kernel
theorem d_Md_isLetter_13 : decode prog_14_method_15_code 13 = .ok (.goto 4, 3) := by decide +kernel
theorem d_Md_isLetter_16 : decode prog_14_method_15_code 16 = .ok (.iconst 0, 1) := by decide +kernel
theorem d_Md_isLetter_17 : decode prog_14_method_15_code 17 = .ok (.ireturn, 1) := by decide +kernel
set_option maxHeartbeats 2000000 in
theorem Md_isLetter_c {l : Launch} {θ : tv_Th} (F : Nat) (a0 : Int32) (M : tv_M) : tv_Ct l θ ⟨"TiedViewsModel", "isLetter", "(I)Z"⟩ prog_14_method_15_code 1 (some .boolean) 0 tv_ei [.int a0] M (Md_isLetter F a0 M) := by
  refine tv_ofG [some (.int a0)] rfl rfl (tv_ent 0 rfl) ?_
  intro κ hl ht hC hR
  subst hl; subst ht
  unfold Md_isLetter
  refine g_iload_n hC d_Md_isLetter_0 rfl ?_
  refine g_bipush hC d_Md_isLetter_1 k_b97 ?_
  refine g_icmp_lt (tgt := 16) hC d_Md_isLetter_3 (by decide) (fun _ => ?_) (fun _ => ?_)
  · refine g_iconst hC d_Md_isLetter_16 k_i0 ?_
    exact g_zret hC hR tv_z0 d_Md_isLetter_17
  · refine g_iload_n hC d_Md_isLetter_6 rfl ?_
    refine g_bipush hC d_Md_isLetter_7 k_b122 ?_
    refine g_icmp_gt (tgt := 16) hC d_Md_isLetter_9 (by decide) (fun _ => ?_) (fun _ => ?_)
    · refine g_iconst hC d_Md_isLetter_16 k_i0 ?_
      exact g_zret hC hR tv_z0 d_Md_isLetter_17
    · refine g_iconst hC d_Md_isLetter_12 k_i1 ?_
      refine g_goto (tgt := 17) hC d_Md_isLetter_13 (by decide) ?_
      exact g_zret hC hR tv_z1 d_Md_isLetter_17
theorem d_Md_isFigure_0 : decode prog_14_method_16_code 0 = .ok (.iload_n 0, 1) := by decide +kernel
theorem d_Md_isFigure_1 : decode prog_14_method_16_code 1 = .ok (.bipush 48, 2) := by decide +kernel
theorem d_Md_isFigure_3 : decode prog_14_method_16_code 3 = .ok (.if_icmp .lt 13, 3) := by decide +kernel
theorem d_Md_isFigure_6 : decode prog_14_method_16_code 6 = .ok (.iload_n 0, 1) := by decide +kernel
theorem d_Md_isFigure_7 : decode prog_14_method_16_code 7 = .ok (.bipush 57, 2) := by decide +kernel
theorem d_Md_isFigure_9 : decode prog_14_method_16_code 9 = .ok (.if_icmp .gt 7, 3) := by decide +kernel
theorem d_Md_isFigure_12 : decode prog_14_method_16_code 12 = .ok (.iconst 1, 1) := by decide +kernel
theorem d_Md_isFigure_13 : decode prog_14_method_16_code 13 = .ok (.goto 4, 3) := by decide +kernel
theorem d_Md_isFigure_16 : decode prog_14_method_16_code 16 = .ok (.iconst 0, 1) := by decide +kernel
theorem d_Md_isFigure_17 : decode prog_14_method_16_code 17 = .ok (.ireturn, 1) := by decide +kernel
set_option maxHeartbeats 2000000 in
theorem Md_isFigure_c {l : Launch} {θ : tv_Th} (F : Nat) (a0 : Int32) (M : tv_M) : tv_Ct l θ ⟨"TiedViewsModel", "isFigure", "(I)Z"⟩ prog_14_method_16_code 1 (some .boolean) 0 tv_ei [.int a0] M (Md_isFigure F a0 M) := by
  refine tv_ofG [some (.int a0)] rfl rfl (tv_ent 0 rfl) ?_
  intro κ hl ht hC hR
  subst hl; subst ht
  unfold Md_isFigure
  refine g_iload_n hC d_Md_isFigure_0 rfl ?_
  refine g_bipush hC d_Md_isFigure_1 k_b48 ?_
  refine g_icmp_lt (tgt := 16) hC d_Md_isFigure_3 (by decide) (fun _ => ?_) (fun _ => ?_)
  · refine g_iconst hC d_Md_isFigure_16 k_i0 ?_
    exact g_zret hC hR tv_z0 d_Md_isFigure_17
  · refine g_iload_n hC d_Md_isFigure_6 rfl ?_
    refine g_bipush hC d_Md_isFigure_7 k_b57 ?_
    refine g_icmp_gt (tgt := 16) hC d_Md_isFigure_9 (by decide) (fun _ => ?_) (fun _ => ?_)
    · refine g_iconst hC d_Md_isFigure_16 k_i0 ?_
      exact g_zret hC hR tv_z0 d_Md_isFigure_17
    · refine g_iconst hC d_Md_isFigure_12 k_i1 ?_
      refine g_goto (tgt := 17) hC d_Md_isFigure_13 (by decide) ?_
      exact g_zret hC hR tv_z1 d_Md_isFigure_17
theorem d_Md_step_0 : decode prog_14_method_17_code 0 = .ok (.aload_n 0, 1) := by decide +kernel
theorem d_Md_step_1 : decode prog_14_method_17_code 1 = .ok (.aload_n 0, 1) := by decide +kernel
theorem d_Md_step_2 : decode prog_14_method_17_code 2 = .ok (.getfield 147, 3) := by decide +kernel
theorem d_Md_step_5 : decode prog_14_method_17_code 5 = .ok (.invokevirtual 150, 3) := by decide +kernel
theorem d_Md_step_8 : decode prog_14_method_17_code 8 = .ok (.bipush 32, 2) := by decide +kernel
theorem d_Md_step_10 : decode prog_14_method_17_code 10 = .ok (.if_icmp .eq 16, 3) := by decide +kernel
theorem d_Md_step_13 : decode prog_14_method_17_code 13 = .ok (.aload_n 0, 1) := by decide +kernel
theorem d_Md_step_14 : decode prog_14_method_17_code 14 = .ok (.aload_n 0, 1) := by decide +kernel
theorem d_Md_step_15 : decode prog_14_method_17_code 15 = .ok (.getfield 147, 3) := by decide +kernel
theorem d_Md_step_18 : decode prog_14_method_17_code 18 = .ok (.invokevirtual 150, 3) := by decide +kernel
theorem d_Md_step_21 : decode prog_14_method_17_code 21 = .ok (.bipush 10, 2) := by decide +kernel
theorem d_Md_step_23 : decode prog_14_method_17_code 23 = .ok (.if_icmp .ne 16, 3) := by decide +kernel
theorem d_Md_step_26 : decode prog_14_method_17_code 26 = .ok (.aload_n 0, 1) := by decide +kernel
theorem d_Md_step_27 : decode prog_14_method_17_code 27 = .ok (.dup, 1) := by decide +kernel
theorem d_Md_step_28 : decode prog_14_method_17_code 28 = .ok (.getfield 147, 3) := by decide +kernel
theorem d_Md_step_31 : decode prog_14_method_17_code 31 = .ok (.iconst 1, 1) := by decide +kernel
theorem d_Md_step_32 : decode prog_14_method_17_code 32 = .ok (.iadd, 1) := by decide +kernel
theorem d_Md_step_33 : decode prog_14_method_17_code 33 = .ok (.putfield 147, 3) := by decide +kernel
theorem d_Md_step_36 : decode prog_14_method_17_code 36 = .ok (.goto (-36), 3) := by decide +kernel
theorem d_Md_step_39 : decode prog_14_method_17_code 39 = .ok (.aload_n 0, 1) := by decide +kernel
theorem d_Md_step_40 : decode prog_14_method_17_code 40 = .ok (.aload_n 0, 1) := by decide +kernel
theorem d_Md_step_41 : decode prog_14_method_17_code 41 = .ok (.getfield 147, 3) := by decide +kernel
theorem d_Md_step_44 : decode prog_14_method_17_code 44 = .ok (.putfield 153, 3) := by decide +kernel
theorem d_Md_step_47 : decode prog_14_method_17_code 47 = .ok (.aload_n 0, 1) := by decide +kernel
theorem d_Md_step_48 : decode prog_14_method_17_code 48 = .ok (.aload_n 0, 1) := by decide +kernel
theorem d_Md_step_49 : decode prog_14_method_17_code 49 = .ok (.getfield 147, 3) := by decide +kernel
theorem d_Md_step_52 : decode prog_14_method_17_code 52 = .ok (.invokevirtual 150, 3) := by decide +kernel
theorem d_Md_step_55 : decode prog_14_method_17_code 55 = .ok (.istore_n 1, 1) := by decide +kernel
theorem d_Md_step_56 : decode prog_14_method_17_code 56 = .ok (.iload_n 1, 1) := by decide +kernel
theorem d_Md_step_57 : decode prog_14_method_17_code 57 = .ok (.ldc 146, 2) := by decide +kernel
theorem d_Md_step_59 : decode prog_14_method_17_code 59 = .ok (.if_icmp .ne 11, 3) := by decide +kernel
theorem d_Md_step_62 : decode prog_14_method_17_code 62 = .ok (.aload_n 0, 1) := by decide +kernel
theorem d_Md_step_63 : decode prog_14_method_17_code 63 = .ok (.iconst 1, 1) := by decide +kernel
theorem d_Md_step_64 : decode prog_14_method_17_code 64 = .ok (.putfield 156, 3) := by decide +kernel
theorem d_Md_step_67 : decode prog_14_method_17_code 67 = .ok (.goto 135, 3) := by decide +kernel
theorem d_Md_step_70 : decode prog_14_method_17_code 70 = .ok (.iload_n 1, 1) := by decide +kernel
theorem d_Md_step_71 : decode prog_14_method_17_code 71 = .ok (.invokestatic 159, 3) := by decide +kernel
theorem d_Md_step_74 : decode prog_14_method_17_code 74 = .ok (.ifCond .eq 38, 3) := by decide +kernel
theorem d_Md_step_77 : decode prog_14_method_17_code 77 = .ok (.aload_n 0, 1) := by decide +kernel
theorem d_Md_step_78 : decode prog_14_method_17_code 78 = .ok (.aload_n 0, 1) := by decide +kernel
theorem d_Md_step_79 : decode prog_14_method_17_code 79 = .ok (.getfield 147, 3) := by decide +kernel
theorem d_Md_step_82 : decode prog_14_method_17_code 82 = .ok (.invokevirtual 150, 3) := by decide +kernel
theorem d_Md_step_85 : decode prog_14_method_17_code 85 = .ok (.invokestatic 159, 3) := by decide +kernel
theorem d_Md_step_88 : decode prog_14_method_17_code 88 = .ok (.ifCond .eq 16, 3) := by decide +kernel
theorem d_Md_step_91 : decode prog_14_method_17_code 91 = .ok (.aload_n 0, 1) := by decide +kernel
theorem d_Md_step_92 : decode prog_14_method_17_code 92 = .ok (.dup, 1) := by decide +kernel
theorem d_Md_step_93 : decode prog_14_method_17_code 93 = .ok (.getfield 147, 3) := by decide +kernel
theorem d_Md_step_96 : decode prog_14_method_17_code 96 = .ok (.iconst 1, 1) := by decide +kernel
theorem d_Md_step_97 : decode prog_14_method_17_code 97 = .ok (.iadd, 1) := by decide +kernel
theorem d_Md_step_98 : decode prog_14_method_17_code 98 = .ok (.putfield 147, 3) := by decide +kernel
theorem d_Md_step_101 : decode prog_14_method_17_code 101 = .ok (.goto (-24), 3) := by decide +kernel
theorem d_Md_step_104 : decode prog_14_method_17_code 104 = .ok (.aload_n 0, 1) := by decide +kernel
theorem d_Md_step_105 : decode prog_14_method_17_code 105 = .ok (.iconst 2, 1) := by decide +kernel
theorem d_Md_step_106 : decode prog_14_method_17_code 106 = .ok (.putfield 156, 3) := by decide +kernel
theorem d_Md_step_109 : decode prog_14_method_17_code 109 = .ok (.goto 93, 3) := by decide +kernel
theorem d_Md_step_112 : decode prog_14_method_17_code 112 = .ok (.iload_n 1, 1) := by decide +kernel
theorem d_Md_step_113 : decode prog_14_method_17_code 113 = .ok (.invokestatic 162, 3) := by decide +kernel
theorem d_Md_step_116 : decode prog_14_method_17_code 116 = .ok (.ifCond .eq 55, 3) := by decide +kernel
theorem d_Md_step_119 : decode prog_14_method_17_code 119 = .ok (.aload_n 0, 1) := by decide +kernel
theorem d_Md_step_120 : decode prog_14_method_17_code 120 = .ok (.aload_n 0, 1) := by decide +kernel
theorem d_Md_step_121 : decode prog_14_method_17_code 121 = .ok (.getfield 147, 3) := by decide +kernel
theorem d_Md_step_124 : decode prog_14_method_17_code 124 = .ok (.invokevirtual 150, 3) := by decide +kernel
theorem d_Md_step_127 : decode prog_14_method_17_code 127 = .ok (.invokestatic 162, 3) := by decide +kernel
theorem d_Md_step_130 : decode prog_14_method_17_code 130 = .ok (.ifCond .eq 16, 3) := by decide +kernel
theorem d_Md_step_133 : decode prog_14_method_17_code 133 = .ok (.aload_n 0, 1) := by decide +kernel
theorem d_Md_step_134 : decode prog_14_method_17_code 134 = .ok (.dup, 1) := by decide +kernel
theorem d_Md_step_135 : decode prog_14_method_17_code 135 = .ok (.getfield 147, 3) := by decide +kernel
theorem d_Md_step_138 : decode prog_14_method_17_code 138 = .ok (.iconst 1, 1) := by decide +kernel
theorem d_Md_step_139 : decode prog_14_method_17_code 139 = .ok (.iadd, 1) := by decide +kernel
theorem d_Md_step_140 : decode prog_14_method_17_code 140 = .ok (.putfield 147, 3) := by decide +kernel
theorem d_Md_step_143 : decode prog_14_method_17_code 143 = .ok (.goto (-24), 3) := by decide +kernel
theorem d_Md_step_146 : decode prog_14_method_17_code 146 = .ok (.aload_n 0, 1) := by decide +kernel
theorem d_Md_step_147 : decode prog_14_method_17_code 147 = .ok (.aload_n 0, 1) := by decide +kernel
theorem d_Md_step_148 : decode prog_14_method_17_code 148 = .ok (.getfield 147, 3) := by decide +kernel
theorem d_Md_step_151 : decode prog_14_method_17_code 151 = .ok (.aload_n 0, 1) := by decide +kernel
theorem d_Md_step_152 : decode prog_14_method_17_code 152 = .ok (.getfield 153, 3) := by decide +kernel
theorem d_Md_step_155 : decode prog_14_method_17_code 155 = .ok (.isub, 1) := by decide +kernel
theorem d_Md_step_156 : decode prog_14_method_17_code 156 = .ok (.iconst 3, 1) := by decide +kernel
theorem d_Md_step_157 : decode prog_14_method_17_code 157 = .ok (.if_icmp .le 7, 3) := by decide +kernel
theorem d_Md_step_160 : decode prog_14_method_17_code 160 = .ok (.iconst 0, 1) := by decide +kernel
theorem d_Md_step_161 : decode prog_14_method_17_code 161 = .ok (.goto 4, 3) := by decide +kernel
theorem d_Md_step_164 : decode prog_14_method_17_code 164 = .ok (.iconst 3, 1) := by decide +kernel
theorem d_Md_step_165 : decode prog_14_method_17_code 165 = .ok (.putfield 156, 3) := by decide +kernel
theorem d_Md_step_168 : decode prog_14_method_17_code 168 = .ok (.goto 34, 3) := by decide +kernel
theorem d_Md_step_171 : decode prog_14_method_17_code 171 = .ok (.aload_n 0, 1) := by decide +kernel
theorem d_Md_step_172 : decode prog_14_method_17_code 172 = .ok (.dup, 1) := by decide +kernel
theorem d_Md_step_173 : decode prog_14_method_17_code 173 = .ok (.getfield 147, 3) := by decide +kernel
theorem d_Md_step_176 : decode prog_14_method_17_code 176 = .ok (.iconst 1, 1) := by decide +kernel
theorem d_Md_step_177 : decode prog_14_method_17_code 177 = .ok (.iadd, 1) := by decide +kernel
theorem d_Md_step_178 : decode prog_14_method_17_code 178 = .ok (.putfield 147, 3) := by decide +kernel
theorem d_Md_step_181 : decode prog_14_method_17_code 181 = .ok (.aload_n 0, 1) := by decide +kernel
theorem d_Md_step_182 : decode prog_14_method_17_code 182 = .ok (.iload_n 1, 1) := by decide +kernel
theorem d_Md_step_183 : decode prog_14_method_17_code 183 = .ok (.bipush 59, 2) := by decide +kernel
theorem d_Md_step_185 : decode prog_14_method_17_code 185 = .ok (.if_icmp .eq 9, 3) := by decide +kernel
theorem d_Md_step_188 : decode prog_14_method_17_code 188 = .ok (.iload_n 1, 1) := by decide +kernel
theorem d_Md_step_189 : decode prog_14_method_17_code 189 = .ok (.bipush 44, 2) := by decide +kernel
theorem d_Md_step_191 : decode prog_14_method_17_code 191 = .ok (.if_icmp .ne 7, 3) := by decide +kernel
theorem d_Md_step_194 : decode prog_14_method_17_code 194 = .ok (.iconst 4, 1) := by decide +kernel
theorem d_Md_step_195 : decode prog_14_method_17_code 195 = .ok (.goto 4, 3) := by decide +kernel
theorem d_Md_step_198 : decode prog_14_method_17_code 198 = .ok (.iconst 0, 1) := by decide +kernel
theorem d_Md_step_199 : decode prog_14_method_17_code 199 = .ok (.putfield 156, 3) := by decide +kernel
theorem d_Md_step_202 : decode prog_14_method_17_code 202 = .ok (.aload_n 0, 1) := by decide +kernel
theorem d_Md_step_203 : decode prog_14_method_17_code 203 = .ok (.aload_n 0, 1) := by decide +kernel
theorem d_Md_step_204 : decode prog_14_method_17_code 204 = .ok (.getfield 147, 3) := by decide +kernel
theorem d_Md_step_207 : decode prog_14_method_17_code 207 = .ok (.putfield 165, 3) := by decide +kernel
theorem d_Md_step_210 : decode prog_14_method_17_code 210 = .ok (.return_, 1) := by decide +kernel
set_option maxHeartbeats 2000000 in
theorem Md_step_L77_g {κ : tv_Kt} (hC : tv_Cx κ "TiedViewsModel" prog_14_method_17_code 2 1) (hR : tv_Re κ none) (F : Nat) : ∀ (n : Nat) (M : tv_M), tv_G κ 2 (tv_Qm κ tv_ev) 77 [some (.ref (κ.b + 249)), none] [] M (Md_step_L77 F n M) := by
  intro n
  induction n with
  | zero => intro _; exact g_none
  | succ nn ih =>
    intro M
    rw [Md_step_L77]
    refine g_aload_n hC d_Md_step_77 rfl ?_
    refine g_aload_n hC d_Md_step_78 rfl ?_
    refine fg_Md_147 hC lc_249 d_Md_step_79 ?_
    refine gv_callVi hC [.int (M.1 249 27)] cw_Md_150 (Md_byteAt_c F (M.1 249 27) M) lc_249 rfl rfl rfl rfl rfl rfl rfl d_Md_step_82 (fun r32 M33 => ?_)
    refine gv_callSi hC [.int r32] cw_Md_159 (Md_isLetter_c F r32 M33) rfl rfl rfl rfl rfl d_Md_step_85 (fun r34 M35 => ?_)
    refine g_if_eq (tgt := 104) hC d_Md_step_88 (by decide) (fun _ => ?_) (fun _ => ?_)
    · refine g_aload_n hC d_Md_step_104 rfl ?_
      refine g_iconst hC d_Md_step_105 k_i2 ?_
      refine fp_Md_156 hC lc_249 d_Md_step_106 (fun M36 => ?_)
      refine g_goto (tgt := 202) hC d_Md_step_109 (by decide) ?_
      refine g_aload_n hC d_Md_step_202 rfl ?_
      refine g_aload_n hC d_Md_step_203 rfl ?_
      refine fg_Md_147 hC lc_249 d_Md_step_204 ?_
      refine fp_Md_165 hC lc_249 d_Md_step_207 (fun M37 => ?_)
      exact g_vret hC hR d_Md_step_210
    · refine g_aload_n hC d_Md_step_91 rfl ?_
      refine g_dup hC d_Md_step_92 rfl ?_
      refine fg_Md_147 hC lc_249 d_Md_step_93 ?_
      refine g_iconst hC d_Md_step_96 k_i1 ?_
      refine g_iadd hC d_Md_step_97 ?_
      refine fp_Md_147 hC lc_249 d_Md_step_98 (fun M38 => ?_)
      refine g_goto (tgt := 77) hC d_Md_step_101 (by decide) ?_
      exact ih M38
set_option maxHeartbeats 2000000 in
theorem Md_step_L119_g {κ : tv_Kt} (hC : tv_Cx κ "TiedViewsModel" prog_14_method_17_code 2 1) (hR : tv_Re κ none) (F : Nat) : ∀ (n : Nat) (M : tv_M), tv_G κ 2 (tv_Qm κ tv_ev) 119 [some (.ref (κ.b + 249)), none] [] M (Md_step_L119 F n M) := by
  intro n
  induction n with
  | zero => intro _; exact g_none
  | succ nn ih =>
    intro M
    rw [Md_step_L119]
    refine g_aload_n hC d_Md_step_119 rfl ?_
    refine g_aload_n hC d_Md_step_120 rfl ?_
    refine fg_Md_147 hC lc_249 d_Md_step_121 ?_
    refine gv_callVi hC [.int (M.1 249 27)] cw_Md_150 (Md_byteAt_c F (M.1 249 27) M) lc_249 rfl rfl rfl rfl rfl rfl rfl d_Md_step_124 (fun r23 M24 => ?_)
    refine gv_callSi hC [.int r23] cw_Md_162 (Md_isFigure_c F r23 M24) rfl rfl rfl rfl rfl d_Md_step_127 (fun r25 M26 => ?_)
    refine g_if_eq (tgt := 146) hC d_Md_step_130 (by decide) (fun _ => ?_) (fun _ => ?_)
    · refine g_aload_n hC d_Md_step_146 rfl ?_
      refine g_aload_n hC d_Md_step_147 rfl ?_
      refine fg_Md_147 hC lc_249 d_Md_step_148 ?_
      refine g_aload_n hC d_Md_step_151 rfl ?_
      refine fg_Md_153 hC lc_249 d_Md_step_152 ?_
      refine g_isub hC d_Md_step_155 ?_
      refine g_iconst hC d_Md_step_156 k_i3 ?_
      refine g_icmp_le (tgt := 164) hC d_Md_step_157 (by decide) (fun _ => ?_) (fun _ => ?_)
      · refine g_iconst hC d_Md_step_164 k_i3 ?_
        refine fp_Md_156 hC lc_249 d_Md_step_165 (fun M27 => ?_)
        refine g_goto (tgt := 202) hC d_Md_step_168 (by decide) ?_
        refine g_aload_n hC d_Md_step_202 rfl ?_
        refine g_aload_n hC d_Md_step_203 rfl ?_
        refine fg_Md_147 hC lc_249 d_Md_step_204 ?_
        refine fp_Md_165 hC lc_249 d_Md_step_207 (fun M28 => ?_)
        exact g_vret hC hR d_Md_step_210
      · refine g_iconst hC d_Md_step_160 k_i0 ?_
        refine g_goto (tgt := 165) hC d_Md_step_161 (by decide) ?_
        refine fp_Md_156 hC lc_249 d_Md_step_165 (fun M29 => ?_)
        refine g_goto (tgt := 202) hC d_Md_step_168 (by decide) ?_
        refine g_aload_n hC d_Md_step_202 rfl ?_
        refine g_aload_n hC d_Md_step_203 rfl ?_
        refine fg_Md_147 hC lc_249 d_Md_step_204 ?_
        refine fp_Md_165 hC lc_249 d_Md_step_207 (fun M30 => ?_)
        exact g_vret hC hR d_Md_step_210
    · refine g_aload_n hC d_Md_step_133 rfl ?_
      refine g_dup hC d_Md_step_134 rfl ?_
      refine fg_Md_147 hC lc_249 d_Md_step_135 ?_
      refine g_iconst hC d_Md_step_138 k_i1 ?_
      refine g_iadd hC d_Md_step_139 ?_
      refine fp_Md_147 hC lc_249 d_Md_step_140 (fun M31 => ?_)
      refine g_goto (tgt := 119) hC d_Md_step_143 (by decide) ?_
      exact ih M31
set_option maxHeartbeats 2000000 in
theorem Md_step_L0_g {κ : tv_Kt} (hC : tv_Cx κ "TiedViewsModel" prog_14_method_17_code 2 1) (hR : tv_Re κ none) (F : Nat) : ∀ (n : Nat) (M : tv_M), tv_G κ 2 (tv_Qm κ tv_ev) 0 [some (.ref (κ.b + 249)), none] [] M (Md_step_L0 F n M) := by
  intro n
  induction n with
  | zero => intro _; exact g_none
  | succ nn ih =>
    intro M
    rw [Md_step_L0]
    refine g_aload_n hC d_Md_step_0 rfl ?_
    refine g_aload_n hC d_Md_step_1 rfl ?_
    refine fg_Md_147 hC lc_249 d_Md_step_2 ?_
    refine gv_callVi hC [.int (M.1 249 27)] cw_Md_150 (Md_byteAt_c F (M.1 249 27) M) lc_249 rfl rfl rfl rfl rfl rfl rfl d_Md_step_5 (fun r1 M2 => ?_)
    refine g_bipush hC d_Md_step_8 k_b32 ?_
    refine g_icmp_eq (tgt := 26) hC d_Md_step_10 (by decide) (fun _ => ?_) (fun _ => ?_)
    · refine g_aload_n hC d_Md_step_26 rfl ?_
      refine g_dup hC d_Md_step_27 rfl ?_
      refine fg_Md_147 hC lc_249 d_Md_step_28 ?_
      refine g_iconst hC d_Md_step_31 k_i1 ?_
      refine g_iadd hC d_Md_step_32 ?_
      refine fp_Md_147 hC lc_249 d_Md_step_33 (fun M3 => ?_)
      refine g_goto (tgt := 0) hC d_Md_step_36 (by decide) ?_
      exact ih M3
    · refine g_aload_n hC d_Md_step_13 rfl ?_
      refine g_aload_n hC d_Md_step_14 rfl ?_
      refine fg_Md_147 hC lc_249 d_Md_step_15 ?_
      refine gv_callVi hC [.int (M2.1 249 27)] cw_Md_150 (Md_byteAt_c F (M2.1 249 27) M2) lc_249 rfl rfl rfl rfl rfl rfl rfl d_Md_step_18 (fun r4 M5 => ?_)
      refine g_bipush hC d_Md_step_21 k_b10 ?_
      refine g_icmp_ne (tgt := 39) hC d_Md_step_23 (by decide) (fun _ => ?_) (fun _ => ?_)
      · refine g_aload_n hC d_Md_step_39 rfl ?_
        refine g_aload_n hC d_Md_step_40 rfl ?_
        refine fg_Md_147 hC lc_249 d_Md_step_41 ?_
        refine fp_Md_153 hC lc_249 d_Md_step_44 (fun M6 => ?_)
        refine g_aload_n hC d_Md_step_47 rfl ?_
        refine g_aload_n hC d_Md_step_48 rfl ?_
        refine fg_Md_147 hC lc_249 d_Md_step_49 ?_
        refine gv_callVi hC [.int (M6.1 249 27)] cw_Md_150 (Md_byteAt_c F (M6.1 249 27) M6) lc_249 rfl rfl rfl rfl rfl rfl rfl d_Md_step_52 (fun r7 M8 => ?_)
        refine g_istore_n (ls' := [some (.ref (κ.b + 249)), some (.int r7)]) hC d_Md_step_55 rfl rfl ?_
        refine g_iload_n hC d_Md_step_56 rfl ?_
        refine g_ldc hC d_Md_step_57 wk_Md_146 ?_
        refine g_icmp_ne (tgt := 70) hC d_Md_step_59 (by decide) (fun _ => ?_) (fun _ => ?_)
        · refine g_iload_n hC d_Md_step_70 rfl ?_
          refine gv_callSi hC [.int r7] cw_Md_159 (Md_isLetter_c F r7 M8) rfl rfl rfl rfl rfl d_Md_step_71 (fun r9 M10 => ?_)
          refine g_if_eq (tgt := 112) hC d_Md_step_74 (by decide) (fun _ => ?_) (fun _ => ?_)
          · refine g_iload_n hC d_Md_step_112 rfl ?_
            refine gv_callSi hC [.int r7] cw_Md_162 (Md_isFigure_c F r7 M10) rfl rfl rfl rfl rfl d_Md_step_113 (fun r11 M12 => ?_)
            refine g_if_eq (tgt := 171) hC d_Md_step_116 (by decide) (fun _ => ?_) (fun _ => ?_)
            · refine g_aload_n hC d_Md_step_171 rfl ?_
              refine g_dup hC d_Md_step_172 rfl ?_
              refine fg_Md_147 hC lc_249 d_Md_step_173 ?_
              refine g_iconst hC d_Md_step_176 k_i1 ?_
              refine g_iadd hC d_Md_step_177 ?_
              refine fp_Md_147 hC lc_249 d_Md_step_178 (fun M13 => ?_)
              refine g_aload_n hC d_Md_step_181 rfl ?_
              refine g_iload_n hC d_Md_step_182 rfl ?_
              refine g_bipush hC d_Md_step_183 k_b59 ?_
              refine g_icmp_eq (tgt := 194) hC d_Md_step_185 (by decide) (fun _ => ?_) (fun _ => ?_)
              · refine g_iconst hC d_Md_step_194 k_i4 ?_
                refine g_goto (tgt := 199) hC d_Md_step_195 (by decide) ?_
                refine fp_Md_156 hC lc_249 d_Md_step_199 (fun M14 => ?_)
                refine g_aload_n hC d_Md_step_202 rfl ?_
                refine g_aload_n hC d_Md_step_203 rfl ?_
                refine fg_Md_147 hC lc_249 d_Md_step_204 ?_
                refine fp_Md_165 hC lc_249 d_Md_step_207 (fun M15 => ?_)
                exact g_vret hC hR d_Md_step_210
              · refine g_iload_n hC d_Md_step_188 rfl ?_
                refine g_bipush hC d_Md_step_189 k_b44 ?_
                refine g_icmp_ne (tgt := 198) hC d_Md_step_191 (by decide) (fun _ => ?_) (fun _ => ?_)
                · refine g_iconst hC d_Md_step_198 k_i0 ?_
                  refine fp_Md_156 hC lc_249 d_Md_step_199 (fun M16 => ?_)
                  refine g_aload_n hC d_Md_step_202 rfl ?_
                  refine g_aload_n hC d_Md_step_203 rfl ?_
                  refine fg_Md_147 hC lc_249 d_Md_step_204 ?_
                  refine fp_Md_165 hC lc_249 d_Md_step_207 (fun M17 => ?_)
                  exact g_vret hC hR d_Md_step_210
                · refine g_iconst hC d_Md_step_194 k_i4 ?_
                  refine g_goto (tgt := 199) hC d_Md_step_195 (by decide) ?_
                  refine fp_Md_156 hC lc_249 d_Md_step_199 (fun M18 => ?_)
                  refine g_aload_n hC d_Md_step_202 rfl ?_
                  refine g_aload_n hC d_Md_step_203 rfl ?_
                  refine fg_Md_147 hC lc_249 d_Md_step_204 ?_
                  refine fp_Md_165 hC lc_249 d_Md_step_207 (fun M19 => ?_)
                  exact g_vret hC hR d_Md_step_210
            · refine g_mask [true, false] (ls' := [some (.ref (κ.b + 249)), none]) rfl ?_
              exact Md_step_L119_g hC hR F F M12
          · refine g_mask [true, false] (ls' := [some (.ref (κ.b + 249)), none]) rfl ?_
            exact Md_step_L77_g hC hR F F M10
        · refine g_aload_n hC d_Md_step_62 rfl ?_
          refine g_iconst hC d_Md_step_63 k_i1 ?_
          refine fp_Md_156 hC lc_249 d_Md_step_64 (fun M20 => ?_)
          refine g_goto (tgt := 202) hC d_Md_step_67 (by decide) ?_
          refine g_aload_n hC d_Md_step_202 rfl ?_
          refine g_aload_n hC d_Md_step_203 rfl ?_
          refine fg_Md_147 hC lc_249 d_Md_step_204 ?_
          refine fp_Md_165 hC lc_249 d_Md_step_207 (fun M21 => ?_)
          exact g_vret hC hR d_Md_step_210
      · refine g_aload_n hC d_Md_step_26 rfl ?_
        refine g_dup hC d_Md_step_27 rfl ?_
        refine fg_Md_147 hC lc_249 d_Md_step_28 ?_
        refine g_iconst hC d_Md_step_31 k_i1 ?_
        refine g_iadd hC d_Md_step_32 ?_
        refine fp_Md_147 hC lc_249 d_Md_step_33 (fun M22 => ?_)
        refine g_goto (tgt := 0) hC d_Md_step_36 (by decide) ?_
        exact ih M22
set_option maxHeartbeats 2000000 in
theorem Md_step_c {l : Launch} {θ : tv_Th} (F : Nat) (M : tv_M) : tv_Ct l θ ⟨"TiedViewsModel", "step", "()V"⟩ prog_14_method_17_code 2 none 1 tv_ev [.ref (θ.1 + 249)] M (Md_step F M) := by
  refine tv_ofG [some (.ref (θ.1 + 249)), none] rfl rfl (tv_ent 1 rfl) ?_
  intro κ hl ht hC hR
  subst hl; subst ht
  unfold Md_step
  exact Md_step_L0_g hC hR F F M
theorem d_Md_word_0 : decode prog_14_method_21_code 0 = .ok (.lconst 0, 1) := by decide +kernel
theorem d_Md_word_1 : decode prog_14_method_21_code 1 = .ok (.lstore_n 1, 1) := by decide +kernel
theorem d_Md_word_2 : decode prog_14_method_21_code 2 = .ok (.aload_n 0, 1) := by decide +kernel
theorem d_Md_word_3 : decode prog_14_method_21_code 3 = .ok (.getfield 153, 3) := by decide +kernel
theorem d_Md_word_6 : decode prog_14_method_21_code 6 = .ok (.istore_n 3, 1) := by decide +kernel
theorem d_Md_word_7 : decode prog_14_method_21_code 7 = .ok (.iload_n 3, 1) := by decide +kernel
theorem d_Md_word_8 : decode prog_14_method_21_code 8 = .ok (.aload_n 0, 1) := by decide +kernel
theorem d_Md_word_9 : decode prog_14_method_21_code 9 = .ok (.getfield 165, 3) := by decide +kernel
theorem d_Md_word_12 : decode prog_14_method_21_code 12 = .ok (.if_icmp .ge 44, 3) := by decide +kernel
theorem d_Md_word_15 : decode prog_14_method_21_code 15 = .ok (.aload_n 0, 1) := by decide +kernel
theorem d_Md_word_16 : decode prog_14_method_21_code 16 = .ok (.getfield 156, 3) := by decide +kernel
theorem d_Md_word_19 : decode prog_14_method_21_code 19 = .ok (.iconst 2, 1) := by decide +kernel
theorem d_Md_word_20 : decode prog_14_method_21_code 20 = .ok (.if_icmp .ne 36, 3) := by decide +kernel
theorem d_Md_word_23 : decode prog_14_method_21_code 23 = .ok (.aload_n 0, 1) := by decide +kernel
theorem d_Md_word_24 : decode prog_14_method_21_code 24 = .ok (.getfield 165, 3) := by decide +kernel
theorem d_Md_word_27 : decode prog_14_method_21_code 27 = .ok (.aload_n 0, 1) := by decide +kernel
theorem d_Md_word_28 : decode prog_14_method_21_code 28 = .ok (.getfield 153, 3) := by decide +kernel
theorem d_Md_word_31 : decode prog_14_method_21_code 31 = .ok (.isub, 1) := by decide +kernel
theorem d_Md_word_32 : decode prog_14_method_21_code 32 = .ok (.bipush 8, 2) := by decide +kernel
theorem d_Md_word_34 : decode prog_14_method_21_code 34 = .ok (.if_icmp .ge 22, 3) := by decide +kernel
theorem d_Md_word_37 : decode prog_14_method_21_code 37 = .ok (.lload_n 1, 1) := by decide +kernel
theorem d_Md_word_38 : decode prog_14_method_21_code 38 = .ok (.bipush 8, 2) := by decide +kernel
theorem d_Md_word_40 : decode prog_14_method_21_code 40 = .ok (.lshl, 1) := by decide +kernel
theorem d_Md_word_41 : decode prog_14_method_21_code 41 = .ok (.aload_n 0, 1) := by decide +kernel
theorem d_Md_word_42 : decode prog_14_method_21_code 42 = .ok (.getfield 66, 3) := by decide +kernel
theorem d_Md_word_45 : decode prog_14_method_21_code 45 = .ok (.iload_n 3, 1) := by decide +kernel
theorem d_Md_word_46 : decode prog_14_method_21_code 46 = .ok (.iaload, 1) := by decide +kernel
theorem d_Md_word_47 : decode prog_14_method_21_code 47 = .ok (.i2l, 1) := by decide +kernel
theorem d_Md_word_48 : decode prog_14_method_21_code 48 = .ok (.lor, 1) := by decide +kernel
theorem d_Md_word_49 : decode prog_14_method_21_code 49 = .ok (.lstore_n 1, 1) := by decide +kernel
theorem d_Md_word_50 : decode prog_14_method_21_code 50 = .ok (.iinc 3 1, 3) := by decide +kernel
theorem d_Md_word_53 : decode prog_14_method_21_code 53 = .ok (.goto (-46), 3) := by decide +kernel
theorem d_Md_word_56 : decode prog_14_method_21_code 56 = .ok (.lload_n 1, 1) := by decide +kernel
theorem d_Md_word_57 : decode prog_14_method_21_code 57 = .ok (.lreturn, 1) := by decide +kernel
set_option maxHeartbeats 2000000 in
theorem Md_word_L7_g {κ : tv_Kt} (hC : tv_Cx κ "TiedViewsModel" prog_14_method_21_code 4 0) (hR : tv_Re κ (some .long)) (F : Nat) : ∀ (n : Nat) (l1 : Int64) (l3 : Int32) (M : tv_M), tv_G κ 4 (tv_Qm κ tv_el) 7 [some (.ref (κ.b + 249)), some (.long l1), none, some (.int l3)] [] M (Md_word_L7 F n l1 l3 M) := by
  intro n
  induction n with
  | zero => intro _ _ _; exact g_none
  | succ nn ih =>
    intro l1 l3 M
    rw [Md_word_L7]
    refine g_iload_n hC d_Md_word_7 rfl ?_
    refine g_aload_n hC d_Md_word_8 rfl ?_
    refine fg_Md_165 hC lc_249 d_Md_word_9 ?_
    refine g_icmp_ge (tgt := 56) hC d_Md_word_12 (by decide) (fun _ => ?_) (fun _ => ?_)
    · refine g_lload_n hC d_Md_word_56 rfl ?_
      exact g_lret hC hR d_Md_word_57
    · refine g_aload_n hC d_Md_word_15 rfl ?_
      refine fg_Md_156 hC lc_249 d_Md_word_16 ?_
      refine g_iconst hC d_Md_word_19 k_i2 ?_
      refine g_icmp_ne (tgt := 56) hC d_Md_word_20 (by decide) (fun _ => ?_) (fun _ => ?_)
      · refine g_lload_n hC d_Md_word_56 rfl ?_
        exact g_lret hC hR d_Md_word_57
      · refine g_aload_n hC d_Md_word_23 rfl ?_
        refine fg_Md_165 hC lc_249 d_Md_word_24 ?_
        refine g_aload_n hC d_Md_word_27 rfl ?_
        refine fg_Md_153 hC lc_249 d_Md_word_28 ?_
        refine g_isub hC d_Md_word_31 ?_
        refine g_bipush hC d_Md_word_32 k_b8 ?_
        refine g_icmp_ge (tgt := 56) hC d_Md_word_34 (by decide) (fun _ => ?_) (fun _ => ?_)
        · refine g_lload_n hC d_Md_word_56 rfl ?_
          exact g_lret hC hR d_Md_word_57
        · refine g_lload_n hC d_Md_word_37 rfl ?_
          refine g_bipush hC d_Md_word_38 k_b8 ?_
          refine g_lshl hC d_Md_word_40 ?_
          refine g_aload_n hC d_Md_word_41 rfl ?_
          refine fg_Md_66 hC lc_249 d_Md_word_42 p0_249_23 ?_
          refine g_iload_n hC d_Md_word_45 rfl ?_
          refine gv_iald hC ly_266 d_Md_word_46 (fun x1 => ?_)
          refine g_i2l hC d_Md_word_47 ?_
          refine g_lor hC d_Md_word_48 ?_
          refine g_lstore_n (ls' := [some (.ref (κ.b + 249)), some (.long ((l1 <<< ((8 : Int32).toInt64 &&& 63)) ||| ((x1 : Int32).toInt64))), none, some (.int l3)]) hC d_Md_word_49 rfl rfl ?_
          refine g_iinc (ls' := [some (.ref (κ.b + 249)), some (.long ((l1 <<< ((8 : Int32).toInt64 &&& 63)) ||| ((x1 : Int32).toInt64))), none, some (.int (l3 + 1))]) hC d_Md_word_50 rfl k_i1 rfl rfl ?_
          refine g_goto (tgt := 7) hC d_Md_word_53 (by decide) ?_
          exact ih ((l1 <<< ((8 : Int32).toInt64 &&& 63)) ||| ((x1 : Int32).toInt64)) (l3 + 1) M
set_option maxHeartbeats 2000000 in
theorem Md_word_c {l : Launch} {θ : tv_Th} (F : Nat) (M : tv_M) : tv_Ct l θ ⟨"TiedViewsModel", "word", "()J"⟩ prog_14_method_21_code 4 (some .long) 0 tv_el [.ref (θ.1 + 249)] M (Md_word F M) := by
  refine tv_ofG [some (.ref (θ.1 + 249)), none, none, none] rfl rfl (tv_ent 3 rfl) ?_
  intro κ hl ht hC hR
  subst hl; subst ht
  unfold Md_word
  refine g_lconst hC d_Md_word_0 k_l0 ?_
  refine g_lstore_n (ls' := [some (.ref (κ.b + 249)), some (.long 0), none, none]) hC d_Md_word_1 rfl rfl ?_
  refine g_aload_n hC d_Md_word_2 rfl ?_
  refine fg_Md_153 hC lc_249 d_Md_word_3 ?_
  refine g_istore_n (ls' := [some (.ref (κ.b + 249)), some (.long 0), none, some (.int (M.1 249 29))]) hC d_Md_word_6 rfl rfl ?_
  exact Md_word_L7_g hC hR F F 0 (M.1 249 29) M
theorem d_Md_bad_0 : decode prog_14_method_18_code 0 = .ok (.aload_n 0, 1) := by decide +kernel
theorem d_Md_bad_1 : decode prog_14_method_18_code 1 = .ok (.getfield 168, 3) := by decide +kernel
theorem d_Md_bad_4 : decode prog_14_method_18_code 4 = .ok (.ifCond .ne 16, 3) := by decide +kernel
theorem d_Md_bad_7 : decode prog_14_method_18_code 7 = .ok (.aload_n 0, 1) := by decide +kernel
theorem d_Md_bad_8 : decode prog_14_method_18_code 8 = .ok (.iload_n 1, 1) := by decide +kernel
theorem d_Md_bad_9 : decode prog_14_method_18_code 9 = .ok (.putfield 168, 3) := by decide +kernel
theorem d_Md_bad_12 : decode prog_14_method_18_code 12 = .ok (.aload_n 0, 1) := by decide +kernel
theorem d_Md_bad_13 : decode prog_14_method_18_code 13 = .ok (.aload_n 0, 1) := by decide +kernel
theorem d_Md_bad_14 : decode prog_14_method_18_code 14 = .ok (.getfield 153, 3) := by decide +kernel
theorem d_Md_bad_17 : decode prog_14_method_18_code 17 = .ok (.putfield 171, 3) := by decide +kernel
theorem d_Md_bad_20 : decode prog_14_method_18_code 20 = .ok (.return_, 1) := by decide +kernel
set_option maxHeartbeats 2000000 in
theorem Md_bad_c {l : Launch} {θ : tv_Th} (F : Nat) (a1 : Int32) (M : tv_M) : tv_Ct l θ ⟨"TiedViewsModel", "bad", "(I)V"⟩ prog_14_method_18_code 2 none 0 tv_ev [.ref (θ.1 + 249), .int a1] M (Md_bad F a1 M) := by
  refine tv_ofG [some (.ref (θ.1 + 249)), some (.int a1)] rfl rfl (tv_ent 0 rfl) ?_
  intro κ hl ht hC hR
  subst hl; subst ht
  unfold Md_bad
  refine g_aload_n hC d_Md_bad_0 rfl ?_
  refine fg_Md_168 hC lc_249 d_Md_bad_1 ?_
  refine g_if_ne (tgt := 20) hC d_Md_bad_4 (by decide) (fun _ => ?_) (fun _ => ?_)
  · exact g_vret hC hR d_Md_bad_20
  · refine g_aload_n hC d_Md_bad_7 rfl ?_
    refine g_iload_n hC d_Md_bad_8 rfl ?_
    refine fp_Md_168 hC lc_249 d_Md_bad_9 (fun M1 => ?_)
    refine g_aload_n hC d_Md_bad_12 rfl ?_
    refine g_aload_n hC d_Md_bad_13 rfl ?_
    refine fg_Md_153 hC lc_249 d_Md_bad_14 ?_
    refine fp_Md_171 hC lc_249 d_Md_bad_17 (fun M2 => ?_)
    exact g_vret hC hR d_Md_bad_20
theorem d_Md_must_0 : decode prog_14_method_19_code 0 = .ok (.iload_n 1, 1) := by decide +kernel
theorem d_Md_must_1 : decode prog_14_method_19_code 1 = .ok (.ifCond .ne 8, 3) := by decide +kernel
theorem d_Md_must_4 : decode prog_14_method_19_code 4 = .ok (.aload_n 0, 1) := by decide +kernel
theorem d_Md_must_5 : decode prog_14_method_19_code 5 = .ok (.iconst 1, 1) := by decide +kernel
theorem d_Md_must_6 : decode prog_14_method_19_code 6 = .ok (.invokevirtual 174, 3) := by decide +kernel
theorem d_Md_must_9 : decode prog_14_method_19_code 9 = .ok (.aload_n 0, 1) := by decide +kernel
theorem d_Md_must_10 : decode prog_14_method_19_code 10 = .ok (.getfield 168, 3) := by decide +kernel
theorem d_Md_must_13 : decode prog_14_method_19_code 13 = .ok (.ifCond .ne 7, 3) := by decide +kernel
theorem d_Md_must_16 : decode prog_14_method_19_code 16 = .ok (.aload_n 0, 1) := by decide +kernel
theorem d_Md_must_17 : decode prog_14_method_19_code 17 = .ok (.invokevirtual 178, 3) := by decide +kernel
theorem d_Md_must_20 : decode prog_14_method_19_code 20 = .ok (.return_, 1) := by decide +kernel
set_option maxHeartbeats 2000000 in
theorem Md_must_c {l : Launch} {θ : tv_Th} (F : Nat) (a1 : Int32) (M : tv_M) : tv_Ct l θ ⟨"TiedViewsModel", "must", "(Z)V"⟩ prog_14_method_19_code 2 none 2 tv_ev [.ref (θ.1 + 249), .int a1] M (Md_must F a1 M) := by
  refine tv_ofG [some (.ref (θ.1 + 249)), some (.int a1)] rfl rfl (tv_ent 0 rfl) ?_
  intro κ hl ht hC hR
  subst hl; subst ht
  unfold Md_must
  refine g_iload_n hC d_Md_must_0 rfl ?_
  refine g_if_ne (tgt := 9) hC d_Md_must_1 (by decide) (fun _ => ?_) (fun _ => ?_)
  · refine g_aload_n hC d_Md_must_9 rfl ?_
    refine fg_Md_168 hC lc_249 d_Md_must_10 ?_
    refine g_if_ne (tgt := 20) hC d_Md_must_13 (by decide) (fun _ => ?_) (fun _ => ?_)
    · exact g_vret hC hR d_Md_must_20
    · refine g_aload_n hC d_Md_must_16 rfl ?_
      refine gv_callVv hC [] cw_Md_178 (Md_step_c F M) lc_249 rfl rfl rfl rfl rfl rfl rfl d_Md_must_17 (fun r1 M2 => ?_)
      exact g_vret hC hR d_Md_must_20
  · refine g_aload_n hC d_Md_must_4 rfl ?_
    refine g_iconst hC d_Md_must_5 k_i1 ?_
    refine gv_callVv hC [.int 1] cw_Md_174 (Md_bad_c F 1 M) lc_249 rfl rfl rfl rfl rfl rfl rfl d_Md_must_6 (fun r3 M4 => ?_)
    refine g_aload_n hC d_Md_must_9 rfl ?_
    refine fg_Md_168 hC lc_249 d_Md_must_10 ?_
    refine g_if_ne (tgt := 20) hC d_Md_must_13 (by decide) (fun _ => ?_) (fun _ => ?_)
    · exact g_vret hC hR d_Md_must_20
    · refine g_aload_n hC d_Md_must_16 rfl ?_
      refine gv_callVv hC [] cw_Md_178 (Md_step_c F M4) lc_249 rfl rfl rfl rfl rfl rfl rfl d_Md_must_17 (fun r5 M6 => ?_)
      exact g_vret hC hR d_Md_must_20
theorem d_Md_numberHere_0 : decode prog_14_method_22_code 0 = .ok (.iconst 0, 1) := by decide +kernel
theorem d_Md_numberHere_1 : decode prog_14_method_22_code 1 = .ok (.istore_n 1, 1) := by decide +kernel
theorem d_Md_numberHere_2 : decode prog_14_method_22_code 2 = .ok (.aload_n 0, 1) := by decide +kernel
theorem d_Md_numberHere_3 : decode prog_14_method_22_code 3 = .ok (.getfield 153, 3) := by decide +kernel
theorem d_Md_numberHere_6 : decode prog_14_method_22_code 6 = .ok (.istore_n 2, 1) := by decide +kernel
theorem d_Md_numberHere_7 : decode prog_14_method_22_code 7 = .ok (.iload_n 2, 1) := by decide +kernel
theorem d_Md_numberHere_8 : decode prog_14_method_22_code 8 = .ok (.aload_n 0, 1) := by decide +kernel
theorem d_Md_numberHere_9 : decode prog_14_method_22_code 9 = .ok (.getfield 165, 3) := by decide +kernel
theorem d_Md_numberHere_12 : decode prog_14_method_22_code 12 = .ok (.if_icmp .ge 32, 3) := by decide +kernel
theorem d_Md_numberHere_15 : decode prog_14_method_22_code 15 = .ok (.aload_n 0, 1) := by decide +kernel
theorem d_Md_numberHere_16 : decode prog_14_method_22_code 16 = .ok (.getfield 156, 3) := by decide +kernel
theorem d_Md_numberHere_19 : decode prog_14_method_22_code 19 = .ok (.iconst 3, 1) := by decide +kernel
theorem d_Md_numberHere_20 : decode prog_14_method_22_code 20 = .ok (.if_icmp .ne 24, 3) := by decide +kernel
theorem d_Md_numberHere_23 : decode prog_14_method_22_code 23 = .ok (.bipush 10, 2) := by decide +kernel
theorem d_Md_numberHere_25 : decode prog_14_method_22_code 25 = .ok (.iload_n 1, 1) := by decide +kernel
theorem d_Md_numberHere_26 : decode prog_14_method_22_code 26 = .ok (.imul, 1) := by decide +kernel
theorem d_Md_numberHere_27 : decode prog_14_method_22_code 27 = .ok (.aload_n 0, 1) := by decide +kernel
theorem d_Md_numberHere_28 : decode prog_14_method_22_code 28 = .ok (.getfield 66, 3) := by decide +kernel
theorem d_Md_numberHere_31 : decode prog_14_method_22_code 31 = .ok (.iload_n 2, 1) := by decide +kernel
theorem d_Md_numberHere_32 : decode prog_14_method_22_code 32 = .ok (.iaload, 1) := by decide +kernel
theorem d_Md_numberHere_33 : decode prog_14_method_22_code 33 = .ok (.iadd, 1) := by decide +kernel
theorem d_Md_numberHere_34 : decode prog_14_method_22_code 34 = .ok (.bipush 48, 2) := by decide +kernel
theorem d_Md_numberHere_36 : decode prog_14_method_22_code 36 = .ok (.isub, 1) := by decide +kernel
theorem d_Md_numberHere_37 : decode prog_14_method_22_code 37 = .ok (.istore_n 1, 1) := by decide +kernel
theorem d_Md_numberHere_38 : decode prog_14_method_22_code 38 = .ok (.iinc 2 1, 3) := by decide +kernel
theorem d_Md_numberHere_41 : decode prog_14_method_22_code 41 = .ok (.goto (-34), 3) := by decide +kernel
theorem d_Md_numberHere_44 : decode prog_14_method_22_code 44 = .ok (.iload_n 1, 1) := by decide +kernel
theorem d_Md_numberHere_45 : decode prog_14_method_22_code 45 = .ok (.ireturn, 1) := by decide +kernel
set_option maxHeartbeats 2000000 in
theorem Md_numberHere_L7_g {κ : tv_Kt} (hC : tv_Cx κ "TiedViewsModel" prog_14_method_22_code 3 0) (hR : tv_Re κ (some .int)) (F : Nat) : ∀ (n : Nat) (l1 : Int32) (l2 : Int32) (M : tv_M), tv_G κ 3 (tv_Qm κ tv_ei) 7 [some (.ref (κ.b + 249)), some (.int l1), some (.int l2)] [] M (Md_numberHere_L7 F n l1 l2 M) := by
  intro n
  induction n with
  | zero => intro _ _ _; exact g_none
  | succ nn ih =>
    intro l1 l2 M
    rw [Md_numberHere_L7]
    refine g_iload_n hC d_Md_numberHere_7 rfl ?_
    refine g_aload_n hC d_Md_numberHere_8 rfl ?_
    refine fg_Md_165 hC lc_249 d_Md_numberHere_9 ?_
    refine g_icmp_ge (tgt := 44) hC d_Md_numberHere_12 (by decide) (fun _ => ?_) (fun _ => ?_)
    · refine g_iload_n hC d_Md_numberHere_44 rfl ?_
      exact g_iret hC hR d_Md_numberHere_45
    · refine g_aload_n hC d_Md_numberHere_15 rfl ?_
      refine fg_Md_156 hC lc_249 d_Md_numberHere_16 ?_
      refine g_iconst hC d_Md_numberHere_19 k_i3 ?_
      refine g_icmp_ne (tgt := 44) hC d_Md_numberHere_20 (by decide) (fun _ => ?_) (fun _ => ?_)
      · refine g_iload_n hC d_Md_numberHere_44 rfl ?_
        exact g_iret hC hR d_Md_numberHere_45
      · refine g_bipush hC d_Md_numberHere_23 k_b10 ?_
        refine g_iload_n hC d_Md_numberHere_25 rfl ?_
        refine g_imul hC d_Md_numberHere_26 ?_
        refine g_aload_n hC d_Md_numberHere_27 rfl ?_
        refine fg_Md_66 hC lc_249 d_Md_numberHere_28 p0_249_23 ?_
        refine g_iload_n hC d_Md_numberHere_31 rfl ?_
        refine gv_iald hC ly_266 d_Md_numberHere_32 (fun x1 => ?_)
        refine g_iadd hC d_Md_numberHere_33 ?_
        refine g_bipush hC d_Md_numberHere_34 k_b48 ?_
        refine g_isub hC d_Md_numberHere_36 ?_
        refine g_istore_n (ls' := [some (.ref (κ.b + 249)), some (.int (((10 * l1) + x1) - 48)), some (.int l2)]) hC d_Md_numberHere_37 rfl rfl ?_
        refine g_iinc (ls' := [some (.ref (κ.b + 249)), some (.int (((10 * l1) + x1) - 48)), some (.int (l2 + 1))]) hC d_Md_numberHere_38 rfl k_i1 rfl rfl ?_
        refine g_goto (tgt := 7) hC d_Md_numberHere_41 (by decide) ?_
        exact ih (((10 * l1) + x1) - 48) (l2 + 1) M
set_option maxHeartbeats 2000000 in
theorem Md_numberHere_c {l : Launch} {θ : tv_Th} (F : Nat) (M : tv_M) : tv_Ct l θ ⟨"TiedViewsModel", "numberHere", "()I"⟩ prog_14_method_22_code 3 (some .int) 0 tv_ei [.ref (θ.1 + 249)] M (Md_numberHere F M) := by
  refine tv_ofG [some (.ref (θ.1 + 249)), none, none] rfl rfl (tv_ent 2 rfl) ?_
  intro κ hl ht hC hR
  subst hl; subst ht
  unfold Md_numberHere
  refine g_iconst hC d_Md_numberHere_0 k_i0 ?_
  refine g_istore_n (ls' := [some (.ref (κ.b + 249)), some (.int 0), none]) hC d_Md_numberHere_1 rfl rfl ?_
  refine g_aload_n hC d_Md_numberHere_2 rfl ?_
  refine fg_Md_153 hC lc_249 d_Md_numberHere_3 ?_
  refine g_istore_n (ls' := [some (.ref (κ.b + 249)), some (.int 0), some (.int (M.1 249 29))]) hC d_Md_numberHere_6 rfl rfl ?_
  exact Md_numberHere_L7_g hC hR F F 0 (M.1 249 29) M
theorem d_Md_numberIn_0 : decode prog_14_method_23_code 0 = .ok (.aload_n 0, 1) := by decide +kernel
theorem d_Md_numberIn_1 : decode prog_14_method_23_code 1 = .ok (.getfield 168, 3) := by decide +kernel
theorem d_Md_numberIn_4 : decode prog_14_method_23_code 4 = .ok (.ifCond .le 5, 3) := by decide +kernel
theorem d_Md_numberIn_7 : decode prog_14_method_23_code 7 = .ok (.iconst 0, 1) := by decide +kernel
theorem d_Md_numberIn_8 : decode prog_14_method_23_code 8 = .ok (.ireturn, 1) := by decide +kernel
theorem d_Md_numberIn_9 : decode prog_14_method_23_code 9 = .ok (.aload_n 0, 1) := by decide +kernel
theorem d_Md_numberIn_10 : decode prog_14_method_23_code 10 = .ok (.invokevirtual 181, 3) := by decide +kernel
theorem d_Md_numberIn_13 : decode prog_14_method_23_code 13 = .ok (.istore_n 3, 1) := by decide +kernel
theorem d_Md_numberIn_14 : decode prog_14_method_23_code 14 = .ok (.aload_n 0, 1) := by decide +kernel
theorem d_Md_numberIn_15 : decode prog_14_method_23_code 15 = .ok (.getfield 156, 3) := by decide +kernel
theorem d_Md_numberIn_18 : decode prog_14_method_23_code 18 = .ok (.iconst 3, 1) := by decide +kernel
theorem d_Md_numberIn_19 : decode prog_14_method_23_code 19 = .ok (.if_icmp .ne 20, 3) := by decide +kernel
theorem d_Md_numberIn_22 : decode prog_14_method_23_code 22 = .ok (.iload_n 3, 1) := by decide +kernel
theorem d_Md_numberIn_23 : decode prog_14_method_23_code 23 = .ok (.i2l, 1) := by decide +kernel
theorem d_Md_numberIn_24 : decode prog_14_method_23_code 24 = .ok (.iload_n 1, 1) := by decide +kernel
theorem d_Md_numberIn_25 : decode prog_14_method_23_code 25 = .ok (.i2l, 1) := by decide +kernel
theorem d_Md_numberIn_26 : decode prog_14_method_23_code 26 = .ok (.iload_n 2, 1) := by decide +kernel
theorem d_Md_numberIn_27 : decode prog_14_method_23_code 27 = .ok (.i2l, 1) := by decide +kernel
theorem d_Md_numberIn_28 : decode prog_14_method_23_code 28 = .ok (.invokestatic 115, 3) := by decide +kernel
theorem d_Md_numberIn_31 : decode prog_14_method_23_code 31 = .ok (.ifCond .ne 8, 3) := by decide +kernel
theorem d_Md_numberIn_34 : decode prog_14_method_23_code 34 = .ok (.aload_n 0, 1) := by decide +kernel
theorem d_Md_numberIn_35 : decode prog_14_method_23_code 35 = .ok (.iconst 2, 1) := by decide +kernel
theorem d_Md_numberIn_36 : decode prog_14_method_23_code 36 = .ok (.invokevirtual 174, 3) := by decide +kernel
theorem d_Md_numberIn_39 : decode prog_14_method_23_code 39 = .ok (.aload_n 0, 1) := by decide +kernel
theorem d_Md_numberIn_40 : decode prog_14_method_23_code 40 = .ok (.aload_n 0, 1) := by decide +kernel
theorem d_Md_numberIn_41 : decode prog_14_method_23_code 41 = .ok (.getfield 156, 3) := by decide +kernel
theorem d_Md_numberIn_44 : decode prog_14_method_23_code 44 = .ok (.iconst 3, 1) := by decide +kernel
theorem d_Md_numberIn_45 : decode prog_14_method_23_code 45 = .ok (.if_icmp .ne 7, 3) := by decide +kernel
theorem d_Md_numberIn_48 : decode prog_14_method_23_code 48 = .ok (.iconst 1, 1) := by decide +kernel
theorem d_Md_numberIn_49 : decode prog_14_method_23_code 49 = .ok (.goto 4, 3) := by decide +kernel
theorem d_Md_numberIn_52 : decode prog_14_method_23_code 52 = .ok (.iconst 0, 1) := by decide +kernel
theorem d_Md_numberIn_53 : decode prog_14_method_23_code 53 = .ok (.invokevirtual 185, 3) := by decide +kernel
theorem d_Md_numberIn_56 : decode prog_14_method_23_code 56 = .ok (.iload_n 3, 1) := by decide +kernel
theorem d_Md_numberIn_57 : decode prog_14_method_23_code 57 = .ok (.ireturn, 1) := by decide +kernel
set_option maxHeartbeats 2000000 in
theorem Md_numberIn_L39_g {κ : tv_Kt} (hC : tv_Cx κ "TiedViewsModel" prog_14_method_23_code 4 3) (hR : tv_Re κ (some .int)) (F : Nat) (l3 : Int32) (M : tv_M) : tv_G κ 4 (tv_Qm κ tv_ei) 39 [some (.ref (κ.b + 249)), none, none, some (.int l3)] [] M (Md_numberIn_L39 F l3 M) := by
  rw [Md_numberIn_L39]
  refine g_aload_n hC d_Md_numberIn_39 rfl ?_
  refine g_aload_n hC d_Md_numberIn_40 rfl ?_
  refine fg_Md_156 hC lc_249 d_Md_numberIn_41 ?_
  refine g_iconst hC d_Md_numberIn_44 k_i3 ?_
  refine g_icmp_ne (tgt := 52) hC d_Md_numberIn_45 (by decide) (fun _ => ?_) (fun _ => ?_)
  · refine g_iconst hC d_Md_numberIn_52 k_i0 ?_
    refine gv_callVv hC [.int 0] cw_Md_185 (Md_must_c F 0 M) lc_249 rfl rfl rfl rfl rfl rfl rfl d_Md_numberIn_53 (fun r7 M8 => ?_)
    refine g_iload_n hC d_Md_numberIn_56 rfl ?_
    exact g_iret hC hR d_Md_numberIn_57
  · refine g_iconst hC d_Md_numberIn_48 k_i1 ?_
    refine g_goto (tgt := 53) hC d_Md_numberIn_49 (by decide) ?_
    refine gv_callVv hC [.int 1] cw_Md_185 (Md_must_c F 1 M) lc_249 rfl rfl rfl rfl rfl rfl rfl d_Md_numberIn_53 (fun r9 M10 => ?_)
    refine g_iload_n hC d_Md_numberIn_56 rfl ?_
    exact g_iret hC hR d_Md_numberIn_57
set_option maxHeartbeats 2000000 in
theorem Md_numberIn_c {l : Launch} {θ : tv_Th} (F : Nat) (a1 : Int32) (a2 : Int32) (M : tv_M) : tv_Ct l θ ⟨"TiedViewsModel", "numberIn", "(II)I"⟩ prog_14_method_23_code 4 (some .int) 3 tv_ei [.ref (θ.1 + 249), .int a1, .int a2] M (Md_numberIn F a1 a2 M) := by
  refine tv_ofG [some (.ref (θ.1 + 249)), some (.int a1), some (.int a2), none] rfl rfl (tv_ent 1 rfl) ?_
  intro κ hl ht hC hR
  subst hl; subst ht
  unfold Md_numberIn
  refine g_aload_n hC d_Md_numberIn_0 rfl ?_
  refine fg_Md_168 hC lc_249 d_Md_numberIn_1 ?_
  refine g_if_le (tgt := 9) hC d_Md_numberIn_4 (by decide) (fun _ => ?_) (fun _ => ?_)
  · refine g_aload_n hC d_Md_numberIn_9 rfl ?_
    refine gv_callVi hC [] cw_Md_181 (Md_numberHere_c F M) lc_249 rfl rfl rfl rfl rfl rfl rfl d_Md_numberIn_10 (fun r1 M2 => ?_)
    refine g_istore_n (ls' := [some (.ref (κ.b + 249)), some (.int a1), some (.int a2), some (.int r1)]) hC d_Md_numberIn_13 rfl rfl ?_
    refine g_aload_n hC d_Md_numberIn_14 rfl ?_
    refine fg_Md_156 hC lc_249 d_Md_numberIn_15 ?_
    refine g_iconst hC d_Md_numberIn_18 k_i3 ?_
    refine g_icmp_ne (tgt := 39) hC d_Md_numberIn_19 (by decide) (fun _ => ?_) (fun _ => ?_)
    · refine g_mask [true, false, false, true] (ls' := [some (.ref (κ.b + 249)), none, none, some (.int r1)]) rfl ?_
      exact Md_numberIn_L39_g hC hR F r1 M2
    · refine g_iload_n hC d_Md_numberIn_22 rfl ?_
      refine g_i2l hC d_Md_numberIn_23 ?_
      refine g_iload_n hC d_Md_numberIn_24 rfl ?_
      refine g_i2l hC d_Md_numberIn_25 ?_
      refine g_iload_n hC d_Md_numberIn_26 rfl ?_
      refine g_i2l hC d_Md_numberIn_27 ?_
      refine gv_callSi hC [.long ((r1 : Int32).toInt64), .long ((a1 : Int32).toInt64), .long ((a2 : Int32).toInt64)] cw_Md_115 (Md_in_c F ((r1 : Int32).toInt64) ((a1 : Int32).toInt64) ((a2 : Int32).toInt64) M2) rfl rfl rfl rfl rfl d_Md_numberIn_28 (fun r3 M4 => ?_)
      refine g_if_ne (tgt := 39) hC d_Md_numberIn_31 (by decide) (fun _ => ?_) (fun _ => ?_)
      · refine g_mask [true, false, false, true] (ls' := [some (.ref (κ.b + 249)), none, none, some (.int r1)]) rfl ?_
        exact Md_numberIn_L39_g hC hR F r1 M4
      · refine g_aload_n hC d_Md_numberIn_34 rfl ?_
        refine g_iconst hC d_Md_numberIn_35 k_i2 ?_
        refine gv_callVv hC [.int 2] cw_Md_174 (Md_bad_c F 2 M4) lc_249 rfl rfl rfl rfl rfl rfl rfl d_Md_numberIn_36 (fun r5 M6 => ?_)
        refine g_mask [true, false, false, true] (ls' := [some (.ref (κ.b + 249)), none, none, some (.int r1)]) rfl ?_
        exact Md_numberIn_L39_g hC hR F r1 M6
  · refine g_iconst hC d_Md_numberIn_7 k_i0 ?_
    exact g_iret hC hR d_Md_numberIn_8
theorem d_Md_readEye_0 : decode prog_14_method_25_code 0 = .ok (.aload_n 0, 1) := by decide +kernel
theorem d_Md_readEye_1 : decode prog_14_method_25_code 1 = .ok (.invokevirtual 192, 3) := by decide +kernel
theorem d_Md_readEye_4 : decode prog_14_method_25_code 4 = .ok (.lstore_n 1, 1) := by decide +kernel
theorem d_Md_readEye_5 : decode prog_14_method_25_code 5 = .ok (.lload_n 1, 1) := by decide +kernel
theorem d_Md_readEye_6 : decode prog_14_method_25_code 6 = .ok (.ldc2_w 196, 3) := by decide +kernel
theorem d_Md_readEye_9 : decode prog_14_method_25_code 9 = .ok (.lcmp, 1) := by decide +kernel
theorem d_Md_readEye_10 : decode prog_14_method_25_code 10 = .ok (.ifCond .ne 7, 3) := by decide +kernel
theorem d_Md_readEye_13 : decode prog_14_method_25_code 13 = .ok (.iconst 0, 1) := by decide +kernel
theorem d_Md_readEye_14 : decode prog_14_method_25_code 14 = .ok (.goto 41, 3) := by decide +kernel
theorem d_Md_readEye_17 : decode prog_14_method_25_code 17 = .ok (.lload_n 1, 1) := by decide +kernel
theorem d_Md_readEye_18 : decode prog_14_method_25_code 18 = .ok (.ldc2_w 198, 3) := by decide +kernel
theorem d_Md_readEye_21 : decode prog_14_method_25_code 21 = .ok (.lcmp, 1) := by decide +kernel
theorem d_Md_readEye_22 : decode prog_14_method_25_code 22 = .ok (.ifCond .ne 7, 3) := by decide +kernel
theorem d_Md_readEye_25 : decode prog_14_method_25_code 25 = .ok (.iconst 1, 1) := by decide +kernel
theorem d_Md_readEye_26 : decode prog_14_method_25_code 26 = .ok (.goto 29, 3) := by decide +kernel
theorem d_Md_readEye_29 : decode prog_14_method_25_code 29 = .ok (.lload_n 1, 1) := by decide +kernel
theorem d_Md_readEye_30 : decode prog_14_method_25_code 30 = .ok (.ldc2_w 200, 3) := by decide +kernel
theorem d_Md_readEye_33 : decode prog_14_method_25_code 33 = .ok (.lcmp, 1) := by decide +kernel
theorem d_Md_readEye_34 : decode prog_14_method_25_code 34 = .ok (.ifCond .ne 7, 3) := by decide +kernel
theorem d_Md_readEye_37 : decode prog_14_method_25_code 37 = .ok (.iconst 2, 1) := by decide +kernel
theorem d_Md_readEye_38 : decode prog_14_method_25_code 38 = .ok (.goto 17, 3) := by decide +kernel
theorem d_Md_readEye_41 : decode prog_14_method_25_code 41 = .ok (.lload_n 1, 1) := by decide +kernel
theorem d_Md_readEye_42 : decode prog_14_method_25_code 42 = .ok (.ldc2_w 202, 3) := by decide +kernel
theorem d_Md_readEye_45 : decode prog_14_method_25_code 45 = .ok (.lcmp, 1) := by decide +kernel
theorem d_Md_readEye_46 : decode prog_14_method_25_code 46 = .ok (.ifCond .ne 7, 3) := by decide +kernel
theorem d_Md_readEye_49 : decode prog_14_method_25_code 49 = .ok (.iconst 3, 1) := by decide +kernel
theorem d_Md_readEye_50 : decode prog_14_method_25_code 50 = .ok (.goto 5, 3) := by decide +kernel
theorem d_Md_readEye_53 : decode prog_14_method_25_code 53 = .ok (.ldc 146, 2) := by decide +kernel
theorem d_Md_readEye_55 : decode prog_14_method_25_code 55 = .ok (.istore_n 3, 1) := by decide +kernel
theorem d_Md_readEye_56 : decode prog_14_method_25_code 56 = .ok (.aload_n 0, 1) := by decide +kernel
theorem d_Md_readEye_57 : decode prog_14_method_25_code 57 = .ok (.iload_n 3, 1) := by decide +kernel
theorem d_Md_readEye_58 : decode prog_14_method_25_code 58 = .ok (.ldc 146, 2) := by decide +kernel
theorem d_Md_readEye_60 : decode prog_14_method_25_code 60 = .ok (.if_icmp .eq 7, 3) := by decide +kernel
theorem d_Md_readEye_63 : decode prog_14_method_25_code 63 = .ok (.iconst 1, 1) := by decide +kernel
theorem d_Md_readEye_64 : decode prog_14_method_25_code 64 = .ok (.goto 4, 3) := by decide +kernel
theorem d_Md_readEye_67 : decode prog_14_method_25_code 67 = .ok (.iconst 0, 1) := by decide +kernel
theorem d_Md_readEye_68 : decode prog_14_method_25_code 68 = .ok (.invokevirtual 185, 3) := by decide +kernel
theorem d_Md_readEye_71 : decode prog_14_method_25_code 71 = .ok (.aload_n 0, 1) := by decide +kernel
theorem d_Md_readEye_72 : decode prog_14_method_25_code 72 = .ok (.getfield 27, 3) := by decide +kernel
theorem d_Md_readEye_75 : decode prog_14_method_25_code 75 = .ok (.aload_n 0, 1) := by decide +kernel
theorem d_Md_readEye_76 : decode prog_14_method_25_code 76 = .ok (.getfield 189, 3) := by decide +kernel
theorem d_Md_readEye_79 : decode prog_14_method_25_code 79 = .ok (.iload_n 3, 1) := by decide +kernel
theorem d_Md_readEye_80 : decode prog_14_method_25_code 80 = .ok (.iastore, 1) := by decide +kernel
theorem d_Md_readEye_81 : decode prog_14_method_25_code 81 = .ok (.aload_n 0, 1) := by decide +kernel
theorem d_Md_readEye_82 : decode prog_14_method_25_code 82 = .ok (.getfield 30, 3) := by decide +kernel
theorem d_Md_readEye_85 : decode prog_14_method_25_code 85 = .ok (.aload_n 0, 1) := by decide +kernel
theorem d_Md_readEye_86 : decode prog_14_method_25_code 86 = .ok (.getfield 189, 3) := by decide +kernel
theorem d_Md_readEye_89 : decode prog_14_method_25_code 89 = .ok (.aload_n 0, 1) := by decide +kernel
theorem d_Md_readEye_90 : decode prog_14_method_25_code 90 = .ok (.iconst 1, 1) := by decide +kernel
theorem d_Md_readEye_91 : decode prog_14_method_25_code 91 = .ok (.iload_n 3, 1) := by decide +kernel
theorem d_Md_readEye_92 : decode prog_14_method_25_code 92 = .ok (.iconst 3, 1) := by decide +kernel
theorem d_Md_readEye_93 : decode prog_14_method_25_code 93 = .ok (.if_icmp .ne 7, 3) := by decide +kernel
theorem d_Md_readEye_96 : decode prog_14_method_25_code 96 = .ok (.iconst 4, 1) := by decide +kernel
theorem d_Md_readEye_97 : decode prog_14_method_25_code 97 = .ok (.goto 4, 3) := by decide +kernel
theorem d_Md_readEye_100 : decode prog_14_method_25_code 100 = .ok (.iconst 3, 1) := by decide +kernel
theorem d_Md_readEye_101 : decode prog_14_method_25_code 101 = .ok (.invokevirtual 204, 3) := by decide +kernel
theorem d_Md_readEye_104 : decode prog_14_method_25_code 104 = .ok (.iastore, 1) := by decide +kernel
theorem d_Md_readEye_105 : decode prog_14_method_25_code 105 = .ok (.aload_n 0, 1) := by decide +kernel
theorem d_Md_readEye_106 : decode prog_14_method_25_code 106 = .ok (.getfield 33, 3) := by decide +kernel
theorem d_Md_readEye_109 : decode prog_14_method_25_code 109 = .ok (.aload_n 0, 1) := by decide +kernel
theorem d_Md_readEye_110 : decode prog_14_method_25_code 110 = .ok (.getfield 189, 3) := by decide +kernel
theorem d_Md_readEye_113 : decode prog_14_method_25_code 113 = .ok (.iload_n 3, 1) := by decide +kernel
theorem d_Md_readEye_114 : decode prog_14_method_25_code 114 = .ok (.iconst 3, 1) := by decide +kernel
theorem d_Md_readEye_115 : decode prog_14_method_25_code 115 = .ok (.if_icmp .ne 8, 3) := by decide +kernel
theorem d_Md_readEye_118 : decode prog_14_method_25_code 118 = .ok (.ldc 146, 2) := by decide +kernel
theorem d_Md_readEye_120 : decode prog_14_method_25_code 120 = .ok (.goto 7, 3) := by decide +kernel
theorem d_Md_readEye_123 : decode prog_14_method_25_code 123 = .ok (.aload_n 0, 1) := by decide +kernel
theorem d_Md_readEye_124 : decode prog_14_method_25_code 124 = .ok (.getfield 208, 3) := by decide +kernel
theorem d_Md_readEye_127 : decode prog_14_method_25_code 127 = .ok (.iastore, 1) := by decide +kernel
theorem d_Md_readEye_128 : decode prog_14_method_25_code 128 = .ok (.aload_n 0, 1) := by decide +kernel
theorem d_Md_readEye_129 : decode prog_14_method_25_code 129 = .ok (.dup, 1) := by decide +kernel
theorem d_Md_readEye_130 : decode prog_14_method_25_code 130 = .ok (.getfield 208, 3) := by decide +kernel
theorem d_Md_readEye_133 : decode prog_14_method_25_code 133 = .ok (.iload_n 3, 1) := by decide +kernel
theorem d_Md_readEye_134 : decode prog_14_method_25_code 134 = .ok (.iconst 3, 1) := by decide +kernel
theorem d_Md_readEye_135 : decode prog_14_method_25_code 135 = .ok (.if_icmp .ne 7, 3) := by decide +kernel
theorem d_Md_readEye_138 : decode prog_14_method_25_code 138 = .ok (.iconst 0, 1) := by decide +kernel
theorem d_Md_readEye_139 : decode prog_14_method_25_code 139 = .ok (.goto 12, 3) := by decide +kernel
theorem d_Md_readEye_142 : decode prog_14_method_25_code 142 = .ok (.aload_n 0, 1) := by decide +kernel
theorem d_Md_readEye_143 : decode prog_14_method_25_code 143 = .ok (.getfield 30, 3) := by decide +kernel
theorem d_Md_readEye_146 : decode prog_14_method_25_code 146 = .ok (.aload_n 0, 1) := by decide +kernel
theorem d_Md_readEye_147 : decode prog_14_method_25_code 147 = .ok (.getfield 189, 3) := by decide +kernel
theorem d_Md_readEye_150 : decode prog_14_method_25_code 150 = .ok (.iaload, 1) := by decide +kernel
theorem d_Md_readEye_151 : decode prog_14_method_25_code 151 = .ok (.iadd, 1) := by decide +kernel
theorem d_Md_readEye_152 : decode prog_14_method_25_code 152 = .ok (.putfield 208, 3) := by decide +kernel
theorem d_Md_readEye_155 : decode prog_14_method_25_code 155 = .ok (.aload_n 0, 1) := by decide +kernel
theorem d_Md_readEye_156 : decode prog_14_method_25_code 156 = .ok (.dup, 1) := by decide +kernel
theorem d_Md_readEye_157 : decode prog_14_method_25_code 157 = .ok (.getfield 189, 3) := by decide +kernel
theorem d_Md_readEye_160 : decode prog_14_method_25_code 160 = .ok (.iconst 1, 1) := by decide +kernel
theorem d_Md_readEye_161 : decode prog_14_method_25_code 161 = .ok (.iadd, 1) := by decide +kernel
theorem d_Md_readEye_162 : decode prog_14_method_25_code 162 = .ok (.putfield 189, 3) := by decide +kernel
theorem d_Md_readEye_165 : decode prog_14_method_25_code 165 = .ok (.return_, 1) := by decide +kernel
set_option maxHeartbeats 2000000 in
theorem Md_readEye_L127_g {κ : tv_Kt} (hC : tv_Cx κ "TiedViewsModel" prog_14_method_25_code 4 4) (hR : tv_Re κ none) (F : Nat) (l3 : Int32) (s0 : Int32) (s1 : Int32) (M : tv_M) : tv_G κ 4 (tv_Qm κ tv_ev) 127 [some (.ref (κ.b + 249)), none, none, some (.int l3)] [.int s0, .int s1, .ref (κ.b + 255)] M (Md_readEye_L127 F l3 s0 s1 M) := by
  rw [Md_readEye_L127]
  refine gv_iast hC ly_255 d_Md_readEye_127 (fun M9 => ?_)
  refine g_aload_n hC d_Md_readEye_128 rfl ?_
  refine g_dup hC d_Md_readEye_129 rfl ?_
  refine fg_Md_208 hC lc_249 d_Md_readEye_130 ?_
  refine g_iload_n hC d_Md_readEye_133 rfl ?_
  refine g_iconst hC d_Md_readEye_134 k_i3 ?_
  refine g_icmp_ne (tgt := 142) hC d_Md_readEye_135 (by decide) (fun _ => ?_) (fun _ => ?_)
  · refine g_aload_n hC d_Md_readEye_142 rfl ?_
    refine fg_Md_30 hC lc_249 d_Md_readEye_143 p0_249_8 ?_
    refine g_aload_n hC d_Md_readEye_146 rfl ?_
    refine fg_Md_189 hC lc_249 d_Md_readEye_147 ?_
    refine gv_iald hC ly_254 d_Md_readEye_150 (fun x10 => ?_)
    refine g_iadd hC d_Md_readEye_151 ?_
    refine fp_Md_208 hC lc_249 d_Md_readEye_152 (fun M11 => ?_)
    refine g_aload_n hC d_Md_readEye_155 rfl ?_
    refine g_dup hC d_Md_readEye_156 rfl ?_
    refine fg_Md_189 hC lc_249 d_Md_readEye_157 ?_
    refine g_iconst hC d_Md_readEye_160 k_i1 ?_
    refine g_iadd hC d_Md_readEye_161 ?_
    refine fp_Md_189 hC lc_249 d_Md_readEye_162 (fun M12 => ?_)
    exact g_vret hC hR d_Md_readEye_165
  · refine g_iconst hC d_Md_readEye_138 k_i0 ?_
    refine g_goto (tgt := 151) hC d_Md_readEye_139 (by decide) ?_
    refine g_iadd hC d_Md_readEye_151 ?_
    refine fp_Md_208 hC lc_249 d_Md_readEye_152 (fun M13 => ?_)
    refine g_aload_n hC d_Md_readEye_155 rfl ?_
    refine g_dup hC d_Md_readEye_156 rfl ?_
    refine fg_Md_189 hC lc_249 d_Md_readEye_157 ?_
    refine g_iconst hC d_Md_readEye_160 k_i1 ?_
    refine g_iadd hC d_Md_readEye_161 ?_
    refine fp_Md_189 hC lc_249 d_Md_readEye_162 (fun M14 => ?_)
    exact g_vret hC hR d_Md_readEye_165
set_option maxHeartbeats 2000000 in
theorem Md_readEye_L101_g {κ : tv_Kt} (hC : tv_Cx κ "TiedViewsModel" prog_14_method_25_code 4 4) (hR : tv_Re κ none) (F : Nat) (l3 : Int32) (s0 : Int32) (s1 : Int32) (s3 : Int32) (M : tv_M) : tv_G κ 4 (tv_Qm κ tv_ev) 101 [some (.ref (κ.b + 249)), none, none, some (.int l3)] [.int s0, .int s1, .ref (κ.b + 249), .int s3, .ref (κ.b + 254)] M (Md_readEye_L101 F l3 s0 s1 s3 M) := by
  rw [Md_readEye_L101]
  refine gv_callVi hC [.int s1, .int s0] cw_Md_204 (Md_numberIn_c F s1 s0 M) lc_249 rfl rfl rfl rfl rfl rfl rfl d_Md_readEye_101 (fun r6 M7 => ?_)
  refine gv_iast hC ly_254 d_Md_readEye_104 (fun M8 => ?_)
  refine g_aload_n hC d_Md_readEye_105 rfl ?_
  refine fg_Md_33 hC lc_249 d_Md_readEye_106 p0_249_9 ?_
  refine g_aload_n hC d_Md_readEye_109 rfl ?_
  refine fg_Md_189 hC lc_249 d_Md_readEye_110 ?_
  refine g_iload_n hC d_Md_readEye_113 rfl ?_
  refine g_iconst hC d_Md_readEye_114 k_i3 ?_
  refine g_icmp_ne (tgt := 123) hC d_Md_readEye_115 (by decide) (fun _ => ?_) (fun _ => ?_)
  · refine g_aload_n hC d_Md_readEye_123 rfl ?_
    refine fg_Md_208 hC lc_249 d_Md_readEye_124 ?_
    exact Md_readEye_L127_g hC hR F l3 (M8.1 249 34) (M8.1 249 33) M8
  · refine g_ldc hC d_Md_readEye_118 wk_Md_146 ?_
    refine g_goto (tgt := 127) hC d_Md_readEye_120 (by decide) ?_
    exact Md_readEye_L127_g hC hR F l3 (-1000000) (M8.1 249 33) M8
set_option maxHeartbeats 2000000 in
theorem Md_readEye_L68_g {κ : tv_Kt} (hC : tv_Cx κ "TiedViewsModel" prog_14_method_25_code 4 4) (hR : tv_Re κ none) (F : Nat) (l3 : Int32) (s0 : Int32) (M : tv_M) : tv_G κ 4 (tv_Qm κ tv_ev) 68 [some (.ref (κ.b + 249)), none, none, some (.int l3)] [.int s0, .ref (κ.b + 249)] M (Md_readEye_L68 F l3 s0 M) := by
  rw [Md_readEye_L68]
  refine gv_callVv hC [.int s0] cw_Md_185 (Md_must_c F s0 M) lc_249 rfl rfl rfl rfl rfl rfl rfl d_Md_readEye_68 (fun r3 M4 => ?_)
  refine g_aload_n hC d_Md_readEye_71 rfl ?_
  refine fg_Md_27 hC lc_249 d_Md_readEye_72 p0_249_7 ?_
  refine g_aload_n hC d_Md_readEye_75 rfl ?_
  refine fg_Md_189 hC lc_249 d_Md_readEye_76 ?_
  refine g_iload_n hC d_Md_readEye_79 rfl ?_
  refine gv_iast hC ly_253 d_Md_readEye_80 (fun M5 => ?_)
  refine g_aload_n hC d_Md_readEye_81 rfl ?_
  refine fg_Md_30 hC lc_249 d_Md_readEye_82 p0_249_8 ?_
  refine g_aload_n hC d_Md_readEye_85 rfl ?_
  refine fg_Md_189 hC lc_249 d_Md_readEye_86 ?_
  refine g_aload_n hC d_Md_readEye_89 rfl ?_
  refine g_iconst hC d_Md_readEye_90 k_i1 ?_
  refine g_iload_n hC d_Md_readEye_91 rfl ?_
  refine g_iconst hC d_Md_readEye_92 k_i3 ?_
  refine g_icmp_ne (tgt := 100) hC d_Md_readEye_93 (by decide) (fun _ => ?_) (fun _ => ?_)
  · refine g_iconst hC d_Md_readEye_100 k_i3 ?_
    exact Md_readEye_L101_g hC hR F l3 3 1 (M5.1 249 33) M5
  · refine g_iconst hC d_Md_readEye_96 k_i4 ?_
    refine g_goto (tgt := 101) hC d_Md_readEye_97 (by decide) ?_
    exact Md_readEye_L101_g hC hR F l3 4 1 (M5.1 249 33) M5
set_option maxHeartbeats 2000000 in
theorem Md_readEye_c {l : Launch} {θ : tv_Th} (F : Nat) (M : tv_M) : tv_Ct l θ ⟨"TiedViewsModel", "readEye", "()V"⟩ prog_14_method_25_code 4 none 4 tv_ev [.ref (θ.1 + 249)] M (Md_readEye F M) := by
  refine tv_ofG [some (.ref (θ.1 + 249)), none, none, none] rfl rfl (tv_ent 3 rfl) ?_
  intro κ hl ht hC hR
  subst hl; subst ht
  unfold Md_readEye
  refine g_aload_n hC d_Md_readEye_0 rfl ?_
  refine gv_callVj hC [] cw_Md_192 (Md_word_c F M) lc_249 rfl rfl rfl rfl rfl rfl rfl d_Md_readEye_1 (fun r1 M2 => ?_)
  refine g_lstore_n (ls' := [some (.ref (κ.b + 249)), some (.long r1), none, none]) hC d_Md_readEye_4 rfl rfl ?_
  refine g_lload_n hC d_Md_readEye_5 rfl ?_
  refine g_ldc2 hC d_Md_readEye_6 wl_Md_196 ?_
  refine g_lcmp hC d_Md_readEye_9 ?_
  refine g_if_ne (tgt := 17) hC d_Md_readEye_10 (by decide) (fun _ => ?_) (fun _ => ?_)
  · refine g_lload_n hC d_Md_readEye_17 rfl ?_
    refine g_ldc2 hC d_Md_readEye_18 wl_Md_198 ?_
    refine g_lcmp hC d_Md_readEye_21 ?_
    refine g_if_ne (tgt := 29) hC d_Md_readEye_22 (by decide) (fun _ => ?_) (fun _ => ?_)
    · refine g_lload_n hC d_Md_readEye_29 rfl ?_
      refine g_ldc2 hC d_Md_readEye_30 wl_Md_200 ?_
      refine g_lcmp hC d_Md_readEye_33 ?_
      refine g_if_ne (tgt := 41) hC d_Md_readEye_34 (by decide) (fun _ => ?_) (fun _ => ?_)
      · refine g_lload_n hC d_Md_readEye_41 rfl ?_
        refine g_ldc2 hC d_Md_readEye_42 wl_Md_202 ?_
        refine g_lcmp hC d_Md_readEye_45 ?_
        refine g_if_ne (tgt := 53) hC d_Md_readEye_46 (by decide) (fun _ => ?_) (fun _ => ?_)
        · refine g_ldc hC d_Md_readEye_53 wk_Md_146 ?_
          refine g_istore_n (ls' := [some (.ref (κ.b + 249)), some (.long r1), none, some (.int (-1000000))]) hC d_Md_readEye_55 rfl rfl ?_
          refine g_aload_n hC d_Md_readEye_56 rfl ?_
          refine g_iload_n hC d_Md_readEye_57 rfl ?_
          refine g_ldc hC d_Md_readEye_58 wk_Md_146 ?_
          refine gT_icmp_eq (tgt := 67) hC d_Md_readEye_60 (by decide) (by decide) ?_
          refine g_iconst hC d_Md_readEye_67 k_i0 ?_
          refine g_mask [true, false, false, true] (ls' := [some (.ref (κ.b + 249)), none, none, some (.int (-1000000))]) rfl ?_
          exact Md_readEye_L68_g hC hR F (-1000000) 0 M2
        · refine g_iconst hC d_Md_readEye_49 k_i3 ?_
          refine g_goto (tgt := 55) hC d_Md_readEye_50 (by decide) ?_
          refine g_istore_n (ls' := [some (.ref (κ.b + 249)), some (.long r1), none, some (.int 3)]) hC d_Md_readEye_55 rfl rfl ?_
          refine g_aload_n hC d_Md_readEye_56 rfl ?_
          refine g_iload_n hC d_Md_readEye_57 rfl ?_
          refine g_ldc hC d_Md_readEye_58 wk_Md_146 ?_
          refine gF_icmp_eq (tgt := 67) hC d_Md_readEye_60 (by decide) (by decide) ?_
          refine g_iconst hC d_Md_readEye_63 k_i1 ?_
          refine g_goto (tgt := 68) hC d_Md_readEye_64 (by decide) ?_
          refine g_mask [true, false, false, true] (ls' := [some (.ref (κ.b + 249)), none, none, some (.int 3)]) rfl ?_
          exact Md_readEye_L68_g hC hR F 3 1 M2
      · refine g_iconst hC d_Md_readEye_37 k_i2 ?_
        refine g_goto (tgt := 55) hC d_Md_readEye_38 (by decide) ?_
        refine g_istore_n (ls' := [some (.ref (κ.b + 249)), some (.long r1), none, some (.int 2)]) hC d_Md_readEye_55 rfl rfl ?_
        refine g_aload_n hC d_Md_readEye_56 rfl ?_
        refine g_iload_n hC d_Md_readEye_57 rfl ?_
        refine g_ldc hC d_Md_readEye_58 wk_Md_146 ?_
        refine gF_icmp_eq (tgt := 67) hC d_Md_readEye_60 (by decide) (by decide) ?_
        refine g_iconst hC d_Md_readEye_63 k_i1 ?_
        refine g_goto (tgt := 68) hC d_Md_readEye_64 (by decide) ?_
        refine g_mask [true, false, false, true] (ls' := [some (.ref (κ.b + 249)), none, none, some (.int 2)]) rfl ?_
        exact Md_readEye_L68_g hC hR F 2 1 M2
    · refine g_iconst hC d_Md_readEye_25 k_i1 ?_
      refine g_goto (tgt := 55) hC d_Md_readEye_26 (by decide) ?_
      refine g_istore_n (ls' := [some (.ref (κ.b + 249)), some (.long r1), none, some (.int 1)]) hC d_Md_readEye_55 rfl rfl ?_
      refine g_aload_n hC d_Md_readEye_56 rfl ?_
      refine g_iload_n hC d_Md_readEye_57 rfl ?_
      refine g_ldc hC d_Md_readEye_58 wk_Md_146 ?_
      refine gF_icmp_eq (tgt := 67) hC d_Md_readEye_60 (by decide) (by decide) ?_
      refine g_iconst hC d_Md_readEye_63 k_i1 ?_
      refine g_goto (tgt := 68) hC d_Md_readEye_64 (by decide) ?_
      refine g_mask [true, false, false, true] (ls' := [some (.ref (κ.b + 249)), none, none, some (.int 1)]) rfl ?_
      exact Md_readEye_L68_g hC hR F 1 1 M2
  · refine g_iconst hC d_Md_readEye_13 k_i0 ?_
    refine g_goto (tgt := 55) hC d_Md_readEye_14 (by decide) ?_
    refine g_istore_n (ls' := [some (.ref (κ.b + 249)), some (.long r1), none, some (.int 0)]) hC d_Md_readEye_55 rfl rfl ?_
    refine g_aload_n hC d_Md_readEye_56 rfl ?_
    refine g_iload_n hC d_Md_readEye_57 rfl ?_
    refine g_ldc hC d_Md_readEye_58 wk_Md_146 ?_
    refine gF_icmp_eq (tgt := 67) hC d_Md_readEye_60 (by decide) (by decide) ?_
    refine g_iconst hC d_Md_readEye_63 k_i1 ?_
    refine g_goto (tgt := 68) hC d_Md_readEye_64 (by decide) ?_
    refine g_mask [true, false, false, true] (ls' := [some (.ref (κ.b + 249)), none, none, some (.int 0)]) rfl ?_
    exact Md_readEye_L68_g hC hR F 0 1 M2
theorem d_Md_eyeHere_0 : decode prog_14_method_24_code 0 = .ok (.aload_n 0, 1) := by decide +kernel
theorem d_Md_eyeHere_1 : decode prog_14_method_24_code 1 = .ok (.getfield 168, 3) := by decide +kernel
theorem d_Md_eyeHere_4 : decode prog_14_method_24_code 4 = .ok (.ifCond .le 5, 3) := by decide +kernel
theorem d_Md_eyeHere_7 : decode prog_14_method_24_code 7 = .ok (.iconst 0, 1) := by decide +kernel
theorem d_Md_eyeHere_8 : decode prog_14_method_24_code 8 = .ok (.ireturn, 1) := by decide +kernel
theorem d_Md_eyeHere_9 : decode prog_14_method_24_code 9 = .ok (.aload_n 0, 1) := by decide +kernel
theorem d_Md_eyeHere_10 : decode prog_14_method_24_code 10 = .ok (.invokevirtual 181, 3) := by decide +kernel
theorem d_Md_eyeHere_13 : decode prog_14_method_24_code 13 = .ok (.istore_n 3, 1) := by decide +kernel
theorem d_Md_eyeHere_14 : decode prog_14_method_24_code 14 = .ok (.aload_n 0, 1) := by decide +kernel
theorem d_Md_eyeHere_15 : decode prog_14_method_24_code 15 = .ok (.getfield 156, 3) := by decide +kernel
theorem d_Md_eyeHere_18 : decode prog_14_method_24_code 18 = .ok (.iconst 3, 1) := by decide +kernel
theorem d_Md_eyeHere_19 : decode prog_14_method_24_code 19 = .ok (.if_icmp .ne 40, 3) := by decide +kernel
theorem d_Md_eyeHere_22 : decode prog_14_method_24_code 22 = .ok (.iload_n 3, 1) := by decide +kernel
theorem d_Md_eyeHere_23 : decode prog_14_method_24_code 23 = .ok (.aload_n 0, 1) := by decide +kernel
theorem d_Md_eyeHere_24 : decode prog_14_method_24_code 24 = .ok (.getfield 189, 3) := by decide +kernel
theorem d_Md_eyeHere_27 : decode prog_14_method_24_code 27 = .ok (.if_icmp .ge 27, 3) := by decide +kernel
theorem d_Md_eyeHere_30 : decode prog_14_method_24_code 30 = .ok (.aload_n 0, 1) := by decide +kernel
theorem d_Md_eyeHere_31 : decode prog_14_method_24_code 31 = .ok (.getfield 27, 3) := by decide +kernel
theorem d_Md_eyeHere_34 : decode prog_14_method_24_code 34 = .ok (.iload_n 3, 1) := by decide +kernel
theorem d_Md_eyeHere_35 : decode prog_14_method_24_code 35 = .ok (.iaload, 1) := by decide +kernel
theorem d_Md_eyeHere_36 : decode prog_14_method_24_code 36 = .ok (.iconst 3, 1) := by decide +kernel
theorem d_Md_eyeHere_37 : decode prog_14_method_24_code 37 = .ok (.if_icmp .ne 7, 3) := by decide +kernel
theorem d_Md_eyeHere_40 : decode prog_14_method_24_code 40 = .ok (.iconst 1, 1) := by decide +kernel
theorem d_Md_eyeHere_41 : decode prog_14_method_24_code 41 = .ok (.goto 4, 3) := by decide +kernel
theorem d_Md_eyeHere_44 : decode prog_14_method_24_code 44 = .ok (.iconst 0, 1) := by decide +kernel
theorem d_Md_eyeHere_45 : decode prog_14_method_24_code 45 = .ok (.iload_n 1, 1) := by decide +kernel
theorem d_Md_eyeHere_46 : decode prog_14_method_24_code 46 = .ok (.if_icmp .ne 8, 3) := by decide +kernel
theorem d_Md_eyeHere_49 : decode prog_14_method_24_code 49 = .ok (.iload_n 3, 1) := by decide +kernel
theorem d_Md_eyeHere_50 : decode prog_14_method_24_code 50 = .ok (.iload_n 2, 1) := by decide +kernel
theorem d_Md_eyeHere_51 : decode prog_14_method_24_code 51 = .ok (.if_icmp .ne 8, 3) := by decide +kernel
theorem d_Md_eyeHere_54 : decode prog_14_method_24_code 54 = .ok (.aload_n 0, 1) := by decide +kernel
theorem d_Md_eyeHere_55 : decode prog_14_method_24_code 55 = .ok (.iconst 2, 1) := by decide +kernel
theorem d_Md_eyeHere_56 : decode prog_14_method_24_code 56 = .ok (.invokevirtual 174, 3) := by decide +kernel
theorem d_Md_eyeHere_59 : decode prog_14_method_24_code 59 = .ok (.aload_n 0, 1) := by decide +kernel
theorem d_Md_eyeHere_60 : decode prog_14_method_24_code 60 = .ok (.aload_n 0, 1) := by decide +kernel
theorem d_Md_eyeHere_61 : decode prog_14_method_24_code 61 = .ok (.getfield 156, 3) := by decide +kernel
theorem d_Md_eyeHere_64 : decode prog_14_method_24_code 64 = .ok (.iconst 3, 1) := by decide +kernel
theorem d_Md_eyeHere_65 : decode prog_14_method_24_code 65 = .ok (.if_icmp .ne 7, 3) := by decide +kernel
theorem d_Md_eyeHere_68 : decode prog_14_method_24_code 68 = .ok (.iconst 1, 1) := by decide +kernel
theorem d_Md_eyeHere_69 : decode prog_14_method_24_code 69 = .ok (.goto 4, 3) := by decide +kernel
theorem d_Md_eyeHere_72 : decode prog_14_method_24_code 72 = .ok (.iconst 0, 1) := by decide +kernel
theorem d_Md_eyeHere_73 : decode prog_14_method_24_code 73 = .ok (.invokevirtual 185, 3) := by decide +kernel
theorem d_Md_eyeHere_76 : decode prog_14_method_24_code 76 = .ok (.iload_n 3, 1) := by decide +kernel
theorem d_Md_eyeHere_77 : decode prog_14_method_24_code 77 = .ok (.ireturn, 1) := by decide +kernel
set_option maxHeartbeats 2000000 in
theorem Md_eyeHere_L59_g {κ : tv_Kt} (hC : tv_Cx κ "TiedViewsModel" prog_14_method_24_code 4 3) (hR : tv_Re κ (some .int)) (F : Nat) (l3 : Int32) (M : tv_M) : tv_G κ 4 (tv_Qm κ tv_ei) 59 [some (.ref (κ.b + 249)), none, none, some (.int l3)] [] M (Md_eyeHere_L59 F l3 M) := by
  rw [Md_eyeHere_L59]
  refine g_aload_n hC d_Md_eyeHere_59 rfl ?_
  refine g_aload_n hC d_Md_eyeHere_60 rfl ?_
  refine fg_Md_156 hC lc_249 d_Md_eyeHere_61 ?_
  refine g_iconst hC d_Md_eyeHere_64 k_i3 ?_
  refine g_icmp_ne (tgt := 72) hC d_Md_eyeHere_65 (by decide) (fun _ => ?_) (fun _ => ?_)
  · refine g_iconst hC d_Md_eyeHere_72 k_i0 ?_
    refine gv_callVv hC [.int 0] cw_Md_185 (Md_must_c F 0 M) lc_249 rfl rfl rfl rfl rfl rfl rfl d_Md_eyeHere_73 (fun r10 M11 => ?_)
    refine g_iload_n hC d_Md_eyeHere_76 rfl ?_
    exact g_iret hC hR d_Md_eyeHere_77
  · refine g_iconst hC d_Md_eyeHere_68 k_i1 ?_
    refine g_goto (tgt := 73) hC d_Md_eyeHere_69 (by decide) ?_
    refine gv_callVv hC [.int 1] cw_Md_185 (Md_must_c F 1 M) lc_249 rfl rfl rfl rfl rfl rfl rfl d_Md_eyeHere_73 (fun r12 M13 => ?_)
    refine g_iload_n hC d_Md_eyeHere_76 rfl ?_
    exact g_iret hC hR d_Md_eyeHere_77
set_option maxHeartbeats 2000000 in
theorem Md_eyeHere_L45_g {κ : tv_Kt} (hC : tv_Cx κ "TiedViewsModel" prog_14_method_24_code 4 3) (hR : tv_Re κ (some .int)) (F : Nat) (l1 : Int32) (l2 : Int32) (l3 : Int32) (s0 : Int32) (M : tv_M) : tv_G κ 4 (tv_Qm κ tv_ei) 45 [some (.ref (κ.b + 249)), some (.int l1), some (.int l2), some (.int l3)] [.int s0] M (Md_eyeHere_L45 F l1 l2 l3 s0 M) := by
  rw [Md_eyeHere_L45]
  refine g_iload_n hC d_Md_eyeHere_45 rfl ?_
  refine g_icmp_ne (tgt := 54) hC d_Md_eyeHere_46 (by decide) (fun _ => ?_) (fun _ => ?_)
  · refine g_aload_n hC d_Md_eyeHere_54 rfl ?_
    refine g_iconst hC d_Md_eyeHere_55 k_i2 ?_
    refine gv_callVv hC [.int 2] cw_Md_174 (Md_bad_c F 2 M) lc_249 rfl rfl rfl rfl rfl rfl rfl d_Md_eyeHere_56 (fun r6 M7 => ?_)
    refine g_mask [true, false, false, true] (ls' := [some (.ref (κ.b + 249)), none, none, some (.int l3)]) rfl ?_
    exact Md_eyeHere_L59_g hC hR F l3 M7
  · refine g_iload_n hC d_Md_eyeHere_49 rfl ?_
    refine g_iload_n hC d_Md_eyeHere_50 rfl ?_
    refine g_icmp_ne (tgt := 59) hC d_Md_eyeHere_51 (by decide) (fun _ => ?_) (fun _ => ?_)
    · refine g_mask [true, false, false, true] (ls' := [some (.ref (κ.b + 249)), none, none, some (.int l3)]) rfl ?_
      exact Md_eyeHere_L59_g hC hR F l3 M
    · refine g_aload_n hC d_Md_eyeHere_54 rfl ?_
      refine g_iconst hC d_Md_eyeHere_55 k_i2 ?_
      refine gv_callVv hC [.int 2] cw_Md_174 (Md_bad_c F 2 M) lc_249 rfl rfl rfl rfl rfl rfl rfl d_Md_eyeHere_56 (fun r8 M9 => ?_)
      refine g_mask [true, false, false, true] (ls' := [some (.ref (κ.b + 249)), none, none, some (.int l3)]) rfl ?_
      exact Md_eyeHere_L59_g hC hR F l3 M9
set_option maxHeartbeats 2000000 in
theorem Md_eyeHere_c {l : Launch} {θ : tv_Th} (F : Nat) (a1 : Int32) (a2 : Int32) (M : tv_M) : tv_Ct l θ ⟨"TiedViewsModel", "eyeHere", "(ZI)I"⟩ prog_14_method_24_code 4 (some .int) 3 tv_ei [.ref (θ.1 + 249), .int a1, .int a2] M (Md_eyeHere F a1 a2 M) := by
  refine tv_ofG [some (.ref (θ.1 + 249)), some (.int a1), some (.int a2), none] rfl rfl (tv_ent 1 rfl) ?_
  intro κ hl ht hC hR
  subst hl; subst ht
  unfold Md_eyeHere
  refine g_aload_n hC d_Md_eyeHere_0 rfl ?_
  refine fg_Md_168 hC lc_249 d_Md_eyeHere_1 ?_
  refine g_if_le (tgt := 9) hC d_Md_eyeHere_4 (by decide) (fun _ => ?_) (fun _ => ?_)
  · refine g_aload_n hC d_Md_eyeHere_9 rfl ?_
    refine gv_callVi hC [] cw_Md_181 (Md_numberHere_c F M) lc_249 rfl rfl rfl rfl rfl rfl rfl d_Md_eyeHere_10 (fun r1 M2 => ?_)
    refine g_istore_n (ls' := [some (.ref (κ.b + 249)), some (.int a1), some (.int a2), some (.int r1)]) hC d_Md_eyeHere_13 rfl rfl ?_
    refine g_aload_n hC d_Md_eyeHere_14 rfl ?_
    refine fg_Md_156 hC lc_249 d_Md_eyeHere_15 ?_
    refine g_iconst hC d_Md_eyeHere_18 k_i3 ?_
    refine g_icmp_ne (tgt := 59) hC d_Md_eyeHere_19 (by decide) (fun _ => ?_) (fun _ => ?_)
    · refine g_mask [true, false, false, true] (ls' := [some (.ref (κ.b + 249)), none, none, some (.int r1)]) rfl ?_
      exact Md_eyeHere_L59_g hC hR F r1 M2
    · refine g_iload_n hC d_Md_eyeHere_22 rfl ?_
      refine g_aload_n hC d_Md_eyeHere_23 rfl ?_
      refine fg_Md_189 hC lc_249 d_Md_eyeHere_24 ?_
      refine g_icmp_ge (tgt := 54) hC d_Md_eyeHere_27 (by decide) (fun _ => ?_) (fun _ => ?_)
      · refine g_aload_n hC d_Md_eyeHere_54 rfl ?_
        refine g_iconst hC d_Md_eyeHere_55 k_i2 ?_
        refine gv_callVv hC [.int 2] cw_Md_174 (Md_bad_c F 2 M2) lc_249 rfl rfl rfl rfl rfl rfl rfl d_Md_eyeHere_56 (fun r3 M4 => ?_)
        refine g_mask [true, false, false, true] (ls' := [some (.ref (κ.b + 249)), none, none, some (.int r1)]) rfl ?_
        exact Md_eyeHere_L59_g hC hR F r1 M4
      · refine g_aload_n hC d_Md_eyeHere_30 rfl ?_
        refine fg_Md_27 hC lc_249 d_Md_eyeHere_31 p0_249_7 ?_
        refine g_iload_n hC d_Md_eyeHere_34 rfl ?_
        refine gv_iald hC ly_253 d_Md_eyeHere_35 (fun x5 => ?_)
        refine g_iconst hC d_Md_eyeHere_36 k_i3 ?_
        refine g_icmp_ne (tgt := 44) hC d_Md_eyeHere_37 (by decide) (fun _ => ?_) (fun _ => ?_)
        · refine g_iconst hC d_Md_eyeHere_44 k_i0 ?_
          exact Md_eyeHere_L45_g hC hR F a1 a2 r1 0 M2
        · refine g_iconst hC d_Md_eyeHere_40 k_i1 ?_
          refine g_goto (tgt := 45) hC d_Md_eyeHere_41 (by decide) ?_
          exact Md_eyeHere_L45_g hC hR F a1 a2 r1 1 M2
  · refine g_iconst hC d_Md_eyeHere_7 k_i0 ?_
    exact g_iret hC hR d_Md_eyeHere_8
theorem d_Md_is_0 : decode prog_14_method_20_code 0 = .ok (.aload_n 0, 1) := by decide +kernel
theorem d_Md_is_1 : decode prog_14_method_20_code 1 = .ok (.getfield 156, 3) := by decide +kernel
theorem d_Md_is_4 : decode prog_14_method_20_code 4 = .ok (.iconst 4, 1) := by decide +kernel
theorem d_Md_is_5 : decode prog_14_method_20_code 5 = .ok (.if_icmp .ne 19, 3) := by decide +kernel
theorem d_Md_is_8 : decode prog_14_method_20_code 8 = .ok (.aload_n 0, 1) := by decide +kernel
theorem d_Md_is_9 : decode prog_14_method_20_code 9 = .ok (.aload_n 0, 1) := by decide +kernel
theorem d_Md_is_10 : decode prog_14_method_20_code 10 = .ok (.getfield 153, 3) := by decide +kernel
theorem d_Md_is_13 : decode prog_14_method_20_code 13 = .ok (.invokevirtual 150, 3) := by decide +kernel
theorem d_Md_is_16 : decode prog_14_method_20_code 16 = .ok (.iload_n 1, 1) := by decide +kernel
theorem d_Md_is_17 : decode prog_14_method_20_code 17 = .ok (.if_icmp .ne 7, 3) := by decide +kernel
theorem d_Md_is_20 : decode prog_14_method_20_code 20 = .ok (.iconst 1, 1) := by decide +kernel
theorem d_Md_is_21 : decode prog_14_method_20_code 21 = .ok (.goto 4, 3) := by decide +kernel
theorem d_Md_is_24 : decode prog_14_method_20_code 24 = .ok (.iconst 0, 1) := by decide +kernel
theorem d_Md_is_25 : decode prog_14_method_20_code 25 = .ok (.ireturn, 1) := by decide +kernel
set_option maxHeartbeats 2000000 in
theorem Md_is_c {l : Launch} {θ : tv_Th} (F : Nat) (a1 : Int32) (M : tv_M) : tv_Ct l θ ⟨"TiedViewsModel", "is", "(I)Z"⟩ prog_14_method_20_code 2 (some .boolean) 1 tv_ei [.ref (θ.1 + 249), .int a1] M (Md_is F a1 M) := by
  refine tv_ofG [some (.ref (θ.1 + 249)), some (.int a1)] rfl rfl (tv_ent 0 rfl) ?_
  intro κ hl ht hC hR
  subst hl; subst ht
  unfold Md_is
  refine g_aload_n hC d_Md_is_0 rfl ?_
  refine fg_Md_156 hC lc_249 d_Md_is_1 ?_
  refine g_iconst hC d_Md_is_4 k_i4 ?_
  refine g_icmp_ne (tgt := 24) hC d_Md_is_5 (by decide) (fun _ => ?_) (fun _ => ?_)
  · refine g_iconst hC d_Md_is_24 k_i0 ?_
    exact g_zret hC hR tv_z0 d_Md_is_25
  · refine g_aload_n hC d_Md_is_8 rfl ?_
    refine g_aload_n hC d_Md_is_9 rfl ?_
    refine fg_Md_153 hC lc_249 d_Md_is_10 ?_
    refine gv_callVi hC [.int (M.1 249 29)] cw_Md_150 (Md_byteAt_c F (M.1 249 29) M) lc_249 rfl rfl rfl rfl rfl rfl rfl d_Md_is_13 (fun r1 M2 => ?_)
    refine g_iload_n hC d_Md_is_16 rfl ?_
    refine g_icmp_ne (tgt := 24) hC d_Md_is_17 (by decide) (fun _ => ?_) (fun _ => ?_)
    · refine g_iconst hC d_Md_is_24 k_i0 ?_
      exact g_zret hC hR tv_z0 d_Md_is_25
    · refine g_iconst hC d_Md_is_20 k_i1 ?_
      refine g_goto (tgt := 25) hC d_Md_is_21 (by decide) ?_
      exact g_zret hC hR tv_z1 d_Md_is_25
theorem d_Md_readTable_0 : decode prog_14_method_26_code 0 = .ok (.iconst 0, 1) := by decide +kernel
theorem d_Md_readTable_1 : decode prog_14_method_26_code 1 = .ok (.istore 4, 2) := by decide +kernel
theorem d_Md_readTable_3 : decode prog_14_method_26_code 3 = .ok (.iload 4, 2) := by decide +kernel
theorem d_Md_readTable_5 : decode prog_14_method_26_code 5 = .ok (.iload_n 2, 1) := by decide +kernel
theorem d_Md_readTable_6 : decode prog_14_method_26_code 6 = .ok (.if_icmp .ge 81, 3) := by decide +kernel
theorem d_Md_readTable_9 : decode prog_14_method_26_code 9 = .ok (.aload_n 0, 1) := by decide +kernel
theorem d_Md_readTable_10 : decode prog_14_method_26_code 10 = .ok (.getfield 168, 3) := by decide +kernel
theorem d_Md_readTable_13 : decode prog_14_method_26_code 13 = .ok (.ifCond .ne 74, 3) := by decide +kernel
theorem d_Md_readTable_16 : decode prog_14_method_26_code 16 = .ok (.iconst 0, 1) := by decide +kernel
theorem d_Md_readTable_17 : decode prog_14_method_26_code 17 = .ok (.istore 5, 2) := by decide +kernel
theorem d_Md_readTable_19 : decode prog_14_method_26_code 19 = .ok (.iload 5, 2) := by decide +kernel
theorem d_Md_readTable_21 : decode prog_14_method_26_code 21 = .ok (.iload_n 3, 1) := by decide +kernel
theorem d_Md_readTable_22 : decode prog_14_method_26_code 22 = .ok (.if_icmp .ge 34, 3) := by decide +kernel
theorem d_Md_readTable_25 : decode prog_14_method_26_code 25 = .ok (.aload_n 0, 1) := by decide +kernel
theorem d_Md_readTable_26 : decode prog_14_method_26_code 26 = .ok (.getfield 45, 3) := by decide +kernel
theorem d_Md_readTable_29 : decode prog_14_method_26_code 29 = .ok (.iload_n 1, 1) := by decide +kernel
theorem d_Md_readTable_30 : decode prog_14_method_26_code 30 = .ok (.iconst 3, 1) := by decide +kernel
theorem d_Md_readTable_31 : decode prog_14_method_26_code 31 = .ok (.iload 4, 2) := by decide +kernel
theorem d_Md_readTable_33 : decode prog_14_method_26_code 33 = .ok (.imul, 1) := by decide +kernel
theorem d_Md_readTable_34 : decode prog_14_method_26_code 34 = .ok (.iadd, 1) := by decide +kernel
theorem d_Md_readTable_35 : decode prog_14_method_26_code 35 = .ok (.iload 5, 2) := by decide +kernel
theorem d_Md_readTable_37 : decode prog_14_method_26_code 37 = .ok (.iadd, 1) := by decide +kernel
theorem d_Md_readTable_38 : decode prog_14_method_26_code 38 = .ok (.aload_n 0, 1) := by decide +kernel
theorem d_Md_readTable_39 : decode prog_14_method_26_code 39 = .ok (.iconst 0, 1) := by decide +kernel
theorem d_Md_readTable_40 : decode prog_14_method_26_code 40 = .ok (.aload_n 0, 1) := by decide +kernel
theorem d_Md_readTable_41 : decode prog_14_method_26_code 41 = .ok (.getfield 112, 3) := by decide +kernel
theorem d_Md_readTable_44 : decode prog_14_method_26_code 44 = .ok (.iconst 1, 1) := by decide +kernel
theorem d_Md_readTable_45 : decode prog_14_method_26_code 45 = .ok (.isub, 1) := by decide +kernel
theorem d_Md_readTable_46 : decode prog_14_method_26_code 46 = .ok (.invokevirtual 204, 3) := by decide +kernel
theorem d_Md_readTable_49 : decode prog_14_method_26_code 49 = .ok (.iastore, 1) := by decide +kernel
theorem d_Md_readTable_50 : decode prog_14_method_26_code 50 = .ok (.iinc 5 1, 3) := by decide +kernel
theorem d_Md_readTable_53 : decode prog_14_method_26_code 53 = .ok (.goto (-34), 3) := by decide +kernel
theorem d_Md_readTable_56 : decode prog_14_method_26_code 56 = .ok (.iload 4, 2) := by decide +kernel
theorem d_Md_readTable_58 : decode prog_14_method_26_code 58 = .ok (.iload_n 2, 1) := by decide +kernel
theorem d_Md_readTable_59 : decode prog_14_method_26_code 59 = .ok (.iconst 1, 1) := by decide +kernel
theorem d_Md_readTable_60 : decode prog_14_method_26_code 60 = .ok (.isub, 1) := by decide +kernel
theorem d_Md_readTable_61 : decode prog_14_method_26_code 61 = .ok (.if_icmp .ge 20, 3) := by decide +kernel
theorem d_Md_readTable_64 : decode prog_14_method_26_code 64 = .ok (.aload_n 0, 1) := by decide +kernel
theorem d_Md_readTable_65 : decode prog_14_method_26_code 65 = .ok (.getfield 168, 3) := by decide +kernel
theorem d_Md_readTable_68 : decode prog_14_method_26_code 68 = .ok (.ifCond .ne 13, 3) := by decide +kernel
theorem d_Md_readTable_71 : decode prog_14_method_26_code 71 = .ok (.aload_n 0, 1) := by decide +kernel
theorem d_Md_readTable_72 : decode prog_14_method_26_code 72 = .ok (.aload_n 0, 1) := by decide +kernel
theorem d_Md_readTable_73 : decode prog_14_method_26_code 73 = .ok (.bipush 44, 2) := by decide +kernel
theorem d_Md_readTable_75 : decode prog_14_method_26_code 75 = .ok (.invokevirtual 211, 3) := by decide +kernel
theorem d_Md_readTable_78 : decode prog_14_method_26_code 78 = .ok (.invokevirtual 185, 3) := by decide +kernel
theorem d_Md_readTable_81 : decode prog_14_method_26_code 81 = .ok (.iinc 4 1, 3) := by decide +kernel
theorem d_Md_readTable_84 : decode prog_14_method_26_code 84 = .ok (.goto (-81), 3) := by decide +kernel
theorem d_Md_readTable_87 : decode prog_14_method_26_code 87 = .ok (.return_, 1) := by decide +kernel
set_option maxHeartbeats 2000000 in
theorem Md_readTable_L19_g {κ : tv_Kt} (hC : tv_Cx κ "TiedViewsModel" prog_14_method_26_code 6 4) (hR : tv_Re κ none) (F : Nat) {k3 : Int32 → Int32 → Int32 → Int32 → tv_M → Option (Unit × tv_M)} (hk3 : ∀ (l1 : Int32) (l2 : Int32) (l3 : Int32) (l4 : Int32) (M : tv_M), tv_G κ 6 (tv_Qm κ tv_ev) 3 [some (.ref (κ.b + 249)), some (.int l1), some (.int l2), some (.int l3), some (.int l4), none] [] M (k3 l1 l2 l3 l4 M)) : ∀ (n : Nat) (l1 : Int32) (l2 : Int32) (l3 : Int32) (l4 : Int32) (l5 : Int32) (M : tv_M), tv_G κ 6 (tv_Qm κ tv_ev) 19 [some (.ref (κ.b + 249)), some (.int l1), some (.int l2), some (.int l3), some (.int l4), some (.int l5)] [] M (Md_readTable_L19 F k3 n l1 l2 l3 l4 l5 M) := by
  intro n
  induction n with
  | zero => intro _ _ _ _ _ _; exact g_none
  | succ nn ih =>
    intro l1 l2 l3 l4 l5 M
    rw [Md_readTable_L19]
    refine g_iload hC d_Md_readTable_19 rfl ?_
    refine g_iload_n hC d_Md_readTable_21 rfl ?_
    refine g_icmp_ge (tgt := 56) hC d_Md_readTable_22 (by decide) (fun _ => ?_) (fun _ => ?_)
    · refine g_iload hC d_Md_readTable_56 rfl ?_
      refine g_iload_n hC d_Md_readTable_58 rfl ?_
      refine g_iconst hC d_Md_readTable_59 k_i1 ?_
      refine g_isub hC d_Md_readTable_60 ?_
      refine g_icmp_ge (tgt := 81) hC d_Md_readTable_61 (by decide) (fun _ => ?_) (fun _ => ?_)
      · refine g_iinc (ls' := [some (.ref (κ.b + 249)), some (.int l1), some (.int l2), some (.int l3), some (.int (l4 + 1)), some (.int l5)]) hC d_Md_readTable_81 rfl k_i1 rfl rfl ?_
        refine g_goto (tgt := 3) hC d_Md_readTable_84 (by decide) ?_
        refine g_mask [true, true, true, true, true, false] (ls' := [some (.ref (κ.b + 249)), some (.int l1), some (.int l2), some (.int l3), some (.int (l4 + 1)), none]) rfl ?_
        exact hk3 l1 l2 l3 (l4 + 1) M
      · refine g_aload_n hC d_Md_readTable_64 rfl ?_
        refine fg_Md_168 hC lc_249 d_Md_readTable_65 ?_
        refine g_if_ne (tgt := 81) hC d_Md_readTable_68 (by decide) (fun _ => ?_) (fun _ => ?_)
        · refine g_iinc (ls' := [some (.ref (κ.b + 249)), some (.int l1), some (.int l2), some (.int l3), some (.int (l4 + 1)), some (.int l5)]) hC d_Md_readTable_81 rfl k_i1 rfl rfl ?_
          refine g_goto (tgt := 3) hC d_Md_readTable_84 (by decide) ?_
          refine g_mask [true, true, true, true, true, false] (ls' := [some (.ref (κ.b + 249)), some (.int l1), some (.int l2), some (.int l3), some (.int (l4 + 1)), none]) rfl ?_
          exact hk3 l1 l2 l3 (l4 + 1) M
        · refine g_aload_n hC d_Md_readTable_71 rfl ?_
          refine g_aload_n hC d_Md_readTable_72 rfl ?_
          refine g_bipush hC d_Md_readTable_73 k_b44 ?_
          refine gv_callVi hC [.int 44] cw_Md_211 (Md_is_c F 44 M) lc_249 rfl rfl rfl rfl rfl rfl rfl d_Md_readTable_75 (fun r1 M2 => ?_)
          refine gv_callVv hC [.int r1] cw_Md_185 (Md_must_c F r1 M2) lc_249 rfl rfl rfl rfl rfl rfl rfl d_Md_readTable_78 (fun r3 M4 => ?_)
          refine g_iinc (ls' := [some (.ref (κ.b + 249)), some (.int l1), some (.int l2), some (.int l3), some (.int (l4 + 1)), some (.int l5)]) hC d_Md_readTable_81 rfl k_i1 rfl rfl ?_
          refine g_goto (tgt := 3) hC d_Md_readTable_84 (by decide) ?_
          refine g_mask [true, true, true, true, true, false] (ls' := [some (.ref (κ.b + 249)), some (.int l1), some (.int l2), some (.int l3), some (.int (l4 + 1)), none]) rfl ?_
          exact hk3 l1 l2 l3 (l4 + 1) M4
    · refine g_aload_n hC d_Md_readTable_25 rfl ?_
      refine fg_Md_45 hC lc_249 d_Md_readTable_26 p0_249_15 ?_
      refine g_iload_n hC d_Md_readTable_29 rfl ?_
      refine g_iconst hC d_Md_readTable_30 k_i3 ?_
      refine g_iload hC d_Md_readTable_31 rfl ?_
      refine g_imul hC d_Md_readTable_33 ?_
      refine g_iadd hC d_Md_readTable_34 ?_
      refine g_iload hC d_Md_readTable_35 rfl ?_
      refine g_iadd hC d_Md_readTable_37 ?_
      refine g_aload_n hC d_Md_readTable_38 rfl ?_
      refine g_iconst hC d_Md_readTable_39 k_i0 ?_
      refine g_aload_n hC d_Md_readTable_40 rfl ?_
      refine fg_Md_112 hC lc_249 d_Md_readTable_41 ?_
      refine g_iconst hC d_Md_readTable_44 k_i1 ?_
      refine g_isub hC d_Md_readTable_45 ?_
      refine gv_callVi hC [.int 0, .int ((M.1 249 2) - 1)] cw_Md_204 (Md_numberIn_c F 0 ((M.1 249 2) - 1) M) lc_249 rfl rfl rfl rfl rfl rfl rfl d_Md_readTable_46 (fun r5 M6 => ?_)
      refine gv_iast hC ly_259 d_Md_readTable_49 (fun M7 => ?_)
      refine g_iinc (ls' := [some (.ref (κ.b + 249)), some (.int l1), some (.int l2), some (.int l3), some (.int l4), some (.int (l5 + 1))]) hC d_Md_readTable_50 rfl k_i1 rfl rfl ?_
      refine g_goto (tgt := 19) hC d_Md_readTable_53 (by decide) ?_
      exact ih l1 l2 l3 l4 (l5 + 1) M7
set_option maxHeartbeats 2000000 in
theorem Md_readTable_L3_g {κ : tv_Kt} (hC : tv_Cx κ "TiedViewsModel" prog_14_method_26_code 6 4) (hR : tv_Re κ none) (F : Nat) : ∀ (n : Nat) (l1 : Int32) (l2 : Int32) (l3 : Int32) (l4 : Int32) (M : tv_M), tv_G κ 6 (tv_Qm κ tv_ev) 3 [some (.ref (κ.b + 249)), some (.int l1), some (.int l2), some (.int l3), some (.int l4), none] [] M (Md_readTable_L3 F n l1 l2 l3 l4 M) := by
  intro n
  induction n with
  | zero => intro _ _ _ _ _; exact g_none
  | succ nn ih =>
    intro l1 l2 l3 l4 M
    rw [Md_readTable_L3]
    refine g_iload hC d_Md_readTable_3 rfl ?_
    refine g_iload_n hC d_Md_readTable_5 rfl ?_
    refine g_icmp_ge (tgt := 87) hC d_Md_readTable_6 (by decide) (fun _ => ?_) (fun _ => ?_)
    · exact g_vret hC hR d_Md_readTable_87
    · refine g_aload_n hC d_Md_readTable_9 rfl ?_
      refine fg_Md_168 hC lc_249 d_Md_readTable_10 ?_
      refine g_if_ne (tgt := 87) hC d_Md_readTable_13 (by decide) (fun _ => ?_) (fun _ => ?_)
      · exact g_vret hC hR d_Md_readTable_87
      · refine g_iconst hC d_Md_readTable_16 k_i0 ?_
        refine g_istore (ls' := [some (.ref (κ.b + 249)), some (.int l1), some (.int l2), some (.int l3), some (.int l4), some (.int 0)]) hC d_Md_readTable_17 rfl rfl ?_
        exact Md_readTable_L19_g hC hR F ih F l1 l2 l3 l4 0 M
set_option maxHeartbeats 2000000 in
theorem Md_readTable_c {l : Launch} {θ : tv_Th} (F : Nat) (a1 : Int32) (a2 : Int32) (a3 : Int32) (M : tv_M) : tv_Ct l θ ⟨"TiedViewsModel", "readTable", "(III)V"⟩ prog_14_method_26_code 6 none 4 tv_ev [.ref (θ.1 + 249), .int a1, .int a2, .int a3] M (Md_readTable F a1 a2 a3 M) := by
  refine tv_ofG [some (.ref (θ.1 + 249)), some (.int a1), some (.int a2), some (.int a3), none, none] rfl rfl (tv_ent 2 rfl) ?_
  intro κ hl ht hC hR
  subst hl; subst ht
  unfold Md_readTable
  refine g_iconst hC d_Md_readTable_0 k_i0 ?_
  refine g_istore (ls' := [some (.ref (κ.b + 249)), some (.int a1), some (.int a2), some (.int a3), some (.int 0), none]) hC d_Md_readTable_1 rfl rfl ?_
  exact Md_readTable_L3_g hC hR F F a1 a2 a3 0 M
theorem d_Md_readTie_0 : decode prog_14_method_27_code 0 = .ok (.aload_n 0, 1) := by decide +kernel
theorem d_Md_readTie_1 : decode prog_14_method_27_code 1 = .ok (.iconst 0, 1) := by decide +kernel
theorem d_Md_readTie_2 : decode prog_14_method_27_code 2 = .ok (.ldc 146, 2) := by decide +kernel
theorem d_Md_readTie_4 : decode prog_14_method_27_code 4 = .ok (.invokevirtual 214, 3) := by decide +kernel
theorem d_Md_readTie_7 : decode prog_14_method_27_code 7 = .ok (.istore_n 1, 1) := by decide +kernel
theorem d_Md_readTie_8 : decode prog_14_method_27_code 8 = .ok (.aload_n 0, 1) := by decide +kernel
theorem d_Md_readTie_9 : decode prog_14_method_27_code 9 = .ok (.iconst 0, 1) := by decide +kernel
theorem d_Md_readTie_10 : decode prog_14_method_27_code 10 = .ok (.iload_n 1, 1) := by decide +kernel
theorem d_Md_readTie_11 : decode prog_14_method_27_code 11 = .ok (.invokevirtual 214, 3) := by decide +kernel
theorem d_Md_readTie_14 : decode prog_14_method_27_code 14 = .ok (.istore_n 2, 1) := by decide +kernel
theorem d_Md_readTie_15 : decode prog_14_method_27_code 15 = .ok (.aload_n 0, 1) := by decide +kernel
theorem d_Md_readTie_16 : decode prog_14_method_27_code 16 = .ok (.iconst 1, 1) := by decide +kernel
theorem d_Md_readTie_17 : decode prog_14_method_27_code 17 = .ok (.iconst 3, 1) := by decide +kernel
theorem d_Md_readTie_18 : decode prog_14_method_27_code 18 = .ok (.invokevirtual 204, 3) := by decide +kernel
theorem d_Md_readTie_21 : decode prog_14_method_27_code 21 = .ok (.istore_n 3, 1) := by decide +kernel
theorem d_Md_readTie_22 : decode prog_14_method_27_code 22 = .ok (.aload_n 0, 1) := by decide +kernel
theorem d_Md_readTie_23 : decode prog_14_method_27_code 23 = .ok (.getfield 168, 3) := by decide +kernel
theorem d_Md_readTie_26 : decode prog_14_method_27_code 26 = .ok (.ifCond .ne 23, 3) := by decide +kernel
theorem d_Md_readTie_29 : decode prog_14_method_27_code 29 = .ok (.aload_n 0, 1) := by decide +kernel
theorem d_Md_readTie_30 : decode prog_14_method_27_code 30 = .ok (.aload_n 0, 1) := by decide +kernel
theorem d_Md_readTie_31 : decode prog_14_method_27_code 31 = .ok (.invokevirtual 192, 3) := by decide +kernel
theorem d_Md_readTie_34 : decode prog_14_method_27_code 34 = .ok (.ldc2_w 218, 3) := by decide +kernel
theorem d_Md_readTie_37 : decode prog_14_method_27_code 37 = .ok (.lcmp, 1) := by decide +kernel
theorem d_Md_readTie_38 : decode prog_14_method_27_code 38 = .ok (.ifCond .ne 7, 3) := by decide +kernel
theorem d_Md_readTie_41 : decode prog_14_method_27_code 41 = .ok (.iconst 1, 1) := by decide +kernel
theorem d_Md_readTie_42 : decode prog_14_method_27_code 42 = .ok (.goto 4, 3) := by decide +kernel
theorem d_Md_readTie_45 : decode prog_14_method_27_code 45 = .ok (.iconst 0, 1) := by decide +kernel
theorem d_Md_readTie_46 : decode prog_14_method_27_code 46 = .ok (.invokevirtual 185, 3) := by decide +kernel
theorem d_Md_readTie_49 : decode prog_14_method_27_code 49 = .ok (.aload_n 0, 1) := by decide +kernel
theorem d_Md_readTie_50 : decode prog_14_method_27_code 50 = .ok (.getfield 168, 3) := by decide +kernel
theorem d_Md_readTie_53 : decode prog_14_method_27_code 53 = .ok (.ifCond .ne 21, 3) := by decide +kernel
theorem d_Md_readTie_56 : decode prog_14_method_27_code 56 = .ok (.aload_n 0, 1) := by decide +kernel
theorem d_Md_readTie_57 : decode prog_14_method_27_code 57 = .ok (.bipush 18, 2) := by decide +kernel
theorem d_Md_readTie_59 : decode prog_14_method_27_code 59 = .ok (.aload_n 0, 1) := by decide +kernel
theorem d_Md_readTie_60 : decode prog_14_method_27_code 60 = .ok (.getfield 220, 3) := by decide +kernel
theorem d_Md_readTie_63 : decode prog_14_method_27_code 63 = .ok (.imul, 1) := by decide +kernel
theorem d_Md_readTie_64 : decode prog_14_method_27_code 64 = .ok (.iload_n 3, 1) := by decide +kernel
theorem d_Md_readTie_65 : decode prog_14_method_27_code 65 = .ok (.aload_n 0, 1) := by decide +kernel
theorem d_Md_readTie_66 : decode prog_14_method_27_code 66 = .ok (.getfield 30, 3) := by decide +kernel
theorem d_Md_readTie_69 : decode prog_14_method_27_code 69 = .ok (.iload_n 1, 1) := by decide +kernel
theorem d_Md_readTie_70 : decode prog_14_method_27_code 70 = .ok (.iaload, 1) := by decide +kernel
theorem d_Md_readTie_71 : decode prog_14_method_27_code 71 = .ok (.invokevirtual 223, 3) := by decide +kernel
theorem d_Md_readTie_74 : decode prog_14_method_27_code 74 = .ok (.aload_n 0, 1) := by decide +kernel
theorem d_Md_readTie_75 : decode prog_14_method_27_code 75 = .ok (.getfield 168, 3) := by decide +kernel
theorem d_Md_readTie_78 : decode prog_14_method_27_code 78 = .ok (.ifCond .ne 23, 3) := by decide +kernel
theorem d_Md_readTie_81 : decode prog_14_method_27_code 81 = .ok (.aload_n 0, 1) := by decide +kernel
theorem d_Md_readTie_82 : decode prog_14_method_27_code 82 = .ok (.aload_n 0, 1) := by decide +kernel
theorem d_Md_readTie_83 : decode prog_14_method_27_code 83 = .ok (.invokevirtual 192, 3) := by decide +kernel
theorem d_Md_readTie_86 : decode prog_14_method_27_code 86 = .ok (.ldc2_w 227, 3) := by decide +kernel
theorem d_Md_readTie_89 : decode prog_14_method_27_code 89 = .ok (.lcmp, 1) := by decide +kernel
theorem d_Md_readTie_90 : decode prog_14_method_27_code 90 = .ok (.ifCond .ne 7, 3) := by decide +kernel
theorem d_Md_readTie_93 : decode prog_14_method_27_code 93 = .ok (.iconst 1, 1) := by decide +kernel
theorem d_Md_readTie_94 : decode prog_14_method_27_code 94 = .ok (.goto 4, 3) := by decide +kernel
theorem d_Md_readTie_97 : decode prog_14_method_27_code 97 = .ok (.iconst 0, 1) := by decide +kernel
theorem d_Md_readTie_98 : decode prog_14_method_27_code 98 = .ok (.invokevirtual 185, 3) := by decide +kernel
theorem d_Md_readTie_101 : decode prog_14_method_27_code 101 = .ok (.aload_n 0, 1) := by decide +kernel
theorem d_Md_readTie_102 : decode prog_14_method_27_code 102 = .ok (.getfield 168, 3) := by decide +kernel
theorem d_Md_readTie_105 : decode prog_14_method_27_code 105 = .ok (.ifCond .ne 24, 3) := by decide +kernel
theorem d_Md_readTie_108 : decode prog_14_method_27_code 108 = .ok (.aload_n 0, 1) := by decide +kernel
theorem d_Md_readTie_109 : decode prog_14_method_27_code 109 = .ok (.bipush 18, 2) := by decide +kernel
theorem d_Md_readTie_111 : decode prog_14_method_27_code 111 = .ok (.aload_n 0, 1) := by decide +kernel
theorem d_Md_readTie_112 : decode prog_14_method_27_code 112 = .ok (.getfield 220, 3) := by decide +kernel
theorem d_Md_readTie_115 : decode prog_14_method_27_code 115 = .ok (.imul, 1) := by decide +kernel
theorem d_Md_readTie_116 : decode prog_14_method_27_code 116 = .ok (.bipush 9, 2) := by decide +kernel
theorem d_Md_readTie_118 : decode prog_14_method_27_code 118 = .ok (.iadd, 1) := by decide +kernel
theorem d_Md_readTie_119 : decode prog_14_method_27_code 119 = .ok (.iload_n 3, 1) := by decide +kernel
theorem d_Md_readTie_120 : decode prog_14_method_27_code 120 = .ok (.aload_n 0, 1) := by decide +kernel
theorem d_Md_readTie_121 : decode prog_14_method_27_code 121 = .ok (.getfield 30, 3) := by decide +kernel
theorem d_Md_readTie_124 : decode prog_14_method_27_code 124 = .ok (.iload_n 2, 1) := by decide +kernel
theorem d_Md_readTie_125 : decode prog_14_method_27_code 125 = .ok (.iaload, 1) := by decide +kernel
theorem d_Md_readTie_126 : decode prog_14_method_27_code 126 = .ok (.invokevirtual 223, 3) := by decide +kernel
theorem d_Md_readTie_129 : decode prog_14_method_27_code 129 = .ok (.aload_n 0, 1) := by decide +kernel
theorem d_Md_readTie_130 : decode prog_14_method_27_code 130 = .ok (.getfield 36, 3) := by decide +kernel
theorem d_Md_readTie_133 : decode prog_14_method_27_code 133 = .ok (.aload_n 0, 1) := by decide +kernel
theorem d_Md_readTie_134 : decode prog_14_method_27_code 134 = .ok (.getfield 220, 3) := by decide +kernel
theorem d_Md_readTie_137 : decode prog_14_method_27_code 137 = .ok (.iload_n 1, 1) := by decide +kernel
theorem d_Md_readTie_138 : decode prog_14_method_27_code 138 = .ok (.iastore, 1) := by decide +kernel
theorem d_Md_readTie_139 : decode prog_14_method_27_code 139 = .ok (.aload_n 0, 1) := by decide +kernel
theorem d_Md_readTie_140 : decode prog_14_method_27_code 140 = .ok (.getfield 39, 3) := by decide +kernel
theorem d_Md_readTie_143 : decode prog_14_method_27_code 143 = .ok (.aload_n 0, 1) := by decide +kernel
theorem d_Md_readTie_144 : decode prog_14_method_27_code 144 = .ok (.getfield 220, 3) := by decide +kernel
theorem d_Md_readTie_147 : decode prog_14_method_27_code 147 = .ok (.iload_n 2, 1) := by decide +kernel
theorem d_Md_readTie_148 : decode prog_14_method_27_code 148 = .ok (.iastore, 1) := by decide +kernel
theorem d_Md_readTie_149 : decode prog_14_method_27_code 149 = .ok (.aload_n 0, 1) := by decide +kernel
theorem d_Md_readTie_150 : decode prog_14_method_27_code 150 = .ok (.getfield 42, 3) := by decide +kernel
theorem d_Md_readTie_153 : decode prog_14_method_27_code 153 = .ok (.aload_n 0, 1) := by decide +kernel
theorem d_Md_readTie_154 : decode prog_14_method_27_code 154 = .ok (.getfield 220, 3) := by decide +kernel
theorem d_Md_readTie_157 : decode prog_14_method_27_code 157 = .ok (.iload_n 3, 1) := by decide +kernel
theorem d_Md_readTie_158 : decode prog_14_method_27_code 158 = .ok (.iastore, 1) := by decide +kernel
theorem d_Md_readTie_159 : decode prog_14_method_27_code 159 = .ok (.aload_n 0, 1) := by decide +kernel
theorem d_Md_readTie_160 : decode prog_14_method_27_code 160 = .ok (.dup, 1) := by decide +kernel
theorem d_Md_readTie_161 : decode prog_14_method_27_code 161 = .ok (.getfield 220, 3) := by decide +kernel
theorem d_Md_readTie_164 : decode prog_14_method_27_code 164 = .ok (.iconst 1, 1) := by decide +kernel
theorem d_Md_readTie_165 : decode prog_14_method_27_code 165 = .ok (.iadd, 1) := by decide +kernel
theorem d_Md_readTie_166 : decode prog_14_method_27_code 166 = .ok (.putfield 220, 3) := by decide +kernel
theorem d_Md_readTie_169 : decode prog_14_method_27_code 169 = .ok (.return_, 1) := by decide +kernel
set_option maxHeartbeats 2000000 in
theorem Md_readTie_L129_g {κ : tv_Kt} (hC : tv_Cx κ "TiedViewsModel" prog_14_method_27_code 4 5) (hR : tv_Re κ none) (F : Nat) (l1 : Int32) (l2 : Int32) (l3 : Int32) (M : tv_M) : tv_G κ 4 (tv_Qm κ tv_ev) 129 [some (.ref (κ.b + 249)), some (.int l1), some (.int l2), some (.int l3)] [] M (Md_readTie_L129 F l1 l2 l3 M) := by
  rw [Md_readTie_L129]
  refine g_aload_n hC d_Md_readTie_129 rfl ?_
  refine fg_Md_36 hC lc_249 d_Md_readTie_130 p0_249_12 ?_
  refine g_aload_n hC d_Md_readTie_133 rfl ?_
  refine fg_Md_220 hC lc_249 d_Md_readTie_134 ?_
  refine g_iload_n hC d_Md_readTie_137 rfl ?_
  refine gv_iast hC ly_256 d_Md_readTie_138 (fun M25 => ?_)
  refine g_aload_n hC d_Md_readTie_139 rfl ?_
  refine fg_Md_39 hC lc_249 d_Md_readTie_140 p0_249_13 ?_
  refine g_aload_n hC d_Md_readTie_143 rfl ?_
  refine fg_Md_220 hC lc_249 d_Md_readTie_144 ?_
  refine g_iload_n hC d_Md_readTie_147 rfl ?_
  refine gv_iast hC ly_257 d_Md_readTie_148 (fun M26 => ?_)
  refine g_aload_n hC d_Md_readTie_149 rfl ?_
  refine fg_Md_42 hC lc_249 d_Md_readTie_150 p0_249_14 ?_
  refine g_aload_n hC d_Md_readTie_153 rfl ?_
  refine fg_Md_220 hC lc_249 d_Md_readTie_154 ?_
  refine g_iload_n hC d_Md_readTie_157 rfl ?_
  refine gv_iast hC ly_258 d_Md_readTie_158 (fun M27 => ?_)
  refine g_aload_n hC d_Md_readTie_159 rfl ?_
  refine g_dup hC d_Md_readTie_160 rfl ?_
  refine fg_Md_220 hC lc_249 d_Md_readTie_161 ?_
  refine g_iconst hC d_Md_readTie_164 k_i1 ?_
  refine g_iadd hC d_Md_readTie_165 ?_
  refine fp_Md_220 hC lc_249 d_Md_readTie_166 (fun M28 => ?_)
  exact g_vret hC hR d_Md_readTie_169
set_option maxHeartbeats 2000000 in
theorem Md_readTie_L101_g {κ : tv_Kt} (hC : tv_Cx κ "TiedViewsModel" prog_14_method_27_code 4 5) (hR : tv_Re κ none) (F : Nat) (l1 : Int32) (l2 : Int32) (l3 : Int32) (M : tv_M) : tv_G κ 4 (tv_Qm κ tv_ev) 101 [some (.ref (κ.b + 249)), some (.int l1), some (.int l2), some (.int l3)] [] M (Md_readTie_L101 F l1 l2 l3 M) := by
  rw [Md_readTie_L101]
  refine g_aload_n hC d_Md_readTie_101 rfl ?_
  refine fg_Md_168 hC lc_249 d_Md_readTie_102 ?_
  refine g_if_ne (tgt := 129) hC d_Md_readTie_105 (by decide) (fun _ => ?_) (fun _ => ?_)
  · exact Md_readTie_L129_g hC hR F l1 l2 l3 M
  · refine g_aload_n hC d_Md_readTie_108 rfl ?_
    refine g_bipush hC d_Md_readTie_109 k_b18 ?_
    refine g_aload_n hC d_Md_readTie_111 rfl ?_
    refine fg_Md_220 hC lc_249 d_Md_readTie_112 ?_
    refine g_imul hC d_Md_readTie_115 ?_
    refine g_bipush hC d_Md_readTie_116 k_b9 ?_
    refine g_iadd hC d_Md_readTie_118 ?_
    refine g_iload_n hC d_Md_readTie_119 rfl ?_
    refine g_aload_n hC d_Md_readTie_120 rfl ?_
    refine fg_Md_30 hC lc_249 d_Md_readTie_121 p0_249_8 ?_
    refine g_iload_n hC d_Md_readTie_124 rfl ?_
    refine gv_iald hC ly_254 d_Md_readTie_125 (fun x22 => ?_)
    refine gv_callVv hC [.int ((18 * (M.1 249 35)) + 9), .int l3, .int x22] cw_Md_223 (Md_readTable_c F ((18 * (M.1 249 35)) + 9) l3 x22 M) lc_249 rfl rfl rfl rfl rfl rfl rfl d_Md_readTie_126 (fun r23 M24 => ?_)
    exact Md_readTie_L129_g hC hR F l1 l2 l3 M24
set_option maxHeartbeats 2000000 in
theorem Md_readTie_L74_g {κ : tv_Kt} (hC : tv_Cx κ "TiedViewsModel" prog_14_method_27_code 4 5) (hR : tv_Re κ none) (F : Nat) (l1 : Int32) (l2 : Int32) (l3 : Int32) (M : tv_M) : tv_G κ 4 (tv_Qm κ tv_ev) 74 [some (.ref (κ.b + 249)), some (.int l1), some (.int l2), some (.int l3)] [] M (Md_readTie_L74 F l1 l2 l3 M) := by
  rw [Md_readTie_L74]
  refine g_aload_n hC d_Md_readTie_74 rfl ?_
  refine fg_Md_168 hC lc_249 d_Md_readTie_75 ?_
  refine g_if_ne (tgt := 101) hC d_Md_readTie_78 (by decide) (fun _ => ?_) (fun _ => ?_)
  · exact Md_readTie_L101_g hC hR F l1 l2 l3 M
  · refine g_aload_n hC d_Md_readTie_81 rfl ?_
    refine g_aload_n hC d_Md_readTie_82 rfl ?_
    refine gv_callVj hC [] cw_Md_192 (Md_word_c F M) lc_249 rfl rfl rfl rfl rfl rfl rfl d_Md_readTie_83 (fun r16 M17 => ?_)
    refine g_ldc2 hC d_Md_readTie_86 wl_Md_227 ?_
    refine g_lcmp hC d_Md_readTie_89 ?_
    refine g_if_ne (tgt := 97) hC d_Md_readTie_90 (by decide) (fun _ => ?_) (fun _ => ?_)
    · refine g_iconst hC d_Md_readTie_97 k_i0 ?_
      refine gv_callVv hC [.int 0] cw_Md_185 (Md_must_c F 0 M17) lc_249 rfl rfl rfl rfl rfl rfl rfl d_Md_readTie_98 (fun r18 M19 => ?_)
      exact Md_readTie_L101_g hC hR F l1 l2 l3 M19
    · refine g_iconst hC d_Md_readTie_93 k_i1 ?_
      refine g_goto (tgt := 98) hC d_Md_readTie_94 (by decide) ?_
      refine gv_callVv hC [.int 1] cw_Md_185 (Md_must_c F 1 M17) lc_249 rfl rfl rfl rfl rfl rfl rfl d_Md_readTie_98 (fun r20 M21 => ?_)
      exact Md_readTie_L101_g hC hR F l1 l2 l3 M21
set_option maxHeartbeats 2000000 in
theorem Md_readTie_L49_g {κ : tv_Kt} (hC : tv_Cx κ "TiedViewsModel" prog_14_method_27_code 4 5) (hR : tv_Re κ none) (F : Nat) (l1 : Int32) (l2 : Int32) (l3 : Int32) (M : tv_M) : tv_G κ 4 (tv_Qm κ tv_ev) 49 [some (.ref (κ.b + 249)), some (.int l1), some (.int l2), some (.int l3)] [] M (Md_readTie_L49 F l1 l2 l3 M) := by
  rw [Md_readTie_L49]
  refine g_aload_n hC d_Md_readTie_49 rfl ?_
  refine fg_Md_168 hC lc_249 d_Md_readTie_50 ?_
  refine g_if_ne (tgt := 74) hC d_Md_readTie_53 (by decide) (fun _ => ?_) (fun _ => ?_)
  · exact Md_readTie_L74_g hC hR F l1 l2 l3 M
  · refine g_aload_n hC d_Md_readTie_56 rfl ?_
    refine g_bipush hC d_Md_readTie_57 k_b18 ?_
    refine g_aload_n hC d_Md_readTie_59 rfl ?_
    refine fg_Md_220 hC lc_249 d_Md_readTie_60 ?_
    refine g_imul hC d_Md_readTie_63 ?_
    refine g_iload_n hC d_Md_readTie_64 rfl ?_
    refine g_aload_n hC d_Md_readTie_65 rfl ?_
    refine fg_Md_30 hC lc_249 d_Md_readTie_66 p0_249_8 ?_
    refine g_iload_n hC d_Md_readTie_69 rfl ?_
    refine gv_iald hC ly_254 d_Md_readTie_70 (fun x13 => ?_)
    refine gv_callVv hC [.int (18 * (M.1 249 35)), .int l3, .int x13] cw_Md_223 (Md_readTable_c F (18 * (M.1 249 35)) l3 x13 M) lc_249 rfl rfl rfl rfl rfl rfl rfl d_Md_readTie_71 (fun r14 M15 => ?_)
    exact Md_readTie_L74_g hC hR F l1 l2 l3 M15
set_option maxHeartbeats 2000000 in
theorem Md_readTie_c {l : Launch} {θ : tv_Th} (F : Nat) (M : tv_M) : tv_Ct l θ ⟨"TiedViewsModel", "readTie", "()V"⟩ prog_14_method_27_code 4 none 5 tv_ev [.ref (θ.1 + 249)] M (Md_readTie F M) := by
  refine tv_ofG [some (.ref (θ.1 + 249)), none, none, none] rfl rfl (tv_ent 3 rfl) ?_
  intro κ hl ht hC hR
  subst hl; subst ht
  unfold Md_readTie
  refine g_aload_n hC d_Md_readTie_0 rfl ?_
  refine g_iconst hC d_Md_readTie_1 k_i0 ?_
  refine g_ldc hC d_Md_readTie_2 wk_Md_146 ?_
  refine gv_callVi hC [.int 0, .int (-1000000)] cw_Md_214 (Md_eyeHere_c F 0 (-1000000) M) lc_249 rfl rfl rfl rfl rfl rfl rfl d_Md_readTie_4 (fun r1 M2 => ?_)
  refine g_istore_n (ls' := [some (.ref (κ.b + 249)), some (.int r1), none, none]) hC d_Md_readTie_7 rfl rfl ?_
  refine g_aload_n hC d_Md_readTie_8 rfl ?_
  refine g_iconst hC d_Md_readTie_9 k_i0 ?_
  refine g_iload_n hC d_Md_readTie_10 rfl ?_
  refine gv_callVi hC [.int 0, .int r1] cw_Md_214 (Md_eyeHere_c F 0 r1 M2) lc_249 rfl rfl rfl rfl rfl rfl rfl d_Md_readTie_11 (fun r3 M4 => ?_)
  refine g_istore_n (ls' := [some (.ref (κ.b + 249)), some (.int r1), some (.int r3), none]) hC d_Md_readTie_14 rfl rfl ?_
  refine g_aload_n hC d_Md_readTie_15 rfl ?_
  refine g_iconst hC d_Md_readTie_16 k_i1 ?_
  refine g_iconst hC d_Md_readTie_17 k_i3 ?_
  refine gv_callVi hC [.int 1, .int 3] cw_Md_204 (Md_numberIn_c F 1 3 M4) lc_249 rfl rfl rfl rfl rfl rfl rfl d_Md_readTie_18 (fun r5 M6 => ?_)
  refine g_istore_n (ls' := [some (.ref (κ.b + 249)), some (.int r1), some (.int r3), some (.int r5)]) hC d_Md_readTie_21 rfl rfl ?_
  refine g_aload_n hC d_Md_readTie_22 rfl ?_
  refine fg_Md_168 hC lc_249 d_Md_readTie_23 ?_
  refine g_if_ne (tgt := 49) hC d_Md_readTie_26 (by decide) (fun _ => ?_) (fun _ => ?_)
  · exact Md_readTie_L49_g hC hR F r1 r3 r5 M6
  · refine g_aload_n hC d_Md_readTie_29 rfl ?_
    refine g_aload_n hC d_Md_readTie_30 rfl ?_
    refine gv_callVj hC [] cw_Md_192 (Md_word_c F M6) lc_249 rfl rfl rfl rfl rfl rfl rfl d_Md_readTie_31 (fun r7 M8 => ?_)
    refine g_ldc2 hC d_Md_readTie_34 wl_Md_218 ?_
    refine g_lcmp hC d_Md_readTie_37 ?_
    refine g_if_ne (tgt := 45) hC d_Md_readTie_38 (by decide) (fun _ => ?_) (fun _ => ?_)
    · refine g_iconst hC d_Md_readTie_45 k_i0 ?_
      refine gv_callVv hC [.int 0] cw_Md_185 (Md_must_c F 0 M8) lc_249 rfl rfl rfl rfl rfl rfl rfl d_Md_readTie_46 (fun r9 M10 => ?_)
      exact Md_readTie_L49_g hC hR F r1 r3 r5 M10
    · refine g_iconst hC d_Md_readTie_41 k_i1 ?_
      refine g_goto (tgt := 46) hC d_Md_readTie_42 (by decide) ?_
      refine gv_callVv hC [.int 1] cw_Md_185 (Md_must_c F 1 M8) lc_249 rfl rfl rfl rfl rfl rfl rfl d_Md_readTie_46 (fun r11 M12 => ?_)
      exact Md_readTie_L49_g hC hR F r1 r3 r5 M12
theorem d_Md_readBar_0 : decode prog_14_method_28_code 0 = .ok (.aload_n 0, 1) := by decide +kernel
theorem d_Md_readBar_1 : decode prog_14_method_28_code 1 = .ok (.iconst 1, 1) := by decide +kernel
theorem d_Md_readBar_2 : decode prog_14_method_28_code 2 = .ok (.ldc 146, 2) := by decide +kernel
theorem d_Md_readBar_4 : decode prog_14_method_28_code 4 = .ok (.invokevirtual 214, 3) := by decide +kernel
theorem d_Md_readBar_7 : decode prog_14_method_28_code 7 = .ok (.istore_n 1, 1) := by decide +kernel
theorem d_Md_readBar_8 : decode prog_14_method_28_code 8 = .ok (.aload_n 0, 1) := by decide +kernel
theorem d_Md_readBar_9 : decode prog_14_method_28_code 9 = .ok (.getfield 48, 3) := by decide +kernel
theorem d_Md_readBar_12 : decode prog_14_method_28_code 12 = .ok (.aload_n 0, 1) := by decide +kernel
theorem d_Md_readBar_13 : decode prog_14_method_28_code 13 = .ok (.getfield 229, 3) := by decide +kernel
theorem d_Md_readBar_16 : decode prog_14_method_28_code 16 = .ok (.iload_n 1, 1) := by decide +kernel
theorem d_Md_readBar_17 : decode prog_14_method_28_code 17 = .ok (.iastore, 1) := by decide +kernel
theorem d_Md_readBar_18 : decode prog_14_method_28_code 18 = .ok (.aload_n 0, 1) := by decide +kernel
theorem d_Md_readBar_19 : decode prog_14_method_28_code 19 = .ok (.getfield 54, 3) := by decide +kernel
theorem d_Md_readBar_22 : decode prog_14_method_28_code 22 = .ok (.aload_n 0, 1) := by decide +kernel
theorem d_Md_readBar_23 : decode prog_14_method_28_code 23 = .ok (.getfield 229, 3) := by decide +kernel
theorem d_Md_readBar_26 : decode prog_14_method_28_code 26 = .ok (.aload_n 0, 1) := by decide +kernel
theorem d_Md_readBar_27 : decode prog_14_method_28_code 27 = .ok (.getfield 168, 3) := by decide +kernel
theorem d_Md_readBar_30 : decode prog_14_method_28_code 30 = .ok (.ifCond .le 7, 3) := by decide +kernel
theorem d_Md_readBar_33 : decode prog_14_method_28_code 33 = .ok (.iconst 0, 1) := by decide +kernel
theorem d_Md_readBar_34 : decode prog_14_method_28_code 34 = .ok (.goto 16, 3) := by decide +kernel
theorem d_Md_readBar_37 : decode prog_14_method_28_code 37 = .ok (.aload_n 0, 1) := by decide +kernel
theorem d_Md_readBar_38 : decode prog_14_method_28_code 38 = .ok (.iconst 0, 1) := by decide +kernel
theorem d_Md_readBar_39 : decode prog_14_method_28_code 39 = .ok (.aload_n 0, 1) := by decide +kernel
theorem d_Md_readBar_40 : decode prog_14_method_28_code 40 = .ok (.getfield 30, 3) := by decide +kernel
theorem d_Md_readBar_43 : decode prog_14_method_28_code 43 = .ok (.iload_n 1, 1) := by decide +kernel
theorem d_Md_readBar_44 : decode prog_14_method_28_code 44 = .ok (.iaload, 1) := by decide +kernel
theorem d_Md_readBar_45 : decode prog_14_method_28_code 45 = .ok (.iconst 1, 1) := by decide +kernel
theorem d_Md_readBar_46 : decode prog_14_method_28_code 46 = .ok (.isub, 1) := by decide +kernel
theorem d_Md_readBar_47 : decode prog_14_method_28_code 47 = .ok (.invokevirtual 204, 3) := by decide +kernel
theorem d_Md_readBar_50 : decode prog_14_method_28_code 50 = .ok (.iastore, 1) := by decide +kernel
theorem d_Md_readBar_51 : decode prog_14_method_28_code 51 = .ok (.aload_n 0, 1) := by decide +kernel
theorem d_Md_readBar_52 : decode prog_14_method_28_code 52 = .ok (.iconst 1, 1) := by decide +kernel
theorem d_Md_readBar_53 : decode prog_14_method_28_code 53 = .ok (.iload_n 1, 1) := by decide +kernel
theorem d_Md_readBar_54 : decode prog_14_method_28_code 54 = .ok (.invokevirtual 214, 3) := by decide +kernel
theorem d_Md_readBar_57 : decode prog_14_method_28_code 57 = .ok (.istore_n 2, 1) := by decide +kernel
theorem d_Md_readBar_58 : decode prog_14_method_28_code 58 = .ok (.aload_n 0, 1) := by decide +kernel
theorem d_Md_readBar_59 : decode prog_14_method_28_code 59 = .ok (.getfield 51, 3) := by decide +kernel
theorem d_Md_readBar_62 : decode prog_14_method_28_code 62 = .ok (.aload_n 0, 1) := by decide +kernel
theorem d_Md_readBar_63 : decode prog_14_method_28_code 63 = .ok (.getfield 229, 3) := by decide +kernel
theorem d_Md_readBar_66 : decode prog_14_method_28_code 66 = .ok (.iload_n 2, 1) := by decide +kernel
theorem d_Md_readBar_67 : decode prog_14_method_28_code 67 = .ok (.iastore, 1) := by decide +kernel
theorem d_Md_readBar_68 : decode prog_14_method_28_code 68 = .ok (.aload_n 0, 1) := by decide +kernel
theorem d_Md_readBar_69 : decode prog_14_method_28_code 69 = .ok (.getfield 57, 3) := by decide +kernel
theorem d_Md_readBar_72 : decode prog_14_method_28_code 72 = .ok (.aload_n 0, 1) := by decide +kernel
theorem d_Md_readBar_73 : decode prog_14_method_28_code 73 = .ok (.getfield 229, 3) := by decide +kernel
theorem d_Md_readBar_76 : decode prog_14_method_28_code 76 = .ok (.aload_n 0, 1) := by decide +kernel
theorem d_Md_readBar_77 : decode prog_14_method_28_code 77 = .ok (.getfield 168, 3) := by decide +kernel
theorem d_Md_readBar_80 : decode prog_14_method_28_code 80 = .ok (.ifCond .le 7, 3) := by decide +kernel
theorem d_Md_readBar_83 : decode prog_14_method_28_code 83 = .ok (.iconst 0, 1) := by decide +kernel
theorem d_Md_readBar_84 : decode prog_14_method_28_code 84 = .ok (.goto 16, 3) := by decide +kernel
theorem d_Md_readBar_87 : decode prog_14_method_28_code 87 = .ok (.aload_n 0, 1) := by decide +kernel
theorem d_Md_readBar_88 : decode prog_14_method_28_code 88 = .ok (.iconst 0, 1) := by decide +kernel
theorem d_Md_readBar_89 : decode prog_14_method_28_code 89 = .ok (.aload_n 0, 1) := by decide +kernel
theorem d_Md_readBar_90 : decode prog_14_method_28_code 90 = .ok (.getfield 30, 3) := by decide +kernel
theorem d_Md_readBar_93 : decode prog_14_method_28_code 93 = .ok (.iload_n 2, 1) := by decide +kernel
theorem d_Md_readBar_94 : decode prog_14_method_28_code 94 = .ok (.iaload, 1) := by decide +kernel
theorem d_Md_readBar_95 : decode prog_14_method_28_code 95 = .ok (.iconst 1, 1) := by decide +kernel
theorem d_Md_readBar_96 : decode prog_14_method_28_code 96 = .ok (.isub, 1) := by decide +kernel
theorem d_Md_readBar_97 : decode prog_14_method_28_code 97 = .ok (.invokevirtual 204, 3) := by decide +kernel
theorem d_Md_readBar_100 : decode prog_14_method_28_code 100 = .ok (.iastore, 1) := by decide +kernel
theorem d_Md_readBar_101 : decode prog_14_method_28_code 101 = .ok (.aload_n 0, 1) := by decide +kernel
theorem d_Md_readBar_102 : decode prog_14_method_28_code 102 = .ok (.dup, 1) := by decide +kernel
theorem d_Md_readBar_103 : decode prog_14_method_28_code 103 = .ok (.getfield 229, 3) := by decide +kernel
theorem d_Md_readBar_106 : decode prog_14_method_28_code 106 = .ok (.iconst 1, 1) := by decide +kernel
theorem d_Md_readBar_107 : decode prog_14_method_28_code 107 = .ok (.iadd, 1) := by decide +kernel
theorem d_Md_readBar_108 : decode prog_14_method_28_code 108 = .ok (.putfield 229, 3) := by decide +kernel
theorem d_Md_readBar_111 : decode prog_14_method_28_code 111 = .ok (.return_, 1) := by decide +kernel
set_option maxHeartbeats 2000000 in
theorem Md_readBar_L50_g {κ : tv_Kt} (hC : tv_Cx κ "TiedViewsModel" prog_14_method_28_code 3 4) (hR : tv_Re κ none) (F : Nat) (l1 : Int32) (s0 : Int32) (s1 : Int32) (M : tv_M) : tv_G κ 3 (tv_Qm κ tv_ev) 50 [some (.ref (κ.b + 249)), some (.int l1), none] [.int s0, .int s1, .ref (κ.b + 262)] M (Md_readBar_L50 F l1 s0 s1 M) := by
  rw [Md_readBar_L50]
  refine gv_iast hC ly_262 d_Md_readBar_50 (fun M7 => ?_)
  refine g_aload_n hC d_Md_readBar_51 rfl ?_
  refine g_iconst hC d_Md_readBar_52 k_i1 ?_
  refine g_iload_n hC d_Md_readBar_53 rfl ?_
  refine gv_callVi hC [.int 1, .int l1] cw_Md_214 (Md_eyeHere_c F 1 l1 M7) lc_249 rfl rfl rfl rfl rfl rfl rfl d_Md_readBar_54 (fun r8 M9 => ?_)
  refine g_istore_n (ls' := [some (.ref (κ.b + 249)), some (.int l1), some (.int r8)]) hC d_Md_readBar_57 rfl rfl ?_
  refine g_aload_n hC d_Md_readBar_58 rfl ?_
  refine fg_Md_51 hC lc_249 d_Md_readBar_59 p0_249_18 ?_
  refine g_aload_n hC d_Md_readBar_62 rfl ?_
  refine fg_Md_229 hC lc_249 d_Md_readBar_63 ?_
  refine g_iload_n hC d_Md_readBar_66 rfl ?_
  refine gv_iast hC ly_261 d_Md_readBar_67 (fun M10 => ?_)
  refine g_aload_n hC d_Md_readBar_68 rfl ?_
  refine fg_Md_57 hC lc_249 d_Md_readBar_69 p0_249_20 ?_
  refine g_aload_n hC d_Md_readBar_72 rfl ?_
  refine fg_Md_229 hC lc_249 d_Md_readBar_73 ?_
  refine g_aload_n hC d_Md_readBar_76 rfl ?_
  refine fg_Md_168 hC lc_249 d_Md_readBar_77 ?_
  refine g_if_le (tgt := 87) hC d_Md_readBar_80 (by decide) (fun _ => ?_) (fun _ => ?_)
  · refine g_aload_n hC d_Md_readBar_87 rfl ?_
    refine g_iconst hC d_Md_readBar_88 k_i0 ?_
    refine g_aload_n hC d_Md_readBar_89 rfl ?_
    refine fg_Md_30 hC lc_249 d_Md_readBar_90 p0_249_8 ?_
    refine g_iload_n hC d_Md_readBar_93 rfl ?_
    refine gv_iald hC ly_254 d_Md_readBar_94 (fun x11 => ?_)
    refine g_iconst hC d_Md_readBar_95 k_i1 ?_
    refine g_isub hC d_Md_readBar_96 ?_
    refine gv_callVi hC [.int 0, .int (x11 - 1)] cw_Md_204 (Md_numberIn_c F 0 (x11 - 1) M10) lc_249 rfl rfl rfl rfl rfl rfl rfl d_Md_readBar_97 (fun r12 M13 => ?_)
    refine gv_iast hC ly_263 d_Md_readBar_100 (fun M14 => ?_)
    refine g_aload_n hC d_Md_readBar_101 rfl ?_
    refine g_dup hC d_Md_readBar_102 rfl ?_
    refine fg_Md_229 hC lc_249 d_Md_readBar_103 ?_
    refine g_iconst hC d_Md_readBar_106 k_i1 ?_
    refine g_iadd hC d_Md_readBar_107 ?_
    refine fp_Md_229 hC lc_249 d_Md_readBar_108 (fun M15 => ?_)
    exact g_vret hC hR d_Md_readBar_111
  · refine g_iconst hC d_Md_readBar_83 k_i0 ?_
    refine g_goto (tgt := 100) hC d_Md_readBar_84 (by decide) ?_
    refine gv_iast hC ly_263 d_Md_readBar_100 (fun M16 => ?_)
    refine g_aload_n hC d_Md_readBar_101 rfl ?_
    refine g_dup hC d_Md_readBar_102 rfl ?_
    refine fg_Md_229 hC lc_249 d_Md_readBar_103 ?_
    refine g_iconst hC d_Md_readBar_106 k_i1 ?_
    refine g_iadd hC d_Md_readBar_107 ?_
    refine fp_Md_229 hC lc_249 d_Md_readBar_108 (fun M17 => ?_)
    exact g_vret hC hR d_Md_readBar_111
set_option maxHeartbeats 2000000 in
theorem Md_readBar_c {l : Launch} {θ : tv_Th} (F : Nat) (M : tv_M) : tv_Ct l θ ⟨"TiedViewsModel", "readBar", "()V"⟩ prog_14_method_28_code 3 none 4 tv_ev [.ref (θ.1 + 249)] M (Md_readBar F M) := by
  refine tv_ofG [some (.ref (θ.1 + 249)), none, none] rfl rfl (tv_ent 2 rfl) ?_
  intro κ hl ht hC hR
  subst hl; subst ht
  unfold Md_readBar
  refine g_aload_n hC d_Md_readBar_0 rfl ?_
  refine g_iconst hC d_Md_readBar_1 k_i1 ?_
  refine g_ldc hC d_Md_readBar_2 wk_Md_146 ?_
  refine gv_callVi hC [.int 1, .int (-1000000)] cw_Md_214 (Md_eyeHere_c F 1 (-1000000) M) lc_249 rfl rfl rfl rfl rfl rfl rfl d_Md_readBar_4 (fun r1 M2 => ?_)
  refine g_istore_n (ls' := [some (.ref (κ.b + 249)), some (.int r1), none]) hC d_Md_readBar_7 rfl rfl ?_
  refine g_aload_n hC d_Md_readBar_8 rfl ?_
  refine fg_Md_48 hC lc_249 d_Md_readBar_9 p0_249_17 ?_
  refine g_aload_n hC d_Md_readBar_12 rfl ?_
  refine fg_Md_229 hC lc_249 d_Md_readBar_13 ?_
  refine g_iload_n hC d_Md_readBar_16 rfl ?_
  refine gv_iast hC ly_260 d_Md_readBar_17 (fun M3 => ?_)
  refine g_aload_n hC d_Md_readBar_18 rfl ?_
  refine fg_Md_54 hC lc_249 d_Md_readBar_19 p0_249_19 ?_
  refine g_aload_n hC d_Md_readBar_22 rfl ?_
  refine fg_Md_229 hC lc_249 d_Md_readBar_23 ?_
  refine g_aload_n hC d_Md_readBar_26 rfl ?_
  refine fg_Md_168 hC lc_249 d_Md_readBar_27 ?_
  refine g_if_le (tgt := 37) hC d_Md_readBar_30 (by decide) (fun _ => ?_) (fun _ => ?_)
  · refine g_aload_n hC d_Md_readBar_37 rfl ?_
    refine g_iconst hC d_Md_readBar_38 k_i0 ?_
    refine g_aload_n hC d_Md_readBar_39 rfl ?_
    refine fg_Md_30 hC lc_249 d_Md_readBar_40 p0_249_8 ?_
    refine g_iload_n hC d_Md_readBar_43 rfl ?_
    refine gv_iald hC ly_254 d_Md_readBar_44 (fun x4 => ?_)
    refine g_iconst hC d_Md_readBar_45 k_i1 ?_
    refine g_isub hC d_Md_readBar_46 ?_
    refine gv_callVi hC [.int 0, .int (x4 - 1)] cw_Md_204 (Md_numberIn_c F 0 (x4 - 1) M3) lc_249 rfl rfl rfl rfl rfl rfl rfl d_Md_readBar_47 (fun r5 M6 => ?_)
    exact Md_readBar_L50_g hC hR F r1 r5 (M3.1 249 36) M6
  · refine g_iconst hC d_Md_readBar_33 k_i0 ?_
    refine g_goto (tgt := 50) hC d_Md_readBar_34 (by decide) ?_
    exact Md_readBar_L50_g hC hR F r1 0 (M3.1 249 36) M3
