theorem kb_b6 : (Int8.ofInt 6).toInt32 = 6 := by decide
theorem kb_b7 : (Int8.ofInt 7).toInt32 = 7 := by decide
theorem kb_b8 : (Int8.ofInt 8).toInt32 = 8 := by decide
theorem kb_b9 : (Int8.ofInt 9).toInt32 = 9 := by decide
theorem kb_b10 : (Int8.ofInt 10).toInt32 = 10 := by decide
theorem kb_b16 : (Int8.ofInt 16).toInt32 = 16 := by decide
theorem kb_b24 : (Int8.ofInt 24).toInt32 = 24 := by decide
theorem kb_b25 : (Int8.ofInt 25).toInt32 = 25 := by decide
theorem kb_b30 : (Int8.ofInt 30).toInt32 = 30 := by decide
theorem kb_b32 : (Int8.ofInt 32).toInt32 = 32 := by decide
theorem kb_b40 : (Int8.ofInt 40).toInt32 = 40 := by decide
theorem kb_b54 : (Int8.ofInt 54).toInt32 = 54 := by decide
theorem kb_b120 : (Int8.ofInt 120).toInt32 = 120 := by decide
theorem kb_im1 : Int32.ofInt (-1) = (-1) := by decide
theorem kb_i0 : Int32.ofInt 0 = 0 := by decide
theorem kb_i1 : Int32.ofInt 1 = 1 := by decide
theorem kb_i2 : Int32.ofInt 2 = 2 := by decide
theorem kb_i3 : Int32.ofInt 3 = 3 := by decide
theorem kb_i4 : Int32.ofInt 4 = 4 := by decide
theorem kb_i5 : Int32.ofInt 5 = 5 := by decide
theorem kb_s180 : (Int16.ofInt 180).toInt32 = 180 := by decide
theorem kb_s256 : (Int16.ofInt 256).toInt32 = 256 := by decide
theorem kb_s301 : (Int16.ofInt 301).toInt32 = 301 := by decide
theorem kb_s320 : (Int16.ofInt 320).toInt32 = 320 := by decide
theorem kb_s500 : (Int16.ofInt 500).toInt32 = 500 := by decide
theorem kb_s2970 : (Int16.ofInt 2970).toInt32 = 2970 := by decide
theorem kb_s7224 : (Int16.ofInt 7224).toInt32 = 7224 := by decide
theorem wa_I : Cond.arrayClass .int ∈ tv_tb := tv_t1 55 rfl rfl
theorem wa_B : Cond.arrayClass .byte ∈ tv_tb := tv_t2 16 rfl rfl
theorem wa_Z : Cond.arrayClass .boolean ∈ tv_tb := tv_t2 200 rfl rfl
theorem wa_L : Cond.arrayClass .long ∈ tv_tb := tv_t2 170 rfl rfl
theorem wo_Xx_3 : Cond.methodLink "TiedViews" 3 Lib.objectInit ∈ tv_tb ∧ Cond.instanceMethod Lib.objectInit ∈ tv_tb ∧ Cond.code Lib.objectInit ⟨#[0xb1]⟩ 1 none ∈ tv_tb := ⟨tv_t1 27 rfl rfl, tv_t1 28 rfl rfl, tv_t1 29 rfl rfl⟩
theorem wo_Ag_3 : Cond.methodLink "TiedViews$Agreement" 3 Lib.objectInit ∈ tv_tb ∧ Cond.instanceMethod Lib.objectInit ∈ tv_tb ∧ Cond.code Lib.objectInit ⟨#[0xb1]⟩ 1 none ∈ tv_tb := ⟨tv_t2 22 rfl rfl, tv_t1 28 rfl rfl, tv_t1 29 rfl rfl⟩
theorem wo_Bo_3 : Cond.methodLink "TiedViews$Bodies" 3 Lib.objectInit ∈ tv_tb ∧ Cond.instanceMethod Lib.objectInit ∈ tv_tb ∧ Cond.code Lib.objectInit ⟨#[0xb1]⟩ 1 none ∈ tv_tb := ⟨tv_t2 206 rfl rfl, tv_t1 28 rfl rfl, tv_t1 29 rfl rfl⟩
theorem wo_Ch_3 : Cond.methodLink "TiedViews$Choices" 3 Lib.objectInit ∈ tv_tb ∧ Cond.instanceMethod Lib.objectInit ∈ tv_tb ∧ Cond.code Lib.objectInit ⟨#[0xb1]⟩ 1 none ∈ tv_tb := ⟨tv_t2 176 rfl rfl, tv_t1 28 rfl rfl, tv_t1 29 rfl rfl⟩
theorem wo_Dr_3 : Cond.methodLink "TiedViews$Dropping" 3 Lib.objectInit ∈ tv_tb ∧ Cond.instanceMethod Lib.objectInit ∈ tv_tb ∧ Cond.code Lib.objectInit ⟨#[0xb1]⟩ 1 none ∈ tv_tb := ⟨tv_t2 88 rfl rfl, tv_t1 28 rfl rfl, tv_t1 29 rfl rfl⟩
theorem wo_Ey_3 : Cond.methodLink "TiedViews$Eye" 3 Lib.objectInit ∈ tv_tb ∧ Cond.instanceMethod Lib.objectInit ∈ tv_tb ∧ Cond.code Lib.objectInit ⟨#[0xb1]⟩ 1 none ∈ tv_tb := ⟨tv_t1 70 rfl rfl, tv_t1 28 rfl rfl, tv_t1 29 rfl rfl⟩
theorem wo_He_3 : Cond.methodLink "TiedViews$Hearsay" 3 Lib.objectInit ∈ tv_tb ∧ Cond.instanceMethod Lib.objectInit ∈ tv_tb ∧ Cond.code Lib.objectInit ⟨#[0xb1]⟩ 1 none ∈ tv_tb := ⟨tv_t2 123 rfl rfl, tv_t1 28 rfl rfl, tv_t1 29 rfl rfl⟩
theorem wo_Re_3 : Cond.methodLink "TiedViews$Reader" 3 Lib.objectInit ∈ tv_tb ∧ Cond.instanceMethod Lib.objectInit ∈ tv_tb ∧ Cond.code Lib.objectInit ⟨#[0xb1]⟩ 1 none ∈ tv_tb := ⟨tv_t1 225 rfl rfl, tv_t1 28 rfl rfl, tv_t1 29 rfl rfl⟩
theorem wo_Sh_3 : Cond.methodLink "TiedViews$Sheet" 3 Lib.objectInit ∈ tv_tb ∧ Cond.instanceMethod Lib.objectInit ∈ tv_tb ∧ Cond.code Lib.objectInit ⟨#[0xb1]⟩ 1 none ∈ tv_tb := ⟨tv_t1 39 rfl rfl, tv_t1 28 rfl rfl, tv_t1 29 rfl rfl⟩
theorem wo_St_3 : Cond.methodLink "TiedViews$Steps" 3 Lib.objectInit ∈ tv_tb ∧ Cond.instanceMethod Lib.objectInit ∈ tv_tb ∧ Cond.code Lib.objectInit ⟨#[0xb1]⟩ 1 none ∈ tv_tb := ⟨tv_t2 28 rfl rfl, tv_t1 28 rfl rfl, tv_t1 29 rfl rfl⟩
theorem wo_Ti_3 : Cond.methodLink "TiedViews$Tie" 3 Lib.objectInit ∈ tv_tb ∧ Cond.instanceMethod Lib.objectInit ∈ tv_tb ∧ Cond.code Lib.objectInit ⟨#[0xb1]⟩ 1 none ∈ tv_tb := ⟨tv_t1 125 rfl rfl, tv_t1 28 rfl rfl, tv_t1 29 rfl rfl⟩
theorem wo_To_3 : Cond.methodLink "TiedViews$Told" 3 Lib.objectInit ∈ tv_tb ∧ Cond.instanceMethod Lib.objectInit ∈ tv_tb ∧ Cond.code Lib.objectInit ⟨#[0xb1]⟩ 1 none ∈ tv_tb := ⟨tv_t1 61 rfl rfl, tv_t1 28 rfl rfl, tv_t1 29 rfl rfl⟩
theorem wo_Md_11 : Cond.methodLink "TiedViewsModel" 11 Lib.objectInit ∈ tv_tb ∧ Cond.instanceMethod Lib.objectInit ∈ tv_tb ∧ Cond.code Lib.objectInit ⟨#[0xb1]⟩ 1 none ∈ tv_tb := ⟨tv_t6 22 rfl rfl, tv_t1 28 rfl rfl, tv_t1 29 rfl rfl⟩
theorem wn_Xx_9 : Cond.classLink "TiedViews" 9 (tv_R1, tv_T1, 3).1 ∈ tv_tb ∧ Cond.instantiable (tv_R1, tv_T1, 3).1 (tv_R1, tv_T1, 3).2.2 ∈ tv_tb ∧ Cond.initialized (tv_R1, tv_T1, 3).1 ∈ tv_tb := ⟨tv_t1 30 rfl rfl, tv_t1 35 rfl rfl, tv_t1 2 rfl rfl⟩
theorem wn_Xx_24 : Cond.classLink "TiedViews" 24 (tv_R2, tv_T2, 14).1 ∈ tv_tb ∧ Cond.instantiable (tv_R2, tv_T2, 14).1 (tv_R2, tv_T2, 14).2.2 ∈ tv_tb ∧ Cond.initialized (tv_R2, tv_T2, 14).1 ∈ tv_tb := ⟨tv_t1 56 rfl rfl, tv_t1 57 rfl rfl, tv_t1 3 rfl rfl⟩
theorem wn_Xx_33 : Cond.classLink "TiedViews" 33 (tv_R5, tv_T5, 9).1 ∈ tv_tb ∧ Cond.instantiable (tv_R5, tv_T5, 9).1 (tv_R5, tv_T5, 9).2.2 ∈ tv_tb ∧ Cond.initialized (tv_R5, tv_T5, 9).1 ∈ tv_tb := ⟨tv_t1 220 rfl rfl, tv_t1 221 rfl rfl, tv_t1 6 rfl rfl⟩
theorem wn_Xx_42 : Cond.classLink "TiedViews" 42 (tv_R6, tv_T6, 5).1 ∈ tv_tb ∧ Cond.instantiable (tv_R6, tv_T6, 5).1 (tv_R6, tv_T6, 5).2.2 ∈ tv_tb ∧ Cond.initialized (tv_R6, tv_T6, 5).1 ∈ tv_tb := ⟨tv_t2 17 rfl rfl, tv_t2 18 rfl rfl, tv_t1 7 rfl rfl⟩
theorem wn_Xx_49 : Cond.classLink "TiedViews" 49 (tv_R8, tv_T8, 9).1 ∈ tv_tb ∧ Cond.instantiable (tv_R8, tv_T8, 9).1 (tv_R8, tv_T8, 9).2.2 ∈ tv_tb ∧ Cond.initialized (tv_R8, tv_T8, 9).1 ∈ tv_tb := ⟨tv_t2 83 rfl rfl, tv_t2 84 rfl rfl, tv_t1 9 rfl rfl⟩
theorem wn_Xx_58 : Cond.classLink "TiedViews" 58 (tv_R9, tv_T9, 13).1 ∈ tv_tb ∧ Cond.instantiable (tv_R9, tv_T9, 13).1 (tv_R9, tv_T9, 13).2.2 ∈ tv_tb ∧ Cond.initialized (tv_R9, tv_T9, 13).1 ∈ tv_tb := ⟨tv_t2 118 rfl rfl, tv_t2 119 rfl rfl, tv_t1 10 rfl rfl⟩
theorem wn_Xx_65 : Cond.classLink "TiedViews" 65 (tv_R10, tv_T10, 7).1 ∈ tv_tb ∧ Cond.instantiable (tv_R10, tv_T10, 7).1 (tv_R10, tv_T10, 7).2.2 ∈ tv_tb ∧ Cond.initialized (tv_R10, tv_T10, 7).1 ∈ tv_tb := ⟨tv_t2 171 rfl rfl, tv_t2 172 rfl rfl, tv_t1 12 rfl rfl⟩
theorem wn_Xx_72 : Cond.classLink "TiedViews" 72 (tv_R11, tv_T11, 3).1 ∈ tv_tb ∧ Cond.instantiable (tv_R11, tv_T11, 3).1 (tv_R11, tv_T11, 3).2.2 ∈ tv_tb ∧ Cond.initialized (tv_R11, tv_T11, 3).1 ∈ tv_tb := ⟨tv_t2 201 rfl rfl, tv_t2 202 rfl rfl, tv_t1 13 rfl rfl⟩
theorem wn_Ag_15 : Cond.classLink "TiedViews$Agreement" 15 (tv_R7, tv_T7, 11).1 ∈ tv_tb ∧ Cond.instantiable (tv_R7, tv_T7, 11).1 (tv_R7, tv_T7, 11).2.2 ∈ tv_tb ∧ Cond.initialized (tv_R7, tv_T7, 11).1 ∈ tv_tb := ⟨tv_t2 23 rfl rfl, tv_t2 24 rfl rfl, tv_t1 8 rfl rfl⟩
theorem wn_To_9 : Cond.classLink "TiedViews$Told" 9 (tv_R3, tv_T3, 7).1 ∈ tv_tb ∧ Cond.instantiable (tv_R3, tv_T3, 7).1 (tv_R3, tv_T3, 7).2.2 ∈ tv_tb ∧ Cond.initialized (tv_R3, tv_T3, 7).1 ∈ tv_tb := ⟨tv_t1 62 rfl rfl, tv_t1 66 rfl rfl, tv_t1 4 rfl rfl⟩
theorem wn_To_17 : Cond.classLink "TiedViews$Told" 17 (tv_R4, tv_T4, 5).1 ∈ tv_tb ∧ Cond.instantiable (tv_R4, tv_T4, 5).1 (tv_R4, tv_T4, 5).2.2 ∈ tv_tb ∧ Cond.initialized (tv_R4, tv_T4, 5).1 ∈ tv_tb := ⟨tv_t1 64 rfl rfl, tv_t1 121 rfl rfl, tv_t1 5 rfl rfl⟩
theorem wq_Xx_9 : Cond.classLink "TiedViews" 9 "TiedViews$Sheet" ∈ tv_tb := tv_t1 30 rfl rfl
theorem wq_To_9 : Cond.classLink "TiedViews$Told" 9 "TiedViews$Eye" ∈ tv_tb := tv_t1 62 rfl rfl
theorem wq_To_17 : Cond.classLink "TiedViews$Told" 17 "TiedViews$Tie" ∈ tv_tb := tv_t1 64 rfl rfl
theorem wm_Ch_9 : Cond.classLink "TiedViews$Choices" 9 "[[I" ∈ tv_tb ∧ Cond.arrayClass .int ∈ tv_tb := ⟨tv_t2 177 rfl rfl, wa_I⟩
theorem wm_Dr_9 : Cond.classLink "TiedViews$Dropping" 9 "[[I" ∈ tv_tb ∧ Cond.arrayClass .int ∈ tv_tb := ⟨tv_t2 89 rfl rfl, wa_I⟩
theorem wm_St_25 : Cond.classLink "TiedViews$Steps" 25 "[[I" ∈ tv_tb ∧ Cond.arrayClass .int ∈ tv_tb := ⟨tv_t2 29 rfl rfl, wa_I⟩
section TBX
variable {β : Type} {κ : tv_Kt} {cc : ByteArray} {nL d pc k p : Nat} {Q : β → tb_M → State → Prop} {ls : List (Option Value)} {st : List Value} {M : tb_M} {o : Option (β × tb_M)} {x : Int32}
theorem hg_Xx_11 {f : Nat → Option (β × tb_M)} (hC : tb_Cx κ "TiedViews" cc nL d) (hd : decode cc pc = .ok (.getfield 11, 3)) (kk : ∀ p, tb_G κ nL Q (pc + 3) ls (.ref (κ.b + p) :: st) M (f p)) : tb_G κ nL Q pc ls (.ref (κ.b + k) :: st) M (tb_gp M k 0 1 f) := b_if (fun hc => b_nn (fun p hp => b_getP hC 0 1 hc rfl rfl rfl (tv_t2 218 rfl rfl) hd hp (kk p)))
theorem hp_Xx_11 {f : tb_M → Option (β × tb_M)} (hC : tb_Cx κ "TiedViews" cc nL d) (hI : κ.2.2.2.2.2.2.2.2.1.name = "<init>") (hd : decode cc pc = .ok (.putfield 11, 3)) (kk : ∀ M1, tb_G κ nL Q (pc + 3) ls st M1 (f M1)) : tb_G κ nL Q pc ls (.ref (κ.b + p) :: .ref (κ.b + k) :: st) M (tb_pp M k 0 1 p f) := b_if (fun hc => b_putP hC hI 0 1 hc rfl rfl rfl (tv_t2 218 rfl rfl) rfl rfl rfl rfl rfl hd (kk _))
theorem hg_Xx_19 {f : Int32 → Option (β × tb_M)} (hC : tb_Cx κ "TiedViews" cc nL d) (hd : decode cc pc = .ok (.getfield 19, 3)) (kk : ∀ x, tb_G κ nL Q (pc + 3) ls (.int x :: st) M (f x)) : tb_G κ nL Q pc ls (.ref (κ.b + k) :: st) M (tb_gi M k 0 0 f) := b_if (fun hc => b_getI hC 0 0 hc rfl rfl rfl (tv_t2 217 rfl rfl) hd (kk _))
theorem hp_Xx_19 {f : tb_M → Option (β × tb_M)} (hC : tb_Cx κ "TiedViews" cc nL d) (hI : κ.2.2.2.2.2.2.2.2.1.name = "<init>") (hd : decode cc pc = .ok (.putfield 19, 3)) (kk : ∀ M1, tb_G κ nL Q (pc + 3) ls st M1 (f M1)) : tb_G κ nL Q pc ls (.int x :: .ref (κ.b + k) :: st) M (tb_pi M k 0 0 x f) := b_if (fun hc => b_putF hC hI 0 0 hc rfl rfl rfl (tv_t2 217 rfl rfl) rfl rfl rfl hd (kk _))
theorem hg_Xx_29 {f : Nat → Option (β × tb_M)} (hC : tb_Cx κ "TiedViews" cc nL d) (hd : decode cc pc = .ok (.getfield 29, 3)) (kk : ∀ p, tb_G κ nL Q (pc + 3) ls (.ref (κ.b + p) :: st) M (f p)) : tb_G κ nL Q pc ls (.ref (κ.b + k) :: st) M (tb_gp M k 0 2 f) := b_if (fun hc => b_nn (fun p hp => b_getP hC 0 2 hc rfl rfl rfl (tv_t2 219 rfl rfl) hd hp (kk p)))
theorem hp_Xx_29 {f : tb_M → Option (β × tb_M)} (hC : tb_Cx κ "TiedViews" cc nL d) (hI : κ.2.2.2.2.2.2.2.2.1.name = "<init>") (hd : decode cc pc = .ok (.putfield 29, 3)) (kk : ∀ M1, tb_G κ nL Q (pc + 3) ls st M1 (f M1)) : tb_G κ nL Q pc ls (.ref (κ.b + p) :: .ref (κ.b + k) :: st) M (tb_pp M k 0 2 p f) := b_if (fun hc => b_putP hC hI 0 2 hc rfl rfl rfl (tv_t2 219 rfl rfl) rfl rfl rfl rfl rfl hd (kk _))
theorem hp_Xx_38 {f : tb_M → Option (β × tb_M)} (hC : tb_Cx κ "TiedViews" cc nL d) (hI : κ.2.2.2.2.2.2.2.2.1.name = "<init>") (hd : decode cc pc = .ok (.putfield 38, 3)) (kk : ∀ M1, tb_G κ nL Q (pc + 3) ls st M1 (f M1)) : tb_G κ nL Q pc ls (.ref (κ.b + p) :: .ref (κ.b + k) :: st) M (tb_pp M k 0 3 p f) := b_if (fun hc => b_putP hC hI 0 3 hc rfl rfl rfl (tv_t2 220 rfl rfl) rfl rfl rfl rfl rfl hd (kk _))
theorem hg_Xx_45 {f : Nat → Option (β × tb_M)} (hC : tb_Cx κ "TiedViews" cc nL d) (hd : decode cc pc = .ok (.getfield 45, 3)) (kk : ∀ p, tb_G κ nL Q (pc + 3) ls (.ref (κ.b + p) :: st) M (f p)) : tb_G κ nL Q pc ls (.ref (κ.b + k) :: st) M (tb_gp M k 0 4 f) := b_if (fun hc => b_nn (fun p hp => b_getP hC 0 4 hc rfl rfl rfl (tv_t2 221 rfl rfl) hd hp (kk p)))
theorem hp_Xx_45 {f : tb_M → Option (β × tb_M)} (hC : tb_Cx κ "TiedViews" cc nL d) (hI : κ.2.2.2.2.2.2.2.2.1.name = "<init>") (hd : decode cc pc = .ok (.putfield 45, 3)) (kk : ∀ M1, tb_G κ nL Q (pc + 3) ls st M1 (f M1)) : tb_G κ nL Q pc ls (.ref (κ.b + p) :: .ref (κ.b + k) :: st) M (tb_pp M k 0 4 p f) := b_if (fun hc => b_putP hC hI 0 4 hc rfl rfl rfl (tv_t2 221 rfl rfl) rfl rfl rfl rfl rfl hd (kk _))
theorem hp_Xx_54 {f : tb_M → Option (β × tb_M)} (hC : tb_Cx κ "TiedViews" cc nL d) (hI : κ.2.2.2.2.2.2.2.2.1.name = "<init>") (hd : decode cc pc = .ok (.putfield 54, 3)) (kk : ∀ M1, tb_G κ nL Q (pc + 3) ls st M1 (f M1)) : tb_G κ nL Q pc ls (.ref (κ.b + p) :: .ref (κ.b + k) :: st) M (tb_pp M k 0 5 p f) := b_if (fun hc => b_putP hC hI 0 5 hc rfl rfl rfl (tv_t2 222 rfl rfl) rfl rfl rfl rfl rfl hd (kk _))
theorem hp_Xx_61 {f : tb_M → Option (β × tb_M)} (hC : tb_Cx κ "TiedViews" cc nL d) (hI : κ.2.2.2.2.2.2.2.2.1.name = "<init>") (hd : decode cc pc = .ok (.putfield 61, 3)) (kk : ∀ M1, tb_G κ nL Q (pc + 3) ls st M1 (f M1)) : tb_G κ nL Q pc ls (.ref (κ.b + p) :: .ref (κ.b + k) :: st) M (tb_pp M k 0 6 p f) := b_if (fun hc => b_putP hC hI 0 6 hc rfl rfl rfl (tv_t2 223 rfl rfl) rfl rfl rfl rfl rfl hd (kk _))
theorem hp_Xx_68 {f : tb_M → Option (β × tb_M)} (hC : tb_Cx κ "TiedViews" cc nL d) (hI : κ.2.2.2.2.2.2.2.2.1.name = "<init>") (hd : decode cc pc = .ok (.putfield 68, 3)) (kk : ∀ M1, tb_G κ nL Q (pc + 3) ls st M1 (f M1)) : tb_G κ nL Q pc ls (.ref (κ.b + p) :: .ref (κ.b + k) :: st) M (tb_pp M k 0 7 p f) := b_if (fun hc => b_putP hC hI 0 7 hc rfl rfl rfl (tv_t2 224 rfl rfl) rfl rfl rfl rfl rfl hd (kk _))
theorem hp_Xx_75 {f : tb_M → Option (β × tb_M)} (hC : tb_Cx κ "TiedViews" cc nL d) (hI : κ.2.2.2.2.2.2.2.2.1.name = "<init>") (hd : decode cc pc = .ok (.putfield 75, 3)) (kk : ∀ M1, tb_G κ nL Q (pc + 3) ls st M1 (f M1)) : tb_G κ nL Q pc ls (.ref (κ.b + p) :: .ref (κ.b + k) :: st) M (tb_pp M k 0 8 p f) := b_if (fun hc => b_putP hC hI 0 8 hc rfl rfl rfl (tv_t2 225 rfl rfl) rfl rfl rfl rfl rfl hd (kk _))
theorem hp_Ag_9 {f : tb_M → Option (β × tb_M)} (hC : tb_Cx κ "TiedViews$Agreement" cc nL d) (hI : κ.2.2.2.2.2.2.2.2.1.name = "<init>") (hd : decode cc pc = .ok (.putfield 9, 3)) (kk : ∀ M1, tb_G κ nL Q (pc + 3) ls st M1 (f M1)) : tb_G κ nL Q pc ls (.ref (κ.b + p) :: .ref (κ.b + k) :: st) M (tb_pp M k 6 0 p f) := b_if (fun hc => b_putP hC hI 6 0 hc rfl rfl rfl (tv_t2 67 rfl rfl) rfl rfl rfl rfl rfl hd (kk _))
theorem hg_Ag_17 {f : Int32 → Option (β × tb_M)} (hC : tb_Cx κ "TiedViews$Agreement" cc nL d) (hd : decode cc pc = .ok (.getfield 17, 3)) (kk : ∀ x, tb_G κ nL Q (pc + 3) ls (.int x :: st) M (f x)) : tb_G κ nL Q pc ls (.ref (κ.b + k) :: st) M (tb_gi M k 2 0 f) := b_if (fun hc => b_getI hC 2 0 hc rfl rfl rfl (tv_t1 151 rfl rfl) hd (kk _))
theorem hp_Ag_26 {f : tb_M → Option (β × tb_M)} (hC : tb_Cx κ "TiedViews$Agreement" cc nL d) (hI : κ.2.2.2.2.2.2.2.2.1.name = "<init>") (hd : decode cc pc = .ok (.putfield 26, 3)) (kk : ∀ M1, tb_G κ nL Q (pc + 3) ls st M1 (f M1)) : tb_G κ nL Q pc ls (.ref (κ.b + p) :: .ref (κ.b + k) :: st) M (tb_pp M k 6 1 p f) := b_if (fun hc => b_putP hC hI 6 1 hc rfl rfl rfl (tv_t2 68 rfl rfl) rfl rfl rfl rfl rfl hd (kk _))
theorem hp_Ag_30 {f : tb_M → Option (β × tb_M)} (hC : tb_Cx κ "TiedViews$Agreement" cc nL d) (hI : κ.2.2.2.2.2.2.2.2.1.name = "<init>") (hd : decode cc pc = .ok (.putfield 30, 3)) (kk : ∀ M1, tb_G κ nL Q (pc + 3) ls st M1 (f M1)) : tb_G κ nL Q pc ls (.ref (κ.b + p) :: .ref (κ.b + k) :: st) M (tb_pp M k 6 2 p f) := b_if (fun hc => b_putP hC hI 6 2 hc rfl rfl rfl (tv_t2 69 rfl rfl) rfl rfl rfl rfl rfl hd (kk _))
theorem hp_Bo_11 {f : tb_M → Option (β × tb_M)} (hC : tb_Cx κ "TiedViews$Bodies" cc nL d) (hI : κ.2.2.2.2.2.2.2.2.1.name = "<init>") (hd : decode cc pc = .ok (.putfield 11, 3)) (kk : ∀ M1, tb_G κ nL Q (pc + 3) ls st M1 (f M1)) : tb_G κ nL Q pc ls (.ref (κ.b + p) :: .ref (κ.b + k) :: st) M (tb_pp M k 11 1 p f) := b_if (fun hc => b_putP hC hI 11 1 hc rfl rfl rfl (tv_t2 208 rfl rfl) rfl rfl rfl rfl rfl hd (kk _))
theorem hp_Bo_15 {f : tb_M → Option (β × tb_M)} (hC : tb_Cx κ "TiedViews$Bodies" cc nL d) (hI : κ.2.2.2.2.2.2.2.2.1.name = "<init>") (hd : decode cc pc = .ok (.putfield 15, 3)) (kk : ∀ M1, tb_G κ nL Q (pc + 3) ls st M1 (f M1)) : tb_G κ nL Q pc ls (.ref (κ.b + p) :: .ref (κ.b + k) :: st) M (tb_pp M k 11 0 p f) := b_if (fun hc => b_putP hC hI 11 0 hc rfl rfl rfl (tv_t2 207 rfl rfl) rfl rfl rfl rfl rfl hd (kk _))
theorem hp_Ch_11 {f : tb_M → Option (β × tb_M)} (hC : tb_Cx κ "TiedViews$Choices" cc nL d) (hI : κ.2.2.2.2.2.2.2.2.1.name = "<init>") (hd : decode cc pc = .ok (.putfield 11, 3)) (kk : ∀ M1, tb_G κ nL Q (pc + 3) ls st M1 (f M1)) : tb_G κ nL Q pc ls (.ref (κ.b + p) :: .ref (κ.b + k) :: st) M (tb_pp M k 10 1 p f) := b_if (fun hc => b_putP hC hI 10 1 hc rfl rfl rfl (tv_t2 179 rfl rfl) rfl rfl rfl rfl rfl hd (kk _))
theorem hp_Ch_16 {f : tb_M → Option (β × tb_M)} (hC : tb_Cx κ "TiedViews$Choices" cc nL d) (hI : κ.2.2.2.2.2.2.2.2.1.name = "<init>") (hd : decode cc pc = .ok (.putfield 16, 3)) (kk : ∀ M1, tb_G κ nL Q (pc + 3) ls st M1 (f M1)) : tb_G κ nL Q pc ls (.ref (κ.b + p) :: .ref (κ.b + k) :: st) M (tb_pp M k 10 2 p f) := b_if (fun hc => b_putP hC hI 10 2 hc rfl rfl rfl (tv_t2 180 rfl rfl) rfl rfl rfl rfl rfl hd (kk _))
theorem hp_Ch_20 {f : tb_M → Option (β × tb_M)} (hC : tb_Cx κ "TiedViews$Choices" cc nL d) (hI : κ.2.2.2.2.2.2.2.2.1.name = "<init>") (hd : decode cc pc = .ok (.putfield 20, 3)) (kk : ∀ M1, tb_G κ nL Q (pc + 3) ls st M1 (f M1)) : tb_G κ nL Q pc ls (.ref (κ.b + p) :: .ref (κ.b + k) :: st) M (tb_pp M k 10 3 p f) := b_if (fun hc => b_putP hC hI 10 3 hc rfl rfl rfl (tv_t2 181 rfl rfl) rfl rfl rfl rfl rfl hd (kk _))
theorem hp_Ch_23 {f : tb_M → Option (β × tb_M)} (hC : tb_Cx κ "TiedViews$Choices" cc nL d) (hI : κ.2.2.2.2.2.2.2.2.1.name = "<init>") (hd : decode cc pc = .ok (.putfield 23, 3)) (kk : ∀ M1, tb_G κ nL Q (pc + 3) ls st M1 (f M1)) : tb_G κ nL Q pc ls (.ref (κ.b + p) :: .ref (κ.b + k) :: st) M (tb_pp M k 10 4 p f) := b_if (fun hc => b_putP hC hI 10 4 hc rfl rfl rfl (tv_t2 182 rfl rfl) rfl rfl rfl rfl rfl hd (kk _))
theorem hp_Ch_27 {f : tb_M → Option (β × tb_M)} (hC : tb_Cx κ "TiedViews$Choices" cc nL d) (hI : κ.2.2.2.2.2.2.2.2.1.name = "<init>") (hd : decode cc pc = .ok (.putfield 27, 3)) (kk : ∀ M1, tb_G κ nL Q (pc + 3) ls st M1 (f M1)) : tb_G κ nL Q pc ls (.ref (κ.b + p) :: .ref (κ.b + k) :: st) M (tb_pp M k 10 0 p f) := b_if (fun hc => b_putP hC hI 10 0 hc rfl rfl rfl (tv_t2 178 rfl rfl) rfl rfl rfl rfl rfl hd (kk _))
theorem hp_Dr_11 {f : tb_M → Option (β × tb_M)} (hC : tb_Cx κ "TiedViews$Dropping" cc nL d) (hI : κ.2.2.2.2.2.2.2.2.1.name = "<init>") (hd : decode cc pc = .ok (.putfield 11, 3)) (kk : ∀ M1, tb_G κ nL Q (pc + 3) ls st M1 (f M1)) : tb_G κ nL Q pc ls (.ref (κ.b + p) :: .ref (κ.b + k) :: st) M (tb_pp M k 8 2 p f) := b_if (fun hc => b_putP hC hI 8 2 hc rfl rfl rfl (tv_t2 92 rfl rfl) rfl rfl rfl rfl rfl hd (kk _))
theorem hp_Dr_16 {f : tb_M → Option (β × tb_M)} (hC : tb_Cx κ "TiedViews$Dropping" cc nL d) (hI : κ.2.2.2.2.2.2.2.2.1.name = "<init>") (hd : decode cc pc = .ok (.putfield 16, 3)) (kk : ∀ M1, tb_G κ nL Q (pc + 3) ls st M1 (f M1)) : tb_G κ nL Q pc ls (.ref (κ.b + p) :: .ref (κ.b + k) :: st) M (tb_pp M k 8 3 p f) := b_if (fun hc => b_putP hC hI 8 3 hc rfl rfl rfl (tv_t2 93 rfl rfl) rfl rfl rfl rfl rfl hd (kk _))
theorem hp_Dr_20 {f : tb_M → Option (β × tb_M)} (hC : tb_Cx κ "TiedViews$Dropping" cc nL d) (hI : κ.2.2.2.2.2.2.2.2.1.name = "<init>") (hd : decode cc pc = .ok (.putfield 20, 3)) (kk : ∀ M1, tb_G κ nL Q (pc + 3) ls st M1 (f M1)) : tb_G κ nL Q pc ls (.ref (κ.b + p) :: .ref (κ.b + k) :: st) M (tb_pp M k 8 0 p f) := b_if (fun hc => b_putP hC hI 8 0 hc rfl rfl rfl (tv_t2 90 rfl rfl) rfl rfl rfl rfl rfl hd (kk _))
theorem hp_Dr_24 {f : tb_M → Option (β × tb_M)} (hC : tb_Cx κ "TiedViews$Dropping" cc nL d) (hI : κ.2.2.2.2.2.2.2.2.1.name = "<init>") (hd : decode cc pc = .ok (.putfield 24, 3)) (kk : ∀ M1, tb_G κ nL Q (pc + 3) ls st M1 (f M1)) : tb_G κ nL Q pc ls (.ref (κ.b + p) :: .ref (κ.b + k) :: st) M (tb_pp M k 8 1 p f) := b_if (fun hc => b_putP hC hI 8 1 hc rfl rfl rfl (tv_t2 91 rfl rfl) rfl rfl rfl rfl rfl hd (kk _))
theorem hp_Ey_9 {f : tb_M → Option (β × tb_M)} (hC : tb_Cx κ "TiedViews$Eye" cc nL d) (hI : κ.2.2.2.2.2.2.2.2.1.name = "<init>") (hd : decode cc pc = .ok (.putfield 9, 3)) (kk : ∀ M1, tb_G κ nL Q (pc + 3) ls st M1 (f M1)) : tb_G κ nL Q pc ls (.ref (κ.b + p) :: .ref (κ.b + k) :: st) M (tb_pp M k 3 6 p f) := b_if (fun hc => b_putP hC hI 3 6 hc rfl rfl rfl (tv_t1 103 rfl rfl) rfl rfl rfl rfl rfl hd (kk _))
theorem hp_Ey_15 {f : tb_M → Option (β × tb_M)} (hC : tb_Cx κ "TiedViews$Eye" cc nL d) (hI : κ.2.2.2.2.2.2.2.2.1.name = "<init>") (hd : decode cc pc = .ok (.putfield 15, 3)) (kk : ∀ M1, tb_G κ nL Q (pc + 3) ls st M1 (f M1)) : tb_G κ nL Q pc ls (.int x :: .ref (κ.b + k) :: st) M (tb_pi M k 3 0 x f) := b_if (fun hc => b_putF hC hI 3 0 hc rfl rfl rfl (tv_t1 71 rfl rfl) rfl rfl rfl hd (kk _))
theorem hp_He_9 {f : tb_M → Option (β × tb_M)} (hC : tb_Cx κ "TiedViews$Hearsay" cc nL d) (hI : κ.2.2.2.2.2.2.2.2.1.name = "<init>") (hd : decode cc pc = .ok (.putfield 9, 3)) (kk : ∀ M1, tb_G κ nL Q (pc + 3) ls st M1 (f M1)) : tb_G κ nL Q pc ls (.ref (κ.b + p) :: .ref (κ.b + k) :: st) M (tb_pp M k 9 1 p f) := b_if (fun hc => b_putP hC hI 9 1 hc rfl rfl rfl (tv_t2 128 rfl rfl) rfl rfl rfl rfl rfl hd (kk _))
theorem hg_He_15 {f : Nat → Option (β × tb_M)} (hC : tb_Cx κ "TiedViews$Hearsay" cc nL d) (hd : decode cc pc = .ok (.getfield 15, 3)) (kk : ∀ p, tb_G κ nL Q (pc + 3) ls (.ref (κ.b + p) :: st) M (f p)) : tb_G κ nL Q pc ls (.ref (κ.b + k) :: st) M (tb_gp M k 9 2 f) := b_if (fun hc => b_nn (fun p hp => b_getP hC 9 2 hc rfl rfl rfl (tv_t2 129 rfl rfl) hd hp (kk p)))
theorem hp_He_15 {f : tb_M → Option (β × tb_M)} (hC : tb_Cx κ "TiedViews$Hearsay" cc nL d) (hI : κ.2.2.2.2.2.2.2.2.1.name = "<init>") (hd : decode cc pc = .ok (.putfield 15, 3)) (kk : ∀ M1, tb_G κ nL Q (pc + 3) ls st M1 (f M1)) : tb_G κ nL Q pc ls (.ref (κ.b + p) :: .ref (κ.b + k) :: st) M (tb_pp M k 9 2 p f) := b_if (fun hc => b_putP hC hI 9 2 hc rfl rfl rfl (tv_t2 129 rfl rfl) rfl rfl rfl rfl rfl hd (kk _))
theorem hp_He_18 {f : tb_M → Option (β × tb_M)} (hC : tb_Cx κ "TiedViews$Hearsay" cc nL d) (hI : κ.2.2.2.2.2.2.2.2.1.name = "<init>") (hd : decode cc pc = .ok (.putfield 18, 3)) (kk : ∀ M1, tb_G κ nL Q (pc + 3) ls st M1 (f M1)) : tb_G κ nL Q pc ls (.ref (κ.b + p) :: .ref (κ.b + k) :: st) M (tb_pp M k 9 4 p f) := b_if (fun hc => b_putP hC hI 9 4 hc rfl rfl rfl (tv_t2 132 rfl rfl) rfl rfl rfl rfl rfl hd (kk _))
theorem hp_He_21 {f : tb_M → Option (β × tb_M)} (hC : tb_Cx κ "TiedViews$Hearsay" cc nL d) (hI : κ.2.2.2.2.2.2.2.2.1.name = "<init>") (hd : decode cc pc = .ok (.putfield 21, 3)) (kk : ∀ M1, tb_G κ nL Q (pc + 3) ls st M1 (f M1)) : tb_G κ nL Q pc ls (.ref (κ.b + p) :: .ref (κ.b + k) :: st) M (tb_pp M k 9 5 p f) := b_if (fun hc => b_putP hC hI 9 5 hc rfl rfl rfl (tv_t2 133 rfl rfl) rfl rfl rfl rfl rfl hd (kk _))
theorem hp_He_24 {f : tb_M → Option (β × tb_M)} (hC : tb_Cx κ "TiedViews$Hearsay" cc nL d) (hI : κ.2.2.2.2.2.2.2.2.1.name = "<init>") (hd : decode cc pc = .ok (.putfield 24, 3)) (kk : ∀ M1, tb_G κ nL Q (pc + 3) ls st M1 (f M1)) : tb_G κ nL Q pc ls (.ref (κ.b + p) :: .ref (κ.b + k) :: st) M (tb_pp M k 9 6 p f) := b_if (fun hc => b_putP hC hI 9 6 hc rfl rfl rfl (tv_t2 134 rfl rfl) rfl rfl rfl rfl rfl hd (kk _))
theorem hp_He_27 {f : tb_M → Option (β × tb_M)} (hC : tb_Cx κ "TiedViews$Hearsay" cc nL d) (hI : κ.2.2.2.2.2.2.2.2.1.name = "<init>") (hd : decode cc pc = .ok (.putfield 27, 3)) (kk : ∀ M1, tb_G κ nL Q (pc + 3) ls st M1 (f M1)) : tb_G κ nL Q pc ls (.ref (κ.b + p) :: .ref (κ.b + k) :: st) M (tb_pp M k 9 7 p f) := b_if (fun hc => b_putP hC hI 9 7 hc rfl rfl rfl (tv_t2 135 rfl rfl) rfl rfl rfl rfl rfl hd (kk _))
theorem hp_He_31 {f : tb_M → Option (β × tb_M)} (hC : tb_Cx κ "TiedViews$Hearsay" cc nL d) (hI : κ.2.2.2.2.2.2.2.2.1.name = "<init>") (hd : decode cc pc = .ok (.putfield 31, 3)) (kk : ∀ M1, tb_G κ nL Q (pc + 3) ls st M1 (f M1)) : tb_G κ nL Q pc ls (.ref (κ.b + p) :: .ref (κ.b + k) :: st) M (tb_pp M k 9 8 p f) := b_if (fun hc => b_putP hC hI 9 8 hc rfl rfl rfl (tv_t2 136 rfl rfl) rfl rfl rfl rfl rfl hd (kk _))
theorem hp_He_34 {f : tb_M → Option (β × tb_M)} (hC : tb_Cx κ "TiedViews$Hearsay" cc nL d) (hI : κ.2.2.2.2.2.2.2.2.1.name = "<init>") (hd : decode cc pc = .ok (.putfield 34, 3)) (kk : ∀ M1, tb_G κ nL Q (pc + 3) ls st M1 (f M1)) : tb_G κ nL Q pc ls (.ref (κ.b + p) :: .ref (κ.b + k) :: st) M (tb_pp M k 9 0 p f) := b_if (fun hc => b_putP hC hI 9 0 hc rfl rfl rfl (tv_t2 127 rfl rfl) rfl rfl rfl rfl rfl hd (kk _))
theorem hp_Re_9 {f : tb_M → Option (β × tb_M)} (hC : tb_Cx κ "TiedViews$Reader" cc nL d) (hI : κ.2.2.2.2.2.2.2.2.1.name = "<init>") (hd : decode cc pc = .ok (.putfield 9, 3)) (kk : ∀ M1, tb_G κ nL Q (pc + 3) ls st M1 (f M1)) : tb_G κ nL Q pc ls (.ref (κ.b + p) :: .ref (κ.b + k) :: st) M (tb_pp M k 5 1 p f) := b_if (fun hc => b_putP hC hI 5 1 hc rfl rfl rfl (tv_t1 227 rfl rfl) rfl rfl rfl rfl rfl hd (kk _))
theorem hp_Re_15 {f : tb_M → Option (β × tb_M)} (hC : tb_Cx κ "TiedViews$Reader" cc nL d) (hI : κ.2.2.2.2.2.2.2.2.1.name = "<init>") (hd : decode cc pc = .ok (.putfield 15, 3)) (kk : ∀ M1, tb_G κ nL Q (pc + 3) ls st M1 (f M1)) : tb_G κ nL Q pc ls (.ref (κ.b + p) :: .ref (κ.b + k) :: st) M (tb_pp M k 5 0 p f) := b_if (fun hc => b_putP hC hI 5 0 hc rfl rfl rfl (tv_t1 226 rfl rfl) rfl rfl rfl rfl rfl hd (kk _))
theorem hp_Sh_11 {f : tb_M → Option (β × tb_M)} (hC : tb_Cx κ "TiedViews$Sheet" cc nL d) (_ : κ.2.2.2.2.2.2.2.2.1.name = "<init>") (hd : decode cc pc = .ok (.putfield 11, 3)) (kk : ∀ M1, tb_G κ nL Q (pc + 3) ls st M1 (f M1)) : tb_G κ nL Q pc ls (.int x :: .ref (κ.b + k) :: st) M (tb_pi M k 1 0 x f) := b_if (fun hc => b_putI hC 1 0 hc rfl rfl rfl (tv_t1 40 rfl rfl) rfl rfl hd (kk _))
theorem hp_Sh_15 {f : tb_M → Option (β × tb_M)} (hC : tb_Cx κ "TiedViews$Sheet" cc nL d) (hI : κ.2.2.2.2.2.2.2.2.1.name = "<init>") (hd : decode cc pc = .ok (.putfield 15, 3)) (kk : ∀ M1, tb_G κ nL Q (pc + 3) ls st M1 (f M1)) : tb_G κ nL Q pc ls (.ref (κ.b + p) :: .ref (κ.b + k) :: st) M (tb_pp M k 1 2 p f) := b_if (fun hc => b_putP hC hI 1 2 hc rfl rfl rfl (tv_t1 44 rfl rfl) rfl rfl rfl rfl rfl hd (kk _))
theorem hp_St_9 {f : tb_M → Option (β × tb_M)} (hC : tb_Cx κ "TiedViews$Steps" cc nL d) (hI : κ.2.2.2.2.2.2.2.2.1.name = "<init>") (hd : decode cc pc = .ok (.putfield 9, 3)) (kk : ∀ M1, tb_G κ nL Q (pc + 3) ls st M1 (f M1)) : tb_G κ nL Q pc ls (.ref (κ.b + p) :: .ref (κ.b + k) :: st) M (tb_pp M k 7 3 p f) := b_if (fun hc => b_putP hC hI 7 3 hc rfl rfl rfl (tv_t2 34 rfl rfl) rfl rfl rfl rfl rfl hd (kk _))
theorem hp_St_15 {f : tb_M → Option (β × tb_M)} (hC : tb_Cx κ "TiedViews$Steps" cc nL d) (hI : κ.2.2.2.2.2.2.2.2.1.name = "<init>") (hd : decode cc pc = .ok (.putfield 15, 3)) (kk : ∀ M1, tb_G κ nL Q (pc + 3) ls st M1 (f M1)) : tb_G κ nL Q pc ls (.ref (κ.b + p) :: .ref (κ.b + k) :: st) M (tb_pp M k 7 4 p f) := b_if (fun hc => b_putP hC hI 7 4 hc rfl rfl rfl (tv_t2 35 rfl rfl) rfl rfl rfl rfl rfl hd (kk _))
theorem hp_St_18 {f : tb_M → Option (β × tb_M)} (hC : tb_Cx κ "TiedViews$Steps" cc nL d) (hI : κ.2.2.2.2.2.2.2.2.1.name = "<init>") (hd : decode cc pc = .ok (.putfield 18, 3)) (kk : ∀ M1, tb_G κ nL Q (pc + 3) ls st M1 (f M1)) : tb_G κ nL Q pc ls (.int x :: .ref (κ.b + k) :: st) M (tb_pi M k 7 0 x f) := b_if (fun hc => b_putF hC hI 7 0 hc rfl rfl rfl (tv_t2 31 rfl rfl) rfl rfl rfl hd (kk _))
theorem hp_St_22 {f : tb_M → Option (β × tb_M)} (hC : tb_Cx κ "TiedViews$Steps" cc nL d) (hI : κ.2.2.2.2.2.2.2.2.1.name = "<init>") (hd : decode cc pc = .ok (.putfield 22, 3)) (kk : ∀ M1, tb_G κ nL Q (pc + 3) ls st M1 (f M1)) : tb_G κ nL Q pc ls (.int x :: .ref (κ.b + k) :: st) M (tb_pi M k 7 1 x f) := b_if (fun hc => b_putF hC hI 7 1 hc rfl rfl rfl (tv_t2 32 rfl rfl) rfl rfl rfl hd (kk _))
theorem hp_St_27 {f : tb_M → Option (β × tb_M)} (hC : tb_Cx κ "TiedViews$Steps" cc nL d) (hI : κ.2.2.2.2.2.2.2.2.1.name = "<init>") (hd : decode cc pc = .ok (.putfield 27, 3)) (kk : ∀ M1, tb_G κ nL Q (pc + 3) ls st M1 (f M1)) : tb_G κ nL Q pc ls (.ref (κ.b + p) :: .ref (κ.b + k) :: st) M (tb_pp M k 7 2 p f) := b_if (fun hc => b_putP hC hI 7 2 hc rfl rfl rfl (tv_t2 33 rfl rfl) rfl rfl rfl rfl rfl hd (kk _))
theorem hp_St_30 {f : tb_M → Option (β × tb_M)} (hC : tb_Cx κ "TiedViews$Steps" cc nL d) (hI : κ.2.2.2.2.2.2.2.2.1.name = "<init>") (hd : decode cc pc = .ok (.putfield 30, 3)) (kk : ∀ M1, tb_G κ nL Q (pc + 3) ls st M1 (f M1)) : tb_G κ nL Q pc ls (.ref (κ.b + p) :: .ref (κ.b + k) :: st) M (tb_pp M k 7 5 p f) := b_if (fun hc => b_putP hC hI 7 5 hc rfl rfl rfl (tv_t2 36 rfl rfl) rfl rfl rfl rfl rfl hd (kk _))
theorem hp_Ti_9 {f : tb_M → Option (β × tb_M)} (hC : tb_Cx κ "TiedViews$Tie" cc nL d) (hI : κ.2.2.2.2.2.2.2.2.1.name = "<init>") (hd : decode cc pc = .ok (.putfield 9, 3)) (kk : ∀ M1, tb_G κ nL Q (pc + 3) ls st M1 (f M1)) : tb_G κ nL Q pc ls (.ref (κ.b + p) :: .ref (κ.b + k) :: st) M (tb_pp M k 4 3 p f) := b_if (fun hc => b_putP hC hI 4 3 hc rfl rfl rfl (tv_t1 136 rfl rfl) rfl rfl rfl rfl rfl hd (kk _))
theorem hp_Ti_15 {f : tb_M → Option (β × tb_M)} (hC : tb_Cx κ "TiedViews$Tie" cc nL d) (hI : κ.2.2.2.2.2.2.2.2.1.name = "<init>") (hd : decode cc pc = .ok (.putfield 15, 3)) (kk : ∀ M1, tb_G κ nL Q (pc + 3) ls st M1 (f M1)) : tb_G κ nL Q pc ls (.ref (κ.b + p) :: .ref (κ.b + k) :: st) M (tb_pp M k 4 4 p f) := b_if (fun hc => b_putP hC hI 4 4 hc rfl rfl rfl (tv_t1 138 rfl rfl) rfl rfl rfl rfl rfl hd (kk _))
theorem hg_To_11 {f : Nat → Option (β × tb_M)} (hC : tb_Cx κ "TiedViews$Told" cc nL d) (hd : decode cc pc = .ok (.getfield 11, 3)) (kk : ∀ p, tb_G κ nL Q (pc + 3) ls (.ref (κ.b + p) :: st) M (f p)) : tb_G κ nL Q pc ls (.ref (κ.b + k) :: st) M (tb_gp M k 2 1 f) := b_if (fun hc => b_nn (fun p hp => b_getP hC 2 1 hc rfl rfl rfl (tv_t1 157 rfl rfl) hd hp (kk p)))
theorem hp_To_11 {f : tb_M → Option (β × tb_M)} (hC : tb_Cx κ "TiedViews$Told" cc nL d) (hI : κ.2.2.2.2.2.2.2.2.1.name = "<init>") (hd : decode cc pc = .ok (.putfield 11, 3)) (kk : ∀ M1, tb_G κ nL Q (pc + 3) ls st M1 (f M1)) : tb_G κ nL Q pc ls (.ref (κ.b + p) :: .ref (κ.b + k) :: st) M (tb_pp M k 2 1 p f) := b_if (fun hc => b_putP hC hI 2 1 hc rfl rfl rfl (tv_t1 157 rfl rfl) rfl rfl rfl rfl rfl hd (kk _))
theorem hg_To_19 {f : Nat → Option (β × tb_M)} (hC : tb_Cx κ "TiedViews$Told" cc nL d) (hd : decode cc pc = .ok (.getfield 19, 3)) (kk : ∀ p, tb_G κ nL Q (pc + 3) ls (.ref (κ.b + p) :: st) M (f p)) : tb_G κ nL Q pc ls (.ref (κ.b + k) :: st) M (tb_gp M k 2 2 f) := b_if (fun hc => b_nn (fun p hp => b_getP hC 2 2 hc rfl rfl rfl (tv_t1 161 rfl rfl) hd hp (kk p)))
theorem hp_To_19 {f : tb_M → Option (β × tb_M)} (hC : tb_Cx κ "TiedViews$Told" cc nL d) (hI : κ.2.2.2.2.2.2.2.2.1.name = "<init>") (hd : decode cc pc = .ok (.putfield 19, 3)) (kk : ∀ M1, tb_G κ nL Q (pc + 3) ls st M1 (f M1)) : tb_G κ nL Q pc ls (.ref (κ.b + p) :: .ref (κ.b + k) :: st) M (tb_pp M k 2 2 p f) := b_if (fun hc => b_putP hC hI 2 2 hc rfl rfl rfl (tv_t1 161 rfl rfl) rfl rfl rfl rfl rfl hd (kk _))
theorem hp_To_23 {f : tb_M → Option (β × tb_M)} (hC : tb_Cx κ "TiedViews$Told" cc nL d) (hI : κ.2.2.2.2.2.2.2.2.1.name = "<init>") (hd : decode cc pc = .ok (.putfield 23, 3)) (kk : ∀ M1, tb_G κ nL Q (pc + 3) ls st M1 (f M1)) : tb_G κ nL Q pc ls (.ref (κ.b + p) :: .ref (κ.b + k) :: st) M (tb_pp M k 2 3 p f) := b_if (fun hc => b_putP hC hI 2 3 hc rfl rfl rfl (tv_t1 163 rfl rfl) rfl rfl rfl rfl rfl hd (kk _))
theorem hp_To_27 {f : tb_M → Option (β × tb_M)} (hC : tb_Cx κ "TiedViews$Told" cc nL d) (hI : κ.2.2.2.2.2.2.2.2.1.name = "<init>") (hd : decode cc pc = .ok (.putfield 27, 3)) (kk : ∀ M1, tb_G κ nL Q (pc + 3) ls st M1 (f M1)) : tb_G κ nL Q pc ls (.int x :: .ref (κ.b + k) :: st) M (tb_pi M k 2 0 x f) := b_if (fun hc => b_putF hC hI 2 0 hc rfl rfl rfl (tv_t1 152 rfl rfl) rfl rfl rfl hd (kk _))
theorem hp_Md_17 {f : tb_M → Option (β × tb_M)} (hC : tb_Cx κ "TiedViewsModel" cc nL d) (hI : κ.2.2.2.2.2.2.2.2.1.name = "<init>") (hd : decode cc pc = .ok (.putfield 17, 3)) (kk : ∀ M1, tb_G κ nL Q (pc + 3) ls st M1 (f M1)) : tb_G κ nL Q pc ls (.ref (κ.b + p) :: .ref (κ.b + k) :: st) M (tb_pp M k 12 3 p f) := b_if (fun hc => b_putP hC hI 12 3 hc rfl rfl rfl (tv_t6 26 rfl rfl) rfl rfl rfl rfl rfl hd (kk _))
theorem hp_Md_21 {f : tb_M → Option (β × tb_M)} (hC : tb_Cx κ "TiedViewsModel" cc nL d) (hI : κ.2.2.2.2.2.2.2.2.1.name = "<init>") (hd : decode cc pc = .ok (.putfield 21, 3)) (kk : ∀ M1, tb_G κ nL Q (pc + 3) ls st M1 (f M1)) : tb_G κ nL Q pc ls (.ref (κ.b + p) :: .ref (κ.b + k) :: st) M (tb_pp M k 12 4 p f) := b_if (fun hc => b_putP hC hI 12 4 hc rfl rfl rfl (tv_t6 27 rfl rfl) rfl rfl rfl rfl rfl hd (kk _))
theorem hp_Md_24 {f : tb_M → Option (β × tb_M)} (hC : tb_Cx κ "TiedViewsModel" cc nL d) (hI : κ.2.2.2.2.2.2.2.2.1.name = "<init>") (hd : decode cc pc = .ok (.putfield 24, 3)) (kk : ∀ M1, tb_G κ nL Q (pc + 3) ls st M1 (f M1)) : tb_G κ nL Q pc ls (.ref (κ.b + p) :: .ref (κ.b + k) :: st) M (tb_pp M k 12 5 p f) := b_if (fun hc => b_putP hC hI 12 5 hc rfl rfl rfl (tv_t6 28 rfl rfl) rfl rfl rfl rfl rfl hd (kk _))
theorem hp_Md_27 {f : tb_M → Option (β × tb_M)} (hC : tb_Cx κ "TiedViewsModel" cc nL d) (hI : κ.2.2.2.2.2.2.2.2.1.name = "<init>") (hd : decode cc pc = .ok (.putfield 27, 3)) (kk : ∀ M1, tb_G κ nL Q (pc + 3) ls st M1 (f M1)) : tb_G κ nL Q pc ls (.ref (κ.b + p) :: .ref (κ.b + k) :: st) M (tb_pp M k 12 7 p f) := b_if (fun hc => b_putP hC hI 12 7 hc rfl rfl rfl (tv_t6 30 rfl rfl) rfl rfl rfl rfl rfl hd (kk _))
theorem hp_Md_30 {f : tb_M → Option (β × tb_M)} (hC : tb_Cx κ "TiedViewsModel" cc nL d) (hI : κ.2.2.2.2.2.2.2.2.1.name = "<init>") (hd : decode cc pc = .ok (.putfield 30, 3)) (kk : ∀ M1, tb_G κ nL Q (pc + 3) ls st M1 (f M1)) : tb_G κ nL Q pc ls (.ref (κ.b + p) :: .ref (κ.b + k) :: st) M (tb_pp M k 12 8 p f) := b_if (fun hc => b_putP hC hI 12 8 hc rfl rfl rfl (tv_t6 31 rfl rfl) rfl rfl rfl rfl rfl hd (kk _))
theorem hp_Md_33 {f : tb_M → Option (β × tb_M)} (hC : tb_Cx κ "TiedViewsModel" cc nL d) (hI : κ.2.2.2.2.2.2.2.2.1.name = "<init>") (hd : decode cc pc = .ok (.putfield 33, 3)) (kk : ∀ M1, tb_G κ nL Q (pc + 3) ls st M1 (f M1)) : tb_G κ nL Q pc ls (.ref (κ.b + p) :: .ref (κ.b + k) :: st) M (tb_pp M k 12 9 p f) := b_if (fun hc => b_putP hC hI 12 9 hc rfl rfl rfl (tv_t6 32 rfl rfl) rfl rfl rfl rfl rfl hd (kk _))
theorem hp_Md_36 {f : tb_M → Option (β × tb_M)} (hC : tb_Cx κ "TiedViewsModel" cc nL d) (hI : κ.2.2.2.2.2.2.2.2.1.name = "<init>") (hd : decode cc pc = .ok (.putfield 36, 3)) (kk : ∀ M1, tb_G κ nL Q (pc + 3) ls st M1 (f M1)) : tb_G κ nL Q pc ls (.ref (κ.b + p) :: .ref (κ.b + k) :: st) M (tb_pp M k 12 12 p f) := b_if (fun hc => b_putP hC hI 12 12 hc rfl rfl rfl (tv_t6 35 rfl rfl) rfl rfl rfl rfl rfl hd (kk _))
theorem hp_Md_39 {f : tb_M → Option (β × tb_M)} (hC : tb_Cx κ "TiedViewsModel" cc nL d) (hI : κ.2.2.2.2.2.2.2.2.1.name = "<init>") (hd : decode cc pc = .ok (.putfield 39, 3)) (kk : ∀ M1, tb_G κ nL Q (pc + 3) ls st M1 (f M1)) : tb_G κ nL Q pc ls (.ref (κ.b + p) :: .ref (κ.b + k) :: st) M (tb_pp M k 12 13 p f) := b_if (fun hc => b_putP hC hI 12 13 hc rfl rfl rfl (tv_t6 36 rfl rfl) rfl rfl rfl rfl rfl hd (kk _))
theorem hp_Md_42 {f : tb_M → Option (β × tb_M)} (hC : tb_Cx κ "TiedViewsModel" cc nL d) (hI : κ.2.2.2.2.2.2.2.2.1.name = "<init>") (hd : decode cc pc = .ok (.putfield 42, 3)) (kk : ∀ M1, tb_G κ nL Q (pc + 3) ls st M1 (f M1)) : tb_G κ nL Q pc ls (.ref (κ.b + p) :: .ref (κ.b + k) :: st) M (tb_pp M k 12 14 p f) := b_if (fun hc => b_putP hC hI 12 14 hc rfl rfl rfl (tv_t6 37 rfl rfl) rfl rfl rfl rfl rfl hd (kk _))
theorem hp_Md_45 {f : tb_M → Option (β × tb_M)} (hC : tb_Cx κ "TiedViewsModel" cc nL d) (hI : κ.2.2.2.2.2.2.2.2.1.name = "<init>") (hd : decode cc pc = .ok (.putfield 45, 3)) (kk : ∀ M1, tb_G κ nL Q (pc + 3) ls st M1 (f M1)) : tb_G κ nL Q pc ls (.ref (κ.b + p) :: .ref (κ.b + k) :: st) M (tb_pp M k 12 15 p f) := b_if (fun hc => b_putP hC hI 12 15 hc rfl rfl rfl (tv_t6 38 rfl rfl) rfl rfl rfl rfl rfl hd (kk _))
theorem hp_Md_48 {f : tb_M → Option (β × tb_M)} (hC : tb_Cx κ "TiedViewsModel" cc nL d) (hI : κ.2.2.2.2.2.2.2.2.1.name = "<init>") (hd : decode cc pc = .ok (.putfield 48, 3)) (kk : ∀ M1, tb_G κ nL Q (pc + 3) ls st M1 (f M1)) : tb_G κ nL Q pc ls (.ref (κ.b + p) :: .ref (κ.b + k) :: st) M (tb_pp M k 12 17 p f) := b_if (fun hc => b_putP hC hI 12 17 hc rfl rfl rfl (tv_t6 40 rfl rfl) rfl rfl rfl rfl rfl hd (kk _))
theorem hp_Md_51 {f : tb_M → Option (β × tb_M)} (hC : tb_Cx κ "TiedViewsModel" cc nL d) (hI : κ.2.2.2.2.2.2.2.2.1.name = "<init>") (hd : decode cc pc = .ok (.putfield 51, 3)) (kk : ∀ M1, tb_G κ nL Q (pc + 3) ls st M1 (f M1)) : tb_G κ nL Q pc ls (.ref (κ.b + p) :: .ref (κ.b + k) :: st) M (tb_pp M k 12 18 p f) := b_if (fun hc => b_putP hC hI 12 18 hc rfl rfl rfl (tv_t6 41 rfl rfl) rfl rfl rfl rfl rfl hd (kk _))
theorem hp_Md_54 {f : tb_M → Option (β × tb_M)} (hC : tb_Cx κ "TiedViewsModel" cc nL d) (hI : κ.2.2.2.2.2.2.2.2.1.name = "<init>") (hd : decode cc pc = .ok (.putfield 54, 3)) (kk : ∀ M1, tb_G κ nL Q (pc + 3) ls st M1 (f M1)) : tb_G κ nL Q pc ls (.ref (κ.b + p) :: .ref (κ.b + k) :: st) M (tb_pp M k 12 19 p f) := b_if (fun hc => b_putP hC hI 12 19 hc rfl rfl rfl (tv_t6 42 rfl rfl) rfl rfl rfl rfl rfl hd (kk _))
theorem hp_Md_57 {f : tb_M → Option (β × tb_M)} (hC : tb_Cx κ "TiedViewsModel" cc nL d) (hI : κ.2.2.2.2.2.2.2.2.1.name = "<init>") (hd : decode cc pc = .ok (.putfield 57, 3)) (kk : ∀ M1, tb_G κ nL Q (pc + 3) ls st M1 (f M1)) : tb_G κ nL Q pc ls (.ref (κ.b + p) :: .ref (κ.b + k) :: st) M (tb_pp M k 12 20 p f) := b_if (fun hc => b_putP hC hI 12 20 hc rfl rfl rfl (tv_t6 43 rfl rfl) rfl rfl rfl rfl rfl hd (kk _))
theorem hp_Md_60 {f : tb_M → Option (β × tb_M)} (hC : tb_Cx κ "TiedViewsModel" cc nL d) (hI : κ.2.2.2.2.2.2.2.2.1.name = "<init>") (hd : decode cc pc = .ok (.putfield 60, 3)) (kk : ∀ M1, tb_G κ nL Q (pc + 3) ls st M1 (f M1)) : tb_G κ nL Q pc ls (.ref (κ.b + p) :: .ref (κ.b + k) :: st) M (tb_pp M k 12 21 p f) := b_if (fun hc => b_putP hC hI 12 21 hc rfl rfl rfl (tv_t6 44 rfl rfl) rfl rfl rfl rfl rfl hd (kk _))
theorem hp_Md_63 {f : tb_M → Option (β × tb_M)} (hC : tb_Cx κ "TiedViewsModel" cc nL d) (hI : κ.2.2.2.2.2.2.2.2.1.name = "<init>") (hd : decode cc pc = .ok (.putfield 63, 3)) (kk : ∀ M1, tb_G κ nL Q (pc + 3) ls st M1 (f M1)) : tb_G κ nL Q pc ls (.ref (κ.b + p) :: .ref (κ.b + k) :: st) M (tb_pp M k 12 22 p f) := b_if (fun hc => b_putP hC hI 12 22 hc rfl rfl rfl (tv_t6 45 rfl rfl) rfl rfl rfl rfl rfl hd (kk _))
theorem hp_Md_66 {f : tb_M → Option (β × tb_M)} (hC : tb_Cx κ "TiedViewsModel" cc nL d) (hI : κ.2.2.2.2.2.2.2.2.1.name = "<init>") (hd : decode cc pc = .ok (.putfield 66, 3)) (kk : ∀ M1, tb_G κ nL Q (pc + 3) ls st M1 (f M1)) : tb_G κ nL Q pc ls (.ref (κ.b + p) :: .ref (κ.b + k) :: st) M (tb_pp M k 12 23 p f) := b_if (fun hc => b_putP hC hI 12 23 hc rfl rfl rfl (tv_t6 46 rfl rfl) rfl rfl rfl rfl rfl hd (kk _))
theorem hp_Md_69 {f : tb_M → Option (β × tb_M)} (hC : tb_Cx κ "TiedViewsModel" cc nL d) (hI : κ.2.2.2.2.2.2.2.2.1.name = "<init>") (hd : decode cc pc = .ok (.putfield 69, 3)) (kk : ∀ M1, tb_G κ nL Q (pc + 3) ls st M1 (f M1)) : tb_G κ nL Q pc ls (.ref (κ.b + p) :: .ref (κ.b + k) :: st) M (tb_pp M k 12 38 p f) := b_if (fun hc => b_putP hC hI 12 38 hc rfl rfl rfl (tv_t6 61 rfl rfl) rfl rfl rfl rfl rfl hd (kk _))
theorem hp_Md_72 {f : tb_M → Option (β × tb_M)} (hC : tb_Cx κ "TiedViewsModel" cc nL d) (hI : κ.2.2.2.2.2.2.2.2.1.name = "<init>") (hd : decode cc pc = .ok (.putfield 72, 3)) (kk : ∀ M1, tb_G κ nL Q (pc + 3) ls st M1 (f M1)) : tb_G κ nL Q pc ls (.ref (κ.b + p) :: .ref (κ.b + k) :: st) M (tb_pp M k 12 39 p f) := b_if (fun hc => b_putP hC hI 12 39 hc rfl rfl rfl (tv_t6 62 rfl rfl) rfl rfl rfl rfl rfl hd (kk _))
theorem hp_Md_76 {f : tb_M → Option (β × tb_M)} (hC : tb_Cx κ "TiedViewsModel" cc nL d) (hI : κ.2.2.2.2.2.2.2.2.1.name = "<init>") (hd : decode cc pc = .ok (.putfield 76, 3)) (kk : ∀ M1, tb_G κ nL Q (pc + 3) ls st M1 (f M1)) : tb_G κ nL Q pc ls (.ref (κ.b + p) :: .ref (κ.b + k) :: st) M (tb_pp M k 12 40 p f) := b_if (fun hc => b_putP hC hI 12 40 hc rfl rfl rfl (tv_t6 63 rfl rfl) rfl rfl rfl rfl rfl hd (kk _))
theorem hp_Md_79 {f : tb_M → Option (β × tb_M)} (hC : tb_Cx κ "TiedViewsModel" cc nL d) (hI : κ.2.2.2.2.2.2.2.2.1.name = "<init>") (hd : decode cc pc = .ok (.putfield 79, 3)) (kk : ∀ M1, tb_G κ nL Q (pc + 3) ls st M1 (f M1)) : tb_G κ nL Q pc ls (.ref (κ.b + p) :: .ref (κ.b + k) :: st) M (tb_pp M k 12 41 p f) := b_if (fun hc => b_putP hC hI 12 41 hc rfl rfl rfl (tv_t6 64 rfl rfl) rfl rfl rfl rfl rfl hd (kk _))
theorem hp_Md_82 {f : tb_M → Option (β × tb_M)} (hC : tb_Cx κ "TiedViewsModel" cc nL d) (hI : κ.2.2.2.2.2.2.2.2.1.name = "<init>") (hd : decode cc pc = .ok (.putfield 82, 3)) (kk : ∀ M1, tb_G κ nL Q (pc + 3) ls st M1 (f M1)) : tb_G κ nL Q pc ls (.ref (κ.b + p) :: .ref (κ.b + k) :: st) M (tb_pp M k 12 42 p f) := b_if (fun hc => b_putP hC hI 12 42 hc rfl rfl rfl (tv_t6 65 rfl rfl) rfl rfl rfl rfl rfl hd (kk _))
theorem hp_Md_85 {f : tb_M → Option (β × tb_M)} (hC : tb_Cx κ "TiedViewsModel" cc nL d) (hI : κ.2.2.2.2.2.2.2.2.1.name = "<init>") (hd : decode cc pc = .ok (.putfield 85, 3)) (kk : ∀ M1, tb_G κ nL Q (pc + 3) ls st M1 (f M1)) : tb_G κ nL Q pc ls (.ref (κ.b + p) :: .ref (κ.b + k) :: st) M (tb_pp M k 12 44 p f) := b_if (fun hc => b_putP hC hI 12 44 hc rfl rfl rfl (tv_t6 67 rfl rfl) rfl rfl rfl rfl rfl hd (kk _))
theorem hp_Md_88 {f : tb_M → Option (β × tb_M)} (hC : tb_Cx κ "TiedViewsModel" cc nL d) (hI : κ.2.2.2.2.2.2.2.2.1.name = "<init>") (hd : decode cc pc = .ok (.putfield 88, 3)) (kk : ∀ M1, tb_G κ nL Q (pc + 3) ls st M1 (f M1)) : tb_G κ nL Q pc ls (.ref (κ.b + p) :: .ref (κ.b + k) :: st) M (tb_pp M k 12 45 p f) := b_if (fun hc => b_putP hC hI 12 45 hc rfl rfl rfl (tv_t6 68 rfl rfl) rfl rfl rfl rfl rfl hd (kk _))
theorem hp_Md_91 {f : tb_M → Option (β × tb_M)} (hC : tb_Cx κ "TiedViewsModel" cc nL d) (hI : κ.2.2.2.2.2.2.2.2.1.name = "<init>") (hd : decode cc pc = .ok (.putfield 91, 3)) (kk : ∀ M1, tb_G κ nL Q (pc + 3) ls st M1 (f M1)) : tb_G κ nL Q pc ls (.ref (κ.b + p) :: .ref (κ.b + k) :: st) M (tb_pp M k 12 46 p f) := b_if (fun hc => b_putP hC hI 12 46 hc rfl rfl rfl (tv_t6 69 rfl rfl) rfl rfl rfl rfl rfl hd (kk _))
theorem hp_Md_94 {f : tb_M → Option (β × tb_M)} (hC : tb_Cx κ "TiedViewsModel" cc nL d) (hI : κ.2.2.2.2.2.2.2.2.1.name = "<init>") (hd : decode cc pc = .ok (.putfield 94, 3)) (kk : ∀ M1, tb_G κ nL Q (pc + 3) ls st M1 (f M1)) : tb_G κ nL Q pc ls (.ref (κ.b + p) :: .ref (κ.b + k) :: st) M (tb_pp M k 12 47 p f) := b_if (fun hc => b_putP hC hI 12 47 hc rfl rfl rfl (tv_t6 70 rfl rfl) rfl rfl rfl rfl rfl hd (kk _))
theorem hp_Md_97 {f : tb_M → Option (β × tb_M)} (hC : tb_Cx κ "TiedViewsModel" cc nL d) (hI : κ.2.2.2.2.2.2.2.2.1.name = "<init>") (hd : decode cc pc = .ok (.putfield 97, 3)) (kk : ∀ M1, tb_G κ nL Q (pc + 3) ls st M1 (f M1)) : tb_G κ nL Q pc ls (.ref (κ.b + p) :: .ref (κ.b + k) :: st) M (tb_pp M k 12 48 p f) := b_if (fun hc => b_putP hC hI 12 48 hc rfl rfl rfl (tv_t6 71 rfl rfl) rfl rfl rfl rfl rfl hd (kk _))
theorem hp_Md_100 {f : tb_M → Option (β × tb_M)} (hC : tb_Cx κ "TiedViewsModel" cc nL d) (hI : κ.2.2.2.2.2.2.2.2.1.name = "<init>") (hd : decode cc pc = .ok (.putfield 100, 3)) (kk : ∀ M1, tb_G κ nL Q (pc + 3) ls st M1 (f M1)) : tb_G κ nL Q pc ls (.ref (κ.b + p) :: .ref (κ.b + k) :: st) M (tb_pp M k 12 50 p f) := b_if (fun hc => b_putP hC hI 12 50 hc rfl rfl rfl (tv_t6 73 rfl rfl) rfl rfl rfl rfl rfl hd (kk _))
theorem hp_Md_103 {f : tb_M → Option (β × tb_M)} (hC : tb_Cx κ "TiedViewsModel" cc nL d) (hI : κ.2.2.2.2.2.2.2.2.1.name = "<init>") (hd : decode cc pc = .ok (.putfield 103, 3)) (kk : ∀ M1, tb_G κ nL Q (pc + 3) ls st M1 (f M1)) : tb_G κ nL Q pc ls (.ref (κ.b + p) :: .ref (κ.b + k) :: st) M (tb_pp M k 12 51 p f) := b_if (fun hc => b_putP hC hI 12 51 hc rfl rfl rfl (tv_t6 74 rfl rfl) rfl rfl rfl rfl rfl hd (kk _))
theorem hp_Md_106 {f : tb_M → Option (β × tb_M)} (hC : tb_Cx κ "TiedViewsModel" cc nL d) (hI : κ.2.2.2.2.2.2.2.2.1.name = "<init>") (hd : decode cc pc = .ok (.putfield 106, 3)) (kk : ∀ M1, tb_G κ nL Q (pc + 3) ls st M1 (f M1)) : tb_G κ nL Q pc ls (.ref (κ.b + p) :: .ref (κ.b + k) :: st) M (tb_pp M k 12 52 p f) := b_if (fun hc => b_putP hC hI 12 52 hc rfl rfl rfl (tv_t6 75 rfl rfl) rfl rfl rfl rfl rfl hd (kk _))
theorem hp_Md_109 {f : tb_M → Option (β × tb_M)} (hC : tb_Cx κ "TiedViewsModel" cc nL d) (hI : κ.2.2.2.2.2.2.2.2.1.name = "<init>") (hd : decode cc pc = .ok (.putfield 109, 3)) (kk : ∀ M1, tb_G κ nL Q (pc + 3) ls st M1 (f M1)) : tb_G κ nL Q pc ls (.ref (κ.b + p) :: .ref (κ.b + k) :: st) M (tb_pp M k 12 53 p f) := b_if (fun hc => b_putP hC hI 12 53 hc rfl rfl rfl (tv_t6 76 rfl rfl) rfl rfl rfl rfl rfl hd (kk _))
theorem hp_Md_112 {f : tb_M → Option (β × tb_M)} (hC : tb_Cx κ "TiedViewsModel" cc nL d) (hI : κ.2.2.2.2.2.2.2.2.1.name = "<init>") (hd : decode cc pc = .ok (.putfield 112, 3)) (kk : ∀ M1, tb_G κ nL Q (pc + 3) ls st M1 (f M1)) : tb_G κ nL Q pc ls (.int x :: .ref (κ.b + k) :: st) M (tb_pi M k 12 2 x f) := b_if (fun hc => b_putF hC hI 12 2 hc rfl rfl rfl (tv_t6 25 rfl rfl) rfl rfl rfl hd (kk _))
end TBX
theorem wi_Xx_23 : tb_Jw "TiedViews" 23 ⟨"TiedViews$Sheet", "<init>", "()V"⟩ "TiedViews" prog_9_method_1_code 1 0 := ⟨by decide, rfl, tv_t1 37 rfl rfl, tv_t1 2 rfl rfl, tv_t1 38 rfl rfl, by decide, by decide, by decide +kernel⟩
theorem wi_Xx_26 : tb_Iw "TiedViews" 26 ⟨"TiedViews$Told", "<init>", "(I)V"⟩ prog_12_method_1_code 3 1 := ⟨tv_t1 58 rfl rfl, rfl, tv_t1 59 rfl rfl, tv_t1 3 rfl rfl, tv_t1 60 rfl rfl, by decide, by decide, by decide +kernel⟩
theorem wi_Xx_35 : tb_Iw "TiedViews" 35 ⟨"TiedViews$Reader", "<init>", "(LTiedViews$Told;)V"⟩ prog_8_method_1_code 2 1 := ⟨tv_t1 222 rfl rfl, rfl, tv_t1 223 rfl rfl, tv_t1 6 rfl rfl, tv_t1 224 rfl rfl, by decide, by decide, by decide +kernel⟩
theorem wi_Xx_44 : tb_Iw "TiedViews" 44 ⟨"TiedViews$Agreement", "<init>", "(LTiedViews$Told;)V"⟩ prog_2_method_1_code 2 1 := ⟨tv_t2 19 rfl rfl, rfl, tv_t2 20 rfl rfl, tv_t1 7 rfl rfl, tv_t2 21 rfl rfl, by decide, by decide, by decide +kernel⟩
theorem wi_Xx_51 : tb_Iw "TiedViews" 51 ⟨"TiedViews$Dropping", "<init>", "(LTiedViews$Told;LTiedViews$Agreement;)V"⟩ prog_5_method_1_code 3 2 := ⟨tv_t2 85 rfl rfl, rfl, tv_t2 86 rfl rfl, tv_t1 9 rfl rfl, tv_t2 87 rfl rfl, by decide, by decide, by decide +kernel⟩
theorem wi_Xx_60 : tb_Iw "TiedViews" 60 ⟨"TiedViews$Hearsay", "<init>", "(LTiedViews$Told;)V"⟩ prog_7_method_1_code 2 1 := ⟨tv_t2 120 rfl rfl, rfl, tv_t2 121 rfl rfl, tv_t1 10 rfl rfl, tv_t2 122 rfl rfl, by decide, by decide, by decide +kernel⟩
theorem wi_Xx_67 : tb_Iw "TiedViews" 67 ⟨"TiedViews$Choices", "<init>", "(LTiedViews$Told;)V"⟩ prog_4_method_1_code 2 1 := ⟨tv_t2 173 rfl rfl, rfl, tv_t2 174 rfl rfl, tv_t1 12 rfl rfl, tv_t2 175 rfl rfl, by decide, by decide, by decide +kernel⟩
theorem wi_Xx_74 : tb_Iw "TiedViews" 74 ⟨"TiedViews$Bodies", "<init>", "(LTiedViews$Told;)V"⟩ prog_3_method_1_code 2 1 := ⟨tv_t2 203 rfl rfl, rfl, tv_t2 204 rfl rfl, tv_t1 13 rfl rfl, tv_t2 205 rfl rfl, by decide, by decide, by decide +kernel⟩
theorem wi_Ag_23 : tb_Iw "TiedViews$Agreement" 23 ⟨"TiedViews$Steps", "<init>", "(III)V"⟩ prog_10_method_1_code 4 3 := ⟨tv_t2 25 rfl rfl, rfl, tv_t2 26 rfl rfl, tv_t1 8 rfl rfl, tv_t2 27 rfl rfl, by decide, by decide, by decide +kernel⟩
theorem wi_To_31 : tb_Iw "TiedViews$Told" 31 ⟨"TiedViews$Eye", "<init>", "(I)V"⟩ prog_6_method_1_code 2 1 := ⟨tv_t1 67 rfl rfl, rfl, tv_t1 68 rfl rfl, tv_t1 4 rfl rfl, tv_t1 69 rfl rfl, by decide, by decide, by decide +kernel⟩
theorem wi_To_34 : tb_Jw "TiedViews$Told" 34 ⟨"TiedViews$Tie", "<init>", "()V"⟩ "TiedViews" prog_11_method_1_code 1 0 := ⟨by decide, rfl, tv_t1 123 rfl rfl, tv_t1 5 rfl rfl, tv_t1 124 rfl rfl, by decide, by decide, by decide +kernel⟩
theorem cs_Xx_15 : tv_Sw "TiedViews" 15 ⟨"TiedViews", "primeOr7", "(I)I"⟩ prog_1_method_33_code 1 (some .int) 1 := ⟨tv_t1 32 rfl rfl, tv_t1 33 rfl rfl, tv_t1 1 rfl rfl, tv_t1 34 rfl rfl, by decide, by decide, by decide +kernel⟩
theorem cs_He_38 : tv_Sw "TiedViews$Hearsay" 38 ⟨"java/util/Arrays", "fill", "([II)V"⟩ prog_21_method_103_code 4 none 2 := ⟨tv_t2 124 rfl rfl, tv_t2 125 rfl rfl, tv_t1 11 rfl rfl, tv_t2 126 rfl rfl, by decide, by decide, by decide +kernel⟩
/-- TiedViews.primeOr7(I)I -/
def BXx_primeOr7 (sz : Nat) (a0 : Int32) (M : tb_M) : Option (Int32 × tb_M) := if a0 = 2 then some (a0, M) else if a0 = 3 then some (a0, M) else if a0 = 5 then some (a0, M) else some (7, M)
/-- java/util/Arrays.fill([II)V -/
def BJv_fill_L5 (sz : Nat) : Nat → Nat → Int32 → Int32 → Int32 → tb_M → Option (Unit × tb_M)
  | 0, _, _, _, _, _ => none
  | nn + 1, l0, l1, l2, l3, M => if l3 ≤ l2 then some ((), M) else tb_iw M l0 l2 l1 (fun M2 => BJv_fill_L5 sz nn l0 l1 (l2 + 1) l3 M2)
def BJv_fill (sz : Nat) (a0 : Nat) (a1 : Int32) (M : tb_M) : Option (Unit × tb_M) := tb_le M a0 (fun x1 => BJv_fill_L5 sz 100 a0 a1 0 x1 M)
/-- TiedViews$Sheet.<init>()V -/
def BSh_init (sz : Nat) (t : Nat) (M : tb_M) : Option (Unit × tb_M) := tb_pi M t 1 0 (-1) (fun M1 => tb_na sz M1 20 40 (fun p2 M3 => tb_pp M3 t 1 2 p2 (fun M4 => some ((), M4))))
/-- TiedViews$Eye.<init>(I)V -/
def BEy_init (sz : Nat) (t : Nat) (a1 : Int32) (M : tb_M) : Option (Unit × tb_M) := tb_na sz M 20 3 (fun p1 M2 => tb_pp M2 t 3 6 p1 (fun M3 => tb_pi M3 t 3 0 a1 (fun M4 => some ((), M4))))
/-- TiedViews$Tie.<init>()V -/
def BTi_init (sz : Nat) (t : Nat) (M : tb_M) : Option (Unit × tb_M) := tb_na sz M 20 9 (fun p1 M2 => tb_pp M2 t 4 3 p1 (fun M3 => tb_na sz M3 20 9 (fun p4 M5 => tb_pp M5 t 4 4 p4 (fun M6 => some ((), M6)))))
/-- TiedViews$Told.<init>(I)V -/
def BTo_init_L65 (sz : Nat) : Nat → Nat → Int32 → tb_M → Option (Unit × tb_M)
  | 0, _, _, _ => none
  | nn + 1, l0, l2, M => if 10 ≤ l2 then some ((), M) else tb_gp M l0 2 2 (fun p16 => tb_nw sz M 4 (fun p17 M18 => tb_cb sz (M18.n + 2) M18.n (BTi_init (M18.n + 2) p17 M18) (fun _ M19 => tb_as M19 p16 2 10 4 l2 p17 (fun M20 => BTo_init_L65 sz nn l0 (l2 + 1) M20))))
def BTo_init_L37 (sz : Nat) : Nat → Nat → Int32 → tb_M → Option (Unit × tb_M)
  | 0, _, _, _ => none
  | nn + 1, l0, l2, M => if 8 ≤ l2 then BTo_init_L65 sz 100 l0 0 M else tb_gp M l0 2 1 (fun p11 => tb_nw sz M 3 (fun p12 M13 => tb_cb sz (M13.n + 1) M13.n (BEy_init (M13.n + 1) p12 l2 M13) (fun _ M14 => tb_as M14 p11 1 8 3 l2 p12 (fun M15 => BTo_init_L37 sz nn l0 (l2 + 1) M15))))
def BTo_init (sz : Nat) (t : Nat) (a1 : Int32) (M : tb_M) : Option (Unit × tb_M) := tb_na sz M 25 8 (fun p1 M2 => tb_pp M2 t 2 1 p1 (fun M3 => tb_na sz M3 26 10 (fun p4 M5 => tb_pp M5 t 2 2 p4 (fun M6 => tb_na sz M6 20 120 (fun p7 M8 => tb_pp M8 t 2 3 p7 (fun M9 => tb_pi M9 t 2 0 a1 (fun M10 => BTo_init_L37 sz 100 t 0 M10)))))))
/-- TiedViews$Reader.<init>(LTiedViews$Told;)V -/
def BRe_init (sz : Nat) (t : Nat) (a1 : Nat) (M : tb_M) : Option (Unit × tb_M) := tb_na sz M 21 500 (fun p1 M2 => tb_pp M2 t 5 1 p1 (fun M3 => tb_pp M3 t 5 0 a1 (fun M4 => some ((), M4))))
/-- TiedViews$Steps.<init>(III)V -/
def BSt_init (sz : Nat) (t : Nat) (a1 : Int32) (a2 : Int32) (a3 : Int32) (M : tb_M) : Option (Unit × tb_M) := tb_na sz M 20 24 (fun p1 M2 => tb_pp M2 t 7 3 p1 (fun M3 => tb_na sz M3 20 24 (fun p4 M5 => tb_pp M5 t 7 4 p4 (fun M6 => tb_pi M6 t 7 0 a1 (fun M7 => tb_pi M7 t 7 1 a3 (fun M8 => tb_mu sz M8 a2 (24 + a3) (fun p9 M10 => tb_pp M10 t 7 2 p9 (fun M11 => tb_na sz M11 20 a2 (fun p12 M13 => tb_pp M13 t 7 5 p12 (fun M14 => some ((), M14)))))))))))
/-- TiedViews$Agreement.<init>(LTiedViews$Told;)V -/
def BAg_init (sz : Nat) (t : Nat) (a1 : Nat) (M : tb_M) : Option (Unit × tb_M) := tb_pp M t 6 0 a1 (fun M1 => tb_nw sz M1 7 (fun p2 M3 => tb_gi M3 a1 2 0 (fun x4 => tb_cb sz (M3.n + (4 + (30 : Int32).toNatClampNeg)) M3.n (BSt_init (M3.n + (4 + (30 : Int32).toNatClampNeg)) p2 x4 30 30 M3) (fun _ M5 => tb_pp M5 t 6 1 p2 (fun M6 => tb_nw sz M6 7 (fun p7 M8 => tb_gi M8 a1 2 0 (fun x9 => tb_cb sz (M8.n + (4 + (54 : Int32).toNatClampNeg)) M8.n (BSt_init (M8.n + (4 + (54 : Int32).toNatClampNeg)) p7 x9 54 1 M8) (fun _ M10 => tb_pp M10 t 6 2 p7 (fun M11 => some ((), M11))))))))))
/-- TiedViews$Dropping.<init>(LTiedViews$Told;LTiedViews$Agreement;)V -/
def BDr_init (sz : Nat) (t : Nat) (a1 : Nat) (a2 : Nat) (M : tb_M) : Option (Unit × tb_M) := tb_mu sz M 25 25 (fun p1 M2 => tb_pp M2 t 8 2 p1 (fun M3 => tb_na sz M3 20 25 (fun p4 M5 => tb_pp M5 t 8 3 p4 (fun M6 => tb_pp M6 t 8 0 a1 (fun M7 => tb_pp M7 t 8 1 a2 (fun M8 => some ((), M8)))))))
/-- TiedViews$Hearsay.<init>(LTiedViews$Told;)V -/
def BHe_init (sz : Nat) (t : Nat) (a1 : Nat) (M : tb_M) : Option (Unit × tb_M) := tb_na sz M 20 8 (fun p1 M2 => tb_pp M2 t 9 1 p1 (fun M3 => tb_na sz M3 20 8 (fun p4 M5 => tb_pp M5 t 9 2 p4 (fun M6 => tb_na sz M6 20 24 (fun p7 M8 => tb_pp M8 t 9 4 p7 (fun M9 => tb_na sz M9 20 24 (fun p10 M11 => tb_pp M11 t 9 5 p10 (fun M12 => tb_na sz M12 20 24 (fun p13 M14 => tb_pp M14 t 9 6 p13 (fun M15 => tb_na sz M15 23 301 (fun p16 M17 => tb_pp M17 t 9 7 p16 (fun M18 => tb_na sz M18 23 301 (fun p19 M20 => tb_pp M20 t 9 8 p19 (fun M21 => tb_pp M21 t 9 0 a1 (fun M22 => tb_gp M22 t 9 2 (fun p23 => tb_cb sz (M22.n) M22.n (BJv_fill (M22.n) p23 (-1) M22) (fun r25 M24 => some ((), M24))))))))))))))))))
/-- TiedViews$Choices.<init>(LTiedViews$Told;)V -/
def BCh_init (sz : Nat) (t : Nat) (a1 : Nat) (M : tb_M) : Option (Unit × tb_M) := tb_mu sz M 32 8 (fun p1 M2 => tb_pp M2 t 10 1 p1 (fun M3 => tb_na sz M3 22 8 (fun p4 M5 => tb_pp M5 t 10 2 p4 (fun M6 => tb_mu sz M6 9 8 (fun p7 M8 => tb_pp M8 t 10 3 p7 (fun M9 => tb_na sz M9 20 8 (fun p10 M11 => tb_pp M11 t 10 4 p10 (fun M12 => tb_pp M12 t 10 0 a1 (fun M13 => some ((), M13))))))))))
/-- TiedViews$Bodies.<init>(LTiedViews$Told;)V -/
def BBo_init (sz : Nat) (t : Nat) (a1 : Nat) (M : tb_M) : Option (Unit × tb_M) := tb_na sz M 20 16 (fun p1 M2 => tb_pp M2 t 11 1 p1 (fun M3 => tb_pp M3 t 11 0 a1 (fun M4 => some ((), M4))))
/-- TiedViews.<init>(I)V -/
def BXx_init_L23 (sz : Nat) : Nat → Nat → Int32 → tb_M → Option (Unit × tb_M)
  | 0, _, _, _ => none
  | nn + 1, l0, l2, M => if 8 ≤ l2 then tb_nw sz M 2 (fun p7 M8 => tb_gi M8 l0 0 0 (fun x9 => tb_cb sz (M8.n + 49) M8.n (BTo_init (M8.n + 49) p7 x9 M8) (fun _ M10 => tb_pp M10 l0 0 2 p7 (fun M11 => tb_nw sz M11 5 (fun p12 M13 => tb_gp M13 l0 0 2 (fun p14 => tb_cb sz (M13.n + 1) M13.n (BRe_init (M13.n + 1) p12 p14 M13) (fun _ M15 => tb_pp M15 l0 0 3 p12 (fun M16 => tb_nw sz M16 6 (fun p17 M18 => tb_gp M18 l0 0 2 (fun p19 => tb_cb sz (M18.n + 94) M18.n (BAg_init (M18.n + 94) p17 p19 M18) (fun _ M20 => tb_pp M20 l0 0 4 p17 (fun M21 => tb_nw sz M21 8 (fun p22 M23 => tb_gp M23 l0 0 2 (fun p24 => tb_gp M23 l0 0 4 (fun p25 => tb_cb sz (M23.n + 27) M23.n (BDr_init (M23.n + 27) p22 p24 p25 M23) (fun _ M26 => tb_pp M26 l0 0 5 p22 (fun M27 => tb_nw sz M27 9 (fun p28 M29 => tb_gp M29 l0 0 2 (fun p30 => tb_cb sz (M29.n + 7) M29.n (BHe_init (M29.n + 7) p28 p30 M29) (fun _ M31 => tb_pp M31 l0 0 6 p28 (fun M32 => tb_nw sz M32 10 (fun p33 M34 => tb_gp M34 l0 0 2 (fun p35 => tb_cb sz (M34.n + 45) M34.n (BCh_init (M34.n + 45) p33 p35 M34) (fun _ M36 => tb_pp M36 l0 0 7 p33 (fun M37 => tb_nw sz M37 11 (fun p38 M39 => tb_gp M39 l0 0 2 (fun p40 => tb_cb sz (M39.n + 1) M39.n (BBo_init (M39.n + 1) p38 p40 M39) (fun _ M41 => tb_pp M41 l0 0 8 p38 (fun M42 => some ((), M42)))))))))))))))))))))))))))))) else tb_gp M l0 0 1 (fun p43 => tb_nw sz M 1 (fun p44 M45 => tb_cb sz (M45.n + 1) M45.n (BSh_init (M45.n + 1) p44 M45) (fun _ M46 => tb_as M46 p43 0 8 1 l2 p44 (fun M47 => BXx_init_L23 sz nn l0 (l2 + 1) M47))))
def BXx_init (sz : Nat) (t : Nat) (a1 : Int32) (M : tb_M) : Option (Unit × tb_M) := tb_na sz M 24 8 (fun p1 M2 => tb_pp M2 t 0 1 p1 (fun M3 => tb_cb sz (M3.n) M3.n (BXx_primeOr7 (M3.n) a1 M3) (fun r5 M4 => tb_pi M4 t 0 0 r5 (fun M6 => BXx_init_L23 sz 100 t 0 M6))))
/-- TiedViewsModel.<init>(I)V -/
def BMd_init (sz : Nat) (t : Nat) (a1 : Int32) (M : tb_M) : Option (Unit × tb_M) := tb_na sz M 20 8 (fun p1 M2 => tb_iw M2 p1 0 (-1) (fun M3 => tb_iw M3 p1 1 (-1) (fun M4 => tb_iw M4 p1 2 (-1) (fun M5 => tb_iw M5 p1 3 (-1) (fun M6 => tb_iw M6 p1 4 (-1) (fun M7 => tb_iw M7 p1 5 (-1) (fun M8 => tb_iw M8 p1 6 (-1) (fun M9 => tb_iw M9 p1 7 (-1) (fun M10 => tb_pp M10 t 12 3 p1 (fun M11 => tb_na sz M11 20 8 (fun p12 M13 => tb_pp M13 t 12 4 p12 (fun M14 => tb_na sz M14 20 320 (fun p15 M16 => tb_pp M16 t 12 5 p15 (fun M17 => tb_na sz M17 20 8 (fun p18 M19 => tb_pp M19 t 12 7 p18 (fun M20 => tb_na sz M20 20 8 (fun p21 M22 => tb_pp M22 t 12 8 p21 (fun M23 => tb_na sz M23 20 8 (fun p24 M25 => tb_pp M25 t 12 9 p24 (fun M26 => tb_na sz M26 20 10 (fun p27 M28 => tb_pp M28 t 12 12 p27 (fun M29 => tb_na sz M29 20 10 (fun p30 M31 => tb_pp M31 t 12 13 p30 (fun M32 => tb_na sz M32 20 10 (fun p33 M34 => tb_pp M34 t 12 14 p33 (fun M35 => tb_na sz M35 20 180 (fun p36 M37 => tb_pp M37 t 12 15 p36 (fun M38 => tb_na sz M38 20 30 (fun p39 M40 => tb_pp M40 t 12 17 p39 (fun M41 => tb_na sz M41 20 30 (fun p42 M43 => tb_pp M43 t 12 18 p42 (fun M44 => tb_na sz M44 20 30 (fun p45 M46 => tb_pp M46 t 12 19 p45 (fun M47 => tb_na sz M47 20 30 (fun p48 M49 => tb_pp M49 t 12 20 p48 (fun M50 => tb_na sz M50 20 256 (fun p51 M52 => tb_pp M52 t 12 21 p51 (fun M53 => tb_na sz M53 20 8 (fun p54 M55 => tb_pp M55 t 12 22 p54 (fun M56 => tb_na sz M56 20 500 (fun p57 M58 => tb_pp M58 t 12 23 p57 (fun M59 => tb_na sz M59 20 2970 (fun p60 M61 => tb_pp M61 t 12 38 p60 (fun M62 => tb_na sz M62 22 54 (fun p63 M64 => tb_pp M64 t 12 39 p63 (fun M65 => tb_na sz M65 20 24 (fun p66 M67 => tb_pp M67 t 12 40 p66 (fun M68 => tb_na sz M68 22 8 (fun p69 M70 => tb_pp M70 t 12 41 p69 (fun M71 => tb_na sz M71 20 24 (fun p72 M73 => tb_pp M73 t 12 42 p72 (fun M74 => tb_na sz M74 20 8 (fun p75 M76 => tb_pp M76 t 12 44 p75 (fun M77 => tb_na sz M77 20 8 (fun p78 M79 => tb_pp M79 t 12 45 p78 (fun M80 => tb_na sz M80 20 24 (fun p81 M82 => tb_pp M82 t 12 46 p81 (fun M83 => tb_na sz M83 20 24 (fun p84 M85 => tb_pp M85 t 12 47 p84 (fun M86 => tb_na sz M86 20 7224 (fun p87 M88 => tb_pp M88 t 12 48 p87 (fun M89 => tb_na sz M89 20 8 (fun p90 M91 => tb_pp M91 t 12 50 p90 (fun M92 => tb_na sz M92 20 8 (fun p93 M94 => tb_pp M94 t 12 51 p93 (fun M95 => tb_na sz M95 20 8 (fun p96 M97 => tb_pp M97 t 12 52 p96 (fun M98 => tb_na sz M98 20 16 (fun p99 M100 => tb_pp M100 t 12 53 p99 (fun M101 => if a1 = 2 then tb_pi M101 t 12 2 a1 (fun M102 => some ((), M102)) else if a1 = 3 then tb_pi M101 t 12 2 a1 (fun M103 => some ((), M103)) else if a1 = 5 then tb_pi M101 t 12 2 a1 (fun M105 => some ((), M105)) else tb_pi M101 t 12 2 7 (fun M104 => some ((), M104))))))))))))))))))))))))))))))))))))))))))))))))))))))))))))))))))))))))
theorem db_BXx_primeOr7_0 : decode prog_1_method_33_code 0 = .ok (.iload_n 0, 1) := by decide +kernel
theorem db_BXx_primeOr7_1 : decode prog_1_method_33_code 1 = .ok (.iconst 2, 1) := by decide +kernel
theorem db_BXx_primeOr7_2 : decode prog_1_method_33_code 2 = .ok (.if_icmp .eq 13, 3) := by decide +kernel
theorem db_BXx_primeOr7_5 : decode prog_1_method_33_code 5 = .ok (.iload_n 0, 1) := by decide +kernel
theorem db_BXx_primeOr7_6 : decode prog_1_method_33_code 6 = .ok (.iconst 3, 1) := by decide +kernel
theorem db_BXx_primeOr7_7 : decode prog_1_method_33_code 7 = .ok (.if_icmp .eq 8, 3) := by decide +kernel
theorem db_BXx_primeOr7_10 : decode prog_1_method_33_code 10 = .ok (.iload_n 0, 1) := by decide +kernel
theorem db_BXx_primeOr7_11 : decode prog_1_method_33_code 11 = .ok (.iconst 5, 1) := by decide +kernel
theorem db_BXx_primeOr7_12 : decode prog_1_method_33_code 12 = .ok (.if_icmp .ne 7, 3) := by decide +kernel
theorem db_BXx_primeOr7_15 : decode prog_1_method_33_code 15 = .ok (.iload_n 0, 1) := by decide +kernel
theorem db_BXx_primeOr7_16 : decode prog_1_method_33_code 16 = .ok (.goto 5, 3) := by decide +kernel
theorem db_BXx_primeOr7_19 : decode prog_1_method_33_code 19 = .ok (.bipush 7, 2) := by decide +kernel
theorem db_BXx_primeOr7_21 : decode prog_1_method_33_code 21 = .ok (.ireturn, 1) := by decide +kernel
set_option maxHeartbeats 2000000 in
theorem BXx_primeOr7_c {l : Launch} {θ : tv_Th} (sz : Nat) (a0 : Int32) (M : tb_M) : tb_Ct l θ ⟨"TiedViews", "primeOr7", "(I)I"⟩ prog_1_method_33_code 1 (some .int) 0 sz tv_ei [.int a0] M (BXx_primeOr7 sz a0 M) := by
  refine tb_ofG [some (.int a0)] rfl rfl (tv_ent 0 rfl) ?_
  intro κ hl ht hce hz hC hR hI hY
  subst hl; subst ht; subst hz
  unfold BXx_primeOr7
  refine b_iload_n hC db_BXx_primeOr7_0 rfl ?_
  refine b_iconst hC db_BXx_primeOr7_1 kb_i2 ?_
  refine b_icmp_eq (tgt := 15) hC db_BXx_primeOr7_2 (by decide) (fun _ => ?_) (fun _ => ?_)
  · refine b_iload_n hC db_BXx_primeOr7_15 rfl ?_
    refine b_goto (tgt := 21) hC db_BXx_primeOr7_16 (by decide) ?_
    exact b_iret hC hR db_BXx_primeOr7_21
  · refine b_iload_n hC db_BXx_primeOr7_5 rfl ?_
    refine b_iconst hC db_BXx_primeOr7_6 kb_i3 ?_
    refine b_icmp_eq (tgt := 15) hC db_BXx_primeOr7_7 (by decide) (fun _ => ?_) (fun _ => ?_)
    · refine b_iload_n hC db_BXx_primeOr7_15 rfl ?_
      refine b_goto (tgt := 21) hC db_BXx_primeOr7_16 (by decide) ?_
      exact b_iret hC hR db_BXx_primeOr7_21
    · refine b_iload_n hC db_BXx_primeOr7_10 rfl ?_
      refine b_iconst hC db_BXx_primeOr7_11 kb_i5 ?_
      refine b_icmp_ne (tgt := 19) hC db_BXx_primeOr7_12 (by decide) (fun _ => ?_) (fun _ => ?_)
      · refine b_bipush hC db_BXx_primeOr7_19 kb_b7 ?_
        exact b_iret hC hR db_BXx_primeOr7_21
      · refine b_iload_n hC db_BXx_primeOr7_15 rfl ?_
        refine b_goto (tgt := 21) hC db_BXx_primeOr7_16 (by decide) ?_
        exact b_iret hC hR db_BXx_primeOr7_21
theorem db_BJv_fill_0 : decode prog_21_method_103_code 0 = .ok (.iconst 0, 1) := by decide +kernel
theorem db_BJv_fill_1 : decode prog_21_method_103_code 1 = .ok (.istore_n 2, 1) := by decide +kernel
theorem db_BJv_fill_2 : decode prog_21_method_103_code 2 = .ok (.aload_n 0, 1) := by decide +kernel
theorem db_BJv_fill_3 : decode prog_21_method_103_code 3 = .ok (.arraylength, 1) := by decide +kernel
theorem db_BJv_fill_4 : decode prog_21_method_103_code 4 = .ok (.istore_n 3, 1) := by decide +kernel
theorem db_BJv_fill_5 : decode prog_21_method_103_code 5 = .ok (.iload_n 2, 1) := by decide +kernel
theorem db_BJv_fill_6 : decode prog_21_method_103_code 6 = .ok (.iload_n 3, 1) := by decide +kernel
theorem db_BJv_fill_7 : decode prog_21_method_103_code 7 = .ok (.if_icmp .ge 13, 3) := by decide +kernel
theorem db_BJv_fill_10 : decode prog_21_method_103_code 10 = .ok (.aload_n 0, 1) := by decide +kernel
theorem db_BJv_fill_11 : decode prog_21_method_103_code 11 = .ok (.iload_n 2, 1) := by decide +kernel
theorem db_BJv_fill_12 : decode prog_21_method_103_code 12 = .ok (.iload_n 1, 1) := by decide +kernel
theorem db_BJv_fill_13 : decode prog_21_method_103_code 13 = .ok (.iastore, 1) := by decide +kernel
theorem db_BJv_fill_14 : decode prog_21_method_103_code 14 = .ok (.iinc 2 1, 3) := by decide +kernel
theorem db_BJv_fill_17 : decode prog_21_method_103_code 17 = .ok (.goto (-12), 3) := by decide +kernel
theorem db_BJv_fill_20 : decode prog_21_method_103_code 20 = .ok (.return_, 1) := by decide +kernel
set_option maxHeartbeats 2000000 in
theorem BJv_fill_L5_g {κ : tv_Kt} {sz : Nat} (hC : tb_Cx κ "java/util/Arrays" prog_21_method_103_code 4 0) (hR : tv_Re κ none) (hI : κ.2.2.2.2.2.2.2.2.1.name = "fill") (hY : tb_Y κ.s) (hz : κ.sz = sz) : ∀ (n : Nat) (l0 : Nat) (l1 : Int32) (l2 : Int32) (l3 : Int32) (M : tb_M), tb_G κ 4 (tb_Qm κ tv_ev) 5 [some (.ref (κ.b + l0)), some (.int l1), some (.int l2), some (.int l3)] [] M (BJv_fill_L5 sz n l0 l1 l2 l3 M) := by
  subst hz
  intro n
  induction n with
  | zero => intro _ _ _ _ _; exact b_none
  | succ nn ih =>
    intro l0 l1 l2 l3 M
    rw [BJv_fill_L5]
    refine b_iload_n hC db_BJv_fill_5 rfl ?_
    refine b_iload_n hC db_BJv_fill_6 rfl ?_
    refine b_icmp_ge (tgt := 20) hC db_BJv_fill_7 (by decide) (fun _ => ?_) (fun _ => ?_)
    · exact b_vret hC hR db_BJv_fill_20
    · refine b_aload_n hC db_BJv_fill_10 rfl ?_
      refine b_iload_n hC db_BJv_fill_11 rfl ?_
      refine b_iload_n hC db_BJv_fill_12 rfl ?_
      refine bv_iast hC db_BJv_fill_13 (fun M2 => ?_)
      refine b_iinc (ls' := [some (.ref (κ.b + l0)), some (.int l1), some (.int (l2 + 1)), some (.int l3)]) hC db_BJv_fill_14 rfl kb_i1 rfl rfl ?_
      refine b_goto (tgt := 5) hC db_BJv_fill_17 (by decide) ?_
      exact ih l0 l1 (l2 + 1) l3 M2
set_option maxHeartbeats 2000000 in
theorem BJv_fill_c {l : Launch} {θ : tv_Th} (sz : Nat) (a0 : Nat) (a1 : Int32) (M : tb_M) : tb_Ct l θ ⟨"java/util/Arrays", "fill", "([II)V"⟩ prog_21_method_103_code 4 none 0 sz tv_ev [.ref (θ.1 + a0), .int a1] M (BJv_fill sz a0 a1 M) := by
  refine tb_ofG [some (.ref (θ.1 + a0)), some (.int a1), none, none] rfl rfl (tv_ent 2 rfl) ?_
  intro κ hl ht hce hz hC hR hI hY
  subst hl; subst ht; subst hz
  unfold BJv_fill
  refine b_iconst hC db_BJv_fill_0 kb_i0 ?_
  refine b_istore_n (ls' := [some (.ref (κ.b + a0)), some (.int a1), some (.int 0), none]) hC db_BJv_fill_1 rfl rfl ?_
  refine b_aload_n hC db_BJv_fill_2 rfl ?_
  refine bv_alen hC db_BJv_fill_3 (fun x1 => ?_)
  refine b_istore_n (ls' := [some (.ref (κ.b + a0)), some (.int a1), some (.int 0), some (.int x1)]) hC db_BJv_fill_4 rfl rfl ?_
  exact BJv_fill_L5_g hC hR hI hY rfl 100 a0 a1 0 x1 M
theorem db_BSh_init_0 : decode prog_9_method_1_code 0 = .ok (.aload_n 0, 1) := by decide +kernel
theorem db_BSh_init_1 : decode prog_9_method_1_code 1 = .ok (.invokespecial 3, 3) := by decide +kernel
theorem db_BSh_init_4 : decode prog_9_method_1_code 4 = .ok (.aload_n 0, 1) := by decide +kernel
theorem db_BSh_init_5 : decode prog_9_method_1_code 5 = .ok (.iconst (-1), 1) := by decide +kernel
theorem db_BSh_init_6 : decode prog_9_method_1_code 6 = .ok (.putfield 11, 3) := by decide +kernel
theorem db_BSh_init_9 : decode prog_9_method_1_code 9 = .ok (.aload_n 0, 1) := by decide +kernel
theorem db_BSh_init_10 : decode prog_9_method_1_code 10 = .ok (.bipush 40, 2) := by decide +kernel
theorem db_BSh_init_12 : decode prog_9_method_1_code 12 = .ok (.newarray .int, 2) := by decide +kernel
theorem db_BSh_init_14 : decode prog_9_method_1_code 14 = .ok (.putfield 15, 3) := by decide +kernel
theorem db_BSh_init_17 : decode prog_9_method_1_code 17 = .ok (.return_, 1) := by decide +kernel
set_option maxHeartbeats 2000000 in
theorem BSh_init_c {l : Launch} {θ : tv_Th} (sz : Nat) (t : Nat) (M : tb_M) : tb_Ct l θ ⟨"TiedViews$Sheet", "<init>", "()V"⟩ prog_9_method_1_code 1 none 1 sz tv_ev [.ref (θ.1 + t)] M (BSh_init sz t M) := by
  refine tb_ofG [some (.ref (θ.1 + t))] rfl rfl (tv_ent 0 rfl) ?_
  intro κ hl ht hce hz hC hR hI hY
  subst hl; subst ht; subst hz
  unfold BSh_init
  refine b_aload_n hC db_BSh_init_0 rfl ?_
  refine b_obj hC wo_Sh_3 db_BSh_init_1 rfl rfl ?_
  refine b_aload_n hC db_BSh_init_4 rfl ?_
  refine b_iconst hC db_BSh_init_5 kb_im1 ?_
  refine hp_Sh_11 hC hI db_BSh_init_6 (fun M1 => ?_)
  refine b_aload_n hC db_BSh_init_9 rfl ?_
  refine b_bipush hC db_BSh_init_10 kb_b40 ?_
  refine bv_newI hC wa_I db_BSh_init_12 (fun p2 M3 => ?_)
  refine hp_Sh_15 hC hI db_BSh_init_14 (fun M4 => ?_)
  exact b_vret hC hR db_BSh_init_17
theorem db_BEy_init_0 : decode prog_6_method_1_code 0 = .ok (.aload_n 0, 1) := by decide +kernel
theorem db_BEy_init_1 : decode prog_6_method_1_code 1 = .ok (.invokespecial 3, 3) := by decide +kernel
theorem db_BEy_init_4 : decode prog_6_method_1_code 4 = .ok (.aload_n 0, 1) := by decide +kernel
theorem db_BEy_init_5 : decode prog_6_method_1_code 5 = .ok (.iconst 3, 1) := by decide +kernel
theorem db_BEy_init_6 : decode prog_6_method_1_code 6 = .ok (.newarray .int, 2) := by decide +kernel
theorem db_BEy_init_8 : decode prog_6_method_1_code 8 = .ok (.putfield 9, 3) := by decide +kernel
theorem db_BEy_init_11 : decode prog_6_method_1_code 11 = .ok (.aload_n 0, 1) := by decide +kernel
theorem db_BEy_init_12 : decode prog_6_method_1_code 12 = .ok (.iload_n 1, 1) := by decide +kernel
theorem db_BEy_init_13 : decode prog_6_method_1_code 13 = .ok (.putfield 15, 3) := by decide +kernel
theorem db_BEy_init_16 : decode prog_6_method_1_code 16 = .ok (.return_, 1) := by decide +kernel
set_option maxHeartbeats 2000000 in
theorem BEy_init_c {l : Launch} {θ : tv_Th} (sz : Nat) (t : Nat) (a1 : Int32) (M : tb_M) : tb_Ct l θ ⟨"TiedViews$Eye", "<init>", "(I)V"⟩ prog_6_method_1_code 2 none 1 sz tv_ev [.ref (θ.1 + t), .int a1] M (BEy_init sz t a1 M) := by
  refine tb_ofG [some (.ref (θ.1 + t)), some (.int a1)] rfl rfl (tv_ent 0 rfl) ?_
  intro κ hl ht hce hz hC hR hI hY
  subst hl; subst ht; subst hz
  unfold BEy_init
  refine b_aload_n hC db_BEy_init_0 rfl ?_
  refine b_obj hC wo_Ey_3 db_BEy_init_1 rfl rfl ?_
  refine b_aload_n hC db_BEy_init_4 rfl ?_
  refine b_iconst hC db_BEy_init_5 kb_i3 ?_
  refine bv_newI hC wa_I db_BEy_init_6 (fun p1 M2 => ?_)
  refine hp_Ey_9 hC hI db_BEy_init_8 (fun M3 => ?_)
  refine b_aload_n hC db_BEy_init_11 rfl ?_
  refine b_iload_n hC db_BEy_init_12 rfl ?_
  refine hp_Ey_15 hC hI db_BEy_init_13 (fun M4 => ?_)
  exact b_vret hC hR db_BEy_init_16
theorem db_BTi_init_0 : decode prog_11_method_1_code 0 = .ok (.aload_n 0, 1) := by decide +kernel
theorem db_BTi_init_1 : decode prog_11_method_1_code 1 = .ok (.invokespecial 3, 3) := by decide +kernel
theorem db_BTi_init_4 : decode prog_11_method_1_code 4 = .ok (.aload_n 0, 1) := by decide +kernel
theorem db_BTi_init_5 : decode prog_11_method_1_code 5 = .ok (.bipush 9, 2) := by decide +kernel
theorem db_BTi_init_7 : decode prog_11_method_1_code 7 = .ok (.newarray .int, 2) := by decide +kernel
theorem db_BTi_init_9 : decode prog_11_method_1_code 9 = .ok (.putfield 9, 3) := by decide +kernel
theorem db_BTi_init_12 : decode prog_11_method_1_code 12 = .ok (.aload_n 0, 1) := by decide +kernel
theorem db_BTi_init_13 : decode prog_11_method_1_code 13 = .ok (.bipush 9, 2) := by decide +kernel
theorem db_BTi_init_15 : decode prog_11_method_1_code 15 = .ok (.newarray .int, 2) := by decide +kernel
theorem db_BTi_init_17 : decode prog_11_method_1_code 17 = .ok (.putfield 15, 3) := by decide +kernel
theorem db_BTi_init_20 : decode prog_11_method_1_code 20 = .ok (.return_, 1) := by decide +kernel
set_option maxHeartbeats 2000000 in
theorem BTi_init_c {l : Launch} {θ : tv_Th} (sz : Nat) (t : Nat) (M : tb_M) : tb_Ct l θ ⟨"TiedViews$Tie", "<init>", "()V"⟩ prog_11_method_1_code 1 none 1 sz tv_ev [.ref (θ.1 + t)] M (BTi_init sz t M) := by
  refine tb_ofG [some (.ref (θ.1 + t))] rfl rfl (tv_ent 0 rfl) ?_
  intro κ hl ht hce hz hC hR hI hY
  subst hl; subst ht; subst hz
  unfold BTi_init
  refine b_aload_n hC db_BTi_init_0 rfl ?_
  refine b_obj hC wo_Ti_3 db_BTi_init_1 rfl rfl ?_
  refine b_aload_n hC db_BTi_init_4 rfl ?_
  refine b_bipush hC db_BTi_init_5 kb_b9 ?_
  refine bv_newI hC wa_I db_BTi_init_7 (fun p1 M2 => ?_)
  refine hp_Ti_9 hC hI db_BTi_init_9 (fun M3 => ?_)
  refine b_aload_n hC db_BTi_init_12 rfl ?_
  refine b_bipush hC db_BTi_init_13 kb_b9 ?_
  refine bv_newI hC wa_I db_BTi_init_15 (fun p4 M5 => ?_)
  refine hp_Ti_15 hC hI db_BTi_init_17 (fun M6 => ?_)
  exact b_vret hC hR db_BTi_init_20
theorem db_BTo_init_0 : decode prog_12_method_1_code 0 = .ok (.aload_n 0, 1) := by decide +kernel
theorem db_BTo_init_1 : decode prog_12_method_1_code 1 = .ok (.invokespecial 3, 3) := by decide +kernel
theorem db_BTo_init_4 : decode prog_12_method_1_code 4 = .ok (.aload_n 0, 1) := by decide +kernel
theorem db_BTo_init_5 : decode prog_12_method_1_code 5 = .ok (.bipush 8, 2) := by decide +kernel
theorem db_BTo_init_7 : decode prog_12_method_1_code 7 = .ok (.anewarray 9, 3) := by decide +kernel
theorem db_BTo_init_10 : decode prog_12_method_1_code 10 = .ok (.putfield 11, 3) := by decide +kernel
theorem db_BTo_init_13 : decode prog_12_method_1_code 13 = .ok (.aload_n 0, 1) := by decide +kernel
theorem db_BTo_init_14 : decode prog_12_method_1_code 14 = .ok (.bipush 10, 2) := by decide +kernel
theorem db_BTo_init_16 : decode prog_12_method_1_code 16 = .ok (.anewarray 17, 3) := by decide +kernel
theorem db_BTo_init_19 : decode prog_12_method_1_code 19 = .ok (.putfield 19, 3) := by decide +kernel
theorem db_BTo_init_22 : decode prog_12_method_1_code 22 = .ok (.aload_n 0, 1) := by decide +kernel
theorem db_BTo_init_23 : decode prog_12_method_1_code 23 = .ok (.bipush 120, 2) := by decide +kernel
theorem db_BTo_init_25 : decode prog_12_method_1_code 25 = .ok (.newarray .int, 2) := by decide +kernel
theorem db_BTo_init_27 : decode prog_12_method_1_code 27 = .ok (.putfield 23, 3) := by decide +kernel
theorem db_BTo_init_30 : decode prog_12_method_1_code 30 = .ok (.aload_n 0, 1) := by decide +kernel
theorem db_BTo_init_31 : decode prog_12_method_1_code 31 = .ok (.iload_n 1, 1) := by decide +kernel
theorem db_BTo_init_32 : decode prog_12_method_1_code 32 = .ok (.putfield 27, 3) := by decide +kernel
theorem db_BTo_init_35 : decode prog_12_method_1_code 35 = .ok (.iconst 0, 1) := by decide +kernel
theorem db_BTo_init_36 : decode prog_12_method_1_code 36 = .ok (.istore_n 2, 1) := by decide +kernel
theorem db_BTo_init_37 : decode prog_12_method_1_code 37 = .ok (.iload_n 2, 1) := by decide +kernel
theorem db_BTo_init_38 : decode prog_12_method_1_code 38 = .ok (.bipush 8, 2) := by decide +kernel
theorem db_BTo_init_40 : decode prog_12_method_1_code 40 = .ok (.if_icmp .ge 23, 3) := by decide +kernel
theorem db_BTo_init_43 : decode prog_12_method_1_code 43 = .ok (.aload_n 0, 1) := by decide +kernel
theorem db_BTo_init_44 : decode prog_12_method_1_code 44 = .ok (.getfield 11, 3) := by decide +kernel
theorem db_BTo_init_47 : decode prog_12_method_1_code 47 = .ok (.iload_n 2, 1) := by decide +kernel
theorem db_BTo_init_48 : decode prog_12_method_1_code 48 = .ok (.new 9, 3) := by decide +kernel
theorem db_BTo_init_51 : decode prog_12_method_1_code 51 = .ok (.dup, 1) := by decide +kernel
theorem db_BTo_init_52 : decode prog_12_method_1_code 52 = .ok (.iload_n 2, 1) := by decide +kernel
theorem db_BTo_init_53 : decode prog_12_method_1_code 53 = .ok (.invokespecial 31, 3) := by decide +kernel
theorem db_BTo_init_56 : decode prog_12_method_1_code 56 = .ok (.aastore, 1) := by decide +kernel
theorem db_BTo_init_57 : decode prog_12_method_1_code 57 = .ok (.iinc 2 1, 3) := by decide +kernel
theorem db_BTo_init_60 : decode prog_12_method_1_code 60 = .ok (.goto (-23), 3) := by decide +kernel
theorem db_BTo_init_63 : decode prog_12_method_1_code 63 = .ok (.iconst 0, 1) := by decide +kernel
theorem db_BTo_init_64 : decode prog_12_method_1_code 64 = .ok (.istore_n 2, 1) := by decide +kernel
theorem db_BTo_init_65 : decode prog_12_method_1_code 65 = .ok (.iload_n 2, 1) := by decide +kernel
theorem db_BTo_init_66 : decode prog_12_method_1_code 66 = .ok (.bipush 10, 2) := by decide +kernel
theorem db_BTo_init_68 : decode prog_12_method_1_code 68 = .ok (.if_icmp .ge 22, 3) := by decide +kernel
theorem db_BTo_init_71 : decode prog_12_method_1_code 71 = .ok (.aload_n 0, 1) := by decide +kernel
theorem db_BTo_init_72 : decode prog_12_method_1_code 72 = .ok (.getfield 19, 3) := by decide +kernel
theorem db_BTo_init_75 : decode prog_12_method_1_code 75 = .ok (.iload_n 2, 1) := by decide +kernel
theorem db_BTo_init_76 : decode prog_12_method_1_code 76 = .ok (.new 17, 3) := by decide +kernel
theorem db_BTo_init_79 : decode prog_12_method_1_code 79 = .ok (.dup, 1) := by decide +kernel
theorem db_BTo_init_80 : decode prog_12_method_1_code 80 = .ok (.invokespecial 34, 3) := by decide +kernel
theorem db_BTo_init_83 : decode prog_12_method_1_code 83 = .ok (.aastore, 1) := by decide +kernel
theorem db_BTo_init_84 : decode prog_12_method_1_code 84 = .ok (.iinc 2 1, 3) := by decide +kernel
theorem db_BTo_init_87 : decode prog_12_method_1_code 87 = .ok (.goto (-22), 3) := by decide +kernel
theorem db_BTo_init_90 : decode prog_12_method_1_code 90 = .ok (.return_, 1) := by decide +kernel
set_option maxHeartbeats 2000000 in
theorem BTo_init_L65_g {κ : tv_Kt} {sz : Nat} (hC : tb_Cx κ "TiedViews$Told" prog_12_method_1_code 3 2) (hR : tv_Re κ none) (hI : κ.2.2.2.2.2.2.2.2.1.name = "<init>") (hY : tb_Y κ.s) (hz : κ.sz = sz) : ∀ (n : Nat) (l0 : Nat) (l2 : Int32) (M : tb_M), tb_G κ 3 (tb_Qm κ tv_ev) 65 [some (.ref (κ.b + l0)), none, some (.int l2)] [] M (BTo_init_L65 sz n l0 l2 M) := by
  subst hz
  intro n
  induction n with
  | zero => intro _ _ _; exact b_none
  | succ nn ih =>
    intro l0 l2 M
    rw [BTo_init_L65]
    refine b_iload_n hC db_BTo_init_65 rfl ?_
    refine b_bipush hC db_BTo_init_66 kb_b10 ?_
    refine b_icmp_ge (tgt := 90) hC db_BTo_init_68 (by decide) (fun _ => ?_) (fun _ => ?_)
    · exact b_vret hC hR db_BTo_init_90
    · refine b_aload_n hC db_BTo_init_71 rfl ?_
      refine hg_To_19 hC db_BTo_init_72 (fun p16 => ?_)
      refine b_iload_n hC db_BTo_init_75 rfl ?_
      refine bv_new hC 4 rfl wn_To_17 db_BTo_init_76 (fun p17 M18 => ?_)
      refine b_dup hC db_BTo_init_79 rfl ?_
      refine b_callJ hC hY [] wi_To_34 (BTi_init_c (M18.n + 2) p17 M18) rfl rfl rfl rfl rfl db_BTo_init_80 (fun M19 => ?_)
      refine bv_ast hC 2 4 rfl rfl db_BTo_init_83 (fun M20 => ?_)
      refine b_iinc (ls' := [some (.ref (κ.b + l0)), none, some (.int (l2 + 1))]) hC db_BTo_init_84 rfl kb_i1 rfl rfl ?_
      refine b_goto (tgt := 65) hC db_BTo_init_87 (by decide) ?_
      exact ih l0 (l2 + 1) M20
set_option maxHeartbeats 2000000 in
theorem BTo_init_L37_g {κ : tv_Kt} {sz : Nat} (hC : tb_Cx κ "TiedViews$Told" prog_12_method_1_code 3 2) (hR : tv_Re κ none) (hI : κ.2.2.2.2.2.2.2.2.1.name = "<init>") (hY : tb_Y κ.s) (hz : κ.sz = sz) : ∀ (n : Nat) (l0 : Nat) (l2 : Int32) (M : tb_M), tb_G κ 3 (tb_Qm κ tv_ev) 37 [some (.ref (κ.b + l0)), none, some (.int l2)] [] M (BTo_init_L37 sz n l0 l2 M) := by
  subst hz
  intro n
  induction n with
  | zero => intro _ _ _; exact b_none
  | succ nn ih =>
    intro l0 l2 M
    rw [BTo_init_L37]
    refine b_iload_n hC db_BTo_init_37 rfl ?_
    refine b_bipush hC db_BTo_init_38 kb_b8 ?_
    refine b_icmp_ge (tgt := 63) hC db_BTo_init_40 (by decide) (fun _ => ?_) (fun _ => ?_)
    · refine b_iconst hC db_BTo_init_63 kb_i0 ?_
      refine b_istore_n (ls' := [some (.ref (κ.b + l0)), none, some (.int 0)]) hC db_BTo_init_64 rfl rfl ?_
      exact BTo_init_L65_g hC hR hI hY rfl 100 l0 0 M
    · refine b_aload_n hC db_BTo_init_43 rfl ?_
      refine hg_To_11 hC db_BTo_init_44 (fun p11 => ?_)
      refine b_iload_n hC db_BTo_init_47 rfl ?_
      refine bv_new hC 3 rfl wn_To_9 db_BTo_init_48 (fun p12 M13 => ?_)
      refine b_dup hC db_BTo_init_51 rfl ?_
      refine b_iload_n hC db_BTo_init_52 rfl ?_
      refine b_callI hC hY [.int l2] wi_To_31 (BEy_init_c (M13.n + 1) p12 l2 M13) rfl rfl rfl rfl rfl db_BTo_init_53 (fun M14 => ?_)
      refine bv_ast hC 1 3 rfl rfl db_BTo_init_56 (fun M15 => ?_)
      refine b_iinc (ls' := [some (.ref (κ.b + l0)), none, some (.int (l2 + 1))]) hC db_BTo_init_57 rfl kb_i1 rfl rfl ?_
      refine b_goto (tgt := 37) hC db_BTo_init_60 (by decide) ?_
      exact ih l0 (l2 + 1) M15
set_option maxHeartbeats 2000000 in
theorem BTo_init_c {l : Launch} {θ : tv_Th} (sz : Nat) (t : Nat) (a1 : Int32) (M : tb_M) : tb_Ct l θ ⟨"TiedViews$Told", "<init>", "(I)V"⟩ prog_12_method_1_code 3 none 2 sz tv_ev [.ref (θ.1 + t), .int a1] M (BTo_init sz t a1 M) := by
  refine tb_ofG [some (.ref (θ.1 + t)), some (.int a1), none] rfl rfl (tv_ent 1 rfl) ?_
  intro κ hl ht hce hz hC hR hI hY
  subst hl; subst ht; subst hz
  unfold BTo_init
  refine b_aload_n hC db_BTo_init_0 rfl ?_
  refine b_obj hC wo_To_3 db_BTo_init_1 rfl rfl ?_
  refine b_aload_n hC db_BTo_init_4 rfl ?_
  refine b_bipush hC db_BTo_init_5 kb_b8 ?_
  refine bv_newq hC hY 1 rfl wq_To_9 (by simp) db_BTo_init_7 (fun p1 M2 => ?_)
  refine hp_To_11 hC hI db_BTo_init_10 (fun M3 => ?_)
  refine b_aload_n hC db_BTo_init_13 rfl ?_
  refine b_bipush hC db_BTo_init_14 kb_b10 ?_
  refine bv_newq hC hY 2 rfl wq_To_17 (by simp) db_BTo_init_16 (fun p4 M5 => ?_)
  refine hp_To_19 hC hI db_BTo_init_19 (fun M6 => ?_)
  refine b_aload_n hC db_BTo_init_22 rfl ?_
  refine b_bipush hC db_BTo_init_23 kb_b120 ?_
  refine bv_newI hC wa_I db_BTo_init_25 (fun p7 M8 => ?_)
  refine hp_To_23 hC hI db_BTo_init_27 (fun M9 => ?_)
  refine b_aload_n hC db_BTo_init_30 rfl ?_
  refine b_iload_n hC db_BTo_init_31 rfl ?_
  refine hp_To_27 hC hI db_BTo_init_32 (fun M10 => ?_)
  refine b_iconst hC db_BTo_init_35 kb_i0 ?_
  refine b_istore_n (ls' := [some (.ref (κ.b + t)), some (.int a1), some (.int 0)]) hC db_BTo_init_36 rfl rfl ?_
  refine b_mask [true, false, true] (ls' := [some (.ref (κ.b + t)), none, some (.int 0)]) rfl ?_
  exact BTo_init_L37_g hC hR hI hY rfl 100 t 0 M10
theorem db_BRe_init_0 : decode prog_8_method_1_code 0 = .ok (.aload_n 0, 1) := by decide +kernel
theorem db_BRe_init_1 : decode prog_8_method_1_code 1 = .ok (.invokespecial 3, 3) := by decide +kernel
theorem db_BRe_init_4 : decode prog_8_method_1_code 4 = .ok (.aload_n 0, 1) := by decide +kernel
theorem db_BRe_init_5 : decode prog_8_method_1_code 5 = .ok (.sipush 500, 3) := by decide +kernel
theorem db_BRe_init_8 : decode prog_8_method_1_code 8 = .ok (.newarray .byte, 2) := by decide +kernel
theorem db_BRe_init_10 : decode prog_8_method_1_code 10 = .ok (.putfield 9, 3) := by decide +kernel
theorem db_BRe_init_13 : decode prog_8_method_1_code 13 = .ok (.aload_n 0, 1) := by decide +kernel
theorem db_BRe_init_14 : decode prog_8_method_1_code 14 = .ok (.aload_n 1, 1) := by decide +kernel
theorem db_BRe_init_15 : decode prog_8_method_1_code 15 = .ok (.putfield 15, 3) := by decide +kernel
theorem db_BRe_init_18 : decode prog_8_method_1_code 18 = .ok (.return_, 1) := by decide +kernel
set_option maxHeartbeats 2000000 in
theorem BRe_init_c {l : Launch} {θ : tv_Th} (sz : Nat) (t : Nat) (a1 : Nat) (M : tb_M) : tb_Ct l θ ⟨"TiedViews$Reader", "<init>", "(LTiedViews$Told;)V"⟩ prog_8_method_1_code 2 none 1 sz tv_ev [.ref (θ.1 + t), .ref (θ.1 + a1)] M (BRe_init sz t a1 M) := by
  refine tb_ofG [some (.ref (θ.1 + t)), some (.ref (θ.1 + a1))] rfl rfl (tv_ent 0 rfl) ?_
  intro κ hl ht hce hz hC hR hI hY
  subst hl; subst ht; subst hz
  unfold BRe_init
  refine b_aload_n hC db_BRe_init_0 rfl ?_
  refine b_obj hC wo_Re_3 db_BRe_init_1 rfl rfl ?_
  refine b_aload_n hC db_BRe_init_4 rfl ?_
  refine b_sipush hC db_BRe_init_5 kb_s500 ?_
  refine bv_newB hC wa_B db_BRe_init_8 (fun p1 M2 => ?_)
  refine hp_Re_9 hC hI db_BRe_init_10 (fun M3 => ?_)
  refine b_aload_n hC db_BRe_init_13 rfl ?_
  refine b_aload_n hC db_BRe_init_14 rfl ?_
  refine hp_Re_15 hC hI db_BRe_init_15 (fun M4 => ?_)
  exact b_vret hC hR db_BRe_init_18
theorem db_BSt_init_0 : decode prog_10_method_1_code 0 = .ok (.aload_n 0, 1) := by decide +kernel
theorem db_BSt_init_1 : decode prog_10_method_1_code 1 = .ok (.invokespecial 3, 3) := by decide +kernel
theorem db_BSt_init_4 : decode prog_10_method_1_code 4 = .ok (.aload_n 0, 1) := by decide +kernel
theorem db_BSt_init_5 : decode prog_10_method_1_code 5 = .ok (.bipush 24, 2) := by decide +kernel
theorem db_BSt_init_7 : decode prog_10_method_1_code 7 = .ok (.newarray .int, 2) := by decide +kernel
theorem db_BSt_init_9 : decode prog_10_method_1_code 9 = .ok (.putfield 9, 3) := by decide +kernel
theorem db_BSt_init_12 : decode prog_10_method_1_code 12 = .ok (.aload_n 0, 1) := by decide +kernel
theorem db_BSt_init_13 : decode prog_10_method_1_code 13 = .ok (.bipush 24, 2) := by decide +kernel
theorem db_BSt_init_15 : decode prog_10_method_1_code 15 = .ok (.newarray .int, 2) := by decide +kernel
theorem db_BSt_init_17 : decode prog_10_method_1_code 17 = .ok (.putfield 15, 3) := by decide +kernel
theorem db_BSt_init_20 : decode prog_10_method_1_code 20 = .ok (.aload_n 0, 1) := by decide +kernel
theorem db_BSt_init_21 : decode prog_10_method_1_code 21 = .ok (.iload_n 1, 1) := by decide +kernel
theorem db_BSt_init_22 : decode prog_10_method_1_code 22 = .ok (.putfield 18, 3) := by decide +kernel
theorem db_BSt_init_25 : decode prog_10_method_1_code 25 = .ok (.aload_n 0, 1) := by decide +kernel
theorem db_BSt_init_26 : decode prog_10_method_1_code 26 = .ok (.iload_n 3, 1) := by decide +kernel
theorem db_BSt_init_27 : decode prog_10_method_1_code 27 = .ok (.putfield 22, 3) := by decide +kernel
theorem db_BSt_init_30 : decode prog_10_method_1_code 30 = .ok (.aload_n 0, 1) := by decide +kernel
theorem db_BSt_init_31 : decode prog_10_method_1_code 31 = .ok (.iload_n 2, 1) := by decide +kernel
theorem db_BSt_init_32 : decode prog_10_method_1_code 32 = .ok (.bipush 24, 2) := by decide +kernel
theorem db_BSt_init_34 : decode prog_10_method_1_code 34 = .ok (.iload_n 3, 1) := by decide +kernel
theorem db_BSt_init_35 : decode prog_10_method_1_code 35 = .ok (.iadd, 1) := by decide +kernel
theorem db_BSt_init_36 : decode prog_10_method_1_code 36 = .ok (.multianewarray 25 2, 4) := by decide +kernel
theorem db_BSt_init_40 : decode prog_10_method_1_code 40 = .ok (.putfield 27, 3) := by decide +kernel
theorem db_BSt_init_43 : decode prog_10_method_1_code 43 = .ok (.aload_n 0, 1) := by decide +kernel
theorem db_BSt_init_44 : decode prog_10_method_1_code 44 = .ok (.iload_n 2, 1) := by decide +kernel
theorem db_BSt_init_45 : decode prog_10_method_1_code 45 = .ok (.newarray .int, 2) := by decide +kernel
theorem db_BSt_init_47 : decode prog_10_method_1_code 47 = .ok (.putfield 30, 3) := by decide +kernel
theorem db_BSt_init_50 : decode prog_10_method_1_code 50 = .ok (.return_, 1) := by decide +kernel
set_option maxHeartbeats 2000000 in
theorem BSt_init_c {l : Launch} {θ : tv_Th} (sz : Nat) (t : Nat) (a1 : Int32) (a2 : Int32) (a3 : Int32) (M : tb_M) : tb_Ct l θ ⟨"TiedViews$Steps", "<init>", "(III)V"⟩ prog_10_method_1_code 4 none 1 sz tv_ev [.ref (θ.1 + t), .int a1, .int a2, .int a3] M (BSt_init sz t a1 a2 a3 M) := by
  refine tb_ofG [some (.ref (θ.1 + t)), some (.int a1), some (.int a2), some (.int a3)] rfl rfl (tv_ent 0 rfl) ?_
  intro κ hl ht hce hz hC hR hI hY
  subst hl; subst ht; subst hz
  unfold BSt_init
  refine b_aload_n hC db_BSt_init_0 rfl ?_
  refine b_obj hC wo_St_3 db_BSt_init_1 rfl rfl ?_
  refine b_aload_n hC db_BSt_init_4 rfl ?_
  refine b_bipush hC db_BSt_init_5 kb_b24 ?_
  refine bv_newI hC wa_I db_BSt_init_7 (fun p1 M2 => ?_)
  refine hp_St_9 hC hI db_BSt_init_9 (fun M3 => ?_)
  refine b_aload_n hC db_BSt_init_12 rfl ?_
  refine b_bipush hC db_BSt_init_13 kb_b24 ?_
  refine bv_newI hC wa_I db_BSt_init_15 (fun p4 M5 => ?_)
  refine hp_St_15 hC hI db_BSt_init_17 (fun M6 => ?_)
  refine b_aload_n hC db_BSt_init_20 rfl ?_
  refine b_iload_n hC db_BSt_init_21 rfl ?_
  refine hp_St_18 hC hI db_BSt_init_22 (fun M7 => ?_)
  refine b_aload_n hC db_BSt_init_25 rfl ?_
  refine b_iload_n hC db_BSt_init_26 rfl ?_
  refine hp_St_22 hC hI db_BSt_init_27 (fun M8 => ?_)
  refine b_aload_n hC db_BSt_init_30 rfl ?_
  refine b_iload_n hC db_BSt_init_31 rfl ?_
  refine b_bipush hC db_BSt_init_32 kb_b24 ?_
  refine b_iload_n hC db_BSt_init_34 rfl ?_
  refine b_iadd hC db_BSt_init_35 ?_
  refine bv_mul hC hY wm_St_25 db_BSt_init_36 (fun p9 M10 => ?_)
  refine hp_St_27 hC hI db_BSt_init_40 (fun M11 => ?_)
  refine b_aload_n hC db_BSt_init_43 rfl ?_
  refine b_iload_n hC db_BSt_init_44 rfl ?_
  refine bv_newI hC wa_I db_BSt_init_45 (fun p12 M13 => ?_)
  refine hp_St_30 hC hI db_BSt_init_47 (fun M14 => ?_)
  exact b_vret hC hR db_BSt_init_50
theorem db_BAg_init_0 : decode prog_2_method_1_code 0 = .ok (.aload_n 0, 1) := by decide +kernel
theorem db_BAg_init_1 : decode prog_2_method_1_code 1 = .ok (.invokespecial 3, 3) := by decide +kernel
theorem db_BAg_init_4 : decode prog_2_method_1_code 4 = .ok (.aload_n 0, 1) := by decide +kernel
theorem db_BAg_init_5 : decode prog_2_method_1_code 5 = .ok (.aload_n 1, 1) := by decide +kernel
theorem db_BAg_init_6 : decode prog_2_method_1_code 6 = .ok (.putfield 9, 3) := by decide +kernel
theorem db_BAg_init_9 : decode prog_2_method_1_code 9 = .ok (.aload_n 0, 1) := by decide +kernel
theorem db_BAg_init_10 : decode prog_2_method_1_code 10 = .ok (.new 15, 3) := by decide +kernel
theorem db_BAg_init_13 : decode prog_2_method_1_code 13 = .ok (.dup, 1) := by decide +kernel
theorem db_BAg_init_14 : decode prog_2_method_1_code 14 = .ok (.aload_n 1, 1) := by decide +kernel
theorem db_BAg_init_15 : decode prog_2_method_1_code 15 = .ok (.getfield 17, 3) := by decide +kernel
theorem db_BAg_init_18 : decode prog_2_method_1_code 18 = .ok (.bipush 30, 2) := by decide +kernel
theorem db_BAg_init_20 : decode prog_2_method_1_code 20 = .ok (.bipush 30, 2) := by decide +kernel
theorem db_BAg_init_22 : decode prog_2_method_1_code 22 = .ok (.invokespecial 23, 3) := by decide +kernel
theorem db_BAg_init_25 : decode prog_2_method_1_code 25 = .ok (.putfield 26, 3) := by decide +kernel
theorem db_BAg_init_28 : decode prog_2_method_1_code 28 = .ok (.aload_n 0, 1) := by decide +kernel
theorem db_BAg_init_29 : decode prog_2_method_1_code 29 = .ok (.new 15, 3) := by decide +kernel
theorem db_BAg_init_32 : decode prog_2_method_1_code 32 = .ok (.dup, 1) := by decide +kernel
theorem db_BAg_init_33 : decode prog_2_method_1_code 33 = .ok (.aload_n 1, 1) := by decide +kernel
theorem db_BAg_init_34 : decode prog_2_method_1_code 34 = .ok (.getfield 17, 3) := by decide +kernel
theorem db_BAg_init_37 : decode prog_2_method_1_code 37 = .ok (.bipush 54, 2) := by decide +kernel
theorem db_BAg_init_39 : decode prog_2_method_1_code 39 = .ok (.iconst 1, 1) := by decide +kernel
theorem db_BAg_init_40 : decode prog_2_method_1_code 40 = .ok (.invokespecial 23, 3) := by decide +kernel
theorem db_BAg_init_43 : decode prog_2_method_1_code 43 = .ok (.putfield 30, 3) := by decide +kernel
theorem db_BAg_init_46 : decode prog_2_method_1_code 46 = .ok (.return_, 1) := by decide +kernel
set_option maxHeartbeats 2000000 in
theorem BAg_init_c {l : Launch} {θ : tv_Th} (sz : Nat) (t : Nat) (a1 : Nat) (M : tb_M) : tb_Ct l θ ⟨"TiedViews$Agreement", "<init>", "(LTiedViews$Told;)V"⟩ prog_2_method_1_code 2 none 2 sz tv_ev [.ref (θ.1 + t), .ref (θ.1 + a1)] M (BAg_init sz t a1 M) := by
  refine tb_ofG [some (.ref (θ.1 + t)), some (.ref (θ.1 + a1))] rfl rfl (tv_ent 0 rfl) ?_
  intro κ hl ht hce hz hC hR hI hY
  subst hl; subst ht; subst hz
  unfold BAg_init
  refine b_aload_n hC db_BAg_init_0 rfl ?_
  refine b_obj hC wo_Ag_3 db_BAg_init_1 rfl rfl ?_
  refine b_aload_n hC db_BAg_init_4 rfl ?_
  refine b_aload_n hC db_BAg_init_5 rfl ?_
  refine hp_Ag_9 hC hI db_BAg_init_6 (fun M1 => ?_)
  refine b_aload_n hC db_BAg_init_9 rfl ?_
  refine bv_new hC 7 rfl wn_Ag_15 db_BAg_init_10 (fun p2 M3 => ?_)
  refine b_dup hC db_BAg_init_13 rfl ?_
  refine b_aload_n hC db_BAg_init_14 rfl ?_
  refine hg_Ag_17 hC db_BAg_init_15 (fun x4 => ?_)
  refine b_bipush hC db_BAg_init_18 kb_b30 ?_
  refine b_bipush hC db_BAg_init_20 kb_b30 ?_
  refine b_callI hC hY [.int x4, .int 30, .int 30] wi_Ag_23 (BSt_init_c (M3.n + (4 + (30 : Int32).toNatClampNeg)) p2 x4 30 30 M3) rfl rfl rfl rfl rfl db_BAg_init_22 (fun M5 => ?_)
  refine hp_Ag_26 hC hI db_BAg_init_25 (fun M6 => ?_)
  refine b_aload_n hC db_BAg_init_28 rfl ?_
  refine bv_new hC 7 rfl wn_Ag_15 db_BAg_init_29 (fun p7 M8 => ?_)
  refine b_dup hC db_BAg_init_32 rfl ?_
  refine b_aload_n hC db_BAg_init_33 rfl ?_
  refine hg_Ag_17 hC db_BAg_init_34 (fun x9 => ?_)
  refine b_bipush hC db_BAg_init_37 kb_b54 ?_
  refine b_iconst hC db_BAg_init_39 kb_i1 ?_
  refine b_callI hC hY [.int x9, .int 54, .int 1] wi_Ag_23 (BSt_init_c (M8.n + (4 + (54 : Int32).toNatClampNeg)) p7 x9 54 1 M8) rfl rfl rfl rfl rfl db_BAg_init_40 (fun M10 => ?_)
  refine hp_Ag_30 hC hI db_BAg_init_43 (fun M11 => ?_)
  exact b_vret hC hR db_BAg_init_46
theorem db_BDr_init_0 : decode prog_5_method_1_code 0 = .ok (.aload_n 0, 1) := by decide +kernel
theorem db_BDr_init_1 : decode prog_5_method_1_code 1 = .ok (.invokespecial 3, 3) := by decide +kernel
theorem db_BDr_init_4 : decode prog_5_method_1_code 4 = .ok (.aload_n 0, 1) := by decide +kernel
theorem db_BDr_init_5 : decode prog_5_method_1_code 5 = .ok (.bipush 25, 2) := by decide +kernel
theorem db_BDr_init_7 : decode prog_5_method_1_code 7 = .ok (.bipush 25, 2) := by decide +kernel
theorem db_BDr_init_9 : decode prog_5_method_1_code 9 = .ok (.multianewarray 9 2, 4) := by decide +kernel
theorem db_BDr_init_13 : decode prog_5_method_1_code 13 = .ok (.putfield 11, 3) := by decide +kernel
theorem db_BDr_init_16 : decode prog_5_method_1_code 16 = .ok (.aload_n 0, 1) := by decide +kernel
theorem db_BDr_init_17 : decode prog_5_method_1_code 17 = .ok (.bipush 25, 2) := by decide +kernel
theorem db_BDr_init_19 : decode prog_5_method_1_code 19 = .ok (.newarray .int, 2) := by decide +kernel
theorem db_BDr_init_21 : decode prog_5_method_1_code 21 = .ok (.putfield 16, 3) := by decide +kernel
theorem db_BDr_init_24 : decode prog_5_method_1_code 24 = .ok (.aload_n 0, 1) := by decide +kernel
theorem db_BDr_init_25 : decode prog_5_method_1_code 25 = .ok (.aload_n 1, 1) := by decide +kernel
theorem db_BDr_init_26 : decode prog_5_method_1_code 26 = .ok (.putfield 20, 3) := by decide +kernel
theorem db_BDr_init_29 : decode prog_5_method_1_code 29 = .ok (.aload_n 0, 1) := by decide +kernel
theorem db_BDr_init_30 : decode prog_5_method_1_code 30 = .ok (.aload_n 2, 1) := by decide +kernel
theorem db_BDr_init_31 : decode prog_5_method_1_code 31 = .ok (.putfield 24, 3) := by decide +kernel
theorem db_BDr_init_34 : decode prog_5_method_1_code 34 = .ok (.return_, 1) := by decide +kernel
set_option maxHeartbeats 2000000 in
theorem BDr_init_c {l : Launch} {θ : tv_Th} (sz : Nat) (t : Nat) (a1 : Nat) (a2 : Nat) (M : tb_M) : tb_Ct l θ ⟨"TiedViews$Dropping", "<init>", "(LTiedViews$Told;LTiedViews$Agreement;)V"⟩ prog_5_method_1_code 3 none 1 sz tv_ev [.ref (θ.1 + t), .ref (θ.1 + a1), .ref (θ.1 + a2)] M (BDr_init sz t a1 a2 M) := by
  refine tb_ofG [some (.ref (θ.1 + t)), some (.ref (θ.1 + a1)), some (.ref (θ.1 + a2))] rfl rfl (tv_ent 0 rfl) ?_
  intro κ hl ht hce hz hC hR hI hY
  subst hl; subst ht; subst hz
  unfold BDr_init
  refine b_aload_n hC db_BDr_init_0 rfl ?_
  refine b_obj hC wo_Dr_3 db_BDr_init_1 rfl rfl ?_
  refine b_aload_n hC db_BDr_init_4 rfl ?_
  refine b_bipush hC db_BDr_init_5 kb_b25 ?_
  refine b_bipush hC db_BDr_init_7 kb_b25 ?_
  refine bv_mul hC hY wm_Dr_9 db_BDr_init_9 (fun p1 M2 => ?_)
  refine hp_Dr_11 hC hI db_BDr_init_13 (fun M3 => ?_)
  refine b_aload_n hC db_BDr_init_16 rfl ?_
  refine b_bipush hC db_BDr_init_17 kb_b25 ?_
  refine bv_newI hC wa_I db_BDr_init_19 (fun p4 M5 => ?_)
  refine hp_Dr_16 hC hI db_BDr_init_21 (fun M6 => ?_)
  refine b_aload_n hC db_BDr_init_24 rfl ?_
  refine b_aload_n hC db_BDr_init_25 rfl ?_
  refine hp_Dr_20 hC hI db_BDr_init_26 (fun M7 => ?_)
  refine b_aload_n hC db_BDr_init_29 rfl ?_
  refine b_aload_n hC db_BDr_init_30 rfl ?_
  refine hp_Dr_24 hC hI db_BDr_init_31 (fun M8 => ?_)
  exact b_vret hC hR db_BDr_init_34
theorem db_BHe_init_0 : decode prog_7_method_1_code 0 = .ok (.aload_n 0, 1) := by decide +kernel
theorem db_BHe_init_1 : decode prog_7_method_1_code 1 = .ok (.invokespecial 3, 3) := by decide +kernel
theorem db_BHe_init_4 : decode prog_7_method_1_code 4 = .ok (.aload_n 0, 1) := by decide +kernel
theorem db_BHe_init_5 : decode prog_7_method_1_code 5 = .ok (.bipush 8, 2) := by decide +kernel
theorem db_BHe_init_7 : decode prog_7_method_1_code 7 = .ok (.newarray .int, 2) := by decide +kernel
theorem db_BHe_init_9 : decode prog_7_method_1_code 9 = .ok (.putfield 9, 3) := by decide +kernel
theorem db_BHe_init_12 : decode prog_7_method_1_code 12 = .ok (.aload_n 0, 1) := by decide +kernel
theorem db_BHe_init_13 : decode prog_7_method_1_code 13 = .ok (.bipush 8, 2) := by decide +kernel
theorem db_BHe_init_15 : decode prog_7_method_1_code 15 = .ok (.newarray .int, 2) := by decide +kernel
theorem db_BHe_init_17 : decode prog_7_method_1_code 17 = .ok (.putfield 15, 3) := by decide +kernel
theorem db_BHe_init_20 : decode prog_7_method_1_code 20 = .ok (.aload_n 0, 1) := by decide +kernel
theorem db_BHe_init_21 : decode prog_7_method_1_code 21 = .ok (.bipush 24, 2) := by decide +kernel
theorem db_BHe_init_23 : decode prog_7_method_1_code 23 = .ok (.newarray .int, 2) := by decide +kernel
theorem db_BHe_init_25 : decode prog_7_method_1_code 25 = .ok (.putfield 18, 3) := by decide +kernel
theorem db_BHe_init_28 : decode prog_7_method_1_code 28 = .ok (.aload_n 0, 1) := by decide +kernel
theorem db_BHe_init_29 : decode prog_7_method_1_code 29 = .ok (.bipush 24, 2) := by decide +kernel
theorem db_BHe_init_31 : decode prog_7_method_1_code 31 = .ok (.newarray .int, 2) := by decide +kernel
theorem db_BHe_init_33 : decode prog_7_method_1_code 33 = .ok (.putfield 21, 3) := by decide +kernel
theorem db_BHe_init_36 : decode prog_7_method_1_code 36 = .ok (.aload_n 0, 1) := by decide +kernel
theorem db_BHe_init_37 : decode prog_7_method_1_code 37 = .ok (.bipush 24, 2) := by decide +kernel
theorem db_BHe_init_39 : decode prog_7_method_1_code 39 = .ok (.newarray .int, 2) := by decide +kernel
theorem db_BHe_init_41 : decode prog_7_method_1_code 41 = .ok (.putfield 24, 3) := by decide +kernel
theorem db_BHe_init_44 : decode prog_7_method_1_code 44 = .ok (.aload_n 0, 1) := by decide +kernel
theorem db_BHe_init_45 : decode prog_7_method_1_code 45 = .ok (.sipush 301, 3) := by decide +kernel
theorem db_BHe_init_48 : decode prog_7_method_1_code 48 = .ok (.newarray .long, 2) := by decide +kernel
theorem db_BHe_init_50 : decode prog_7_method_1_code 50 = .ok (.putfield 27, 3) := by decide +kernel
theorem db_BHe_init_53 : decode prog_7_method_1_code 53 = .ok (.aload_n 0, 1) := by decide +kernel
theorem db_BHe_init_54 : decode prog_7_method_1_code 54 = .ok (.sipush 301, 3) := by decide +kernel
theorem db_BHe_init_57 : decode prog_7_method_1_code 57 = .ok (.newarray .long, 2) := by decide +kernel
theorem db_BHe_init_59 : decode prog_7_method_1_code 59 = .ok (.putfield 31, 3) := by decide +kernel
theorem db_BHe_init_62 : decode prog_7_method_1_code 62 = .ok (.aload_n 0, 1) := by decide +kernel
theorem db_BHe_init_63 : decode prog_7_method_1_code 63 = .ok (.aload_n 1, 1) := by decide +kernel
theorem db_BHe_init_64 : decode prog_7_method_1_code 64 = .ok (.putfield 34, 3) := by decide +kernel
theorem db_BHe_init_67 : decode prog_7_method_1_code 67 = .ok (.aload_n 0, 1) := by decide +kernel
theorem db_BHe_init_68 : decode prog_7_method_1_code 68 = .ok (.getfield 15, 3) := by decide +kernel
theorem db_BHe_init_71 : decode prog_7_method_1_code 71 = .ok (.iconst (-1), 1) := by decide +kernel
theorem db_BHe_init_72 : decode prog_7_method_1_code 72 = .ok (.invokestatic 38, 3) := by decide +kernel
theorem db_BHe_init_75 : decode prog_7_method_1_code 75 = .ok (.return_, 1) := by decide +kernel
set_option maxHeartbeats 2000000 in
theorem BHe_init_c {l : Launch} {θ : tv_Th} (sz : Nat) (t : Nat) (a1 : Nat) (M : tb_M) : tb_Ct l θ ⟨"TiedViews$Hearsay", "<init>", "(LTiedViews$Told;)V"⟩ prog_7_method_1_code 2 none 2 sz tv_ev [.ref (θ.1 + t), .ref (θ.1 + a1)] M (BHe_init sz t a1 M) := by
  refine tb_ofG [some (.ref (θ.1 + t)), some (.ref (θ.1 + a1))] rfl rfl (tv_ent 0 rfl) ?_
  intro κ hl ht hce hz hC hR hI hY
  subst hl; subst ht; subst hz
  unfold BHe_init
  refine b_aload_n hC db_BHe_init_0 rfl ?_
  refine b_obj hC wo_He_3 db_BHe_init_1 rfl rfl ?_
  refine b_aload_n hC db_BHe_init_4 rfl ?_
  refine b_bipush hC db_BHe_init_5 kb_b8 ?_
  refine bv_newI hC wa_I db_BHe_init_7 (fun p1 M2 => ?_)
  refine hp_He_9 hC hI db_BHe_init_9 (fun M3 => ?_)
  refine b_aload_n hC db_BHe_init_12 rfl ?_
  refine b_bipush hC db_BHe_init_13 kb_b8 ?_
  refine bv_newI hC wa_I db_BHe_init_15 (fun p4 M5 => ?_)
  refine hp_He_15 hC hI db_BHe_init_17 (fun M6 => ?_)
  refine b_aload_n hC db_BHe_init_20 rfl ?_
  refine b_bipush hC db_BHe_init_21 kb_b24 ?_
  refine bv_newI hC wa_I db_BHe_init_23 (fun p7 M8 => ?_)
  refine hp_He_18 hC hI db_BHe_init_25 (fun M9 => ?_)
  refine b_aload_n hC db_BHe_init_28 rfl ?_
  refine b_bipush hC db_BHe_init_29 kb_b24 ?_
  refine bv_newI hC wa_I db_BHe_init_31 (fun p10 M11 => ?_)
  refine hp_He_21 hC hI db_BHe_init_33 (fun M12 => ?_)
  refine b_aload_n hC db_BHe_init_36 rfl ?_
  refine b_bipush hC db_BHe_init_37 kb_b24 ?_
  refine bv_newI hC wa_I db_BHe_init_39 (fun p13 M14 => ?_)
  refine hp_He_24 hC hI db_BHe_init_41 (fun M15 => ?_)
  refine b_aload_n hC db_BHe_init_44 rfl ?_
  refine b_sipush hC db_BHe_init_45 kb_s301 ?_
  refine bv_newL hC wa_L db_BHe_init_48 (fun p16 M17 => ?_)
  refine hp_He_27 hC hI db_BHe_init_50 (fun M18 => ?_)
  refine b_aload_n hC db_BHe_init_53 rfl ?_
  refine b_sipush hC db_BHe_init_54 kb_s301 ?_
  refine bv_newL hC wa_L db_BHe_init_57 (fun p19 M20 => ?_)
  refine hp_He_31 hC hI db_BHe_init_59 (fun M21 => ?_)
  refine b_aload_n hC db_BHe_init_62 rfl ?_
  refine b_aload_n hC db_BHe_init_63 rfl ?_
  refine hp_He_34 hC hI db_BHe_init_64 (fun M22 => ?_)
  refine b_aload_n hC db_BHe_init_67 rfl ?_
  refine hg_He_15 hC db_BHe_init_68 (fun p23 => ?_)
  refine b_iconst hC db_BHe_init_71 kb_im1 ?_
  refine bv_callSv hC hY [.ref (κ.b + p23), .int (-1)] cs_He_38 (BJv_fill_c (M22.n) p23 (-1) M22) rfl rfl rfl rfl rfl db_BHe_init_72 (fun r25 M24 => ?_)
  exact b_vret hC hR db_BHe_init_75
theorem db_BCh_init_0 : decode prog_4_method_1_code 0 = .ok (.aload_n 0, 1) := by decide +kernel
theorem db_BCh_init_1 : decode prog_4_method_1_code 1 = .ok (.invokespecial 3, 3) := by decide +kernel
theorem db_BCh_init_4 : decode prog_4_method_1_code 4 = .ok (.aload_n 0, 1) := by decide +kernel
theorem db_BCh_init_5 : decode prog_4_method_1_code 5 = .ok (.bipush 32, 2) := by decide +kernel
theorem db_BCh_init_7 : decode prog_4_method_1_code 7 = .ok (.bipush 8, 2) := by decide +kernel
theorem db_BCh_init_9 : decode prog_4_method_1_code 9 = .ok (.multianewarray 9 2, 4) := by decide +kernel
theorem db_BCh_init_13 : decode prog_4_method_1_code 13 = .ok (.putfield 11, 3) := by decide +kernel
theorem db_BCh_init_16 : decode prog_4_method_1_code 16 = .ok (.aload_n 0, 1) := by decide +kernel
theorem db_BCh_init_17 : decode prog_4_method_1_code 17 = .ok (.bipush 8, 2) := by decide +kernel
theorem db_BCh_init_19 : decode prog_4_method_1_code 19 = .ok (.newarray .boolean, 2) := by decide +kernel
theorem db_BCh_init_21 : decode prog_4_method_1_code 21 = .ok (.putfield 16, 3) := by decide +kernel
theorem db_BCh_init_24 : decode prog_4_method_1_code 24 = .ok (.aload_n 0, 1) := by decide +kernel
theorem db_BCh_init_25 : decode prog_4_method_1_code 25 = .ok (.bipush 9, 2) := by decide +kernel
theorem db_BCh_init_27 : decode prog_4_method_1_code 27 = .ok (.bipush 8, 2) := by decide +kernel
theorem db_BCh_init_29 : decode prog_4_method_1_code 29 = .ok (.multianewarray 9 2, 4) := by decide +kernel
theorem db_BCh_init_33 : decode prog_4_method_1_code 33 = .ok (.putfield 20, 3) := by decide +kernel
theorem db_BCh_init_36 : decode prog_4_method_1_code 36 = .ok (.aload_n 0, 1) := by decide +kernel
theorem db_BCh_init_37 : decode prog_4_method_1_code 37 = .ok (.bipush 8, 2) := by decide +kernel
theorem db_BCh_init_39 : decode prog_4_method_1_code 39 = .ok (.newarray .int, 2) := by decide +kernel
theorem db_BCh_init_41 : decode prog_4_method_1_code 41 = .ok (.putfield 23, 3) := by decide +kernel
theorem db_BCh_init_44 : decode prog_4_method_1_code 44 = .ok (.aload_n 0, 1) := by decide +kernel
theorem db_BCh_init_45 : decode prog_4_method_1_code 45 = .ok (.aload_n 1, 1) := by decide +kernel
theorem db_BCh_init_46 : decode prog_4_method_1_code 46 = .ok (.putfield 27, 3) := by decide +kernel
theorem db_BCh_init_49 : decode prog_4_method_1_code 49 = .ok (.return_, 1) := by decide +kernel
set_option maxHeartbeats 2000000 in
theorem BCh_init_c {l : Launch} {θ : tv_Th} (sz : Nat) (t : Nat) (a1 : Nat) (M : tb_M) : tb_Ct l θ ⟨"TiedViews$Choices", "<init>", "(LTiedViews$Told;)V"⟩ prog_4_method_1_code 2 none 1 sz tv_ev [.ref (θ.1 + t), .ref (θ.1 + a1)] M (BCh_init sz t a1 M) := by
  refine tb_ofG [some (.ref (θ.1 + t)), some (.ref (θ.1 + a1))] rfl rfl (tv_ent 0 rfl) ?_
  intro κ hl ht hce hz hC hR hI hY
  subst hl; subst ht; subst hz
  unfold BCh_init
  refine b_aload_n hC db_BCh_init_0 rfl ?_
  refine b_obj hC wo_Ch_3 db_BCh_init_1 rfl rfl ?_
  refine b_aload_n hC db_BCh_init_4 rfl ?_
  refine b_bipush hC db_BCh_init_5 kb_b32 ?_
  refine b_bipush hC db_BCh_init_7 kb_b8 ?_
  refine bv_mul hC hY wm_Ch_9 db_BCh_init_9 (fun p1 M2 => ?_)
  refine hp_Ch_11 hC hI db_BCh_init_13 (fun M3 => ?_)
  refine b_aload_n hC db_BCh_init_16 rfl ?_
  refine b_bipush hC db_BCh_init_17 kb_b8 ?_
  refine bv_newZ hC wa_Z db_BCh_init_19 (fun p4 M5 => ?_)
  refine hp_Ch_16 hC hI db_BCh_init_21 (fun M6 => ?_)
  refine b_aload_n hC db_BCh_init_24 rfl ?_
  refine b_bipush hC db_BCh_init_25 kb_b9 ?_
  refine b_bipush hC db_BCh_init_27 kb_b8 ?_
  refine bv_mul hC hY wm_Ch_9 db_BCh_init_29 (fun p7 M8 => ?_)
  refine hp_Ch_20 hC hI db_BCh_init_33 (fun M9 => ?_)
  refine b_aload_n hC db_BCh_init_36 rfl ?_
  refine b_bipush hC db_BCh_init_37 kb_b8 ?_
  refine bv_newI hC wa_I db_BCh_init_39 (fun p10 M11 => ?_)
  refine hp_Ch_23 hC hI db_BCh_init_41 (fun M12 => ?_)
  refine b_aload_n hC db_BCh_init_44 rfl ?_
  refine b_aload_n hC db_BCh_init_45 rfl ?_
  refine hp_Ch_27 hC hI db_BCh_init_46 (fun M13 => ?_)
  exact b_vret hC hR db_BCh_init_49
theorem db_BBo_init_0 : decode prog_3_method_1_code 0 = .ok (.aload_n 0, 1) := by decide +kernel
theorem db_BBo_init_1 : decode prog_3_method_1_code 1 = .ok (.invokespecial 3, 3) := by decide +kernel
theorem db_BBo_init_4 : decode prog_3_method_1_code 4 = .ok (.aload_n 0, 1) := by decide +kernel
theorem db_BBo_init_5 : decode prog_3_method_1_code 5 = .ok (.bipush 16, 2) := by decide +kernel
theorem db_BBo_init_7 : decode prog_3_method_1_code 7 = .ok (.newarray .int, 2) := by decide +kernel
theorem db_BBo_init_9 : decode prog_3_method_1_code 9 = .ok (.putfield 11, 3) := by decide +kernel
theorem db_BBo_init_12 : decode prog_3_method_1_code 12 = .ok (.aload_n 0, 1) := by decide +kernel
theorem db_BBo_init_13 : decode prog_3_method_1_code 13 = .ok (.aload_n 1, 1) := by decide +kernel
theorem db_BBo_init_14 : decode prog_3_method_1_code 14 = .ok (.putfield 15, 3) := by decide +kernel
theorem db_BBo_init_17 : decode prog_3_method_1_code 17 = .ok (.return_, 1) := by decide +kernel
set_option maxHeartbeats 2000000 in
theorem BBo_init_c {l : Launch} {θ : tv_Th} (sz : Nat) (t : Nat) (a1 : Nat) (M : tb_M) : tb_Ct l θ ⟨"TiedViews$Bodies", "<init>", "(LTiedViews$Told;)V"⟩ prog_3_method_1_code 2 none 1 sz tv_ev [.ref (θ.1 + t), .ref (θ.1 + a1)] M (BBo_init sz t a1 M) := by
  refine tb_ofG [some (.ref (θ.1 + t)), some (.ref (θ.1 + a1))] rfl rfl (tv_ent 0 rfl) ?_
  intro κ hl ht hce hz hC hR hI hY
  subst hl; subst ht; subst hz
  unfold BBo_init
  refine b_aload_n hC db_BBo_init_0 rfl ?_
  refine b_obj hC wo_Bo_3 db_BBo_init_1 rfl rfl ?_
  refine b_aload_n hC db_BBo_init_4 rfl ?_
  refine b_bipush hC db_BBo_init_5 kb_b16 ?_
  refine bv_newI hC wa_I db_BBo_init_7 (fun p1 M2 => ?_)
  refine hp_Bo_11 hC hI db_BBo_init_9 (fun M3 => ?_)
  refine b_aload_n hC db_BBo_init_12 rfl ?_
  refine b_aload_n hC db_BBo_init_13 rfl ?_
  refine hp_Bo_15 hC hI db_BBo_init_14 (fun M4 => ?_)
  exact b_vret hC hR db_BBo_init_17
theorem db_BXx_init_0 : decode prog_1_method_1_code 0 = .ok (.aload_n 0, 1) := by decide +kernel
theorem db_BXx_init_1 : decode prog_1_method_1_code 1 = .ok (.invokespecial 3, 3) := by decide +kernel
theorem db_BXx_init_4 : decode prog_1_method_1_code 4 = .ok (.aload_n 0, 1) := by decide +kernel
theorem db_BXx_init_5 : decode prog_1_method_1_code 5 = .ok (.bipush 8, 2) := by decide +kernel
theorem db_BXx_init_7 : decode prog_1_method_1_code 7 = .ok (.anewarray 9, 3) := by decide +kernel
theorem db_BXx_init_10 : decode prog_1_method_1_code 10 = .ok (.putfield 11, 3) := by decide +kernel
theorem db_BXx_init_13 : decode prog_1_method_1_code 13 = .ok (.aload_n 0, 1) := by decide +kernel
theorem db_BXx_init_14 : decode prog_1_method_1_code 14 = .ok (.iload_n 1, 1) := by decide +kernel
theorem db_BXx_init_15 : decode prog_1_method_1_code 15 = .ok (.invokestatic 15, 3) := by decide +kernel
theorem db_BXx_init_18 : decode prog_1_method_1_code 18 = .ok (.putfield 19, 3) := by decide +kernel
theorem db_BXx_init_21 : decode prog_1_method_1_code 21 = .ok (.iconst 0, 1) := by decide +kernel
theorem db_BXx_init_22 : decode prog_1_method_1_code 22 = .ok (.istore_n 2, 1) := by decide +kernel
theorem db_BXx_init_23 : decode prog_1_method_1_code 23 = .ok (.iload_n 2, 1) := by decide +kernel
theorem db_BXx_init_24 : decode prog_1_method_1_code 24 = .ok (.bipush 8, 2) := by decide +kernel
theorem db_BXx_init_26 : decode prog_1_method_1_code 26 = .ok (.if_icmp .ge 22, 3) := by decide +kernel
theorem db_BXx_init_29 : decode prog_1_method_1_code 29 = .ok (.aload_n 0, 1) := by decide +kernel
theorem db_BXx_init_30 : decode prog_1_method_1_code 30 = .ok (.getfield 11, 3) := by decide +kernel
theorem db_BXx_init_33 : decode prog_1_method_1_code 33 = .ok (.iload_n 2, 1) := by decide +kernel
theorem db_BXx_init_34 : decode prog_1_method_1_code 34 = .ok (.new 9, 3) := by decide +kernel
theorem db_BXx_init_37 : decode prog_1_method_1_code 37 = .ok (.dup, 1) := by decide +kernel
theorem db_BXx_init_38 : decode prog_1_method_1_code 38 = .ok (.invokespecial 23, 3) := by decide +kernel
theorem db_BXx_init_41 : decode prog_1_method_1_code 41 = .ok (.aastore, 1) := by decide +kernel
theorem db_BXx_init_42 : decode prog_1_method_1_code 42 = .ok (.iinc 2 1, 3) := by decide +kernel
theorem db_BXx_init_45 : decode prog_1_method_1_code 45 = .ok (.goto (-22), 3) := by decide +kernel
theorem db_BXx_init_48 : decode prog_1_method_1_code 48 = .ok (.aload_n 0, 1) := by decide +kernel
theorem db_BXx_init_49 : decode prog_1_method_1_code 49 = .ok (.new 24, 3) := by decide +kernel
theorem db_BXx_init_52 : decode prog_1_method_1_code 52 = .ok (.dup, 1) := by decide +kernel
theorem db_BXx_init_53 : decode prog_1_method_1_code 53 = .ok (.aload_n 0, 1) := by decide +kernel
theorem db_BXx_init_54 : decode prog_1_method_1_code 54 = .ok (.getfield 19, 3) := by decide +kernel
theorem db_BXx_init_57 : decode prog_1_method_1_code 57 = .ok (.invokespecial 26, 3) := by decide +kernel
theorem db_BXx_init_60 : decode prog_1_method_1_code 60 = .ok (.putfield 29, 3) := by decide +kernel
theorem db_BXx_init_63 : decode prog_1_method_1_code 63 = .ok (.aload_n 0, 1) := by decide +kernel
theorem db_BXx_init_64 : decode prog_1_method_1_code 64 = .ok (.new 33, 3) := by decide +kernel
theorem db_BXx_init_67 : decode prog_1_method_1_code 67 = .ok (.dup, 1) := by decide +kernel
theorem db_BXx_init_68 : decode prog_1_method_1_code 68 = .ok (.aload_n 0, 1) := by decide +kernel
theorem db_BXx_init_69 : decode prog_1_method_1_code 69 = .ok (.getfield 29, 3) := by decide +kernel
theorem db_BXx_init_72 : decode prog_1_method_1_code 72 = .ok (.invokespecial 35, 3) := by decide +kernel
theorem db_BXx_init_75 : decode prog_1_method_1_code 75 = .ok (.putfield 38, 3) := by decide +kernel
theorem db_BXx_init_78 : decode prog_1_method_1_code 78 = .ok (.aload_n 0, 1) := by decide +kernel
theorem db_BXx_init_79 : decode prog_1_method_1_code 79 = .ok (.new 42, 3) := by decide +kernel
theorem db_BXx_init_82 : decode prog_1_method_1_code 82 = .ok (.dup, 1) := by decide +kernel
theorem db_BXx_init_83 : decode prog_1_method_1_code 83 = .ok (.aload_n 0, 1) := by decide +kernel
theorem db_BXx_init_84 : decode prog_1_method_1_code 84 = .ok (.getfield 29, 3) := by decide +kernel
theorem db_BXx_init_87 : decode prog_1_method_1_code 87 = .ok (.invokespecial 44, 3) := by decide +kernel
theorem db_BXx_init_90 : decode prog_1_method_1_code 90 = .ok (.putfield 45, 3) := by decide +kernel
theorem db_BXx_init_93 : decode prog_1_method_1_code 93 = .ok (.aload_n 0, 1) := by decide +kernel
theorem db_BXx_init_94 : decode prog_1_method_1_code 94 = .ok (.new 49, 3) := by decide +kernel
theorem db_BXx_init_97 : decode prog_1_method_1_code 97 = .ok (.dup, 1) := by decide +kernel
theorem db_BXx_init_98 : decode prog_1_method_1_code 98 = .ok (.aload_n 0, 1) := by decide +kernel
theorem db_BXx_init_99 : decode prog_1_method_1_code 99 = .ok (.getfield 29, 3) := by decide +kernel
theorem db_BXx_init_102 : decode prog_1_method_1_code 102 = .ok (.aload_n 0, 1) := by decide +kernel
theorem db_BXx_init_103 : decode prog_1_method_1_code 103 = .ok (.getfield 45, 3) := by decide +kernel
theorem db_BXx_init_106 : decode prog_1_method_1_code 106 = .ok (.invokespecial 51, 3) := by decide +kernel
theorem db_BXx_init_109 : decode prog_1_method_1_code 109 = .ok (.putfield 54, 3) := by decide +kernel
theorem db_BXx_init_112 : decode prog_1_method_1_code 112 = .ok (.aload_n 0, 1) := by decide +kernel
theorem db_BXx_init_113 : decode prog_1_method_1_code 113 = .ok (.new 58, 3) := by decide +kernel
theorem db_BXx_init_116 : decode prog_1_method_1_code 116 = .ok (.dup, 1) := by decide +kernel
theorem db_BXx_init_117 : decode prog_1_method_1_code 117 = .ok (.aload_n 0, 1) := by decide +kernel
theorem db_BXx_init_118 : decode prog_1_method_1_code 118 = .ok (.getfield 29, 3) := by decide +kernel
theorem db_BXx_init_121 : decode prog_1_method_1_code 121 = .ok (.invokespecial 60, 3) := by decide +kernel
theorem db_BXx_init_124 : decode prog_1_method_1_code 124 = .ok (.putfield 61, 3) := by decide +kernel
theorem db_BXx_init_127 : decode prog_1_method_1_code 127 = .ok (.aload_n 0, 1) := by decide +kernel
theorem db_BXx_init_128 : decode prog_1_method_1_code 128 = .ok (.new 65, 3) := by decide +kernel
theorem db_BXx_init_131 : decode prog_1_method_1_code 131 = .ok (.dup, 1) := by decide +kernel
theorem db_BXx_init_132 : decode prog_1_method_1_code 132 = .ok (.aload_n 0, 1) := by decide +kernel
theorem db_BXx_init_133 : decode prog_1_method_1_code 133 = .ok (.getfield 29, 3) := by decide +kernel
theorem db_BXx_init_136 : decode prog_1_method_1_code 136 = .ok (.invokespecial 67, 3) := by decide +kernel
theorem db_BXx_init_139 : decode prog_1_method_1_code 139 = .ok (.putfield 68, 3) := by decide +kernel
theorem db_BXx_init_142 : decode prog_1_method_1_code 142 = .ok (.aload_n 0, 1) := by decide +kernel
theorem db_BXx_init_143 : decode prog_1_method_1_code 143 = .ok (.new 72, 3) := by decide +kernel
theorem db_BXx_init_146 : decode prog_1_method_1_code 146 = .ok (.dup, 1) := by decide +kernel
theorem db_BXx_init_147 : decode prog_1_method_1_code 147 = .ok (.aload_n 0, 1) := by decide +kernel
theorem db_BXx_init_148 : decode prog_1_method_1_code 148 = .ok (.getfield 29, 3) := by decide +kernel
theorem db_BXx_init_151 : decode prog_1_method_1_code 151 = .ok (.invokespecial 74, 3) := by decide +kernel
theorem db_BXx_init_154 : decode prog_1_method_1_code 154 = .ok (.putfield 75, 3) := by decide +kernel
theorem db_BXx_init_157 : decode prog_1_method_1_code 157 = .ok (.return_, 1) := by decide +kernel
set_option maxHeartbeats 2000000 in
theorem BXx_init_L23_g {κ : tv_Kt} {sz : Nat} (hC : tb_Cx κ "TiedViews" prog_1_method_1_code 3 4) (hR : tv_Re κ none) (hI : κ.2.2.2.2.2.2.2.2.1.name = "<init>") (hY : tb_Y κ.s) (hz : κ.sz = sz) : ∀ (n : Nat) (l0 : Nat) (l2 : Int32) (M : tb_M), tb_G κ 3 (tb_Qm κ tv_ev) 23 [some (.ref (κ.b + l0)), none, some (.int l2)] [] M (BXx_init_L23 sz n l0 l2 M) := by
  subst hz
  intro n
  induction n with
  | zero => intro _ _ _; exact b_none
  | succ nn ih =>
    intro l0 l2 M
    rw [BXx_init_L23]
    refine b_iload_n hC db_BXx_init_23 rfl ?_
    refine b_bipush hC db_BXx_init_24 kb_b8 ?_
    refine b_icmp_ge (tgt := 48) hC db_BXx_init_26 (by decide) (fun _ => ?_) (fun _ => ?_)
    · refine b_aload_n hC db_BXx_init_48 rfl ?_
      refine bv_new hC 2 rfl wn_Xx_24 db_BXx_init_49 (fun p7 M8 => ?_)
      refine b_dup hC db_BXx_init_52 rfl ?_
      refine b_aload_n hC db_BXx_init_53 rfl ?_
      refine hg_Xx_19 hC db_BXx_init_54 (fun x9 => ?_)
      refine b_callI hC hY [.int x9] wi_Xx_26 (BTo_init_c (M8.n + 49) p7 x9 M8) rfl rfl rfl rfl rfl db_BXx_init_57 (fun M10 => ?_)
      refine hp_Xx_29 hC hI db_BXx_init_60 (fun M11 => ?_)
      refine b_aload_n hC db_BXx_init_63 rfl ?_
      refine bv_new hC 5 rfl wn_Xx_33 db_BXx_init_64 (fun p12 M13 => ?_)
      refine b_dup hC db_BXx_init_67 rfl ?_
      refine b_aload_n hC db_BXx_init_68 rfl ?_
      refine hg_Xx_29 hC db_BXx_init_69 (fun p14 => ?_)
      refine b_callI hC hY [.ref (κ.b + p14)] wi_Xx_35 (BRe_init_c (M13.n + 1) p12 p14 M13) rfl rfl rfl rfl rfl db_BXx_init_72 (fun M15 => ?_)
      refine hp_Xx_38 hC hI db_BXx_init_75 (fun M16 => ?_)
      refine b_aload_n hC db_BXx_init_78 rfl ?_
      refine bv_new hC 6 rfl wn_Xx_42 db_BXx_init_79 (fun p17 M18 => ?_)
      refine b_dup hC db_BXx_init_82 rfl ?_
      refine b_aload_n hC db_BXx_init_83 rfl ?_
      refine hg_Xx_29 hC db_BXx_init_84 (fun p19 => ?_)
      refine b_callI hC hY [.ref (κ.b + p19)] wi_Xx_44 (BAg_init_c (M18.n + 94) p17 p19 M18) rfl rfl rfl rfl rfl db_BXx_init_87 (fun M20 => ?_)
      refine hp_Xx_45 hC hI db_BXx_init_90 (fun M21 => ?_)
      refine b_aload_n hC db_BXx_init_93 rfl ?_
      refine bv_new hC 8 rfl wn_Xx_49 db_BXx_init_94 (fun p22 M23 => ?_)
      refine b_dup hC db_BXx_init_97 rfl ?_
      refine b_aload_n hC db_BXx_init_98 rfl ?_
      refine hg_Xx_29 hC db_BXx_init_99 (fun p24 => ?_)
      refine b_aload_n hC db_BXx_init_102 rfl ?_
      refine hg_Xx_45 hC db_BXx_init_103 (fun p25 => ?_)
      refine b_callI hC hY [.ref (κ.b + p24), .ref (κ.b + p25)] wi_Xx_51 (BDr_init_c (M23.n + 27) p22 p24 p25 M23) rfl rfl rfl rfl rfl db_BXx_init_106 (fun M26 => ?_)
      refine hp_Xx_54 hC hI db_BXx_init_109 (fun M27 => ?_)
      refine b_aload_n hC db_BXx_init_112 rfl ?_
      refine bv_new hC 9 rfl wn_Xx_58 db_BXx_init_113 (fun p28 M29 => ?_)
      refine b_dup hC db_BXx_init_116 rfl ?_
      refine b_aload_n hC db_BXx_init_117 rfl ?_
      refine hg_Xx_29 hC db_BXx_init_118 (fun p30 => ?_)
      refine b_callI hC hY [.ref (κ.b + p30)] wi_Xx_60 (BHe_init_c (M29.n + 7) p28 p30 M29) rfl rfl rfl rfl rfl db_BXx_init_121 (fun M31 => ?_)
      refine hp_Xx_61 hC hI db_BXx_init_124 (fun M32 => ?_)
      refine b_aload_n hC db_BXx_init_127 rfl ?_
      refine bv_new hC 10 rfl wn_Xx_65 db_BXx_init_128 (fun p33 M34 => ?_)
      refine b_dup hC db_BXx_init_131 rfl ?_
      refine b_aload_n hC db_BXx_init_132 rfl ?_
      refine hg_Xx_29 hC db_BXx_init_133 (fun p35 => ?_)
      refine b_callI hC hY [.ref (κ.b + p35)] wi_Xx_67 (BCh_init_c (M34.n + 45) p33 p35 M34) rfl rfl rfl rfl rfl db_BXx_init_136 (fun M36 => ?_)
      refine hp_Xx_68 hC hI db_BXx_init_139 (fun M37 => ?_)
      refine b_aload_n hC db_BXx_init_142 rfl ?_
      refine bv_new hC 11 rfl wn_Xx_72 db_BXx_init_143 (fun p38 M39 => ?_)
      refine b_dup hC db_BXx_init_146 rfl ?_
      refine b_aload_n hC db_BXx_init_147 rfl ?_
      refine hg_Xx_29 hC db_BXx_init_148 (fun p40 => ?_)
      refine b_callI hC hY [.ref (κ.b + p40)] wi_Xx_74 (BBo_init_c (M39.n + 1) p38 p40 M39) rfl rfl rfl rfl rfl db_BXx_init_151 (fun M41 => ?_)
      refine hp_Xx_75 hC hI db_BXx_init_154 (fun M42 => ?_)
      exact b_vret hC hR db_BXx_init_157
    · refine b_aload_n hC db_BXx_init_29 rfl ?_
      refine hg_Xx_11 hC db_BXx_init_30 (fun p43 => ?_)
      refine b_iload_n hC db_BXx_init_33 rfl ?_
      refine bv_new hC 1 rfl wn_Xx_9 db_BXx_init_34 (fun p44 M45 => ?_)
      refine b_dup hC db_BXx_init_37 rfl ?_
      refine b_callJ hC hY [] wi_Xx_23 (BSh_init_c (M45.n + 1) p44 M45) rfl rfl rfl rfl rfl db_BXx_init_38 (fun M46 => ?_)
      refine bv_ast hC 0 1 rfl rfl db_BXx_init_41 (fun M47 => ?_)
      refine b_iinc (ls' := [some (.ref (κ.b + l0)), none, some (.int (l2 + 1))]) hC db_BXx_init_42 rfl kb_i1 rfl rfl ?_
      refine b_goto (tgt := 23) hC db_BXx_init_45 (by decide) ?_
      exact ih l0 (l2 + 1) M47
set_option maxHeartbeats 2000000 in
theorem BXx_init_c {l : Launch} {θ : tv_Th} (sz : Nat) (t : Nat) (a1 : Int32) (M : tb_M) : tb_Ct l θ ⟨"TiedViews", "<init>", "(I)V"⟩ prog_1_method_1_code 3 none 4 sz tv_ev [.ref (θ.1 + t), .int a1] M (BXx_init sz t a1 M) := by
  refine tb_ofG [some (.ref (θ.1 + t)), some (.int a1), none] rfl rfl (tv_ent 1 rfl) ?_
  intro κ hl ht hce hz hC hR hI hY
  subst hl; subst ht; subst hz
  unfold BXx_init
  refine b_aload_n hC db_BXx_init_0 rfl ?_
  refine b_obj hC wo_Xx_3 db_BXx_init_1 rfl rfl ?_
  refine b_aload_n hC db_BXx_init_4 rfl ?_
  refine b_bipush hC db_BXx_init_5 kb_b8 ?_
  refine bv_newq hC hY 0 rfl wq_Xx_9 (by simp) db_BXx_init_7 (fun p1 M2 => ?_)
  refine hp_Xx_11 hC hI db_BXx_init_10 (fun M3 => ?_)
  refine b_aload_n hC db_BXx_init_13 rfl ?_
  refine b_iload_n hC db_BXx_init_14 rfl ?_
  refine bv_callSi hC hY [.int a1] cs_Xx_15 (BXx_primeOr7_c (M3.n) a1 M3) rfl rfl rfl rfl rfl db_BXx_init_15 (fun r5 M4 => ?_)
  refine hp_Xx_19 hC hI db_BXx_init_18 (fun M6 => ?_)
  refine b_iconst hC db_BXx_init_21 kb_i0 ?_
  refine b_istore_n (ls' := [some (.ref (κ.b + t)), some (.int a1), some (.int 0)]) hC db_BXx_init_22 rfl rfl ?_
  refine b_mask [true, false, true] (ls' := [some (.ref (κ.b + t)), none, some (.int 0)]) rfl ?_
  exact BXx_init_L23_g hC hR hI hY rfl 100 t 0 M6
theorem db_BMd_init_0 : decode prog_14_method_4_code 0 = .ok (.aload_n 0, 1) := by decide +kernel
theorem db_BMd_init_1 : decode prog_14_method_4_code 1 = .ok (.invokespecial 11, 3) := by decide +kernel
theorem db_BMd_init_4 : decode prog_14_method_4_code 4 = .ok (.aload_n 0, 1) := by decide +kernel
theorem db_BMd_init_5 : decode prog_14_method_4_code 5 = .ok (.bipush 8, 2) := by decide +kernel
theorem db_BMd_init_7 : decode prog_14_method_4_code 7 = .ok (.newarray .int, 2) := by decide +kernel
theorem db_BMd_init_9 : decode prog_14_method_4_code 9 = .ok (.dup, 1) := by decide +kernel
theorem db_BMd_init_10 : decode prog_14_method_4_code 10 = .ok (.iconst 0, 1) := by decide +kernel
theorem db_BMd_init_11 : decode prog_14_method_4_code 11 = .ok (.iconst (-1), 1) := by decide +kernel
theorem db_BMd_init_12 : decode prog_14_method_4_code 12 = .ok (.iastore, 1) := by decide +kernel
theorem db_BMd_init_13 : decode prog_14_method_4_code 13 = .ok (.dup, 1) := by decide +kernel
theorem db_BMd_init_14 : decode prog_14_method_4_code 14 = .ok (.iconst 1, 1) := by decide +kernel
theorem db_BMd_init_15 : decode prog_14_method_4_code 15 = .ok (.iconst (-1), 1) := by decide +kernel
theorem db_BMd_init_16 : decode prog_14_method_4_code 16 = .ok (.iastore, 1) := by decide +kernel
theorem db_BMd_init_17 : decode prog_14_method_4_code 17 = .ok (.dup, 1) := by decide +kernel
theorem db_BMd_init_18 : decode prog_14_method_4_code 18 = .ok (.iconst 2, 1) := by decide +kernel
theorem db_BMd_init_19 : decode prog_14_method_4_code 19 = .ok (.iconst (-1), 1) := by decide +kernel
theorem db_BMd_init_20 : decode prog_14_method_4_code 20 = .ok (.iastore, 1) := by decide +kernel
theorem db_BMd_init_21 : decode prog_14_method_4_code 21 = .ok (.dup, 1) := by decide +kernel
theorem db_BMd_init_22 : decode prog_14_method_4_code 22 = .ok (.iconst 3, 1) := by decide +kernel
theorem db_BMd_init_23 : decode prog_14_method_4_code 23 = .ok (.iconst (-1), 1) := by decide +kernel
theorem db_BMd_init_24 : decode prog_14_method_4_code 24 = .ok (.iastore, 1) := by decide +kernel
theorem db_BMd_init_25 : decode prog_14_method_4_code 25 = .ok (.dup, 1) := by decide +kernel
theorem db_BMd_init_26 : decode prog_14_method_4_code 26 = .ok (.iconst 4, 1) := by decide +kernel
theorem db_BMd_init_27 : decode prog_14_method_4_code 27 = .ok (.iconst (-1), 1) := by decide +kernel
theorem db_BMd_init_28 : decode prog_14_method_4_code 28 = .ok (.iastore, 1) := by decide +kernel
theorem db_BMd_init_29 : decode prog_14_method_4_code 29 = .ok (.dup, 1) := by decide +kernel
theorem db_BMd_init_30 : decode prog_14_method_4_code 30 = .ok (.iconst 5, 1) := by decide +kernel
theorem db_BMd_init_31 : decode prog_14_method_4_code 31 = .ok (.iconst (-1), 1) := by decide +kernel
theorem db_BMd_init_32 : decode prog_14_method_4_code 32 = .ok (.iastore, 1) := by decide +kernel
theorem db_BMd_init_33 : decode prog_14_method_4_code 33 = .ok (.dup, 1) := by decide +kernel
theorem db_BMd_init_34 : decode prog_14_method_4_code 34 = .ok (.bipush 6, 2) := by decide +kernel
theorem db_BMd_init_36 : decode prog_14_method_4_code 36 = .ok (.iconst (-1), 1) := by decide +kernel
theorem db_BMd_init_37 : decode prog_14_method_4_code 37 = .ok (.iastore, 1) := by decide +kernel
theorem db_BMd_init_38 : decode prog_14_method_4_code 38 = .ok (.dup, 1) := by decide +kernel
theorem db_BMd_init_39 : decode prog_14_method_4_code 39 = .ok (.bipush 7, 2) := by decide +kernel
theorem db_BMd_init_41 : decode prog_14_method_4_code 41 = .ok (.iconst (-1), 1) := by decide +kernel
theorem db_BMd_init_42 : decode prog_14_method_4_code 42 = .ok (.iastore, 1) := by decide +kernel
theorem db_BMd_init_43 : decode prog_14_method_4_code 43 = .ok (.putfield 17, 3) := by decide +kernel
theorem db_BMd_init_46 : decode prog_14_method_4_code 46 = .ok (.aload_n 0, 1) := by decide +kernel
theorem db_BMd_init_47 : decode prog_14_method_4_code 47 = .ok (.bipush 8, 2) := by decide +kernel
theorem db_BMd_init_49 : decode prog_14_method_4_code 49 = .ok (.newarray .int, 2) := by decide +kernel
theorem db_BMd_init_51 : decode prog_14_method_4_code 51 = .ok (.putfield 21, 3) := by decide +kernel
theorem db_BMd_init_54 : decode prog_14_method_4_code 54 = .ok (.aload_n 0, 1) := by decide +kernel
theorem db_BMd_init_55 : decode prog_14_method_4_code 55 = .ok (.sipush 320, 3) := by decide +kernel
theorem db_BMd_init_58 : decode prog_14_method_4_code 58 = .ok (.newarray .int, 2) := by decide +kernel
theorem db_BMd_init_60 : decode prog_14_method_4_code 60 = .ok (.putfield 24, 3) := by decide +kernel
theorem db_BMd_init_63 : decode prog_14_method_4_code 63 = .ok (.aload_n 0, 1) := by decide +kernel
theorem db_BMd_init_64 : decode prog_14_method_4_code 64 = .ok (.bipush 8, 2) := by decide +kernel
theorem db_BMd_init_66 : decode prog_14_method_4_code 66 = .ok (.newarray .int, 2) := by decide +kernel
theorem db_BMd_init_68 : decode prog_14_method_4_code 68 = .ok (.putfield 27, 3) := by decide +kernel
theorem db_BMd_init_71 : decode prog_14_method_4_code 71 = .ok (.aload_n 0, 1) := by decide +kernel
theorem db_BMd_init_72 : decode prog_14_method_4_code 72 = .ok (.bipush 8, 2) := by decide +kernel
theorem db_BMd_init_74 : decode prog_14_method_4_code 74 = .ok (.newarray .int, 2) := by decide +kernel
theorem db_BMd_init_76 : decode prog_14_method_4_code 76 = .ok (.putfield 30, 3) := by decide +kernel
theorem db_BMd_init_79 : decode prog_14_method_4_code 79 = .ok (.aload_n 0, 1) := by decide +kernel
theorem db_BMd_init_80 : decode prog_14_method_4_code 80 = .ok (.bipush 8, 2) := by decide +kernel
theorem db_BMd_init_82 : decode prog_14_method_4_code 82 = .ok (.newarray .int, 2) := by decide +kernel
theorem db_BMd_init_84 : decode prog_14_method_4_code 84 = .ok (.putfield 33, 3) := by decide +kernel
theorem db_BMd_init_87 : decode prog_14_method_4_code 87 = .ok (.aload_n 0, 1) := by decide +kernel
theorem db_BMd_init_88 : decode prog_14_method_4_code 88 = .ok (.bipush 10, 2) := by decide +kernel
theorem db_BMd_init_90 : decode prog_14_method_4_code 90 = .ok (.newarray .int, 2) := by decide +kernel
theorem db_BMd_init_92 : decode prog_14_method_4_code 92 = .ok (.putfield 36, 3) := by decide +kernel
theorem db_BMd_init_95 : decode prog_14_method_4_code 95 = .ok (.aload_n 0, 1) := by decide +kernel
theorem db_BMd_init_96 : decode prog_14_method_4_code 96 = .ok (.bipush 10, 2) := by decide +kernel
theorem db_BMd_init_98 : decode prog_14_method_4_code 98 = .ok (.newarray .int, 2) := by decide +kernel
theorem db_BMd_init_100 : decode prog_14_method_4_code 100 = .ok (.putfield 39, 3) := by decide +kernel
theorem db_BMd_init_103 : decode prog_14_method_4_code 103 = .ok (.aload_n 0, 1) := by decide +kernel
theorem db_BMd_init_104 : decode prog_14_method_4_code 104 = .ok (.bipush 10, 2) := by decide +kernel
theorem db_BMd_init_106 : decode prog_14_method_4_code 106 = .ok (.newarray .int, 2) := by decide +kernel
theorem db_BMd_init_108 : decode prog_14_method_4_code 108 = .ok (.putfield 42, 3) := by decide +kernel
theorem db_BMd_init_111 : decode prog_14_method_4_code 111 = .ok (.aload_n 0, 1) := by decide +kernel
theorem db_BMd_init_112 : decode prog_14_method_4_code 112 = .ok (.sipush 180, 3) := by decide +kernel
theorem db_BMd_init_115 : decode prog_14_method_4_code 115 = .ok (.newarray .int, 2) := by decide +kernel
theorem db_BMd_init_117 : decode prog_14_method_4_code 117 = .ok (.putfield 45, 3) := by decide +kernel
theorem db_BMd_init_120 : decode prog_14_method_4_code 120 = .ok (.aload_n 0, 1) := by decide +kernel
theorem db_BMd_init_121 : decode prog_14_method_4_code 121 = .ok (.bipush 30, 2) := by decide +kernel
theorem db_BMd_init_123 : decode prog_14_method_4_code 123 = .ok (.newarray .int, 2) := by decide +kernel
theorem db_BMd_init_125 : decode prog_14_method_4_code 125 = .ok (.putfield 48, 3) := by decide +kernel
theorem db_BMd_init_128 : decode prog_14_method_4_code 128 = .ok (.aload_n 0, 1) := by decide +kernel
theorem db_BMd_init_129 : decode prog_14_method_4_code 129 = .ok (.bipush 30, 2) := by decide +kernel
theorem db_BMd_init_131 : decode prog_14_method_4_code 131 = .ok (.newarray .int, 2) := by decide +kernel
theorem db_BMd_init_133 : decode prog_14_method_4_code 133 = .ok (.putfield 51, 3) := by decide +kernel
theorem db_BMd_init_136 : decode prog_14_method_4_code 136 = .ok (.aload_n 0, 1) := by decide +kernel
theorem db_BMd_init_137 : decode prog_14_method_4_code 137 = .ok (.bipush 30, 2) := by decide +kernel
theorem db_BMd_init_139 : decode prog_14_method_4_code 139 = .ok (.newarray .int, 2) := by decide +kernel
theorem db_BMd_init_141 : decode prog_14_method_4_code 141 = .ok (.putfield 54, 3) := by decide +kernel
theorem db_BMd_init_144 : decode prog_14_method_4_code 144 = .ok (.aload_n 0, 1) := by decide +kernel
theorem db_BMd_init_145 : decode prog_14_method_4_code 145 = .ok (.bipush 30, 2) := by decide +kernel
theorem db_BMd_init_147 : decode prog_14_method_4_code 147 = .ok (.newarray .int, 2) := by decide +kernel
theorem db_BMd_init_149 : decode prog_14_method_4_code 149 = .ok (.putfield 57, 3) := by decide +kernel
theorem db_BMd_init_152 : decode prog_14_method_4_code 152 = .ok (.aload_n 0, 1) := by decide +kernel
theorem db_BMd_init_153 : decode prog_14_method_4_code 153 = .ok (.sipush 256, 3) := by decide +kernel
theorem db_BMd_init_156 : decode prog_14_method_4_code 156 = .ok (.newarray .int, 2) := by decide +kernel
theorem db_BMd_init_158 : decode prog_14_method_4_code 158 = .ok (.putfield 60, 3) := by decide +kernel
theorem db_BMd_init_161 : decode prog_14_method_4_code 161 = .ok (.aload_n 0, 1) := by decide +kernel
theorem db_BMd_init_162 : decode prog_14_method_4_code 162 = .ok (.bipush 8, 2) := by decide +kernel
theorem db_BMd_init_164 : decode prog_14_method_4_code 164 = .ok (.newarray .int, 2) := by decide +kernel
theorem db_BMd_init_166 : decode prog_14_method_4_code 166 = .ok (.putfield 63, 3) := by decide +kernel
theorem db_BMd_init_169 : decode prog_14_method_4_code 169 = .ok (.aload_n 0, 1) := by decide +kernel
theorem db_BMd_init_170 : decode prog_14_method_4_code 170 = .ok (.sipush 500, 3) := by decide +kernel
theorem db_BMd_init_173 : decode prog_14_method_4_code 173 = .ok (.newarray .int, 2) := by decide +kernel
theorem db_BMd_init_175 : decode prog_14_method_4_code 175 = .ok (.putfield 66, 3) := by decide +kernel
theorem db_BMd_init_178 : decode prog_14_method_4_code 178 = .ok (.aload_n 0, 1) := by decide +kernel
theorem db_BMd_init_179 : decode prog_14_method_4_code 179 = .ok (.sipush 2970, 3) := by decide +kernel
theorem db_BMd_init_182 : decode prog_14_method_4_code 182 = .ok (.newarray .int, 2) := by decide +kernel
theorem db_BMd_init_184 : decode prog_14_method_4_code 184 = .ok (.putfield 69, 3) := by decide +kernel
theorem db_BMd_init_187 : decode prog_14_method_4_code 187 = .ok (.aload_n 0, 1) := by decide +kernel
theorem db_BMd_init_188 : decode prog_14_method_4_code 188 = .ok (.bipush 54, 2) := by decide +kernel
theorem db_BMd_init_190 : decode prog_14_method_4_code 190 = .ok (.newarray .boolean, 2) := by decide +kernel
theorem db_BMd_init_192 : decode prog_14_method_4_code 192 = .ok (.putfield 72, 3) := by decide +kernel
theorem db_BMd_init_195 : decode prog_14_method_4_code 195 = .ok (.aload_n 0, 1) := by decide +kernel
theorem db_BMd_init_196 : decode prog_14_method_4_code 196 = .ok (.bipush 24, 2) := by decide +kernel
theorem db_BMd_init_198 : decode prog_14_method_4_code 198 = .ok (.newarray .int, 2) := by decide +kernel
theorem db_BMd_init_200 : decode prog_14_method_4_code 200 = .ok (.putfield 76, 3) := by decide +kernel
theorem db_BMd_init_203 : decode prog_14_method_4_code 203 = .ok (.aload_n 0, 1) := by decide +kernel
theorem db_BMd_init_204 : decode prog_14_method_4_code 204 = .ok (.bipush 8, 2) := by decide +kernel
theorem db_BMd_init_206 : decode prog_14_method_4_code 206 = .ok (.newarray .boolean, 2) := by decide +kernel
theorem db_BMd_init_208 : decode prog_14_method_4_code 208 = .ok (.putfield 79, 3) := by decide +kernel
theorem db_BMd_init_211 : decode prog_14_method_4_code 211 = .ok (.aload_n 0, 1) := by decide +kernel
theorem db_BMd_init_212 : decode prog_14_method_4_code 212 = .ok (.bipush 24, 2) := by decide +kernel
theorem db_BMd_init_214 : decode prog_14_method_4_code 214 = .ok (.newarray .int, 2) := by decide +kernel
theorem db_BMd_init_216 : decode prog_14_method_4_code 216 = .ok (.putfield 82, 3) := by decide +kernel
theorem db_BMd_init_219 : decode prog_14_method_4_code 219 = .ok (.aload_n 0, 1) := by decide +kernel
theorem db_BMd_init_220 : decode prog_14_method_4_code 220 = .ok (.bipush 8, 2) := by decide +kernel
theorem db_BMd_init_222 : decode prog_14_method_4_code 222 = .ok (.newarray .int, 2) := by decide +kernel
theorem db_BMd_init_224 : decode prog_14_method_4_code 224 = .ok (.putfield 85, 3) := by decide +kernel
theorem db_BMd_init_227 : decode prog_14_method_4_code 227 = .ok (.aload_n 0, 1) := by decide +kernel
theorem db_BMd_init_228 : decode prog_14_method_4_code 228 = .ok (.bipush 8, 2) := by decide +kernel
theorem db_BMd_init_230 : decode prog_14_method_4_code 230 = .ok (.newarray .int, 2) := by decide +kernel
theorem db_BMd_init_232 : decode prog_14_method_4_code 232 = .ok (.putfield 88, 3) := by decide +kernel
theorem db_BMd_init_235 : decode prog_14_method_4_code 235 = .ok (.aload_n 0, 1) := by decide +kernel
theorem db_BMd_init_236 : decode prog_14_method_4_code 236 = .ok (.bipush 24, 2) := by decide +kernel
theorem db_BMd_init_238 : decode prog_14_method_4_code 238 = .ok (.newarray .int, 2) := by decide +kernel
theorem db_BMd_init_240 : decode prog_14_method_4_code 240 = .ok (.putfield 91, 3) := by decide +kernel
theorem db_BMd_init_243 : decode prog_14_method_4_code 243 = .ok (.aload_n 0, 1) := by decide +kernel
theorem db_BMd_init_244 : decode prog_14_method_4_code 244 = .ok (.bipush 24, 2) := by decide +kernel
theorem db_BMd_init_246 : decode prog_14_method_4_code 246 = .ok (.newarray .int, 2) := by decide +kernel
theorem db_BMd_init_248 : decode prog_14_method_4_code 248 = .ok (.putfield 94, 3) := by decide +kernel
theorem db_BMd_init_251 : decode prog_14_method_4_code 251 = .ok (.aload_n 0, 1) := by decide +kernel
theorem db_BMd_init_252 : decode prog_14_method_4_code 252 = .ok (.sipush 7224, 3) := by decide +kernel
theorem db_BMd_init_255 : decode prog_14_method_4_code 255 = .ok (.newarray .int, 2) := by decide +kernel
theorem db_BMd_init_257 : decode prog_14_method_4_code 257 = .ok (.putfield 97, 3) := by decide +kernel
theorem db_BMd_init_260 : decode prog_14_method_4_code 260 = .ok (.aload_n 0, 1) := by decide +kernel
theorem db_BMd_init_261 : decode prog_14_method_4_code 261 = .ok (.bipush 8, 2) := by decide +kernel
theorem db_BMd_init_263 : decode prog_14_method_4_code 263 = .ok (.newarray .int, 2) := by decide +kernel
theorem db_BMd_init_265 : decode prog_14_method_4_code 265 = .ok (.putfield 100, 3) := by decide +kernel
theorem db_BMd_init_268 : decode prog_14_method_4_code 268 = .ok (.aload_n 0, 1) := by decide +kernel
theorem db_BMd_init_269 : decode prog_14_method_4_code 269 = .ok (.bipush 8, 2) := by decide +kernel
theorem db_BMd_init_271 : decode prog_14_method_4_code 271 = .ok (.newarray .int, 2) := by decide +kernel
theorem db_BMd_init_273 : decode prog_14_method_4_code 273 = .ok (.putfield 103, 3) := by decide +kernel
theorem db_BMd_init_276 : decode prog_14_method_4_code 276 = .ok (.aload_n 0, 1) := by decide +kernel
theorem db_BMd_init_277 : decode prog_14_method_4_code 277 = .ok (.bipush 8, 2) := by decide +kernel
theorem db_BMd_init_279 : decode prog_14_method_4_code 279 = .ok (.newarray .int, 2) := by decide +kernel
theorem db_BMd_init_281 : decode prog_14_method_4_code 281 = .ok (.putfield 106, 3) := by decide +kernel
theorem db_BMd_init_284 : decode prog_14_method_4_code 284 = .ok (.aload_n 0, 1) := by decide +kernel
theorem db_BMd_init_285 : decode prog_14_method_4_code 285 = .ok (.bipush 16, 2) := by decide +kernel
theorem db_BMd_init_287 : decode prog_14_method_4_code 287 = .ok (.newarray .int, 2) := by decide +kernel
theorem db_BMd_init_289 : decode prog_14_method_4_code 289 = .ok (.putfield 109, 3) := by decide +kernel
theorem db_BMd_init_292 : decode prog_14_method_4_code 292 = .ok (.aload_n 0, 1) := by decide +kernel
theorem db_BMd_init_293 : decode prog_14_method_4_code 293 = .ok (.iload_n 1, 1) := by decide +kernel
theorem db_BMd_init_294 : decode prog_14_method_4_code 294 = .ok (.iconst 2, 1) := by decide +kernel
theorem db_BMd_init_295 : decode prog_14_method_4_code 295 = .ok (.if_icmp .eq 13, 3) := by decide +kernel
theorem db_BMd_init_298 : decode prog_14_method_4_code 298 = .ok (.iload_n 1, 1) := by decide +kernel
theorem db_BMd_init_299 : decode prog_14_method_4_code 299 = .ok (.iconst 3, 1) := by decide +kernel
theorem db_BMd_init_300 : decode prog_14_method_4_code 300 = .ok (.if_icmp .eq 8, 3) := by decide +kernel
theorem db_BMd_init_303 : decode prog_14_method_4_code 303 = .ok (.iload_n 1, 1) := by decide +kernel
theorem db_BMd_init_304 : decode prog_14_method_4_code 304 = .ok (.iconst 5, 1) := by decide +kernel
theorem db_BMd_init_305 : decode prog_14_method_4_code 305 = .ok (.if_icmp .ne 7, 3) := by decide +kernel
theorem db_BMd_init_308 : decode prog_14_method_4_code 308 = .ok (.iload_n 1, 1) := by decide +kernel
theorem db_BMd_init_309 : decode prog_14_method_4_code 309 = .ok (.goto 5, 3) := by decide +kernel
theorem db_BMd_init_312 : decode prog_14_method_4_code 312 = .ok (.bipush 7, 2) := by decide +kernel
theorem db_BMd_init_314 : decode prog_14_method_4_code 314 = .ok (.putfield 112, 3) := by decide +kernel
theorem db_BMd_init_317 : decode prog_14_method_4_code 317 = .ok (.return_, 1) := by decide +kernel
set_option maxHeartbeats 2000000 in
theorem BMd_init_c {l : Launch} {θ : tv_Th} (sz : Nat) (t : Nat) (a1 : Int32) (M : tb_M) : tb_Ct l θ ⟨"TiedViewsModel", "<init>", "(I)V"⟩ prog_14_method_4_code 2 none 1 sz tv_ev [.ref (θ.1 + t), .int a1] M (BMd_init sz t a1 M) := by
  refine tb_ofG [some (.ref (θ.1 + t)), some (.int a1)] rfl rfl (tv_ent 0 rfl) ?_
  intro κ hl ht hce hz hC hR hI hY
  subst hl; subst ht; subst hz
  unfold BMd_init
  refine b_aload_n hC db_BMd_init_0 rfl ?_
  refine b_obj hC wo_Md_11 db_BMd_init_1 rfl rfl ?_
  refine b_aload_n hC db_BMd_init_4 rfl ?_
  refine b_bipush hC db_BMd_init_5 kb_b8 ?_
  refine bv_newI hC wa_I db_BMd_init_7 (fun p1 M2 => ?_)
  refine b_dup hC db_BMd_init_9 rfl ?_
  refine b_iconst hC db_BMd_init_10 kb_i0 ?_
  refine b_iconst hC db_BMd_init_11 kb_im1 ?_
  refine bv_iast hC db_BMd_init_12 (fun M3 => ?_)
  refine b_dup hC db_BMd_init_13 rfl ?_
  refine b_iconst hC db_BMd_init_14 kb_i1 ?_
  refine b_iconst hC db_BMd_init_15 kb_im1 ?_
  refine bv_iast hC db_BMd_init_16 (fun M4 => ?_)
  refine b_dup hC db_BMd_init_17 rfl ?_
  refine b_iconst hC db_BMd_init_18 kb_i2 ?_
  refine b_iconst hC db_BMd_init_19 kb_im1 ?_
  refine bv_iast hC db_BMd_init_20 (fun M5 => ?_)
  refine b_dup hC db_BMd_init_21 rfl ?_
  refine b_iconst hC db_BMd_init_22 kb_i3 ?_
  refine b_iconst hC db_BMd_init_23 kb_im1 ?_
  refine bv_iast hC db_BMd_init_24 (fun M6 => ?_)
  refine b_dup hC db_BMd_init_25 rfl ?_
  refine b_iconst hC db_BMd_init_26 kb_i4 ?_
  refine b_iconst hC db_BMd_init_27 kb_im1 ?_
  refine bv_iast hC db_BMd_init_28 (fun M7 => ?_)
  refine b_dup hC db_BMd_init_29 rfl ?_
  refine b_iconst hC db_BMd_init_30 kb_i5 ?_
  refine b_iconst hC db_BMd_init_31 kb_im1 ?_
  refine bv_iast hC db_BMd_init_32 (fun M8 => ?_)
  refine b_dup hC db_BMd_init_33 rfl ?_
  refine b_bipush hC db_BMd_init_34 kb_b6 ?_
  refine b_iconst hC db_BMd_init_36 kb_im1 ?_
  refine bv_iast hC db_BMd_init_37 (fun M9 => ?_)
  refine b_dup hC db_BMd_init_38 rfl ?_
  refine b_bipush hC db_BMd_init_39 kb_b7 ?_
  refine b_iconst hC db_BMd_init_41 kb_im1 ?_
  refine bv_iast hC db_BMd_init_42 (fun M10 => ?_)
  refine hp_Md_17 hC hI db_BMd_init_43 (fun M11 => ?_)
  refine b_aload_n hC db_BMd_init_46 rfl ?_
  refine b_bipush hC db_BMd_init_47 kb_b8 ?_
  refine bv_newI hC wa_I db_BMd_init_49 (fun p12 M13 => ?_)
  refine hp_Md_21 hC hI db_BMd_init_51 (fun M14 => ?_)
  refine b_aload_n hC db_BMd_init_54 rfl ?_
  refine b_sipush hC db_BMd_init_55 kb_s320 ?_
  refine bv_newI hC wa_I db_BMd_init_58 (fun p15 M16 => ?_)
  refine hp_Md_24 hC hI db_BMd_init_60 (fun M17 => ?_)
  refine b_aload_n hC db_BMd_init_63 rfl ?_
  refine b_bipush hC db_BMd_init_64 kb_b8 ?_
  refine bv_newI hC wa_I db_BMd_init_66 (fun p18 M19 => ?_)
  refine hp_Md_27 hC hI db_BMd_init_68 (fun M20 => ?_)
  refine b_aload_n hC db_BMd_init_71 rfl ?_
  refine b_bipush hC db_BMd_init_72 kb_b8 ?_
  refine bv_newI hC wa_I db_BMd_init_74 (fun p21 M22 => ?_)
  refine hp_Md_30 hC hI db_BMd_init_76 (fun M23 => ?_)
  refine b_aload_n hC db_BMd_init_79 rfl ?_
  refine b_bipush hC db_BMd_init_80 kb_b8 ?_
  refine bv_newI hC wa_I db_BMd_init_82 (fun p24 M25 => ?_)
  refine hp_Md_33 hC hI db_BMd_init_84 (fun M26 => ?_)
  refine b_aload_n hC db_BMd_init_87 rfl ?_
  refine b_bipush hC db_BMd_init_88 kb_b10 ?_
  refine bv_newI hC wa_I db_BMd_init_90 (fun p27 M28 => ?_)
  refine hp_Md_36 hC hI db_BMd_init_92 (fun M29 => ?_)
  refine b_aload_n hC db_BMd_init_95 rfl ?_
  refine b_bipush hC db_BMd_init_96 kb_b10 ?_
  refine bv_newI hC wa_I db_BMd_init_98 (fun p30 M31 => ?_)
  refine hp_Md_39 hC hI db_BMd_init_100 (fun M32 => ?_)
  refine b_aload_n hC db_BMd_init_103 rfl ?_
  refine b_bipush hC db_BMd_init_104 kb_b10 ?_
  refine bv_newI hC wa_I db_BMd_init_106 (fun p33 M34 => ?_)
  refine hp_Md_42 hC hI db_BMd_init_108 (fun M35 => ?_)
  refine b_aload_n hC db_BMd_init_111 rfl ?_
  refine b_sipush hC db_BMd_init_112 kb_s180 ?_
  refine bv_newI hC wa_I db_BMd_init_115 (fun p36 M37 => ?_)
  refine hp_Md_45 hC hI db_BMd_init_117 (fun M38 => ?_)
  refine b_aload_n hC db_BMd_init_120 rfl ?_
  refine b_bipush hC db_BMd_init_121 kb_b30 ?_
  refine bv_newI hC wa_I db_BMd_init_123 (fun p39 M40 => ?_)
  refine hp_Md_48 hC hI db_BMd_init_125 (fun M41 => ?_)
  refine b_aload_n hC db_BMd_init_128 rfl ?_
  refine b_bipush hC db_BMd_init_129 kb_b30 ?_
  refine bv_newI hC wa_I db_BMd_init_131 (fun p42 M43 => ?_)
  refine hp_Md_51 hC hI db_BMd_init_133 (fun M44 => ?_)
  refine b_aload_n hC db_BMd_init_136 rfl ?_
  refine b_bipush hC db_BMd_init_137 kb_b30 ?_
  refine bv_newI hC wa_I db_BMd_init_139 (fun p45 M46 => ?_)
  refine hp_Md_54 hC hI db_BMd_init_141 (fun M47 => ?_)
  refine b_aload_n hC db_BMd_init_144 rfl ?_
  refine b_bipush hC db_BMd_init_145 kb_b30 ?_
  refine bv_newI hC wa_I db_BMd_init_147 (fun p48 M49 => ?_)
  refine hp_Md_57 hC hI db_BMd_init_149 (fun M50 => ?_)
  refine b_aload_n hC db_BMd_init_152 rfl ?_
  refine b_sipush hC db_BMd_init_153 kb_s256 ?_
  refine bv_newI hC wa_I db_BMd_init_156 (fun p51 M52 => ?_)
  refine hp_Md_60 hC hI db_BMd_init_158 (fun M53 => ?_)
  refine b_aload_n hC db_BMd_init_161 rfl ?_
  refine b_bipush hC db_BMd_init_162 kb_b8 ?_
  refine bv_newI hC wa_I db_BMd_init_164 (fun p54 M55 => ?_)
  refine hp_Md_63 hC hI db_BMd_init_166 (fun M56 => ?_)
  refine b_aload_n hC db_BMd_init_169 rfl ?_
  refine b_sipush hC db_BMd_init_170 kb_s500 ?_
  refine bv_newI hC wa_I db_BMd_init_173 (fun p57 M58 => ?_)
  refine hp_Md_66 hC hI db_BMd_init_175 (fun M59 => ?_)
  refine b_aload_n hC db_BMd_init_178 rfl ?_
  refine b_sipush hC db_BMd_init_179 kb_s2970 ?_
  refine bv_newI hC wa_I db_BMd_init_182 (fun p60 M61 => ?_)
  refine hp_Md_69 hC hI db_BMd_init_184 (fun M62 => ?_)
  refine b_aload_n hC db_BMd_init_187 rfl ?_
  refine b_bipush hC db_BMd_init_188 kb_b54 ?_
  refine bv_newZ hC wa_Z db_BMd_init_190 (fun p63 M64 => ?_)
  refine hp_Md_72 hC hI db_BMd_init_192 (fun M65 => ?_)
  refine b_aload_n hC db_BMd_init_195 rfl ?_
  refine b_bipush hC db_BMd_init_196 kb_b24 ?_
  refine bv_newI hC wa_I db_BMd_init_198 (fun p66 M67 => ?_)
  refine hp_Md_76 hC hI db_BMd_init_200 (fun M68 => ?_)
  refine b_aload_n hC db_BMd_init_203 rfl ?_
  refine b_bipush hC db_BMd_init_204 kb_b8 ?_
  refine bv_newZ hC wa_Z db_BMd_init_206 (fun p69 M70 => ?_)
  refine hp_Md_79 hC hI db_BMd_init_208 (fun M71 => ?_)
  refine b_aload_n hC db_BMd_init_211 rfl ?_
  refine b_bipush hC db_BMd_init_212 kb_b24 ?_
  refine bv_newI hC wa_I db_BMd_init_214 (fun p72 M73 => ?_)
  refine hp_Md_82 hC hI db_BMd_init_216 (fun M74 => ?_)
  refine b_aload_n hC db_BMd_init_219 rfl ?_
  refine b_bipush hC db_BMd_init_220 kb_b8 ?_
  refine bv_newI hC wa_I db_BMd_init_222 (fun p75 M76 => ?_)
  refine hp_Md_85 hC hI db_BMd_init_224 (fun M77 => ?_)
  refine b_aload_n hC db_BMd_init_227 rfl ?_
  refine b_bipush hC db_BMd_init_228 kb_b8 ?_
  refine bv_newI hC wa_I db_BMd_init_230 (fun p78 M79 => ?_)
  refine hp_Md_88 hC hI db_BMd_init_232 (fun M80 => ?_)
  refine b_aload_n hC db_BMd_init_235 rfl ?_
  refine b_bipush hC db_BMd_init_236 kb_b24 ?_
  refine bv_newI hC wa_I db_BMd_init_238 (fun p81 M82 => ?_)
  refine hp_Md_91 hC hI db_BMd_init_240 (fun M83 => ?_)
  refine b_aload_n hC db_BMd_init_243 rfl ?_
  refine b_bipush hC db_BMd_init_244 kb_b24 ?_
  refine bv_newI hC wa_I db_BMd_init_246 (fun p84 M85 => ?_)
  refine hp_Md_94 hC hI db_BMd_init_248 (fun M86 => ?_)
  refine b_aload_n hC db_BMd_init_251 rfl ?_
  refine b_sipush hC db_BMd_init_252 kb_s7224 ?_
  refine bv_newI hC wa_I db_BMd_init_255 (fun p87 M88 => ?_)
  refine hp_Md_97 hC hI db_BMd_init_257 (fun M89 => ?_)
  refine b_aload_n hC db_BMd_init_260 rfl ?_
  refine b_bipush hC db_BMd_init_261 kb_b8 ?_
  refine bv_newI hC wa_I db_BMd_init_263 (fun p90 M91 => ?_)
  refine hp_Md_100 hC hI db_BMd_init_265 (fun M92 => ?_)
  refine b_aload_n hC db_BMd_init_268 rfl ?_
  refine b_bipush hC db_BMd_init_269 kb_b8 ?_
  refine bv_newI hC wa_I db_BMd_init_271 (fun p93 M94 => ?_)
  refine hp_Md_103 hC hI db_BMd_init_273 (fun M95 => ?_)
  refine b_aload_n hC db_BMd_init_276 rfl ?_
  refine b_bipush hC db_BMd_init_277 kb_b8 ?_
  refine bv_newI hC wa_I db_BMd_init_279 (fun p96 M97 => ?_)
  refine hp_Md_106 hC hI db_BMd_init_281 (fun M98 => ?_)
  refine b_aload_n hC db_BMd_init_284 rfl ?_
  refine b_bipush hC db_BMd_init_285 kb_b16 ?_
  refine bv_newI hC wa_I db_BMd_init_287 (fun p99 M100 => ?_)
  refine hp_Md_109 hC hI db_BMd_init_289 (fun M101 => ?_)
  refine b_aload_n hC db_BMd_init_292 rfl ?_
  refine b_iload_n hC db_BMd_init_293 rfl ?_
  refine b_iconst hC db_BMd_init_294 kb_i2 ?_
  refine b_icmp_eq (tgt := 308) hC db_BMd_init_295 (by decide) (fun _ => ?_) (fun _ => ?_)
  · refine b_iload_n hC db_BMd_init_308 rfl ?_
    refine b_goto (tgt := 314) hC db_BMd_init_309 (by decide) ?_
    refine hp_Md_112 hC hI db_BMd_init_314 (fun M102 => ?_)
    exact b_vret hC hR db_BMd_init_317
  · refine b_iload_n hC db_BMd_init_298 rfl ?_
    refine b_iconst hC db_BMd_init_299 kb_i3 ?_
    refine b_icmp_eq (tgt := 308) hC db_BMd_init_300 (by decide) (fun _ => ?_) (fun _ => ?_)
    · refine b_iload_n hC db_BMd_init_308 rfl ?_
      refine b_goto (tgt := 314) hC db_BMd_init_309 (by decide) ?_
      refine hp_Md_112 hC hI db_BMd_init_314 (fun M103 => ?_)
      exact b_vret hC hR db_BMd_init_317
    · refine b_iload_n hC db_BMd_init_303 rfl ?_
      refine b_iconst hC db_BMd_init_304 kb_i5 ?_
      refine b_icmp_ne (tgt := 312) hC db_BMd_init_305 (by decide) (fun _ => ?_) (fun _ => ?_)
      · refine b_bipush hC db_BMd_init_312 kb_b7 ?_
        refine hp_Md_112 hC hI db_BMd_init_314 (fun M104 => ?_)
        exact b_vret hC hR db_BMd_init_317
      · refine b_iload_n hC db_BMd_init_308 rfl ?_
        refine b_goto (tgt := 314) hC db_BMd_init_309 (by decide) ?_
        refine hp_Md_112 hC hI db_BMd_init_314 (fun M105 => ?_)
        exact b_vret hC hR db_BMd_init_317
