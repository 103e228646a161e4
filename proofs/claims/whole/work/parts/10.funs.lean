/-! THE PROGRAM AS FUNCTIONS: by program (wip/tools/dec.py) from the bytecode; each method, and each of its labels, in the order of the calls -/
/-- TiedViews.primeOr7(I)I -/
def Xx_primeOr7 (F : Nat) (a0 : Int32) (M : tv_M) : Option (Int32 × tv_M) := if a0 = 2 then some (a0, M) else if a0 = 3 then some (a0, M) else if a0 = 5 then some (a0, M) else some (7, M)
/-- java/util/Arrays.fill([II)V -/
def Jv_fill_L5 (F : Nat) : Nat → Nat → Int32 → Int32 → Int32 → tv_M → Option (Unit × tv_M)
  | 0, _, _, _, _, _ => none
  | nn + 1, l0, l1, l2, l3, M => tv_gn l0 20 (fun n4 => if l3 ≤ l2 then some ((), M) else tv_wr M l0 n4 l2 l1 (fun M5 => Jv_fill_L5 F nn l0 l1 (l2 + 1) l3 M5))
def Jv_fill (F : Nat) (a0 : Nat) (a1 : Int32) (M : tv_M) : Option (Unit × tv_M) := tv_gn a0 20 (fun n2 => Jv_fill_L5 F F a0 a1 0 (Int32.ofNat n2) M)
/-- TiedViews.sheetAt(I)LTiedViews$Sheet; -/
def Xx_sheetAt (F : Nat) (a1 : Int32) (M : tv_M) : Option (Option Nat × tv_M) := if a1 < 0 then some (none, M) else if a1 < 8 then tv_ap 1 8 a1 (fun p1 => tv_gl p1 1 (some (some p1, M))) else some (none, M)
/-- TiedViews.found(I)I -/
def Xx_found (F : Nat) (a1 : Int32) (M : tv_M) : Option (Int32 × tv_M) := tv_pf M 0 9 a1 (fun M1 => some ((-1000010) - a1, M1))
/-- TiedViews$Sheet.begin(II)V -/
def Sh_begin (F : Nat) (t : Nat) (a1 : Int32) (a2 : Int32) (M : tv_M) : Option (Unit × tv_M) := tv_gl t 1 (tv_pf M t 0 a1 (fun M2 => tv_pf M2 t 1 a2 (fun M3 => tv_nn (tv_P0 t 2) (fun p4 => tv_gn p4 20 (fun n6 => tv_cb (Jv_fill F p4 0 M3) (fun r7 M8 => some ((), M8)))))))
/-- TiedViews.passed(I)I -/
def Xx_passed (F : Nat) (a1 : Int32) (M : tv_M) : Option (Int32 × tv_M) := tv_pf M 0 9 0 (fun M1 => some (a1, M1))
/-- TiedViews.sheet(III)I -/
def Xx_sheet (F : Nat) (a1 : Int32) (a2 : Int32) (a3 : Int32) (M : tv_M) : Option (Int32 × tv_M) := tv_cb (Xx_sheetAt F a1 M) (fun r1 M2 => tv_nl r1 (some ((-1000001), M2)) (fun p3 => tv_gl p3 1 (if a2 < 0 then some ((-1000001), M2) else if 2 < a2 then some ((-1000001), M2) else if a3 ≤ 40 then if 0 ≤ a3 then tv_cb (Sh_begin F p3 a2 a3 M2) (fun r5 M6 => tv_cb (Xx_passed F a3 M6) (fun r7 M8 => some (r7, M8))) else tv_cb (Xx_found F 4 M2) (fun r9 M10 => some (r9, M10)) else some ((-1000001), M2))))
/-- TiedViews$Sheet.isMissing()Z -/
def Sh_isMissing (F : Nat) (t : Nat) (M : tv_M) : Option (Int32 × tv_M) := tv_gl t 1 (if (M.1 t 0) = (-1) then some (1, M) else some (0, M))
/-- TiedViews$Sheet.reaches(II)Z -/
def Sh_reaches (F : Nat) (t : Nat) (a1 : Int32) (a2 : Int32) (M : tv_M) : Option (Int32 × tv_M) := tv_gl t 1 (if a1 < 0 then some (0, M) else if a2 < 0 then some (0, M) else if (M.1 t 1) < a1 then some (0, M) else if ((M.1 t 1) - a1) < a2 then some (0, M) else some (1, M))
/-- TiedViews$Sheet.cut(I)I -/
def Sh_cut (F : Nat) (t : Nat) (a1 : Int32) (M : tv_M) : Option (Int32 × tv_M) := tv_gl t 1 (if (M.1 t 0) = 0 then some ((a1 : Int32).toInt8.toInt32, M) else if (M.1 t 0) = 1 then some ((a1 : Int32).toInt16.toInt32, M) else some (a1, M))
/-- TiedViews$Sheet.put(II)I -/
def Sh_put (F : Nat) (t : Nat) (a1 : Int32) (a2 : Int32) (M : tv_M) : Option (Int32 × tv_M) := tv_gl t 1 (tv_cb (Sh_reaches F t a1 1 M) (fun r2 M3 => if r2 = 0 then some ((-1000000), M3) else tv_nn (tv_P0 t 2) (fun p4 => tv_gn p4 20 (fun n6 => tv_cb (Sh_cut F t a2 M3) (fun r7 M8 => tv_wr M8 p4 n6 a1 r7 (fun M9 => tv_nn (tv_P0 t 2) (fun p10 => tv_gn p10 20 (fun n12 => tv_rd M9 p10 n12 a1 (fun x13 => some (x13, M9))))))))))
/-- TiedViews.set(III)I -/
def Xx_set (F : Nat) (a1 : Int32) (a2 : Int32) (a3 : Int32) (M : tv_M) : Option (Int32 × tv_M) := tv_cb (Xx_sheetAt F a1 M) (fun r1 M2 => tv_nl r1 (some ((-1000001), M2)) (fun p3 => tv_gl p3 1 (tv_cb (Sh_isMissing F p3 M2) (fun r5 M6 => if r5 = 0 then tv_cb (Sh_reaches F p3 a2 1 M6) (fun r7 M8 => if r7 = 0 then tv_cb (Xx_found F 2 M8) (fun r13 M14 => some (r13, M14)) else tv_cb (Sh_put F p3 a2 a3 M8) (fun r9 M10 => tv_cb (Xx_passed F r9 M10) (fun r11 M12 => some (r11, M12)))) else tv_cb (Xx_found F 1 M6) (fun r15 M16 => some (r15, M16))))))
/-- TiedViews.copy(IIIII)I -/
def Xx_copy (F : Nat) (a1 : Int32) (a2 : Int32) (a3 : Int32) (a4 : Int32) (a5 : Int32) (M : tv_M) : Option (Int32 × tv_M) := tv_cb (Xx_sheetAt F a1 M) (fun r1 M2 => tv_cb (Xx_sheetAt F a3 M2) (fun r3 M4 => tv_nl r1 (some ((-1000001), M4)) (fun p5 => tv_gl p5 1 (tv_nl r3 (some ((-1000001), M4)) (fun p7 => tv_gl p7 1 (tv_cb (Sh_isMissing F p5 M4) (fun r9 M10 => if r9 = 0 then tv_cb (Sh_isMissing F p7 M10) (fun r13 M14 => if r13 = 0 then if (M14.1 p5 0) = (M14.1 p7 0) then tv_cb (Sh_reaches F p5 a2 a5 M14) (fun r15 M16 => if r15 = 0 then tv_cb (Xx_found F 2 M16) (fun r17 M18 => some (r17, M18)) else tv_cb (Sh_reaches F p7 a4 a5 M16) (fun r19 M20 => if r19 = 0 then tv_cb (Xx_found F 2 M20) (fun r32 M33 => some (r32, M33)) else tv_nn (tv_P0 p5 2) (fun p21 => tv_gn p21 20 (fun n23 => tv_nn (tv_P0 p7 2) (fun p24 => tv_gn p24 20 (fun n26 => tv_cpy M20 p21 n23 a2 p24 n26 a4 a5 (fun M27 => tv_cb (Xx_passed F a5 M27) (fun r28 M29 => some (r28, M29))))))))) else tv_cb (Xx_found F 5 M14) (fun r34 M35 => some (r34, M35)) else tv_cb (Xx_found F 1 M14) (fun r36 M37 => some (r36, M37))) else tv_cb (Xx_found F 1 M10) (fun r11 M12 => some (r11, M12)))))))))
/-- TiedViews.drop(I)I -/
def Xx_drop (F : Nat) (a1 : Int32) (M : tv_M) : Option (Int32 × tv_M) := tv_cb (Xx_sheetAt F a1 M) (fun r1 M2 => tv_nl r1 (some ((-1000001), M2)) (fun p3 => tv_gl p3 1 (tv_cb (Sh_isMissing F p3 M2) (fun r5 M6 => if r5 = 0 then tv_cb (Sh_begin F p3 (-1) 0 M6) (fun r7 M8 => tv_cb (Xx_passed F (M6.1 p3 1) M8) (fun r9 M10 => some (r9, M10))) else tv_cb (Xx_found F 1 M6) (fun r11 M12 => some (r11, M12))))))
/-- TiedViews$Reader.hasRoomFor(I)Z -/
def Re_hasRoomFor (F : Nat) (a1 : Int32) (M : tv_M) : Option (Int32 × tv_M) := if (500 - (M.1 68 2)) < a1 then some (0, M) else some (1, M)
/-- TiedViews$Reader.append(JI)I -/
def Re_append_L5 (F : Nat) : Nat → Int64 → Int32 → tv_M → Option (Int32 × tv_M)
  | 0, _, _, _ => none
  | nn + 1, l1, l4, M => if l4 < 0 then some (M.1 68 2, M) else if 500 ≤ (M.1 68 2) then some (M.1 68 2, M) else tv_wr M 69 500 (M.1 68 2) (vp_nar .byte (((l1 >>> ((8 * l4 : Int32).toInt64 &&& 63) : Int64).toInt32 : Int32).toInt8.toInt32)) (fun M1 => tv_pf M1 68 2 ((M1.1 68 2) + 1) (fun M2 => Re_append_L5 F nn l1 (l4 + (-1)) M2))
def Re_append (F : Nat) (a1 : Int64) (a3 : Int32) (M : tv_M) : Option (Int32 × tv_M) := Re_append_L5 F F a1 (a3 - 1) M
/-- TiedViews.feed(JI)I -/
def Xx_feed (F : Nat) (a1 : Int64) (a3 : Int32) (M : tv_M) : Option (Int32 × tv_M) := if a3 < 1 then some ((-1000001), M) else if a3 ≤ 8 then tv_cb (Re_hasRoomFor F a3 M) (fun r1 M2 => if r1 = 0 then some ((-1000003), M2) else tv_cb (Re_append F a1 a3 M2) (fun r3 M4 => some (r3, M4))) else some ((-1000001), M)
/-- TiedViews$Told.keep()V -/
def To_keep (F : Nat)  (M : tv_M) : Option (Unit × tv_M) := tv_pf M 18 9 (M.1 18 4) (fun M1 => tv_pf M1 18 10 (M1.1 18 5) (fun M2 => tv_pf M2 18 11 (M2.1 18 6) (fun M3 => tv_pf M3 18 12 (M3.1 18 7) (fun M4 => tv_pf M4 18 13 (M4.1 18 8) (fun M5 => some ((), M5))))))
/-- TiedViews$Reader.passRun(CC)Z -/
def Re_passRun_L0 (F : Nat) : Nat → Int32 → Int32 → tv_M → Option (Int32 × tv_M)
  | 0, _, _, _ => none
  | nn + 1, l1, l2, M => if (M.1 68 2) ≤ (M.1 68 6) then if (M.1 68 6) ≤ (M.1 68 5) then some (0, M) else some (1, M) else tv_rd M 69 500 (M.1 68 6) (fun x1 => if x1 < l1 then if (M.1 68 6) ≤ (M.1 68 5) then some (0, M) else some (1, M) else tv_rd M 69 500 (M.1 68 6) (fun x2 => if l2 < x2 then if (M.1 68 6) ≤ (M.1 68 5) then some (0, M) else some (1, M) else tv_pf M 68 6 ((M.1 68 6) + 1) (fun M3 => Re_passRun_L0 F nn l1 l2 M3)))
def Re_passRun (F : Nat) (a1 : Int32) (a2 : Int32) (M : tv_M) : Option (Int32 × tv_M) := Re_passRun_L0 F F a1 a2 M
/-- TiedViews$Reader.figuresValue()I -/
def Re_figuresValue_L7 (F : Nat) : Nat → Int32 → Int32 → tv_M → Option (Int32 × tv_M)
  | 0, _, _, _ => none
  | nn + 1, l1, l2, M => if (M.1 68 6) ≤ l2 then some (l1, M) else if ((M.1 68 5) + 3) ≤ l2 then some (l1, M) else tv_rd M 69 500 l2 (fun x1 => Re_figuresValue_L7 F nn (((l1 * 10) + x1) - 48) (l2 + 1) M)
def Re_figuresValue (F : Nat)  (M : tv_M) : Option (Int32 × tv_M) := Re_figuresValue_L7 F F 0 (M.1 68 5) M
/-- TiedViews$Reader.goOn()V -/
def Re_goOn_L52 (F : Nat) (M : tv_M) : Option (Unit × tv_M) := tv_pf M 68 5 (M.1 68 6) (fun M5 => if (M5.1 68 5) < (M5.1 68 2) then tv_cb (Re_passRun F 97 122 M5) (fun r6 M7 => if r6 = 0 then tv_cb (Re_passRun F 48 57 M7) (fun r8 M9 => if r8 = 0 then tv_rd M9 69 500 (M9.1 68 5) (fun x10 => if x10 = 59 then tv_rd M9 69 500 (M9.1 68 5) (fun x11 => tv_pf M9 68 4 x11 (fun M12 => tv_pf M12 68 6 ((M12.1 68 5) + 1) (fun M13 => some ((), M13)))) else tv_rd M9 69 500 (M9.1 68 5) (fun x14 => if x14 = 44 then tv_rd M9 69 500 (M9.1 68 5) (fun x17 => tv_pf M9 68 4 x17 (fun M18 => tv_pf M18 68 6 ((M18.1 68 5) + 1) (fun M19 => some ((), M19)))) else tv_pf M9 68 4 3 (fun M15 => tv_pf M15 68 6 ((M15.1 68 5) + 1) (fun M16 => some ((), M16))))) else if ((M9.1 68 6) - (M9.1 68 5)) ≤ 3 then tv_pf M9 68 4 2 (fun M20 => tv_cb (Re_figuresValue F M20) (fun r21 M22 => tv_pf M22 68 7 r21 (fun M23 => some ((), M23)))) else tv_pf M9 68 4 3 (fun M24 => tv_cb (Re_figuresValue F M24) (fun r25 M26 => tv_pf M26 68 7 r25 (fun M27 => some ((), M27))))) else tv_pf M7 68 4 1 (fun M28 => some ((), M28))) else tv_pf M5 68 4 0 (fun M29 => some ((), M29)))
def Re_goOn_L0 (F : Nat) : Nat → tv_M → Option (Unit × tv_M)
  | 0, _ => none
  | nn + 1, M => if (M.1 68 2) ≤ (M.1 68 6) then Re_goOn_L52 F M else tv_rd M 69 500 (M.1 68 6) (fun x1 => if x1 = 32 then tv_pf M 68 6 ((M.1 68 6) + 1) (fun M2 => Re_goOn_L0 F nn M2) else tv_rd M 69 500 (M.1 68 6) (fun x3 => if x3 = 10 then tv_pf M 68 6 ((M.1 68 6) + 1) (fun M4 => Re_goOn_L0 F nn M4) else Re_goOn_L52 F M))
def Re_goOn (F : Nat)  (M : tv_M) : Option (Unit × tv_M) := Re_goOn_L0 F F M
/-- TiedViews$Reader.isWord(Ljava/lang/String;)Z -/
def Re_isWord_L28 (F : Nat) : Nat → Nat → Int32 → tv_M → Option (Int32 × tv_M)
  | 0, _, _, _ => none
  | nn + 1, l1, l2, M => tv_gs l1 (tv_cb (Js_length F l1 M) (fun r3 M4 => if r3 ≤ l2 then some (1, M4) else tv_rd M4 69 500 ((M4.1 68 5) + l2) (fun x5 => tv_cb (Js_charAt F l1 l2 M4) (fun r6 M7 => if x5 = r6 then Re_isWord_L28 F nn l1 (l2 + 1) M7 else some (0, M7)))))
def Re_isWord (F : Nat) (a1 : Nat) (M : tv_M) : Option (Int32 × tv_M) := tv_gs a1 (if (M.1 68 4) = 1 then tv_cb (Js_length F a1 M) (fun r1 M2 => if ((M.1 68 6) - (M.1 68 5)) = r1 then Re_isWord_L28 F F a1 0 M2 else some (0, M2)) else some (0, M))
/-- TiedViews$Reader.fails(I)Z -/
def Re_fails (F : Nat) (a1 : Int32) (M : tv_M) : Option (Int32 × tv_M) := tv_pf M 68 3 a1 (fun M1 => some (0, M1))
/-- TiedViews$Reader.takeSort()Z -/
def Re_takeSort (F : Nat)  (M : tv_M) : Option (Int32 × tv_M) := tv_cb (Re_isWord F 1 M) (fun r1 M2 => if r1 = 0 then tv_cb (Re_isWord F 2 M2) (fun r3 M4 => if r3 = 0 then tv_cb (Re_isWord F 3 M4) (fun r5 M6 => if r5 = 0 then tv_cb (Re_isWord F 4 M6) (fun r7 M8 => if r7 = 0 then tv_cb (Re_fails F 1 M8) (fun r9 M10 => tv_zo r9 (some (r9, M10))) else tv_pf M8 68 8 3 (fun M12 => tv_cb (Re_goOn F M12) (fun r13 M14 => some (1, M14)))) else tv_pf M6 68 8 2 (fun M15 => tv_cb (Re_goOn F M15) (fun r16 M17 => some (1, M17)))) else tv_pf M4 68 8 1 (fun M18 => tv_cb (Re_goOn F M18) (fun r19 M20 => some (1, M20)))) else tv_pf M2 68 8 0 (fun M21 => tv_cb (Re_goOn F M21) (fun r22 M23 => some (1, M23))))
/-- TiedViews$Reader.takeNumber(II)Z -/
def Re_takeNumber (F : Nat) (a1 : Int32) (a2 : Int32) (M : tv_M) : Option (Int32 × tv_M) := if (M.1 68 4) = 2 then if (M.1 68 7) < a1 then tv_cb (Re_fails F 2 M) (fun r1 M2 => tv_zo r1 (some (r1, M2))) else if (M.1 68 7) ≤ a2 then tv_pf M 68 8 (M.1 68 7) (fun M4 => tv_cb (Re_goOn F M4) (fun r5 M6 => some (1, M6))) else tv_cb (Re_fails F 2 M) (fun r7 M8 => tv_zo r7 (some (r7, M8))) else tv_cb (Re_fails F 1 M) (fun r10 M11 => tv_zo r10 (some (r10, M11)))
/-- TiedViews$Reader.takeSign(C)Z -/
def Re_takeSign (F : Nat) (a1 : Int32) (M : tv_M) : Option (Int32 × tv_M) := if (M.1 68 4) = a1 then tv_cb (Re_goOn F M) (fun r1 M2 => some (1, M2)) else tv_cb (Re_fails F 1 M) (fun r3 M4 => tv_zo r3 (some (r3, M4)))
/-- TiedViews$Eye.fullSet()I -/
def Ey_fullSet (F : Nat) (t : Nat) (M : tv_M) : Option (Int32 × tv_M) := tv_gl t 3 (some ((1 <<< ((M.1 t 2) &&& 31)) - 1, M))
/-- TiedViews$Eye.begin(III)V -/
def Ey_begin (F : Nat) (t : Nat) (a1 : Int32) (a2 : Int32) (a3 : Int32) (M : tv_M) : Option (Unit × tv_M) := tv_gl t 3 (tv_pf M t 1 a1 (fun M2 => tv_pf M2 t 2 a2 (fun M3 => tv_pf M3 t 3 a3 (fun M4 => tv_cb (Ey_fullSet F t M4) (fun r5 M6 => tv_pf M6 t 4 r5 (fun M7 => tv_pf M7 t 5 0 (fun M8 => some ((), M8))))))))
/-- TiedViews$Told.addEye(II)V -/
def To_addEye (F : Nat) (a1 : Int32) (a2 : Int32) (M : tv_M) : Option (Unit × tv_M) := if (M.1 18 4) < 8 then tv_ap 19 8 (M.1 18 4) (fun p1 => tv_gl p1 3 (tv_cb (Ey_begin F p1 a1 a2 (M.1 18 7) M) (fun r3 M4 => tv_pf M4 18 4 ((M4.1 18 4) + 1) (fun M5 => if a1 = 3 then some ((), M5) else tv_pf M5 18 7 ((M5.1 18 7) + a2) (fun M6 => some ((), M6)))))) else some ((), M)
/-- TiedViews$Reader.takeEyeSentence()Z -/
def Re_takeEyeSentence_L48 (F : Nat) (l1 : Int32) (s0 : Int32) (s1 : Int32) (M : tv_M) : Option (Int32 × tv_M) := tv_cb (Re_takeNumber F s1 s0 M) (fun r8 M9 => if r8 = 0 then some (0, M9) else tv_cb (Re_takeSign F 59 M9) (fun r10 M11 => if r10 = 0 then some (0, M11) else tv_cb (To_addEye F l1 (M9.1 68 8) M11) (fun r12 M13 => some (1, M13))))
def Re_takeEyeSentence (F : Nat)  (M : tv_M) : Option (Int32 × tv_M) := if (M.1 18 4) < 8 then tv_cb (Re_goOn F M) (fun r1 M2 => tv_cb (Re_takeSort F M2) (fun r3 M4 => if r3 = 0 then some (0, M4) else if (M4.1 68 8) = 3 then Re_takeEyeSentence_L48 F (M4.1 68 8) 4 1 M4 else Re_takeEyeSentence_L48 F (M4.1 68 8) 3 1 M4)) else tv_cb (Re_fails F 3 M) (fun r5 M6 => tv_zo r5 (some (r5, M6)))
/-- TiedViews$Told.nextTie()LTiedViews$Tie; -/
def To_nextTie (F : Nat)  (M : tv_M) : Option (Option Nat × tv_M) := if (M.1 18 5) < 10 then tv_ap 20 10 (M.1 18 5) (fun p1 => tv_gl p1 4 (some (some p1, M))) else some (none, M)
/-- TiedViews$Told.eyeAt(I)LTiedViews$Eye; -/
def To_eyeAt (F : Nat) (a1 : Int32) (M : tv_M) : Option (Option Nat × tv_M) := if a1 < 0 then some (none, M) else if a1 < (M.1 18 4) then tv_ap 19 8 a1 (fun p1 => tv_gl p1 3 (some (some p1, M))) else some (none, M)
/-- TiedViews$Eye.isChoice()Z -/
def Ey_isChoice (F : Nat) (t : Nat) (M : tv_M) : Option (Int32 × tv_M) := tv_gl t 3 (if (M.1 t 1) = 3 then some (1, M) else some (0, M))
/-- TiedViews$Reader.takeEye(ZI)Z -/
def Re_takeEye (F : Nat) (a1 : Int32) (a2 : Int32) (M : tv_M) : Option (Int32 × tv_M) := if (M.1 68 4) = 2 then tv_cb (To_eyeAt F (M.1 68 7) M) (fun r1 M2 => tv_nl r1 (tv_cb (Re_fails F 2 M2) (fun r4 M5 => tv_zo r4 (some (r4, M5)))) (fun p3 => tv_gl p3 3 (tv_cb (Ey_isChoice F p3 M2) (fun r8 M9 => if r8 = a1 then if (M9.1 68 7) = a2 then tv_cb (Re_fails F 2 M9) (fun r16 M17 => tv_zo r16 (some (r16, M17))) else tv_pf M9 68 8 (M9.1 68 7) (fun M13 => tv_cb (Re_goOn F M13) (fun r14 M15 => some (1, M15))) else tv_cb (Re_fails F 2 M9) (fun r10 M11 => tv_zo r10 (some (r10, M11))))))) else tv_cb (Re_fails F 1 M) (fun r19 M20 => tv_zo r19 (some (r19, M20)))
/-- TiedViews$Reader.takeEyes(LTiedViews$Tie;)Z -/
def Re_takeEyes (F : Nat) (a1 : Nat) (M : tv_M) : Option (Int32 × tv_M) := tv_gl a1 4 (tv_cb (Re_takeEye F 0 (-1000000) M) (fun r2 M3 => if r2 = 0 then some (0, M3) else tv_pf M3 a1 0 (M3.1 68 8) (fun M4 => tv_cb (Re_takeEye F 0 (M4.1 a1 0) M4) (fun r5 M6 => if r5 = 0 then some (0, M6) else tv_pf M6 a1 1 (M6.1 68 8) (fun M7 => some (1, M7))))))
/-- TiedViews$Reader.takeWord(Ljava/lang/String;)Z -/
def Re_takeWord (F : Nat) (a1 : Nat) (M : tv_M) : Option (Int32 × tv_M) := tv_gs a1 (tv_cb (Re_isWord F a1 M) (fun r1 M2 => if r1 = 0 then tv_cb (Re_fails F 1 M2) (fun r5 M6 => tv_zo r5 (some (r5, M6))) else tv_cb (Re_goOn F M2) (fun r3 M4 => some (1, M4))))
/-- TiedViews$Told.linearAt(I)LTiedViews$Eye; -/
def To_linearAt (F : Nat) (a1 : Int32) (M : tv_M) : Option (Option Nat × tv_M) := tv_cb (To_eyeAt F a1 M) (fun r1 M2 => tv_nl r1 (some (none, M2)) (fun p3 => tv_gl p3 3 (tv_cb (Ey_isChoice F p3 M2) (fun r5 M6 => if r5 = 0 then some (some p3, M6) else some (none, M6)))))
/-- TiedViews$Tie.tableOf(I)[I -/
def Ti_tableOf (F : Nat) (t : Nat) (a1 : Int32) (M : tv_M) : Option (Option Nat × tv_M) := tv_gl t 4 (if a1 = (M.1 t 0) then tv_nn (tv_P0 t 3) (fun p6 => tv_gn p6 20 (fun n8 => some (some p6, M))) else tv_nn (tv_P0 t 4) (fun p2 => tv_gn p2 20 (fun n4 => some (some p2, M))))
/-- TiedViews$Reader.takeTable(LTiedViews$Tie;I)Z -/
def Re_takeTable_L57 (F : Nat) (k29 : Nat → Nat → Nat → Int32 → tv_M → Option (Int32 × tv_M)) : Nat → Nat → Nat → Nat → Int32 → Int32 → tv_M → Option (Int32 × tv_M)
  | 0, _, _, _, _, _, _ => none
  | nn + 1, l1, l3, l4, l5, l6, M => tv_gl l1 4 (tv_gl l3 3 (tv_gn l4 20 (fun n23 => if (M.1 l3 2) ≤ l6 then k29 l1 l3 l4 (l5 + 1) M else tv_cb (Re_takeNumber F 0 ((M.1 18 0) - 1) M) (fun r24 M25 => if r24 = 0 then some (0, M25) else tv_wr M25 l4 n23 ((l5 * 3) + l6) (M25.1 68 8) (fun M26 => Re_takeTable_L57 F k29 nn l1 l3 l4 l5 (l6 + 1) M26)))))
def Re_takeTable_L29 (F : Nat) : Nat → Nat → Nat → Nat → Int32 → tv_M → Option (Int32 × tv_M)
  | 0, _, _, _, _, _ => none
  | nn + 1, l1, l3, l4, l5, M => tv_gl l1 4 (tv_gl l3 3 (tv_gn l4 20 (fun n17 => if (M.1 l1 2) ≤ l5 then some (1, M) else if l5 ≤ 0 then Re_takeTable_L57 F (Re_takeTable_L29 F nn) F l1 l3 l4 l5 0 M else tv_cb (Re_takeSign F 44 M) (fun r18 M19 => if r18 = 0 then some (0, M19) else Re_takeTable_L57 F (Re_takeTable_L29 F nn) F l1 l3 l4 l5 0 M19))))
def Re_takeTable (F : Nat) (a1 : Nat) (a2 : Int32) (M : tv_M) : Option (Int32 × tv_M) := tv_gl a1 4 (tv_cb (To_linearAt F a2 M) (fun r2 M3 => tv_nl r2 (tv_cb (Re_fails F 2 M3) (fun r5 M6 => tv_zo r5 (some (r5, M6)))) (fun p4 => tv_gl p4 3 (tv_cb (Ti_tableOf F a1 a2 M3) (fun r9 M10 => tv_nn r9 (fun p11 => tv_gn p11 20 (fun n13 => Re_takeTable_L29 F F a1 p4 p11 0 M10)))))))
/-- TiedViews$Told.addNextTie()V -/
def To_addNextTie (F : Nat)  (M : tv_M) : Option (Unit × tv_M) := if 10 ≤ (M.1 18 5) then some ((), M) else tv_ap 20 10 (M.1 18 5) (fun p1 => tv_gl p1 4 (tv_pf M 18 8 ((M.1 18 8) + (M.1 p1 2)) (fun M3 => tv_pf M3 18 5 ((M3.1 18 5) + 1) (fun M4 => some ((), M4)))))
/-- TiedViews$Reader.takeTieSentence()Z -/
def Re_takeTieSentence (F : Nat)  (M : tv_M) : Option (Int32 × tv_M) := tv_cb (To_nextTie F M) (fun r1 M2 => tv_nl r1 (tv_cb (Re_fails F 3 M2) (fun r4 M5 => tv_zo r4 (some (r4, M5)))) (fun p3 => tv_gl p3 4 (tv_cb (Re_goOn F M2) (fun r8 M9 => tv_cb (Re_takeEyes F p3 M9) (fun r10 M11 => if r10 = 0 then some (0, M11) else tv_cb (Re_takeNumber F 1 3 M11) (fun r12 M13 => if r12 = 0 then some (0, M13) else tv_pf M13 p3 2 (M13.1 68 8) (fun M14 => tv_cb (Re_takeWord F 6 M14) (fun r15 M16 => if r15 = 0 then some (0, M16) else tv_cb (Re_takeTable F p3 (M16.1 p3 0) M16) (fun r17 M18 => if r17 = 0 then some (0, M18) else tv_cb (Re_takeWord F 7 M18) (fun r19 M20 => if r19 = 0 then some (0, M20) else tv_cb (Re_takeTable F p3 (M20.1 p3 1) M20) (fun r21 M22 => if r21 = 0 then some (0, M22) else tv_cb (Re_takeSign F 59 M22) (fun r23 M24 => if r23 = 0 then some (0, M24) else tv_cb (To_addNextTie F M24) (fun r25 M26 => some (1, M26))))))))))))))
/-- TiedViews$Told.choiceAt(I)LTiedViews$Eye; -/
def To_choiceAt (F : Nat) (a1 : Int32) (M : tv_M) : Option (Option Nat × tv_M) := tv_cb (To_eyeAt F a1 M) (fun r1 M2 => tv_nl r1 (some (none, M2)) (fun p3 => tv_gl p3 3 (tv_cb (Ey_isChoice F p3 M2) (fun r5 M6 => if r5 = 0 then some (none, M6) else some (some p3, M6)))))
/-- TiedViews$Reader.takeValueOf(I)Z -/
def Re_takeValueOf (F : Nat) (a1 : Int32) (M : tv_M) : Option (Int32 × tv_M) := tv_cb (To_choiceAt F a1 M) (fun r1 M2 => tv_nl r1 (tv_cb (Re_takeNumber F 0 (-1) M2) (fun r4 M5 => tv_zo r4 (some (r4, M5)))) (fun p3 => tv_gl p3 3 (tv_cb (Re_takeNumber F 0 ((M2.1 p3 2) - 1) M2) (fun r8 M9 => tv_zo r8 (some (r8, M9))))))
/-- TiedViews$Told.addBar(IIII)V -/
def To_addBar (F : Nat) (a1 : Int32) (a2 : Int32) (a3 : Int32) (a4 : Int32) (M : tv_M) : Option (Unit × tv_M) := if (M.1 18 6) < 30 then tv_wr M 21 120 ((M.1 18 6) * 4) a1 (fun M1 => tv_wr M1 21 120 (((M.1 18 6) * 4) + 1) a2 (fun M2 => tv_wr M2 21 120 (((M.1 18 6) * 4) + 2) a3 (fun M3 => tv_wr M3 21 120 (((M.1 18 6) * 4) + 3) a4 (fun M4 => tv_pf M4 18 6 ((M4.1 18 6) + 1) (fun M5 => some ((), M5)))))) else some ((), M)
/-- TiedViews$Reader.takeBarSentence()Z -/
def Re_takeBarSentence (F : Nat)  (M : tv_M) : Option (Int32 × tv_M) := if (M.1 18 6) < 30 then tv_cb (Re_goOn F M) (fun r1 M2 => tv_cb (Re_takeEye F 1 (-1000000) M2) (fun r3 M4 => if r3 = 0 then some (0, M4) else tv_cb (Re_takeValueOf F (M4.1 68 8) M4) (fun r5 M6 => if r5 = 0 then some (0, M6) else tv_cb (Re_takeEye F 1 (M4.1 68 8) M6) (fun r7 M8 => if r7 = 0 then some (0, M8) else tv_cb (Re_takeValueOf F (M8.1 68 8) M8) (fun r9 M10 => if r9 = 0 then some (0, M10) else tv_cb (Re_takeSign F 59 M10) (fun r11 M12 => if r11 = 0 then some (0, M12) else tv_cb (To_addBar F (M4.1 68 8) (M6.1 68 8) (M8.1 68 8) (M10.1 68 8) M12) (fun r13 M14 => some (1, M14)))))))) else tv_cb (Re_fails F 3 M) (fun r15 M16 => tv_zo r15 (some (r15, M16)))
/-- TiedViews$Reader.takeSentence()Z -/
def Re_takeSentence (F : Nat)  (M : tv_M) : Option (Int32 × tv_M) := tv_cb (Re_isWord F 0 M) (fun r1 M2 => if r1 = 0 then tv_cb (Re_isWord F 5 M2) (fun r3 M4 => if r3 = 0 then tv_cb (Re_isWord F 8 M4) (fun r5 M6 => if r5 = 0 then tv_cb (Re_fails F 1 M6) (fun r7 M8 => tv_zo r7 (some (r7, M8))) else tv_cb (Re_takeBarSentence F M6) (fun r10 M11 => tv_zo r10 (some (r10, M11)))) else tv_cb (Re_takeTieSentence F M4) (fun r13 M14 => tv_zo r13 (some (r13, M14)))) else tv_cb (Re_takeEyeSentence F M2) (fun r16 M17 => tv_zo r16 (some (r16, M17))))
/-- TiedViews$Told.goBack()V -/
def To_goBack (F : Nat)  (M : tv_M) : Option (Unit × tv_M) := tv_pf M 18 4 (M.1 18 9) (fun M1 => tv_pf M1 18 5 (M1.1 18 10) (fun M2 => tv_pf M2 18 6 (M2.1 18 11) (fun M3 => tv_pf M3 18 7 (M3.1 18 12) (fun M4 => tv_pf M4 18 8 (M4.1 18 13) (fun M5 => some ((), M5))))))
/-- TiedViews$Reader.takeIn()I -/
def Re_takeIn_L49 (F : Nat) (l1 : Int32) (M : tv_M) : Option (Int32 × tv_M) := tv_pf M 68 2 0 (fun M8 => if l1 = 0 then tv_cb (To_goBack F M8) (fun r9 M10 => some (M10.1 68 5, M10)) else some ((-1), M8))
def Re_takeIn_L20 (F : Nat) : Nat → Int32 → Int32 → tv_M → Option (Int32 × tv_M)
  | 0, _, _, _ => none
  | nn + 1, l1, l2, M => if 500 ≤ l2 then Re_takeIn_L49 F l1 M else if l1 = 0 then Re_takeIn_L49 F l1 M else if (M.1 68 4) = 0 then Re_takeIn_L49 F l1 M else tv_cb (Re_takeSentence F M) (fun r6 M7 => Re_takeIn_L20 F nn r6 (l2 + 1) M7)
def Re_takeIn (F : Nat)  (M : tv_M) : Option (Int32 × tv_M) := tv_cb (To_keep F M) (fun r1 M2 => tv_pf M2 68 6 0 (fun M3 => tv_cb (Re_goOn F M3) (fun r4 M5 => Re_takeIn_L20 F F 1 0 M5)))
/-- java/lang/Math.min(II)I -/
def Jv_min (F : Nat) (a0 : Int32) (a1 : Int32) (M : tv_M) : Option (Int32 × tv_M) := if a1 < a0 then some (a1, M) else some (a0, M)
/-- TiedViews$Steps.begin(II)V -/
def St_begin (F : Nat) (t : Nat) (a1 : Int32) (a2 : Int32) (M : tv_M) : Option (Unit × tv_M) := tv_gl t 7 (tv_cb (Jv_min F a1 24 M) (fun r2 M3 => tv_pf M3 t 7 r2 (fun M4 => tv_cb (Jv_min F a2 (M4.1 t 1) M4) (fun r5 M6 => tv_pf M6 t 10 ((M4.1 t 7) + r5) (fun M7 => tv_pf M7 t 6 0 (fun M8 => tv_pf M8 t 8 0 (fun M9 => tv_pf M9 t 9 0 (fun M10 => some ((), M10)))))))))
/-- TiedViews$Steps.addLine()[I -/
def St_addLine (F : Nat) (t : Nat) (M : tv_M) : Option (Option Nat × tv_M) := tv_gl t 7 (tv_nn (tv_P0 t 2) (fun p2 => tv_gn p2 27 (fun n4 => if (M.1 t 6) < (Int32.ofNat n4) then tv_nn (tv_P0 t 2) (fun p5 => tv_gn p5 27 (fun n7 => tv_ap p5 n7 (M.1 t 6) (fun p8 => tv_gn p8 20 (fun n10 => tv_cb (Jv_fill F p8 0 M) (fun r11 M12 => tv_nn (tv_P0 t 5) (fun p13 => tv_gn p13 20 (fun n15 => tv_wr M12 p13 n15 (M12.1 t 6) (-1) (fun M16 => tv_pf M16 t 6 ((M16.1 t 6) + 1) (fun M17 => some (some p8, M17)))))))))) else some (none, M))))
/-- TiedViews.restOf(II)I -/
def Xx_restOf (F : Nat) (a0 : Int32) (a1 : Int32) (M : tv_M) : Option (Int32 × tv_M) := if 2 ≤ a1 then tv_nz a1 (some (tv_rem a0 a1, M)) else some (0, M)
/-- TiedViews$Told.writeLine(LTiedViews$Tie;I[I)V -/
def To_writeLine_L87 (F : Nat) : Nat → Nat → Nat → Nat → Int32 → Int32 → tv_M → Option (Unit × tv_M)
  | 0, _, _, _, _, _, _ => none
  | nn + 1, l1, l3, l5, l6, l7, M => tv_gl l1 4 (tv_gn l3 20 (fun n25 => tv_gl l5 3 (if (M.1 l5 2) ≤ l7 then some ((), M) else tv_nn (tv_P0 l1 4) (fun p27 => tv_gn p27 20 (fun n29 => tv_rd M p27 n29 (l6 + l7) (fun x30 => tv_cb (Xx_restOf F ((M.1 18 0) - x30) (M.1 18 0) M) (fun r31 M32 => tv_wr M32 l3 n25 ((M.1 l5 3) + l7) r31 (fun M33 => To_writeLine_L87 F nn l1 l3 l5 l6 (l7 + 1) M33))))))))
def To_writeLine_L48 (F : Nat) : Nat → Nat → Nat → Nat → Nat → Int32 → Int32 → tv_M → Option (Unit × tv_M)
  | 0, _, _, _, _, _, _, _ => none
  | nn + 1, l1, l3, l4, l5, l6, l7, M => tv_gl l1 4 (tv_gn l3 20 (fun n14 => tv_gl l4 3 (tv_gl l5 3 (if (M.1 l4 2) ≤ l7 then To_writeLine_L87 F F l1 l3 l5 l6 0 M else tv_nn (tv_P0 l1 3) (fun p17 => tv_gn p17 20 (fun n19 => tv_rd M p17 n19 (l6 + l7) (fun x20 => tv_wr M l3 n14 ((M.1 l4 3) + l7) x20 (fun M21 => To_writeLine_L48 F nn l1 l3 l4 l5 l6 (l7 + 1) M21))))))))
def To_writeLine (F : Nat) (a1 : Nat) (a2 : Int32) (a3 : Nat) (M : tv_M) : Option (Unit × tv_M) := tv_gl a1 4 (tv_gn a3 20 (fun n3 => tv_cb (To_linearAt F (M.1 a1 0) M) (fun r4 M5 => tv_cb (To_linearAt F (M5.1 a1 1) M5) (fun r6 M7 => tv_nl r4 (some ((), M7)) (fun p8 => tv_gl p8 3 (tv_nl r6 (some ((), M7)) (fun p10 => tv_gl p10 3 (if a2 < 0 then some ((), M7) else if a2 < 3 then To_writeLine_L48 F F a1 a3 p8 p10 (a2 * 3) 0 M7 else some ((), M7)))))))))
/-- TiedViews$Agreement.addLines(LTiedViews$Steps;IZ)V -/
def Ag_addLines_L30 (F : Nat) (k3 : Nat → Int32 → Int32 → Int32 → tv_M → Option (Unit × tv_M)) : Nat → Nat → Int32 → Int32 → Int32 → Nat → Int32 → tv_M → Option (Unit × tv_M)
  | 0, _, _, _, _, _, _, _ => none
  | nn + 1, l1, l2, l3, l4, l5, l6, M => tv_gl l1 7 (tv_gl l5 4 (if (M.1 l5 2) ≤ l6 then k3 l1 l2 l3 (l4 + 1) M else if l4 = l2 then k3 l1 l2 l3 (l4 + 1) M else tv_cb (St_addLine F l1 M) (fun r7 M8 => tv_nl r7 (some ((), M8)) (fun p9 => tv_gn p9 20 (fun n11 => tv_cb (To_writeLine F l5 l6 p9 M8) (fun r12 M13 => if l3 = 0 then Ag_addLines_L30 F k3 nn l1 l2 l3 l4 l5 (l6 + 1) M13 else tv_wr M13 p9 n11 ((M13.1 18 7) + (M.1 l1 6)) 1 (fun M14 => Ag_addLines_L30 F k3 nn l1 l2 l3 l4 l5 (l6 + 1) M14)))))))
def Ag_addLines_L3 (F : Nat) : Nat → Nat → Int32 → Int32 → Int32 → tv_M → Option (Unit × tv_M)
  | 0, _, _, _, _, _ => none
  | nn + 1, l1, l2, l3, l4, M => tv_gl l1 7 (if (M.1 18 5) ≤ l4 then some ((), M) else tv_ap 20 10 l4 (fun p3 => tv_gl p3 4 (Ag_addLines_L30 F (Ag_addLines_L3 F nn) F l1 l2 l3 l4 p3 0 M)))
def Ag_addLines (F : Nat) (a1 : Nat) (a2 : Int32) (a3 : Int32) (M : tv_M) : Option (Unit × tv_M) := tv_gl a1 7 (Ag_addLines_L3 F F a1 a2 a3 0 M)
/-- TiedViews$Steps.leastLineAt(I)I -/
def St_leastLineAt_L2 (F : Nat) : Nat → Nat → Int32 → Int32 → tv_M → Option (Int32 × tv_M)
  | 0, _, _, _, _ => none
  | nn + 1, l0, l1, l2, M => tv_gl l0 7 (if (M.1 l0 6) ≤ l2 then some ((-1), M) else tv_nn (tv_P0 l0 5) (fun p3 => tv_gn p3 20 (fun n5 => tv_rd M p3 n5 l2 (fun x6 => if 0 ≤ x6 then St_leastLineAt_L2 F nn l0 l1 (l2 + 1) M else tv_nn (tv_P0 l0 2) (fun p7 => tv_gn p7 27 (fun n9 => tv_ap p7 n9 l2 (fun p10 => tv_gn p10 20 (fun n12 => tv_rd M p10 n12 l1 (fun x13 => if x13 = 0 then St_leastLineAt_L2 F nn l0 l1 (l2 + 1) M else some (l2, M))))))))))
def St_leastLineAt (F : Nat) (t : Nat) (a1 : Int32) (M : tv_M) : Option (Int32 × tv_M) := tv_gl t 7 (St_leastLineAt_L2 F F t a1 0 M)
/-- TiedViews.inverseOf(II)I -/
def Xx_inverseOf_L2 (F : Nat) : Nat → Int32 → Int32 → Int32 → tv_M → Option (Int32 × tv_M)
  | 0, _, _, _, _ => none
  | nn + 1, l0, l1, l2, M => if l1 ≤ l2 then some (1, M) else tv_cb (Xx_restOf F (l2 * l0) l1 M) (fun r1 M2 => if r1 = 1 then some (l2, M2) else Xx_inverseOf_L2 F nn l0 l1 (l2 + 1) M2)
def Xx_inverseOf (F : Nat) (a0 : Int32) (a1 : Int32) (M : tv_M) : Option (Int32 × tv_M) := Xx_inverseOf_L2 F F a0 a1 1 M
/-- TiedViews$Steps.makeOneAt(II)V -/
def St_makeOneAt_L30 (F : Nat) : Nat → Nat → Nat → Int32 → Int32 → tv_M → Option (Unit × tv_M)
  | 0, _, _, _, _, _ => none
  | nn + 1, l0, l3, l4, l5, M => tv_gl l0 7 (tv_gn l3 20 (fun n15 => if (M.1 l0 10) ≤ l5 then some ((), M) else tv_rd M l3 n15 l5 (fun x16 => tv_cb (Xx_restOf F (x16 * l4) (M.1 l0 0) M) (fun r17 M18 => tv_wr M18 l3 n15 l5 r17 (fun M19 => St_makeOneAt_L30 F nn l0 l3 l4 (l5 + 1) M19)))))
def St_makeOneAt (F : Nat) (t : Nat) (a1 : Int32) (a2 : Int32) (M : tv_M) : Option (Unit × tv_M) := tv_gl t 7 (tv_nn (tv_P0 t 2) (fun p2 => tv_gn p2 27 (fun n4 => tv_ap p2 n4 a1 (fun p5 => tv_gn p5 20 (fun n7 => tv_rd M p5 n7 a2 (fun x8 => if x8 = 1 then some ((), M) else tv_rd M p5 n7 a2 (fun x9 => tv_cb (Xx_inverseOf F x9 (M.1 t 0) M) (fun r10 M11 => St_makeOneAt_L30 F F t p5 r10 0 M11))))))))
/-- TiedViews.addTimes([I[IIII)V -/
def Xx_addTimes_L10 (F : Nat) : Nat → Nat → Nat → Int32 → Int32 → Int32 → Int32 → tv_M → Option (Unit × tv_M)
  | 0, _, _, _, _, _, _, _ => none
  | nn + 1, l0, l1, l2, l3, l4, l5, M => tv_gn l0 20 (fun n6 => tv_gn l1 20 (fun n8 => if l3 ≤ l5 then some ((), M) else tv_rd M l0 n6 l5 (fun x9 => tv_rd M l1 n8 l5 (fun x10 => tv_nz l4 (tv_wr M l0 n6 l5 (tv_rem (x9 + (l2 * x10)) l4) (fun M11 => Xx_addTimes_L10 F nn l0 l1 l2 l3 l4 (l5 + 1) M11))))))
def Xx_addTimes (F : Nat) (a0 : Nat) (a1 : Nat) (a2 : Int32) (a3 : Int32) (a4 : Int32) (M : tv_M) : Option (Unit × tv_M) := tv_gn a0 20 (fun n2 => tv_gn a1 20 (fun n4 => if 2 ≤ a4 then Xx_addTimes_L10 F F a0 a1 a2 a3 a4 0 M else some ((), M)))
/-- TiedViews$Steps.takeOffOthers(II)V -/
def St_takeOffOthers_L2 (F : Nat) : Nat → Nat → Int32 → Int32 → Int32 → tv_M → Option (Unit × tv_M)
  | 0, _, _, _, _, _ => none
  | nn + 1, l0, l1, l2, l3, M => tv_gl l0 7 (if (M.1 l0 6) ≤ l3 then some ((), M) else tv_nn (tv_P0 l0 2) (fun p3 => tv_gn p3 27 (fun n5 => tv_ap p3 n5 l3 (fun p6 => tv_gn p6 20 (fun n8 => tv_rd M p6 n8 l2 (fun x9 => if l3 = l1 then St_takeOffOthers_L2 F nn l0 l1 l2 (l3 + 1) M else if x9 = 0 then St_takeOffOthers_L2 F nn l0 l1 l2 (l3 + 1) M else tv_nn (tv_P0 l0 2) (fun p10 => tv_gn p10 27 (fun n12 => tv_ap p10 n12 l3 (fun p13 => tv_gn p13 20 (fun n15 => tv_nn (tv_P0 l0 2) (fun p16 => tv_gn p16 27 (fun n18 => tv_ap p16 n18 l1 (fun p19 => tv_gn p19 20 (fun n21 => tv_cb (Xx_addTimes F p13 p19 ((M.1 l0 0) - x9) (M.1 l0 10) (M.1 l0 0) M) (fun r22 M23 => St_takeOffOthers_L2 F nn l0 l1 l2 (l3 + 1) M23)))))))))))))))
def St_takeOffOthers (F : Nat) (t : Nat) (a1 : Int32) (a2 : Int32) (M : tv_M) : Option (Unit × tv_M) := tv_gl t 7 (St_takeOffOthers_L2 F F t a1 a2 0 M)
/-- TiedViews$Steps.putInSteps()V -/
def St_putInSteps_L2 (F : Nat) : Nat → Nat → Int32 → tv_M → Option (Unit × tv_M)
  | 0, _, _, _ => none
  | nn + 1, l0, l1, M => tv_gl l0 7 (if (M.1 l0 7) ≤ l1 then some ((), M) else tv_cb (St_leastLineAt F l0 l1 M) (fun r3 M4 => tv_nn (tv_P0 l0 3) (fun p5 => tv_gn p5 20 (fun n7 => tv_wr M4 p5 n7 l1 r3 (fun M8 => if r3 < 0 then tv_nn (tv_P0 l0 4) (fun p9 => tv_gn p9 20 (fun n11 => tv_wr M8 p9 n11 (M8.1 l0 9) l1 (fun M12 => tv_pf M12 l0 9 ((M12.1 l0 9) + 1) (fun M13 => St_putInSteps_L2 F nn l0 (l1 + 1) M13)))) else tv_nn (tv_P0 l0 5) (fun p15 => tv_gn p15 20 (fun n17 => tv_wr M8 p15 n17 r3 l1 (fun M18 => tv_pf M18 l0 8 ((M18.1 l0 8) + 1) (fun M19 => tv_cb (St_makeOneAt F l0 r3 l1 M19) (fun r20 M21 => tv_cb (St_takeOffOthers F l0 r3 l1 M21) (fun r22 M23 => St_putInSteps_L2 F nn l0 (l1 + 1) M23)))))))))))
def St_putInSteps (F : Nat) (t : Nat) (M : tv_M) : Option (Unit × tv_M) := tv_gl t 7 (St_putInSteps_L2 F F t 0 M)
/-- TiedViews$Agreement.learnLines()V -/
def Ag_learnLines (F : Nat)  (M : tv_M) : Option (Unit × tv_M) := tv_cb (St_begin F 71 (M.1 18 7) (M.1 18 8) M) (fun r1 M2 => tv_cb (Ag_addLines F 71 (-1) 1 M2) (fun r3 M4 => tv_cb (St_putInSteps F 71 M4) (fun r5 M6 => tv_pf M6 70 3 0 (fun M7 => some ((), M7)))))
/-- TiedViews$Dropping.forget()V -/
def Dr_forget (F : Nat)  (M : tv_M) : Option (Unit × tv_M) := tv_pf M 165 8 0 (fun M1 => some ((), M1))
/-- TiedViews$Choices.bar(IIII)V -/
def Ch_bar (F : Nat) (a1 : Int32) (a2 : Int32) (a3 : Int32) (a4 : Int32) (M : tv_M) : Option (Unit × tv_M) := tv_ap 202 32 ((a1 * 4) + a2) (fun p1 => tv_gn p1 20 (fun n3 => tv_rd M p1 n3 a3 (fun x4 => tv_wr M p1 n3 a3 (x4 &&& ((1 <<< (a4 &&& 31)) ^^^ (-1))) (fun M5 => tv_ap 202 32 ((a3 * 4) + a4) (fun p6 => tv_gn p6 20 (fun n8 => tv_rd M5 p6 n8 a1 (fun x9 => tv_wr M5 p6 n8 a1 (x9 &&& ((1 <<< (a2 &&& 31)) ^^^ (-1))) (fun M10 => tv_cb (Jv_min F a1 a3 M10) (fun r11 M12 => tv_wr M12 235 8 r11 (vp_nar .boolean 1) (fun M13 => some ((), M13)))))))))))
/-- TiedViews$Choices.learnBars()V -/
def Ch_learnBars_L48 (F : Nat) : Nat → Int32 → tv_M → Option (Unit × tv_M)
  | 0, _, _ => none
  | nn + 1, l1, M => if (M.1 18 6) ≤ l1 then tv_pf M 201 6 0 (fun M7 => some ((), M7)) else tv_rd M 21 120 (l1 * 4) (fun x8 => tv_rd M 21 120 ((l1 * 4) + 1) (fun x9 => tv_rd M 21 120 ((l1 * 4) + 2) (fun x10 => tv_rd M 21 120 ((l1 * 4) + 3) (fun x11 => tv_cb (Ch_bar F x8 x9 x10 x11 M) (fun r12 M13 => Ch_learnBars_L48 F nn (l1 + 1) M13)))))
def Ch_learnBars_L27 (F : Nat) : Nat → Int32 → tv_M → Option (Unit × tv_M)
  | 0, _, _ => none
  | nn + 1, l1, M => if 8 ≤ l1 then Ch_learnBars_L48 F F 0 M else tv_wr M 235 8 l1 (vp_nar .boolean 0) (fun M6 => Ch_learnBars_L27 F nn (l1 + 1) M6)
def Ch_learnBars_L2 (F : Nat) : Nat → Int32 → tv_M → Option (Unit × tv_M)
  | 0, _, _ => none
  | nn + 1, l1, M => if 32 ≤ l1 then Ch_learnBars_L27 F F 0 M else tv_ap 202 32 l1 (fun p1 => tv_gn p1 20 (fun n3 => tv_cb (Jv_fill F p1 15 M) (fun r4 M5 => Ch_learnBars_L2 F nn (l1 + 1) M5)))
def Ch_learnBars (F : Nat)  (M : tv_M) : Option (Unit × tv_M) := Ch_learnBars_L2 F F 0 M
/-- TiedViews.read()I -/
def Xx_read (F : Nat)  (M : tv_M) : Option (Int32 × tv_M) := tv_cb (Re_takeIn F M) (fun r1 M2 => if r1 = (-1) then tv_cb (Ag_learnLines F M2) (fun r3 M4 => tv_cb (Dr_forget F M4) (fun r5 M6 => tv_cb (Ch_learnBars F M6) (fun r7 M8 => some (M8.1 18 4, M8)))) else some ((-1000100) - r1, M2))
/-- TiedViews.fault()I -/
def Xx_fault (F : Nat)  (M : tv_M) : Option (Int32 × tv_M) := some (M.1 68 3, M)
/-- TiedViews$Tie.joins(I)Z -/
def Ti_joins (F : Nat) (t : Nat) (a1 : Int32) (M : tv_M) : Option (Int32 × tv_M) := tv_gl t 4 (if a1 = (M.1 t 0) then some (1, M) else if a1 = (M.1 t 1) then some (1, M) else some (0, M))
/-- TiedViews$Told.tiesOf(I)I -/
def To_tiesOf_L4 (F : Nat) : Nat → Int32 → Int32 → Int32 → tv_M → Option (Int32 × tv_M)
  | 0, _, _, _, _ => none
  | nn + 1, l1, l2, l3, M => if (M.1 18 5) ≤ l3 then some (l2, M) else tv_ap 20 10 l3 (fun p1 => tv_gl p1 4 (tv_cb (Ti_joins F p1 l1 M) (fun r3 M4 => if r3 = 0 then To_tiesOf_L4 F nn l1 l2 (l3 + 1) M4 else To_tiesOf_L4 F nn l1 (l2 + 1) (l3 + 1) M4)))
def To_tiesOf (F : Nat) (a1 : Int32) (M : tv_M) : Option (Int32 × tv_M) := To_tiesOf_L4 F F a1 0 0 M
/-- TiedViews.eye(II)I -/
def Xx_eye (F : Nat) (a1 : Int32) (a2 : Int32) (M : tv_M) : Option (Int32 × tv_M) := tv_cb (To_eyeAt F a1 M) (fun r1 M2 => tv_nl r1 (some ((-1000001), M2)) (fun p3 => tv_gl p3 3 (if a2 = 0 then some (M2.1 p3 1, M2) else if a2 = 1 then some (M2.1 p3 2, M2) else if a2 = 2 then tv_cb (Ey_isChoice F p3 M2) (fun r7 M8 => if r7 = 0 then some (M8.1 p3 3, M8) else some ((-1000000), M8)) else if a2 = 3 then if (M2.1 p3 5) = 0 then some (0, M2) else some (1, M2) else if a2 = 4 then tv_cb (To_tiesOf F a1 M2) (fun r11 M12 => some (r11, M12)) else if a2 = 5 then tv_cb (Ey_isChoice F p3 M2) (fun r14 M15 => if r14 = 0 then some ((-1000000), M15) else some (M15.1 p3 4, M15)) else some ((-1000001), M2))))
/-- TiedViews$Agreement.leaders()I -/
def Ag_leaders (F : Nat)  (M : tv_M) : Option (Int32 × tv_M) := some (M.1 71 8, M)
/-- TiedViews$Agreement.freeColumns()I -/
def Ag_freeColumns (F : Nat)  (M : tv_M) : Option (Int32 × tv_M) := tv_cb (Ag_leaders F M) (fun r1 M2 => some ((M.1 18 7) - r1, M2))
/-- TiedViews.all(I)I -/
def Xx_all (F : Nat) (a1 : Int32) (M : tv_M) : Option (Int32 × tv_M) := if a1 = 0 then tv_cb (Ag_freeColumns F M) (fun r1 M2 => some (r1, M2)) else if a1 = 1 then some (M.1 18 7, M) else if a1 = 2 then some (M.1 18 8, M) else if a1 = 3 then tv_cb (Ag_leaders F M) (fun r6 M7 => some (r6, M7)) else if a1 = 4 then tv_cb (Ag_leaders F M) (fun r9 M10 => some ((M.1 18 8) - r9, M10)) else some ((-1000001), M)
/-- TiedViews$Told.isColumn(I)Z -/
def To_isColumn (F : Nat) (a1 : Int32) (M : tv_M) : Option (Int32 × tv_M) := if a1 < 0 then some (0, M) else if (M.1 18 7) ≤ a1 then some (0, M) else some (1, M)
/-- TiedViews$Steps.freeColumn(I)I -/
def St_freeColumn (F : Nat) (t : Nat) (a1 : Int32) (M : tv_M) : Option (Int32 × tv_M) := tv_gl t 7 (if a1 < 0 then some ((-1), M) else if a1 < (M.1 t 9) then tv_nn (tv_P0 t 4) (fun p2 => tv_gn p2 20 (fun n4 => tv_rd M p2 n4 a1 (fun x5 => some (x5, M)))) else some ((-1), M))
/-- TiedViews$Steps.leaderAt(I)I -/
def St_leaderAt (F : Nat) (t : Nat) (a1 : Int32) (M : tv_M) : Option (Int32 × tv_M) := tv_gl t 7 (if a1 < 0 then some ((-1), M) else if a1 < (M.1 t 7) then tv_nn (tv_P0 t 3) (fun p2 => tv_gn p2 20 (fun n4 => tv_rd M p2 n4 a1 (fun x5 => some (x5, M)))) else some ((-1), M))
/-- TiedViews$Steps.numberAt(II)I -/
def St_numberAt (F : Nat) (t : Nat) (a1 : Int32) (a2 : Int32) (M : tv_M) : Option (Int32 × tv_M) := tv_gl t 7 (if a1 < 0 then some (0, M) else if (M.1 t 6) ≤ a1 then some (0, M) else if a2 < 0 then some (0, M) else if a2 < (M.1 t 10) then tv_nn (tv_P0 t 2) (fun p2 => tv_gn p2 27 (fun n4 => tv_ap p2 n4 a1 (fun p5 => tv_gn p5 20 (fun n7 => tv_rd M p5 n7 a2 (fun x8 => some (x8, M)))))) else some (0, M))
/-- TiedViews$Agreement.basisNumber(II)I -/
def Ag_basisNumber (F : Nat) (a1 : Int32) (a2 : Int32) (M : tv_M) : Option (Int32 × tv_M) := tv_cb (St_freeColumn F 71 a1 M) (fun r1 M2 => tv_cb (St_leaderAt F 71 a2 M2) (fun r3 M4 => if 0 ≤ r3 then tv_cb (St_numberAt F 71 r3 r1 M4) (fun r5 M6 => tv_cb (Xx_restOf F ((M4.1 18 0) - r5) (M6.1 18 0) M6) (fun r7 M8 => some (r7, M8))) else if a2 = r1 then some (1, M4) else some (0, M4)))
/-- TiedViews.basis(II)I -/
def Xx_basis (F : Nat) (a1 : Int32) (a2 : Int32) (M : tv_M) : Option (Int32 × tv_M) := if a1 < 0 then some ((-1000001), M) else tv_cb (To_isColumn F a2 M) (fun r1 M2 => if r1 = 0 then some ((-1000001), M2) else tv_cb (Ag_freeColumns F M2) (fun r3 M4 => if r3 ≤ a1 then some ((-1000000), M4) else tv_cb (Ag_basisNumber F a1 a2 M4) (fun r5 M6 => some (r5, M6))))
/-- TiedViews$Sheet.holdsRests(III)Z -/
def Sh_holdsRests_L14 (F : Nat) : Nat → Nat → Int32 → Int32 → Int32 → Int32 → tv_M → Option (Int32 × tv_M)
  | 0, _, _, _, _, _, _ => none
  | nn + 1, l0, l1, l2, l3, l4, M => tv_gl l0 1 (if (l1 + l2) ≤ l4 then some (1, M) else tv_nn (tv_P0 l0 2) (fun p5 => tv_gn p5 20 (fun n7 => tv_rd M p5 n7 l4 (fun x8 => if x8 < 0 then some (0, M) else tv_nn (tv_P0 l0 2) (fun p9 => tv_gn p9 20 (fun n11 => tv_rd M p9 n11 l4 (fun x12 => if x12 < l3 then Sh_holdsRests_L14 F nn l0 l1 l2 l3 (l4 + 1) M else some (0, M))))))))
def Sh_holdsRests (F : Nat) (t : Nat) (a1 : Int32) (a2 : Int32) (a3 : Int32) (M : tv_M) : Option (Int32 × tv_M) := tv_gl t 1 (tv_cb (Sh_reaches F t a1 a2 M) (fun r2 M3 => if r2 = 0 then some (0, M3) else Sh_holdsRests_L14 F F t a1 a2 a3 a1 M3))
/-- TiedViews$Eye.takeReading(LTiedViews$Sheet;I)V -/
def Ey_takeReading (F : Nat) (t : Nat) (a1 : Nat) (a2 : Int32) (M : tv_M) : Option (Unit × tv_M) := tv_gl t 3 (tv_gl a1 1 (if 3 < (M.1 t 2) then some ((), M) else tv_cb (Sh_reaches F a1 a2 (M.1 t 2) M) (fun r3 M4 => if r3 = 0 then some ((), M4) else tv_nn (tv_P0 a1 2) (fun p5 => tv_gn p5 20 (fun n7 => tv_nn (tv_P0 t 6) (fun p8 => tv_gn p8 20 (fun n10 => tv_cpy M4 p5 n7 a2 p8 n10 0 (M4.1 t 2) (fun M11 => tv_pf M11 t 5 1 (fun M12 => some ((), M12))))))))))
/-- TiedViews$Agreement.forgetFill()V -/
def Ag_forgetFill (F : Nat)  (M : tv_M) : Option (Unit × tv_M) := tv_pf M 70 3 0 (fun M1 => some ((), M1))
/-- TiedViews.forgetReadings()V -/
def Xx_forgetReadings (F : Nat)  (M : tv_M) : Option (Unit × tv_M) := tv_cb (Ag_forgetFill F M) (fun r1 M2 => tv_cb (Dr_forget F M2) (fun r3 M4 => some ((), M4)))
/-- TiedViews.reading(III)I -/
def Xx_reading (F : Nat) (a1 : Int32) (a2 : Int32) (a3 : Int32) (M : tv_M) : Option (Int32 × tv_M) := tv_cb (To_linearAt F a1 M) (fun r1 M2 => tv_cb (Xx_sheetAt F a2 M2) (fun r3 M4 => tv_nl r1 (some ((-1000001), M4)) (fun p5 => tv_gl p5 3 (tv_nl r3 (some ((-1000001), M4)) (fun p7 => tv_gl p7 1 (tv_cb (Sh_isMissing F p7 M4) (fun r9 M10 => if r9 = 0 then tv_cb (Sh_reaches F p7 a3 (M10.1 p5 2) M10) (fun r11 M12 => if r11 = 0 then tv_cb (Xx_found F 2 M12) (fun r21 M22 => some (r21, M22)) else tv_cb (Sh_holdsRests F p7 a3 (M12.1 p5 2) (M12.1 0 0) M12) (fun r13 M14 => if r13 = 0 then some ((-1000001), M14) else tv_cb (Ey_takeReading F p5 p7 a3 M14) (fun r15 M16 => tv_cb (Xx_forgetReadings F M16) (fun r17 M18 => tv_cb (Xx_passed F 1 M18) (fun r19 M20 => some (r19, M20)))))) else tv_cb (Xx_found F 1 M10) (fun r23 M24 => some (r23, M24)))))))))
/-- TiedViews.unread(I)I -/
def Xx_unread (F : Nat) (a1 : Int32) (M : tv_M) : Option (Int32 × tv_M) := tv_cb (To_linearAt F a1 M) (fun r1 M2 => tv_nl r1 (some ((-1000001), M2)) (fun p3 => tv_gl p3 3 (if (M2.1 p3 5) = 0 then some (0, M2) else tv_pf M2 p3 5 0 (fun M5 => tv_cb (Xx_forgetReadings F M5) (fun r6 M7 => some (1, M7))))))
/-- TiedViews$Agreement.addReadings()V -/
def Ag_addReadings_L25 (F : Nat) (k2 : Int32 → tv_M → Option (Unit × tv_M)) : Nat → Int32 → Nat → Int32 → tv_M → Option (Unit × tv_M)
  | 0, _, _, _, _ => none
  | nn + 1, l1, l2, l3, M => tv_gl l2 3 (if (M.1 l2 5) = 0 then k2 (l1 + 1) M else if (M.1 l2 2) ≤ l3 then k2 (l1 + 1) M else tv_cb (St_addLine F 106 M) (fun r4 M5 => tv_nl r4 (some ((), M5)) (fun p6 => tv_gn p6 20 (fun n8 => tv_wr M5 p6 n8 ((M5.1 l2 3) + l3) 1 (fun M9 => tv_nn (tv_P0 l2 6) (fun p10 => tv_gn p10 20 (fun n12 => tv_rd M9 p10 n12 l3 (fun x13 => tv_wr M9 p6 n8 (M9.1 18 7) x13 (fun M14 => Ag_addReadings_L25 F k2 nn l1 l2 (l3 + 1) M14)))))))))
def Ag_addReadings_L2 (F : Nat) : Nat → Int32 → tv_M → Option (Unit × tv_M)
  | 0, _, _ => none
  | nn + 1, l1, M => if (M.1 18 4) ≤ l1 then some ((), M) else tv_ap 19 8 l1 (fun p1 => tv_gl p1 3 (Ag_addReadings_L25 F (Ag_addReadings_L2 F nn) F l1 p1 0 M))
def Ag_addReadings (F : Nat)  (M : tv_M) : Option (Unit × tv_M) := Ag_addReadings_L2 F F 0 M
/-- TiedViews$Steps.isLeader(I)Z -/
def St_isLeader (F : Nat) (t : Nat) (a1 : Int32) (M : tv_M) : Option (Int32 × tv_M) := tv_gl t 7 (if a1 < 0 then some (0, M) else if (M.1 t 6) ≤ a1 then some (0, M) else tv_nn (tv_P0 t 5) (fun p2 => tv_gn p2 20 (fun n4 => tv_rd M p2 n4 a1 (fun x5 => if x5 < 0 then some (0, M) else some (1, M)))))
/-- TiedViews$Steps.extraAt(II)I -/
def St_extraAt (F : Nat) (t : Nat) (a1 : Int32) (a2 : Int32) (M : tv_M) : Option (Int32 × tv_M) := tv_gl t 7 (tv_cb (St_numberAt F t a1 ((M.1 t 7) + a2) M) (fun r2 M3 => some (r2, M3)))
/-- TiedViews$Agreement.noLineWantsTheImpossible()Z -/
def Ag_noLineWantsTheImpossible_L2 (F : Nat) : Nat → Int32 → tv_M → Option (Int32 × tv_M)
  | 0, _, _ => none
  | nn + 1, l1, M => if (M.1 106 6) ≤ l1 then some (1, M) else tv_cb (St_isLeader F 106 l1 M) (fun r1 M2 => if r1 = 0 then tv_cb (St_extraAt F 106 l1 0 M2) (fun r3 M4 => if r3 = 0 then Ag_noLineWantsTheImpossible_L2 F nn (l1 + 1) M4 else some (0, M4)) else Ag_noLineWantsTheImpossible_L2 F nn (l1 + 1) M2)
def Ag_noLineWantsTheImpossible (F : Nat)  (M : tv_M) : Option (Int32 × tv_M) := Ag_noLineWantsTheImpossible_L2 F F 0 M
/-- TiedViews$Agreement.learnFill()V -/
def Ag_learnFill (F : Nat)  (M : tv_M) : Option (Unit × tv_M) := if (M.1 70 3) = 0 then tv_cb (St_begin F 106 (M.1 18 7) 1 M) (fun r1 M2 => tv_cb (Ag_addLines F 106 (-1) 0 M2) (fun r3 M4 => tv_cb (Ag_addReadings F M4) (fun r5 M6 => tv_cb (St_putInSteps F 106 M6) (fun r7 M8 => tv_cb (Ag_noLineWantsTheImpossible F M8) (fun r9 M10 => tv_zo r9 (tv_pf M10 70 4 r9 (fun M11 => tv_pf M11 70 3 1 (fun M12 => some ((), M12))))))))) else some ((), M)
/-- TiedViews$Agreement.readingsFit()Z -/
def Ag_readingsFit (F : Nat)  (M : tv_M) : Option (Int32 × tv_M) := tv_cb (Ag_learnFill F M) (fun r1 M2 => tv_zo (M2.1 70 4) (some (M2.1 70 4, M2)))
/-- TiedViews$Agreement.fillNumber(I)I -/
def Ag_fillNumber (F : Nat) (a1 : Int32) (M : tv_M) : Option (Int32 × tv_M) := tv_cb (Ag_learnFill F M) (fun r1 M2 => tv_cb (St_leaderAt F 106 a1 M2) (fun r3 M4 => tv_cb (St_extraAt F 106 r3 0 M4) (fun r5 M6 => some (r5, M6))))
/-- TiedViews.fill(I)I -/
def Xx_fill (F : Nat) (a1 : Int32) (M : tv_M) : Option (Int32 × tv_M) := if a1 = (-1) then tv_cb (Ag_readingsFit F M) (fun r7 M8 => if r7 = 0 then some (0, M8) else some (1, M8)) else tv_cb (To_isColumn F a1 M) (fun r1 M2 => if r1 = 0 then some ((-1000001), M2) else tv_cb (Ag_readingsFit F M2) (fun r3 M4 => if r3 = 0 then some ((-1000000), M4) else tv_cb (Ag_fillNumber F a1 M4) (fun r5 M6 => some (r5, M6))))
/-- TiedViews$Agreement.isFixed(I)Z -/
def Ag_isFixed_L21 (F : Nat) : Nat → Int32 → Int32 → tv_M → Option (Int32 × tv_M)
  | 0, _, _, _ => none
  | nn + 1, l2, l3, M => if (M.1 18 7) ≤ l3 then some (1, M) else tv_cb (St_leaderAt F 106 l3 M) (fun r5 M6 => if 0 ≤ r5 then Ag_isFixed_L21 F nn l2 (l3 + 1) M6 else tv_cb (St_numberAt F 106 l2 l3 M6) (fun r7 M8 => if r7 = 0 then Ag_isFixed_L21 F nn l2 (l3 + 1) M8 else some (0, M8)))
def Ag_isFixed (F : Nat) (a1 : Int32) (M : tv_M) : Option (Int32 × tv_M) := tv_cb (Ag_learnFill F M) (fun r1 M2 => tv_cb (St_leaderAt F 106 a1 M2) (fun r3 M4 => if 0 ≤ r3 then Ag_isFixed_L21 F F r3 0 M4 else some (0, M4)))
/-- TiedViews.fixed(I)I -/
def Xx_fixed (F : Nat) (a1 : Int32) (M : tv_M) : Option (Int32 × tv_M) := tv_cb (To_isColumn F a1 M) (fun r1 M2 => if r1 = 0 then some ((-1000001), M2) else tv_cb (Ag_readingsFit F M2) (fun r3 M4 => if r3 = 0 then some ((-1000000), M4) else tv_cb (Ag_isFixed F a1 M4) (fun r5 M6 => if r5 = 0 then some ((-1000000), M6) else tv_cb (Ag_fillNumber F a1 M6) (fun r7 M8 => some (r7, M8)))))
/-- java/lang/Integer.bitCount(I)I -/
def Jv_bitCount (F : Nat) (a0 : Int32) (M : tv_M) : Option (Int32 × tv_M) := tv_lt (a0 - ((((a0).toUInt32 >>> ((1).toUInt32 &&& Int32.toUInt32 31)).toInt32) &&& 1431655765)) (fun x1 => tv_lt ((x1 &&& 858993459) + ((((x1).toUInt32 >>> ((2).toUInt32 &&& Int32.toUInt32 31)).toInt32) &&& 858993459)) (fun x2 => tv_lt ((x2 + (((x2).toUInt32 >>> ((4).toUInt32 &&& Int32.toUInt32 31)).toInt32)) &&& 252645135) (fun x3 => tv_lt (x3 + (((x3).toUInt32 >>> ((8).toUInt32 &&& Int32.toUInt32 31)).toInt32)) (fun x4 => tv_lt (x4 + (((x4).toUInt32 >>> ((16).toUInt32 &&& Int32.toUInt32 31)).toInt32)) (fun x5 => some (x5 &&& 63, M))))))
/-- TiedViews$Dropping.takeOffOthers([I)V -/
def Dr_takeOffOthers_L2 (F : Nat) : Nat → Nat → Int32 → tv_M → Option (Unit × tv_M)
  | 0, _, _, _ => none
  | nn + 1, l1, l2, M => tv_gn l1 20 (fun n4 => if (M.1 165 4) ≤ l2 then some ((), M) else tv_rd M 192 25 l2 (fun x5 => tv_rd M l1 n4 x5 (fun x6 => if x6 = 0 then Dr_takeOffOthers_L2 F nn l1 (l2 + 1) M else tv_ap 166 25 l2 (fun p7 => tv_gn p7 20 (fun n9 => tv_cb (Xx_addTimes F l1 p7 ((M.1 18 0) - x6) ((M.1 165 5) + 1) (M.1 18 0) M) (fun r10 M11 => Dr_takeOffOthers_L2 F nn l1 (l2 + 1) M11))))))
def Dr_takeOffOthers (F : Nat) (a1 : Nat) (M : tv_M) : Option (Unit × tv_M) := tv_gn a1 20 (fun n2 => Dr_takeOffOthers_L2 F F a1 0 M)
/-- TiedViews$Dropping.firstNotNought([I)I -/
def Dr_firstNotNought_L2 (F : Nat) : Nat → Nat → Int32 → tv_M → Option (Int32 × tv_M)
  | 0, _, _, _ => none
  | nn + 1, l1, l2, M => tv_gn l1 20 (fun n4 => if (M.1 165 5) ≤ l2 then some ((-1), M) else tv_rd M l1 n4 l2 (fun x5 => if x5 = 0 then Dr_firstNotNought_L2 F nn l1 (l2 + 1) M else some (l2, M)))
def Dr_firstNotNought (F : Nat) (a1 : Nat) (M : tv_M) : Option (Int32 × tv_M) := tv_gn a1 20 (fun n2 => Dr_firstNotNought_L2 F F a1 0 M)
/-- TiedViews$Dropping.addEquation(II)Z -/
def Dr_addEquation_L111 (F : Nat) : Nat → Nat → Int32 → Int32 → Int32 → tv_M → Option (Int32 × tv_M)
  | 0, _, _, _, _, _ => none
  | nn + 1, l3, l4, l5, l6, M => tv_gn l3 20 (fun n19 => if (M.1 165 5) < l6 then tv_wr M 192 25 (M.1 165 4) l4 (fun M20 => tv_pf M20 165 4 ((M20.1 165 4) + 1) (fun M21 => some (1, M21))) else tv_rd M l3 n19 l6 (fun x22 => tv_cb (Xx_restOf F (x22 * l5) (M.1 18 0) M) (fun r23 M24 => tv_wr M24 l3 n19 l6 r23 (fun M25 => Dr_addEquation_L111 F nn l3 l4 l5 (l6 + 1) M25))))
def Dr_addEquation_L24 (F : Nat) : Nat → Int32 → Int32 → Nat → Int32 → tv_M → Option (Int32 × tv_M)
  | 0, _, _, _, _, _ => none
  | nn + 1, l1, l2, l3, l4, M => tv_gn l3 20 (fun n5 => if (M.1 165 5) ≤ l4 then tv_wr M l3 n5 (M.1 165 5) l2 (fun M6 => tv_cb (Dr_takeOffOthers F l3 M6) (fun r7 M8 => tv_cb (Dr_firstNotNought F l3 M8) (fun r9 M10 => if 0 ≤ r9 then tv_rd M10 l3 n5 r9 (fun x11 => tv_cb (Xx_inverseOf F x11 (M10.1 18 0) M10) (fun r12 M13 => Dr_addEquation_L111 F F l3 r9 r12 0 M13)) else tv_rd M10 l3 n5 (M10.1 165 5) (fun x14 => if x14 = 0 then some (1, M10) else some (0, M10))))) else tv_cb (Ag_basisNumber F l4 l1 M) (fun r15 M16 => tv_wr M16 l3 n5 l4 r15 (fun M17 => Dr_addEquation_L24 F nn l1 l2 l3 (l4 + 1) M17)))
def Dr_addEquation (F : Nat) (a1 : Int32) (a2 : Int32) (M : tv_M) : Option (Int32 × tv_M) := if (M.1 165 4) ≤ 24 then tv_ap 166 25 (M.1 165 4) (fun p1 => tv_gn p1 20 (fun n3 => Dr_addEquation_L24 F F a1 a2 p1 0 M)) else some (0, M)
/-- TiedViews$Dropping.addReading(LTiedViews$Eye;)Z -/
def Dr_addReading_L2 (F : Nat) : Nat → Nat → Int32 → tv_M → Option (Int32 × tv_M)
  | 0, _, _, _ => none
  | nn + 1, l1, l2, M => tv_gl l1 3 (if (M.1 l1 2) ≤ l2 then some (1, M) else tv_nn (tv_P0 l1 6) (fun p3 => tv_gn p3 20 (fun n5 => tv_rd M p3 n5 l2 (fun x6 => tv_cb (Dr_addEquation F ((M.1 l1 3) + l2) x6 M) (fun r7 M8 => if r7 = 0 then some (0, M8) else Dr_addReading_L2 F nn l1 (l2 + 1) M8)))))
def Dr_addReading (F : Nat) (a1 : Nat) (M : tv_M) : Option (Int32 × tv_M) := tv_gl a1 3 (Dr_addReading_L2 F F a1 0 M)
/-- TiedViews$Dropping.searchFrom(II)V -/
def Dr_searchFrom_L71 (F : Nat) (self : Int32 → Int32 → tv_M → Option (Unit × tv_M)) (l1 : Int32) (l2 : Int32) (l4 : Nat) (l5 : Int32) (M : tv_M) : Option (Unit × tv_M) := tv_gl l4 3 (tv_pf M 165 4 l5 (fun M16 => if (M16.1 l4 5) = 0 then some ((), M16) else tv_cb (self (l1 - 1) (l2 ||| (1 <<< (l1 &&& 31))) M16) (fun r17 M18 => some ((), M18))))
def Dr_searchFrom (F : Nat) : Nat → Int32 → Int32 → tv_M → Option (Unit × tv_M)
  | 0, _, _, _ => none
  | nn + 1, a1, a2, M => tv_cb (Jv_bitCount F a2 M) (fun r1 M2 => if r1 < (M2.1 165 7) then tv_cb (To_eyeAt F a1 M2) (fun r3 M4 => tv_nl r3 (tv_pf M4 165 6 a2 (fun M6 => tv_pf M6 165 7 r1 (fun M7 => some ((), M7)))) (fun p5 => tv_gl p5 3 (if (M4.1 p5 5) = 0 then tv_cb ((Dr_searchFrom F nn) (a1 - 1) a2 M4) (fun r9 M10 => Dr_searchFrom_L71 F (Dr_searchFrom F nn) a1 a2 p5 (M4.1 165 4) M10) else tv_cb (Dr_addReading F p5 M4) (fun r11 M12 => if r11 = 0 then Dr_searchFrom_L71 F (Dr_searchFrom F nn) a1 a2 p5 (M4.1 165 4) M12 else tv_cb ((Dr_searchFrom F nn) (a1 - 1) a2 M12) (fun r13 M14 => Dr_searchFrom_L71 F (Dr_searchFrom F nn) a1 a2 p5 (M4.1 165 4) M14))))) else some ((), M2))
/-- TiedViews$Dropping.leastSet()I -/
def Dr_leastSet (F : Nat)  (M : tv_M) : Option (Int32 × tv_M) := if (M.1 165 8) = 0 then tv_cb (Ag_freeColumns F M) (fun r1 M2 => tv_cb (Jv_min F r1 24 M2) (fun r3 M4 => tv_pf M4 165 5 r3 (fun M5 => tv_pf M5 165 4 0 (fun M6 => tv_pf M6 165 6 0 (fun M7 => tv_pf M7 165 7 9 (fun M8 => tv_cb (Dr_searchFrom F 12 ((M8.1 18 4) - 1) 0 M8) (fun r9 M10 => tv_pf M10 165 8 1 (fun M11 => some (M11.1 165 6, M11))))))))) else some (M.1 165 6, M)
/-- TiedViews.fewest()I -/
def Xx_fewest (F : Nat)  (M : tv_M) : Option (Int32 × tv_M) := tv_cb (Dr_leastSet F M) (fun r1 M2 => some (r1, M2))
/-- TiedViews$Agreement.wantOf(ILTiedViews$Sheet;I)I -/
def Ag_wantOf_L6 (F : Nat) : Nat → Int32 → Nat → Int32 → Int32 → Int32 → tv_M → Option (Int32 × tv_M)
  | 0, _, _, _, _, _, _ => none
  | nn + 1, l1, l2, l3, l4, l5, M => tv_gl l2 1 (if (M.1 18 8) ≤ l5 then tv_cb (Xx_restOf F l4 (M.1 18 0) M) (fun r3 M4 => some (r3, M4)) else tv_cb (St_extraAt F 71 l1 l5 M) (fun r5 M6 => tv_nn (tv_P0 l2 2) (fun p7 => tv_gn p7 20 (fun n9 => tv_rd M6 p7 n9 (l3 + l5) (fun x10 => Ag_wantOf_L6 F nn l1 l2 l3 (l4 + (r5 * x10)) (l5 + 1) M6)))))
def Ag_wantOf (F : Nat) (a1 : Int32) (a2 : Nat) (a3 : Int32) (M : tv_M) : Option (Int32 × tv_M) := tv_gl a2 1 (Ag_wantOf_L6 F F a1 a2 a3 0 0 M)
/-- TiedViews$Agreement.proofLine(LTiedViews$Sheet;I)I -/
def Ag_proofLine_L19 (F : Nat) : Nat → Nat → Int32 → Int32 → tv_M → Option (Int32 × tv_M)
  | 0, _, _, _, _ => none
  | nn + 1, l1, l2, l3, M => tv_gl l1 1 (if (M.1 18 8) ≤ l3 then some ((-1), M) else tv_cb (St_isLeader F 71 l3 M) (fun r5 M6 => if r5 = 0 then tv_cb (Ag_wantOf F l3 l1 l2 M6) (fun r7 M8 => if r7 = 0 then Ag_proofLine_L19 F nn l1 l2 (l3 + 1) M8 else some (l3, M8)) else Ag_proofLine_L19 F nn l1 l2 (l3 + 1) M6))
def Ag_proofLine (F : Nat) (a1 : Nat) (a2 : Int32) (M : tv_M) : Option (Int32 × tv_M) := tv_gl a1 1 (tv_cb (Sh_reaches F a1 a2 (M.1 18 8) M) (fun r2 M3 => if r2 = 0 then some ((-1), M3) else Ag_proofLine_L19 F F a1 a2 0 M3))
/-- TiedViews$Agreement.madeOf(II)I -/
def Ag_madeOf (F : Nat) (a1 : Int32) (a2 : Int32) (M : tv_M) : Option (Int32 × tv_M) := tv_cb (St_extraAt F 71 a1 a2 M) (fun r1 M2 => some (r1, M2))
/-- TiedViews.met(III)I -/
def Xx_met (F : Nat) (a1 : Int32) (a2 : Int32) (a3 : Int32) (M : tv_M) : Option (Int32 × tv_M) := tv_cb (Xx_sheetAt F a1 M) (fun r1 M2 => tv_nl r1 (some ((-1000001), M2)) (fun p3 => tv_gl p3 1 (if a3 < (-1) then some ((-1000001), M2) else if a3 < (M2.1 18 8) then tv_cb (Sh_isMissing F p3 M2) (fun r5 M6 => if r5 = 0 then tv_cb (Sh_reaches F p3 a2 (M6.1 18 8) M6) (fun r7 M8 => if r7 = 0 then tv_cb (Xx_found F 2 M8) (fun r23 M24 => some (r23, M24)) else tv_cb (Sh_holdsRests F p3 a2 (M8.1 18 8) (M8.1 0 0) M8) (fun r9 M10 => if r9 = 0 then some ((-1000001), M10) else tv_cb (Ag_proofLine F p3 a2 M10) (fun r11 M12 => if a3 = (-1) then if 0 ≤ r11 then tv_cb (Xx_passed F 0 M12) (fun r19 M20 => some (r19, M20)) else tv_cb (Xx_passed F 1 M12) (fun r21 M22 => some (r21, M22)) else if 0 ≤ r11 then tv_cb (Ag_madeOf F r11 a3 M12) (fun r13 M14 => tv_cb (Xx_passed F r13 M14) (fun r15 M16 => some (r15, M16))) else tv_cb (Xx_passed F (-1000000) M12) (fun r17 M18 => some (r17, M18))))) else tv_cb (Xx_found F 1 M6) (fun r25 M26 => some (r25, M26))) else some ((-1000001), M2))))
/-- TiedViews$Told.tieAt(I)LTiedViews$Tie; -/
def To_tieAt (F : Nat) (a1 : Int32) (M : tv_M) : Option (Option Nat × tv_M) := if a1 < 0 then some (none, M) else if a1 < (M.1 18 5) then tv_ap 20 10 a1 (fun p1 => tv_gl p1 4 (some (some p1, M))) else some (none, M)
/-- TiedViews$Agreement.costOf(I)I -/
def Ag_costOf (F : Nat) (a1 : Int32) (M : tv_M) : Option (Int32 × tv_M) := tv_cb (Ag_leaders F M) (fun r1 M2 => tv_pf M2 70 3 0 (fun M3 => tv_cb (St_begin F 106 (M3.1 18 7) 0 M3) (fun r4 M5 => tv_cb (Ag_addLines F 106 a1 0 M5) (fun r6 M7 => tv_cb (St_putInSteps F 106 M7) (fun r8 M9 => some (r1 - (M9.1 106 8), M9))))))
/-- TiedViews.cost(I)I -/
def Xx_cost (F : Nat) (a1 : Int32) (M : tv_M) : Option (Int32 × tv_M) := tv_cb (To_tieAt F a1 M) (fun r1 M2 => tv_nl r1 (some ((-1000001), M2)) (fun p3 => tv_gl p3 4 (tv_cb (Ag_costOf F a1 M2) (fun r5 M6 => some (r5, M6)))))
/-- TiedViews$Hearsay.isFull()Z -/
def He_isFull (F : Nat)  (M : tv_M) : Option (Int32 × tv_M) := if (M.1 193 3) < 16 then some (0, M) else some (1, M)
/-- TiedViews$Hearsay.addRule(III)I -/
def He_addRule (F : Nat) (a1 : Int32) (a2 : Int32) (a3 : Int32) (M : tv_M) : Option (Int32 × tv_M) := tv_cb (He_isFull F M) (fun r1 M2 => if r1 = 0 then if a1 < 0 then some ((-1000003), M2) else if a1 < 8 then tv_wr M2 194 8 a1 a2 (fun M3 => tv_wr M3 195 8 a1 a3 (fun M4 => tv_pf M4 193 3 ((M4.1 193 3) + 1) (fun M5 => tv_pf M5 193 12 0 (fun M6 => some (M6.1 193 3, M6))))) else some ((-1000003), M2) else some ((-1000003), M2))
/-- TiedViews.hear(III)I -/
def Xx_hear (F : Nat) (a1 : Int32) (a2 : Int32) (a3 : Int32) (M : tv_M) : Option (Int32 × tv_M) := tv_cb (To_linearAt F a1 M) (fun r1 M2 => tv_cb (To_linearAt F a2 M2) (fun r3 M4 => tv_cb (To_tieAt F a3 M4) (fun r5 M6 => tv_nl r1 (some ((-1000001), M6)) (fun p7 => tv_gl p7 3 (tv_nl r3 (some ((-1000001), M6)) (fun p9 => tv_gl p9 3 (tv_nl r5 (some ((-1000001), M6)) (fun p11 => tv_gl p11 4 (tv_cb (Ti_joins F p11 a2 M6) (fun r13 M14 => if r13 = 0 then some ((-1000001), M14) else if (M14.1 p11 2) = (M14.1 p7 2) then tv_cb (He_isFull F M14) (fun r15 M16 => if r15 = 0 then tv_cb (He_addRule F a1 a2 a3 M16) (fun r17 M18 => some (r17, M18)) else some ((-1000003), M16)) else some ((-1000001), M14)))))))))))
/-- TiedViews$Hearsay.change(II)I -/
def He_change (F : Nat) (a1 : Int32) (a2 : Int32) (M : tv_M) : Option (Int32 × tv_M) := tv_cb (To_isColumn F a1 M) (fun r1 M2 => if r1 = 0 then some ((-1000001), M2) else tv_rd M2 196 24 a1 (fun x3 => tv_wr M2 196 24 a1 a2 (fun M4 => tv_pf M4 193 12 0 (fun M5 => some (x3, M5)))))
/-- TiedViews.now(III)I -/
def Xx_now (F : Nat) (a1 : Int32) (a2 : Int32) (a3 : Int32) (M : tv_M) : Option (Int32 × tv_M) := tv_cb (To_linearAt F a1 M) (fun r1 M2 => tv_nl r1 (some ((-1000001), M2)) (fun p3 => tv_gl p3 3 (if a2 < 0 then some ((-1000001), M2) else if (M2.1 p3 2) ≤ a2 then some ((-1000001), M2) else if a3 < 0 then some ((-1000001), M2) else if a3 < (M2.1 0 0) then tv_cb (He_change F ((M2.1 p3 3) + a2) a3 M2) (fun r5 M6 => some (r5, M6)) else some ((-1000001), M2))))
/-- TiedViews$Hearsay.hearOne(LTiedViews$Eye;[I)V -/
def He_hearOne_L74 (F : Nat) (k59 : Nat → Nat → Nat → Nat → Int32 → tv_M → Option (Unit × tv_M)) : Nat → Nat → Nat → Nat → Nat → Int32 → Int32 → Int32 → tv_M → Option (Unit × tv_M)
  | 0, _, _, _, _, _, _, _, _ => none
  | nn + 1, l1, l2, l3, l5, l6, l7, l8, M => tv_gl l1 3 (tv_gn l2 20 (fun n27 => tv_gl l3 3 (tv_gn l5 20 (fun n30 => if (M.1 l3 2) ≤ l8 then tv_cb (Xx_restOf F l7 (M.1 18 0) M) (fun r31 M32 => tv_wr M32 198 24 ((M.1 l1 3) + l6) r31 (fun M33 => k59 l1 l2 l3 l5 (l6 + 1) M33)) else tv_rd M l5 n30 ((l6 * 3) + l8) (fun x34 => tv_rd M l2 n27 ((M.1 l3 3) + l8) (fun x35 => He_hearOne_L74 F k59 nn l1 l2 l3 l5 l6 (l7 + (x34 * x35)) (l8 + 1) M))))))
def He_hearOne_L59 (F : Nat) : Nat → Nat → Nat → Nat → Nat → Int32 → tv_M → Option (Unit × tv_M)
  | 0, _, _, _, _, _, _ => none
  | nn + 1, l1, l2, l3, l5, l6, M => tv_gl l1 3 (tv_gn l2 20 (fun n21 => tv_gl l3 3 (tv_gn l5 20 (fun n24 => if (M.1 l1 2) ≤ l6 then some ((), M) else He_hearOne_L74 F (He_hearOne_L59 F nn) F l1 l2 l3 l5 l6 0 0 M))))
def He_hearOne (F : Nat) (a1 : Nat) (a2 : Nat) (M : tv_M) : Option (Unit × tv_M) := tv_gl a1 3 (tv_gn a2 20 (fun n3 => tv_rd M 194 8 (M.1 a1 0) (fun x4 => tv_cb (To_linearAt F x4 M) (fun r5 M6 => tv_rd M6 195 8 (M6.1 a1 0) (fun x7 => tv_cb (To_tieAt F x7 M6) (fun r8 M9 => tv_nl r5 (some ((), M9)) (fun p10 => tv_gl p10 3 (tv_nl r8 (some ((), M9)) (fun p12 => tv_gl p12 4 (tv_cb (Ti_tableOf F p12 (M9.1 p10 0) M9) (fun r14 M15 => tv_nn r14 (fun p16 => tv_gn p16 20 (fun n18 => He_hearOne_L59 F F a1 a2 p10 p16 0 M15)))))))))))))
/-- TiedViews$Hearsay.hearAll([I)V -/
def He_hearAll_L14 (F : Nat) : Nat → Nat → Int32 → tv_M → Option (Unit × tv_M)
  | 0, _, _, _ => none
  | nn + 1, l1, l2, M => tv_gn l1 20 (fun n5 => if (M.1 18 4) ≤ l2 then tv_cpy M 198 24 0 l1 n5 0 24 (fun M6 => some ((), M6)) else tv_ap 19 8 l2 (fun p7 => tv_gl p7 3 (tv_rd M 195 8 l2 (fun x9 => if x9 = (-1) then He_hearAll_L14 F nn l1 (l2 + 1) M else if (M.1 p7 1) = 2 then He_hearAll_L14 F nn l1 (l2 + 1) M else tv_cb (He_hearOne F p7 l1 M) (fun r10 M11 => He_hearAll_L14 F nn l1 (l2 + 1) M11)))))
def He_hearAll (F : Nat) (a1 : Nat) (M : tv_M) : Option (Unit × tv_M) := tv_gn a1 20 (fun n2 => tv_cpy M a1 n2 0 198 24 0 24 (fun M3 => He_hearAll_L14 F F a1 0 M3))
/-- TiedViews$Hearsay.goOn(I)I -/
def He_goOn_L30 (F : Nat) : Nat → Int32 → Int32 → tv_M → Option (Int32 × tv_M)
  | 0, _, _, _ => none
  | nn + 1, l2, l3, M => if (M.1 18 7) ≤ l3 then some (l2, M) else tv_rd M 196 24 l3 (fun x4 => if x4 = 0 then He_goOn_L30 F nn l2 (l3 + 1) M else He_goOn_L30 F nn (l2 + 1) (l3 + 1) M)
def He_goOn_L2 (F : Nat) : Nat → Int32 → Int32 → tv_M → Option (Int32 × tv_M)
  | 0, _, _, _ => none
  | nn + 1, l1, l2, M => if l1 ≤ l2 then tv_pf M 193 12 0 (fun M1 => He_goOn_L30 F F 0 0 M1) else tv_cb (He_hearAll F 196 M) (fun r2 M3 => He_goOn_L2 F nn l1 (l2 + 1) M3)
def He_goOn (F : Nat) (a1 : Int32) (M : tv_M) : Option (Int32 × tv_M) := He_goOn_L2 F F a1 0 M
/-- TiedViews.tick(I)I -/
def Xx_tick (F : Nat) (a1 : Int32) (M : tv_M) : Option (Int32 × tv_M) := if a1 < 1 then some ((-1000001), M) else if a1 ≤ 100 then tv_cb (He_goOn F a1 M) (fun r1 M2 => some (r1, M2)) else some ((-1000001), M)
/-- TiedViews$Hearsay.numberAt(I)I -/
def He_numberAt (F : Nat) (a1 : Int32) (M : tv_M) : Option (Int32 × tv_M) := tv_cb (To_isColumn F a1 M) (fun r1 M2 => if r1 = 0 then some ((-1000001), M2) else tv_rd M2 196 24 a1 (fun x3 => some (x3, M2)))
/-- TiedViews.says(II)I -/
def Xx_says (F : Nat) (a1 : Int32) (a2 : Int32) (M : tv_M) : Option (Int32 × tv_M) := tv_cb (To_linearAt F a1 M) (fun r1 M2 => tv_nl r1 (some ((-1000001), M2)) (fun p3 => tv_gl p3 3 (if a2 < 0 then some ((-1000001), M2) else if a2 < (M2.1 p3 2) then tv_cb (He_numberAt F ((M2.1 p3 3) + a2) M2) (fun r5 M6 => some (r5, M6)) else some ((-1000001), M2))))
/-- TiedViews$Hearsay.packed(I)J -/
def He_packed_L5 (F : Nat) : Nat → Int32 → Int64 → Int32 → tv_M → Option (Int64 × tv_M)
  | 0, _, _, _, _ => none
  | nn + 1, l1, l2, l4, M => if (l1 + 12) ≤ l4 then some (l2, M) else tv_rd M 197 24 l4 (fun x1 => He_packed_L5 F nn l1 ((l2 <<< ((3 : Int32).toInt64 &&& 63)) ||| ((x1 : Int32).toInt64)) (l4 + 1) M)
def He_packed (F : Nat) (a1 : Int32) (M : tv_M) : Option (Int64 × tv_M) := He_packed_L5 F F a1 0 a1 M
/-- TiedViews$Hearsay.firstLike(I)I -/
def He_firstLike_L18 (F : Nat) : Nat → Int32 → Int64 → Int64 → Int32 → tv_M → Option (Int32 × tv_M)
  | 0, _, _, _, _, _ => none
  | nn + 1, l1, l2, l4, l6, M => if l1 ≤ l6 then some (l1, M) else tv_rdl M 199 301 l6 (fun x3 => if (lg_cmp x3 l2) = 0 then tv_rdl M 200 301 l6 (fun x4 => if (lg_cmp x4 l4) = 0 then some (l6, M) else He_firstLike_L18 F nn l1 l2 l4 (l6 + 1) M) else He_firstLike_L18 F nn l1 l2 l4 (l6 + 1) M)
def He_firstLike (F : Nat) (a1 : Int32) (M : tv_M) : Option (Int32 × tv_M) := tv_rdl M 199 301 a1 (fun x1 => tv_rdl M 200 301 a1 (fun x2 => He_firstLike_L18 F F a1 x1 x2 0 M))
/-- TiedViews$Hearsay.settle()V -/
def He_settle_L22 (F : Nat) : Nat → Int32 → tv_M → Option (Unit × tv_M)
  | 0, _, _ => none
  | nn + 1, l1, M => if 300 < l1 then tv_pf M 193 11 1 (fun M3 => some ((), M3)) else tv_cb (He_packed F 0 M) (fun r4 M5 => tv_wrl M5 199 301 l1 r4 (fun M6 => tv_cb (He_packed F 12 M6) (fun r7 M8 => tv_wrl M8 200 301 l1 r7 (fun M9 => tv_cb (He_firstLike F l1 M9) (fun r10 M11 => if l1 ≤ r10 then tv_cb (He_hearAll F 197 M11) (fun r12 M13 => He_settle_L22 F nn (l1 + 1) M13) else tv_pf M11 193 9 r10 (fun M14 => tv_pf M14 193 10 (l1 - r10) (fun M15 => some ((), M15))))))))
def He_settle (F : Nat)  (M : tv_M) : Option (Unit × tv_M) := tv_cpy M 196 24 0 197 24 0 24 (fun M1 => tv_pf M1 193 11 0 (fun M2 => He_settle_L22 F F 0 M2))
/-- TiedViews$Hearsay.isSpent()Z -/
def He_isSpent (F : Nat)  (M : tv_M) : Option (Int32 × tv_M) := if (M.1 193 12) = 0 then tv_cb (He_settle F M) (fun r2 M3 => tv_pf M3 193 12 1 (fun M4 => tv_zo (M4.1 193 11) (some (M4.1 193 11, M4)))) else tv_zo (M.1 193 11) (some (M.1 193 11, M))
/-- TiedViews.settles(I)I -/
def Xx_settles_L12 (F : Nat) (l1 : Int32) (M : tv_M) : Option (Int32 × tv_M) := tv_cb (He_isSpent F M) (fun r1 M2 => if r1 = 0 then if l1 = 0 then some (M2.1 193 9, M2) else some (M2.1 193 10, M2) else some ((-1000000), M2))
def Xx_settles (F : Nat) (a1 : Int32) (M : tv_M) : Option (Int32 × tv_M) := if a1 = 0 then Xx_settles_L12 F a1 M else if a1 = 1 then Xx_settles_L12 F a1 M else some ((-1000001), M)
/-- TiedViews$Choices.forget()V -/
def Ch_forget (F : Nat)  (M : tv_M) : Option (Unit × tv_M) := tv_pf M 201 6 0 (fun M1 => some ((), M1))
/-- TiedViews.choose(II)I -/
def Xx_choose (F : Nat) (a1 : Int32) (a2 : Int32) (M : tv_M) : Option (Int32 × tv_M) := tv_cb (To_choiceAt F a1 M) (fun r1 M2 => tv_nl r1 (some ((-1000001), M2)) (fun p3 => tv_gl p3 3 (if a2 < 1 then some ((-1000001), M2) else tv_cb (Ey_fullSet F p3 M2) (fun r5 M6 => if a2 ≤ r5 then tv_pf M6 p3 4 a2 (fun M7 => tv_cb (Ch_forget F M7) (fun r8 M9 => some (M6.1 p3 4, M9))) else some ((-1000001), M6)))))
/-- TiedViews$Choices.goesWithAll(II)Z -/
def Ch_goesWithAll_L14 (F : Nat) : Nat → Int32 → Nat → Int32 → tv_M → Option (Int32 × tv_M)
  | 0, _, _, _, _ => none
  | nn + 1, l1, l3, l4, M => tv_gn l3 20 (fun n5 => if (M.1 18 4) ≤ l4 then some (1, M) else tv_ap 19 8 l4 (fun p6 => tv_gl p6 3 (if l4 = l1 then Ch_goesWithAll_L14 F nn l1 l3 (l4 + 1) M else tv_cb (Ey_isChoice F p6 M) (fun r8 M9 => if r8 = 0 then Ch_goesWithAll_L14 F nn l1 l3 (l4 + 1) M9 else tv_rd M9 l3 n5 l4 (fun x10 => if ((M9.1 p6 4) &&& x10) = 0 then some (0, M9) else Ch_goesWithAll_L14 F nn l1 l3 (l4 + 1) M9)))))
def Ch_goesWithAll (F : Nat) (a1 : Int32) (a2 : Int32) (M : tv_M) : Option (Int32 × tv_M) := tv_ap 202 32 ((a1 * 4) + a2) (fun p1 => tv_gn p1 20 (fun n3 => Ch_goesWithAll_L14 F F a1 p1 0 M))
/-- TiedViews$Choices.narrowOne(I)I -/
def Ch_narrowOne_L20 (F : Nat) : Nat → Int32 → Nat → Int32 → Int32 → tv_M → Option (Int32 × tv_M)
  | 0, _, _, _, _, _ => none
  | nn + 1, l1, l2, l3, l4, M => tv_gl l2 3 (if (M.1 l2 2) ≤ l4 then some (l3, M) else if (((M.1 l2 4) >>> (l4 &&& 31)) &&& 1) = 1 then tv_cb (Ch_goesWithAll F l1 l4 M) (fun r6 M7 => if r6 = 0 then tv_pf M7 l2 4 ((M7.1 l2 4) &&& ((1 <<< (l4 &&& 31)) ^^^ (-1))) (fun M8 => Ch_narrowOne_L20 F nn l1 l2 (l3 + 1) (l4 + 1) M8) else Ch_narrowOne_L20 F nn l1 l2 l3 (l4 + 1) M7) else Ch_narrowOne_L20 F nn l1 l2 l3 (l4 + 1) M)
def Ch_narrowOne (F : Nat) (a1 : Int32) (M : tv_M) : Option (Int32 × tv_M) := tv_cb (To_choiceAt F a1 M) (fun r1 M2 => tv_nl r1 (some (0, M2)) (fun p3 => tv_gl p3 3 (Ch_narrowOne_L20 F F a1 p3 0 0 M2)))
/-- TiedViews$Choices.narrowSets()I -/
def Ch_narrowSets_L22 (F : Nat) (k6 : Int32 → Int32 → Int32 → tv_M → Option (Int32 × tv_M)) : Nat → Int32 → Int32 → Int32 → Int32 → tv_M → Option (Int32 × tv_M)
  | 0, _, _, _, _, _ => none
  | nn + 1, l1, l3, l4, l5, M => if (M.1 18 4) ≤ l5 then if l1 ≤ l4 then k6 l1 0 (l3 + 1) M else k6 l1 1 (l3 + 1) M else tv_cb (Ch_narrowOne F l5 M) (fun r3 M4 => Ch_narrowSets_L22 F k6 nn (l1 + r3) l3 l4 (l5 + 1) M4)
def Ch_narrowSets_L6 (F : Nat) : Nat → Int32 → Int32 → Int32 → tv_M → Option (Int32 × tv_M)
  | 0, _, _, _, _ => none
  | nn + 1, l1, l2, l3, M => if 32 < l3 then tv_pf M 201 6 0 (fun M1 => some (l1, M1)) else if l2 = 0 then tv_pf M 201 6 0 (fun M2 => some (l1, M2)) else Ch_narrowSets_L22 F (Ch_narrowSets_L6 F nn) F l1 l3 l1 0 M
def Ch_narrowSets (F : Nat)  (M : tv_M) : Option (Int32 × tv_M) := Ch_narrowSets_L6 F F 0 1 0 M
/-- TiedViews.narrow()I -/
def Xx_narrow (F : Nat)  (M : tv_M) : Option (Int32 × tv_M) := tv_cb (Ch_narrowSets F M) (fun r1 M2 => some (r1, M2))
/-- TiedViews$Choices.leavesLaterOpen(II)Z -/
def Ch_leavesLaterOpen_L16 (F : Nat) : Nat → Int32 → Nat → Int32 → tv_M → Option (Int32 × tv_M)
  | 0, _, _, _, _ => none
  | nn + 1, l1, l3, l4, M => tv_gn l3 20 (fun n5 => if (M.1 18 4) ≤ l4 then some (1, M) else tv_ap 236 9 l1 (fun p6 => tv_gn p6 20 (fun n8 => tv_rd M p6 n8 l4 (fun x9 => tv_rd M l3 n5 l4 (fun x10 => if (x9 &&& x10) = 0 then tv_ap 19 8 l4 (fun p15 => tv_gl p15 3 (tv_cb (Ey_isChoice F p15 M) (fun r17 M18 => if r17 = 0 then tv_ap 236 9 (l1 + 1) (fun p19 => tv_gn p19 20 (fun n21 => tv_wr M18 p19 n21 l4 (x9 &&& x10) (fun M22 => Ch_leavesLaterOpen_L16 F nn l1 l3 (l4 + 1) M22))) else some (0, M18)))) else tv_ap 236 9 (l1 + 1) (fun p11 => tv_gn p11 20 (fun n13 => tv_wr M p11 n13 l4 (x9 &&& x10) (fun M14 => Ch_leavesLaterOpen_L16 F nn l1 l3 (l4 + 1) M14))))))))
def Ch_leavesLaterOpen (F : Nat) (a1 : Int32) (a2 : Int32) (M : tv_M) : Option (Int32 × tv_M) := tv_ap 202 32 ((a1 * 4) + a2) (fun p1 => tv_gn p1 20 (fun n3 => Ch_leavesLaterOpen_L16 F F a1 p1 (a1 + 1) M))
/-- TiedViews$Choices.waysFrom(I)I -/
def Ch_waysFrom_L74 (F : Nat) (self : Int32 → tv_M → Option (Int32 × tv_M)) (l1 : Int32) (s0 : Int32) (M : tv_M) : Option (Int32 × tv_M) := if s0 = 0 then some (0, M) else tv_cb (self (l1 + 1) M) (fun r24 M25 => some (s0 * r24, M25))
def Ch_waysFrom_L31 (F : Nat) (self : Int32 → tv_M → Option (Int32 × tv_M)) (l1 : Int32) (l2 : Nat) (M : tv_M) : Option (Int32 × tv_M) := tv_gl l2 3 (tv_ap 236 9 l1 (fun p9 => tv_gn p9 20 (fun n11 => tv_ap 236 9 (l1 + 1) (fun p12 => tv_gn p12 20 (fun n14 => tv_cpy M p9 n11 0 p12 n14 0 8 (fun M15 => tv_cb (Ey_isChoice F l2 M15) (fun r16 M17 => if r16 = 0 then Ch_waysFrom_L74 F self l1 1 M17 else tv_ap 236 9 l1 (fun p18 => tv_gn p18 20 (fun n20 => tv_rd M17 p18 n20 l1 (fun x21 => tv_cb (Jv_bitCount F x21 M17) (fun r22 M23 => Ch_waysFrom_L74 F self l1 r22 M23)))))))))))
def Ch_waysFrom_L98 (F : Nat) (self : Int32 → tv_M → Option (Int32 × tv_M)) : Nat → Int32 → Nat → Int32 → Int32 → tv_M → Option (Int32 × tv_M)
  | 0, _, _, _, _, _ => none
  | nn + 1, l1, l2, l3, l4, M => tv_gl l2 3 (if (M.1 l2 2) ≤ l4 then some (l3, M) else tv_ap 236 9 l1 (fun p27 => tv_gn p27 20 (fun n29 => tv_rd M p27 n29 l1 (fun x30 => if ((x30 >>> (l4 &&& 31)) &&& 1) = 1 then tv_cb (Ch_leavesLaterOpen F l1 l4 M) (fun r31 M32 => if r31 = 0 then Ch_waysFrom_L98 F self nn l1 l2 l3 (l4 + 1) M32 else tv_cb (self (l1 + 1) M32) (fun r33 M34 => Ch_waysFrom_L98 F self nn l1 l2 (l3 + r33) (l4 + 1) M34)) else Ch_waysFrom_L98 F self nn l1 l2 l3 (l4 + 1) M))))
def Ch_waysFrom (F : Nat) : Nat → Int32 → tv_M → Option (Int32 × tv_M)
  | 0, _, _ => none
  | nn + 1, a1, M => tv_cb (To_eyeAt F a1 M) (fun r1 M2 => tv_nl r1 (some (1, M2)) (fun p3 => tv_gl p3 3 (tv_cb (Ey_isChoice F p3 M2) (fun r5 M6 => if r5 = 0 then Ch_waysFrom_L31 F (Ch_waysFrom F nn) a1 p3 M6 else tv_rd M6 235 8 a1 (fun x7 => if x7 = 0 then Ch_waysFrom_L31 F (Ch_waysFrom F nn) a1 p3 M6 else Ch_waysFrom_L98 F (Ch_waysFrom F nn) F a1 p3 0 0 M6)))))
/-- TiedViews$Choices.findFirst(I)Z -/
def Ch_findFirst_L53 (F : Nat) (self : Int32 → tv_M → Option (Int32 × tv_M)) : Nat → Int32 → Nat → Int32 → tv_M → Option (Int32 × tv_M)
  | 0, _, _, _, _ => none
  | nn + 1, l1, l2, l3, M => tv_gl l2 3 (if (M.1 l2 2) ≤ l3 then some (0, M) else tv_ap 236 9 l1 (fun p18 => tv_gn p18 20 (fun n20 => tv_rd M p18 n20 l1 (fun x21 => if ((x21 >>> (l3 &&& 31)) &&& 1) = 1 then tv_cb (Ch_leavesLaterOpen F l1 l3 M) (fun r22 M23 => if r22 = 0 then Ch_findFirst_L53 F self nn l1 l2 (l3 + 1) M23 else tv_wr M23 246 8 l1 l3 (fun M24 => tv_cb (self (l1 + 1) M24) (fun r25 M26 => if r25 = 0 then Ch_findFirst_L53 F self nn l1 l2 (l3 + 1) M26 else some (1, M26)))) else Ch_findFirst_L53 F self nn l1 l2 (l3 + 1) M))))
def Ch_findFirst (F : Nat) : Nat → Int32 → tv_M → Option (Int32 × tv_M)
  | 0, _, _ => none
  | nn + 1, a1, M => tv_cb (To_eyeAt F a1 M) (fun r1 M2 => tv_nl r1 (some (1, M2)) (fun p3 => tv_gl p3 3 (tv_cb (Ey_isChoice F p3 M2) (fun r5 M6 => if r5 = 0 then tv_ap 236 9 a1 (fun p7 => tv_gn p7 20 (fun n9 => tv_ap 236 9 (a1 + 1) (fun p10 => tv_gn p10 20 (fun n12 => tv_cpy M6 p7 n9 0 p10 n12 0 8 (fun M13 => tv_cb ((Ch_findFirst F nn) (a1 + 1) M13) (fun r14 M15 => tv_zo r14 (some (r14, M15)))))))) else Ch_findFirst_L53 F (Ch_findFirst F nn) F a1 p3 0 M6))))
/-- TiedViews$Choices.ways()I -/
def Ch_ways_L9 (F : Nat) : Nat → Int32 → tv_M → Option (Int32 × tv_M)
  | 0, _, _ => none
  | nn + 1, l1, M => if (M.1 18 4) ≤ l1 then tv_cb (Ch_waysFrom F 12 0 M) (fun r1 M2 => tv_pf M2 201 5 r1 (fun M3 => if (M3.1 201 5) ≤ 0 then tv_pf M3 201 6 1 (fun M4 => some (M4.1 201 5, M4)) else tv_cb (Ch_findFirst F 12 0 M3) (fun r5 M6 => tv_pf M6 201 6 1 (fun M7 => some (M7.1 201 5, M7))))) else tv_ap 236 9 0 (fun p8 => tv_gn p8 20 (fun n10 => tv_ap 19 8 l1 (fun p11 => tv_gl p11 3 (tv_wr M p8 n10 l1 (M.1 p11 4) (fun M13 => Ch_ways_L9 F nn (l1 + 1) M13)))))
def Ch_ways (F : Nat)  (M : tv_M) : Option (Int32 × tv_M) := if (M.1 201 6) = 0 then Ch_ways_L9 F F 0 M else some (M.1 201 5, M)
/-- TiedViews$Choices.firstValue(I)I -/
def Ch_firstValue (F : Nat) (a1 : Int32) (M : tv_M) : Option (Int32 × tv_M) := if a1 < 0 then some ((-1000000), M) else if a1 < 8 then tv_rd M 246 8 a1 (fun x1 => some (x1, M)) else some ((-1000000), M)
/-- TiedViews.fills(I)I -/
def Xx_fills (F : Nat) (a1 : Int32) (M : tv_M) : Option (Int32 × tv_M) := if a1 = (-1) then tv_cb (Ch_ways F M) (fun r9 M10 => some (r9, M10)) else tv_cb (To_choiceAt F a1 M) (fun r1 M2 => tv_nl r1 (some ((-1000001), M2)) (fun p3 => tv_gl p3 3 (tv_cb (Ch_ways F M2) (fun r5 M6 => if r5 = 0 then some ((-1000000), M6) else tv_cb (Ch_firstValue F a1 M6) (fun r7 M8 => some (r7, M8))))))
/-- TiedViews$Bodies.kindOf(LTiedViews$Eye;)I -/
def Bo_kindOf (F : Nat) (a0 : Nat) (M : tv_M) : Option (Int32 × tv_M) := tv_gl a0 3 (if (M.1 a0 1) < 0 then some (0, M) else if (M.1 a0 1) < 4 then tv_rds [1, 2, 3, 4] (M.1 a0 1) (fun x2 => some (x2, M)) else some (0, M))
/-- TiedViews.kind(I)I -/
def Xx_kind (F : Nat) (a1 : Int32) (M : tv_M) : Option (Int32 × tv_M) := tv_cb (To_eyeAt F a1 M) (fun r1 M2 => tv_nl r1 (some ((-1000001), M2)) (fun p3 => tv_gl p3 3 (tv_cb (Bo_kindOf F p3 M2) (fun r5 M6 => some (r5, M6)))))
/-- TiedViews$Bodies.isOfKind(LTiedViews$Eye;I)Z -/
def Bo_isOfKind_L7 (F : Nat) : Nat → Int32 → Int32 → Int32 → tv_M → Option (Int32 × tv_M)
  | 0, _, _, _, _ => none
  | nn + 1, l1, l2, l3, M => if 4 < l3 then some (0, M) else if l2 < 0 then some (0, M) else if l2 = l1 then some (1, M) else tv_rds [-1, 0, 1, 1, 0] l2 (fun x4 => Bo_isOfKind_L7 F nn l1 x4 (l3 + 1) M)
def Bo_isOfKind (F : Nat) (a0 : Nat) (a1 : Int32) (M : tv_M) : Option (Int32 × tv_M) := tv_gl a0 3 (tv_cb (Bo_kindOf F a0 M) (fun r2 M3 => Bo_isOfKind_L7 F F a1 r2 0 M3))
/-- TiedViews.as(II)I -/
def Xx_as (F : Nat) (a1 : Int32) (a2 : Int32) (M : tv_M) : Option (Int32 × tv_M) := tv_cb (To_eyeAt F a1 M) (fun r1 M2 => tv_nl r1 (some ((-1000001), M2)) (fun p3 => tv_gl p3 3 (if a2 < 0 then some ((-1000001), M2) else if a2 ≤ 4 then tv_cb (Bo_isOfKind F p3 a2 M2) (fun r5 M6 => if r5 = 0 then tv_cb (Xx_found F 3 M6) (fun r9 M10 => some (r9, M10)) else tv_cb (Xx_passed F (M6.1 p3 2) M6) (fun r7 M8 => some (r7, M8))) else some ((-1000001), M2))))
/-- TiedViews$Bodies.bodyFor(II)I -/
def Bo_bodyFor_L4 (F : Nat) : Nat → Int32 → Int32 → Int32 → tv_M → Option (Int32 × tv_M)
  | 0, _, _, _, _ => none
  | nn + 1, l1, l2, l3, M => if 4 < l3 then if l1 = 0 then tv_rds [10, 11, 12, 13, 14] 0 (fun x2 => some (x2, M)) else tv_rds [20, 21, 22, 0, 23] 0 (fun x1 => some (x1, M)) else if l2 ≤ 0 then if l1 = 0 then tv_rds [10, 11, 12, 13, 14] 0 (fun x4 => some (x4, M)) else tv_rds [20, 21, 22, 0, 23] 0 (fun x3 => some (x3, M)) else if l1 = 0 then tv_rds [10, 11, 12, 13, 14] l2 (fun x7 => if x7 = 0 then tv_rds [-1, 0, 1, 1, 0] l2 (fun x8 => Bo_bodyFor_L4 F nn l1 x8 (l3 + 1) M) else some (x7, M)) else tv_rds [20, 21, 22, 0, 23] l2 (fun x5 => if x5 = 0 then tv_rds [-1, 0, 1, 1, 0] l2 (fun x6 => Bo_bodyFor_L4 F nn l1 x6 (l3 + 1) M) else some (x5, M))
def Bo_bodyFor (F : Nat) (a0 : Int32) (a1 : Int32) (M : tv_M) : Option (Int32 × tv_M) := Bo_bodyFor_L4 F F a1 a0 0 M
/-- TiedViews$Bodies.answerAnew(LTiedViews$Eye;II)I -/
def Bo_answerAnew (F : Nat) (give : Nat → Int32 → Int32 → tv_M → Option (Int32 × tv_M)) (a1 : Nat) (a2 : Int32) (a3 : Int32) (M : tv_M) : Option (Int32 × tv_M) := tv_gl a1 3 (tv_cb (Bo_kindOf F a1 M) (fun r2 M3 => tv_cb (Bo_bodyFor F r2 a2 M3) (fun r4 M5 => tv_cb (give a1 r4 (a3 + 1) M5) (fun r6 M7 => some (r6, M7)))))
/-- TiedViews$Bodies.leaveTrace(I)V -/
def Bo_leaveTrace (F : Nat) (a1 : Int32) (M : tv_M) : Option (Unit × tv_M) := if 16 ≤ (M.1 247 2) then some ((), M) else tv_wr M 248 16 (M.1 247 2) a1 (fun M1 => tv_pf M1 247 2 ((M1.1 247 2) + 1) (fun M2 => some ((), M2)))
/-- TiedViews$Bodies.give(LTiedViews$Eye;II)I -/
def Bo_give (F : Nat) : Nat → Nat → Int32 → Int32 → tv_M → Option (Int32 × tv_M)
  | 0, _, _, _, _ => none
  | nn + 1, a1, a2, a3, M => tv_gl a1 3 (if a3 ≤ 40 then tv_cb (Bo_leaveTrace F a2 M) (fun r2 M3 => if a2 = 10 then some (M3.1 a1 2, M3) else if a2 = 11 then tv_cb ((Bo_give F nn) a1 10 (a3 + 1) M3) (fun r5 M6 => tv_cb (To_tiesOf F (M6.1 a1 0) M6) (fun r7 M8 => some (r5 + r7, M8))) else if a2 = 12 then tv_cb ((Bo_give F nn) a1 11 (a3 + 1) M3) (fun r10 M11 => some (r10 * (M11.1 18 0), M11)) else if a2 = 13 then tv_cb ((Bo_give F nn) a1 11 (a3 + 1) M3) (fun r13 M14 => tv_cb (Bo_answerAnew F (Bo_give F nn) a1 1 (a3 + 1) M14) (fun r15 M16 => some (r13 - r15, M16))) else if a2 = 14 then tv_cb ((Bo_give F nn) a1 10 (a3 + 1) M3) (fun r18 M19 => tv_cb (Jv_bitCount F (M19.1 a1 4) M19) (fun r20 M21 => some (r18 + r20, M21))) else if a2 = 15 then some (0, M3) else if a2 = 16 then some (0, M3) else if a2 = 17 then some (0, M3) else if a2 = 18 then some (0, M3) else if a2 = 19 then some (0, M3) else if a2 = 20 then some (M3.1 a1 0, M3) else if a2 = 21 then tv_cb ((Bo_give F nn) a1 20 (a3 + 1) M3) (fun r29 M30 => if (M30.1 a1 5) = 0 then some (r29 + 0, M30) else some (r29 + 100, M30)) else if a2 = 22 then tv_cb ((Bo_give F nn) a1 21 (a3 + 1) M3) (fun r32 M33 => tv_cb (Bo_answerAnew F (Bo_give F nn) a1 0 (a3 + 1) M33) (fun r34 M35 => some (r32 + r34, M35))) else if a2 = 23 then tv_cb ((Bo_give F nn) a1 20 (a3 + 1) M3) (fun r37 M38 => some (r37 + 1000, M38)) else some (0, M3)) else some (0, M))
/-- TiedViews$Bodies.answer(LTiedViews$Eye;I)I -/
def Bo_answer (F : Nat) (a1 : Nat) (a2 : Int32) (M : tv_M) : Option (Int32 × tv_M) := tv_gl a1 3 (tv_pf M 247 2 0 (fun M2 => tv_cb (Bo_answerAnew F (Bo_give F 50) a1 a2 0 M2) (fun r3 M4 => some (r3, M4))))
/-- TiedViews.ask(II)I -/
def Xx_ask (F : Nat) (a1 : Int32) (a2 : Int32) (M : tv_M) : Option (Int32 × tv_M) := tv_cb (To_eyeAt F a1 M) (fun r1 M2 => tv_nl r1 (some ((-1000001), M2)) (fun p3 => tv_gl p3 3 (if a2 = 0 then tv_cb (Bo_answer F p3 a2 M2) (fun r5 M6 => some (r5, M6)) else if a2 = 1 then tv_cb (Bo_answer F p3 a2 M2) (fun r7 M8 => some (r7, M8)) else some ((-1000001), M2))))
/-- TiedViews$Bodies.traceNumber(I)I -/
def Bo_traceNumber (F : Nat) (a1 : Int32) (M : tv_M) : Option (Int32 × tv_M) := if a1 < 0 then some ((-1000000), M) else if a1 < (M.1 247 2) then tv_rd M 248 16 a1 (fun x1 => some (x1, M)) else some ((-1000000), M)
/-- TiedViews.trace(I)I -/
def Xx_trace (F : Nat) (a1 : Int32) (M : tv_M) : Option (Int32 × tv_M) := tv_cb (Bo_traceNumber F a1 M) (fun r1 M2 => some (r1, M2))
/-- TiedViews.sheetsThere()I -/
def Xx_sheetsThere_L4 (F : Nat) : Nat → Int32 → Int32 → tv_M → Option (Int32 × tv_M)
  | 0, _, _, _ => none
  | nn + 1, l1, l2, M => if 8 ≤ l2 then some (l1, M) else tv_ap 1 8 l2 (fun p1 => tv_gl p1 1 (tv_cb (Sh_isMissing F p1 M) (fun r3 M4 => if r3 = 0 then Xx_sheetsThere_L4 F nn (l1 + 1) (l2 + 1) M4 else Xx_sheetsThere_L4 F nn l1 (l2 + 1) M4)))
def Xx_sheetsThere (F : Nat)  (M : tv_M) : Option (Int32 × tv_M) := Xx_sheetsThere_L4 F F 0 0 M
/-- TiedViews$Told.readings()I -/
def To_readings_L4 (F : Nat) : Nat → Int32 → Int32 → tv_M → Option (Int32 × tv_M)
  | 0, _, _, _ => none
  | nn + 1, l1, l2, M => if (M.1 18 4) ≤ l2 then some (l1, M) else tv_ap 19 8 l2 (fun p1 => tv_gl p1 3 (if (M.1 p1 5) = 0 then To_readings_L4 F nn l1 (l2 + 1) M else To_readings_L4 F nn (l1 + 1) (l2 + 1) M))
def To_readings (F : Nat)  (M : tv_M) : Option (Int32 × tv_M) := To_readings_L4 F F 0 0 M
/-- TiedViews$Told.choiceCount()I -/
def To_choiceCount_L4 (F : Nat) : Nat → Int32 → Int32 → tv_M → Option (Int32 × tv_M)
  | 0, _, _, _ => none
  | nn + 1, l1, l2, M => if (M.1 18 4) ≤ l2 then some (l1, M) else tv_ap 19 8 l2 (fun p1 => tv_gl p1 3 (tv_cb (Ey_isChoice F p1 M) (fun r3 M4 => if r3 = 0 then To_choiceCount_L4 F nn l1 (l2 + 1) M4 else To_choiceCount_L4 F nn (l1 + 1) (l2 + 1) M4)))
def To_choiceCount (F : Nat)  (M : tv_M) : Option (Int32 × tv_M) := To_choiceCount_L4 F F 0 0 M
/-- TiedViews.count(I)I -/
def Xx_count (F : Nat) (a1 : Int32) (M : tv_M) : Option (Int32 × tv_M) := if a1 = 0 then tv_cb (Xx_sheetsThere F M) (fun r1 M2 => some (r1, M2)) else if a1 = 1 then some (M.1 18 4, M) else if a1 = 2 then some (M.1 18 5, M) else if a1 = 3 then some (M.1 18 6, M) else if a1 = 4 then tv_cb (To_readings F M) (fun r7 M8 => some (r7, M8)) else if a1 = 5 then some (M.1 193 3, M) else if a1 = 6 then tv_cb (To_choiceCount F M) (fun r11 M12 => some (r11, M12)) else if a1 = 7 then some (M.1 68 2, M) else if a1 = 8 then some (M.1 0 0, M) else some ((-1000001), M)
/-- TiedViews.status()I -/
def Xx_status (F : Nat)  (M : tv_M) : Option (Int32 × tv_M) := some (M.1 0 9, M)
/-- TiedViewsModel.in(JJJ)Z -/
def Md_in (F : Nat) (a0 : Int64) (a2 : Int64) (a4 : Int64) (M : tv_M) : Option (Int32 × tv_M) := if (lg_cmp a0 a2) < 0 then some (0, M) else if 0 < (lg_cmp a0 a4) then some (0, M) else some (1, M)
/-- TiedViewsModel.isSheet(I)Z -/
def Md_isSheet (F : Nat) (a0 : Int32) (M : tv_M) : Option (Int32 × tv_M) := tv_cb (Md_in F ((a0 : Int32).toInt64) 0 7 M) (fun r1 M2 => tv_zo r1 (some (r1, M2)))
/-- TiedViewsModel.finding(I)I -/
def Md_finding (F : Nat) (a1 : Int32) (M : tv_M) : Option (Int32 × tv_M) := tv_pf M 249 1 a1 (fun M1 => some ((-1000010) - a1, M1))
/-- TiedViewsModel.sheet(III)I -/
def Md_sheet_L65 (F : Nat) : Nat → Int32 → Int32 → Int32 → tv_M → Option (Int32 × tv_M)
  | 0, _, _, _, _ => none
  | nn + 1, l1, l3, l4, M => if 40 ≤ l4 then some (l3, M) else tv_wr M 252 320 ((40 * l1) + l4) 0 (fun M11 => Md_sheet_L65 F nn l1 l3 (l4 + 1) M11)
def Md_sheet (F : Nat) (a1 : Int32) (a2 : Int32) (a3 : Int32) (M : tv_M) : Option (Int32 × tv_M) := tv_pf M 249 0 0 (fun M1 => tv_cb (Md_isSheet F a1 M1) (fun r2 M3 => if r2 = 0 then some ((-1000001), M3) else tv_cb (Md_in F ((a2 : Int32).toInt64) 0 2 M3) (fun r4 M5 => if r4 = 0 then some ((-1000001), M5) else if a3 ≤ 40 then tv_pf M5 249 1 0 (fun M6 => if 0 ≤ a3 then tv_wr M6 250 8 a1 a2 (fun M7 => tv_wr M7 251 8 a1 a3 (fun M8 => Md_sheet_L65 F F a1 a3 0 M8)) else tv_cb (Md_finding F 4 M6) (fun r9 M10 => some (r9, M10))) else some ((-1000001), M5))))
/-- TiedViewsModel.set(III)I -/
def Md_set (F : Nat) (a1 : Int32) (a2 : Int32) (a3 : Int32) (M : tv_M) : Option (Int32 × tv_M) := tv_pf M 249 0 0 (fun M1 => tv_cb (Md_isSheet F a1 M1) (fun r2 M3 => if r2 = 0 then some ((-1000001), M3) else tv_pf M3 249 1 0 (fun M4 => tv_rd M4 250 8 a1 (fun x5 => if 0 ≤ x5 then tv_rd M4 251 8 a1 (fun x6 => tv_cb (Md_in F ((a2 : Int32).toInt64) 0 ((x6 - 1 : Int32).toInt64) M4) (fun r7 M8 => if r7 = 0 then tv_cb (Md_finding F 2 M8) (fun r17 M18 => some (r17, M18)) else tv_rd M8 250 8 a1 (fun x9 => if x9 = 0 then tv_wr M8 252 320 ((40 * a1) + a2) ((a3 : Int32).toInt8.toInt32) (fun M15 => tv_rd M15 252 320 ((40 * a1) + a2) (fun x16 => some (x16, M15))) else tv_rd M8 250 8 a1 (fun x10 => if x10 = 1 then tv_wr M8 252 320 ((40 * a1) + a2) ((a3 : Int32).toInt16.toInt32) (fun M13 => tv_rd M13 252 320 ((40 * a1) + a2) (fun x14 => some (x14, M13))) else tv_wr M8 252 320 ((40 * a1) + a2) a3 (fun M11 => tv_rd M11 252 320 ((40 * a1) + a2) (fun x12 => some (x12, M11))))))) else tv_cb (Md_finding F 1 M4) (fun r19 M20 => some (r19, M20))))))
/-- TiedViewsModel.copy(IIIII)I -/
def Md_copy_L167 (F : Nat) (k143 : Int32 → Int32 → Int32 → Int32 → Int32 → Int32 → Int32 → tv_M → Option (Int32 × tv_M)) (l1 : Int32) (l2 : Int32) (l3 : Int32) (l4 : Int32) (l5 : Int32) (l6 : Int32) (l7 : Int32) (s0 : Int32) (M : tv_M) : Option (Int32 × tv_M) := tv_rd M 252 320 (((40 * l1) + l2) + s0) (fun x29 => tv_wr M 252 320 (((40 * l3) + l4) + s0) x29 (fun M30 => k143 l1 l2 l3 l4 l5 l6 (l7 + 1) M30))
def Md_copy_L143 (F : Nat) : Nat → Int32 → Int32 → Int32 → Int32 → Int32 → Int32 → Int32 → tv_M → Option (Int32 × tv_M)
  | 0, _, _, _, _, _, _, _, _ => none
  | nn + 1, l1, l2, l3, l4, l5, l6, l7, M => if l5 ≤ l7 then some (l5, M) else if l6 = 0 then Md_copy_L167 F (Md_copy_L143 F nn) l1 l2 l3 l4 l5 l6 l7 ((l5 - 1) - l7) M else Md_copy_L167 F (Md_copy_L143 F nn) l1 l2 l3 l4 l5 l6 l7 l7 M
def Md_copy (F : Nat) (a1 : Int32) (a2 : Int32) (a3 : Int32) (a4 : Int32) (a5 : Int32) (M : tv_M) : Option (Int32 × tv_M) := tv_pf M 249 0 0 (fun M1 => tv_cb (Md_isSheet F a1 M1) (fun r2 M3 => if r2 = 0 then some ((-1000001), M3) else tv_cb (Md_isSheet F a3 M3) (fun r4 M5 => if r4 = 0 then some ((-1000001), M5) else tv_pf M5 249 1 0 (fun M6 => tv_rd M6 250 8 a1 (fun x7 => if x7 < 0 then tv_cb (Md_finding F 1 M6) (fun r8 M9 => some (r8, M9)) else tv_rd M6 250 8 a3 (fun x10 => if 0 ≤ x10 then tv_rd M6 250 8 a1 (fun x11 => tv_rd M6 250 8 a3 (fun x12 => if x11 = x12 then if a2 < 0 then tv_cb (Md_finding F 2 M6) (fun r13 M14 => some (r13, M14)) else if a4 < 0 then tv_cb (Md_finding F 2 M6) (fun r15 M16 => some (r15, M16)) else if a5 < 0 then tv_cb (Md_finding F 2 M6) (fun r17 M18 => some (r17, M18)) else tv_rd M6 251 8 a1 (fun x19 => if 0 < (lg_cmp (((a2 : Int32).toInt64) + ((a5 : Int32).toInt64)) ((x19 : Int32).toInt64)) then tv_cb (Md_finding F 2 M6) (fun r20 M21 => some (r20, M21)) else tv_rd M6 251 8 a3 (fun x22 => if (lg_cmp (((a4 : Int32).toInt64) + ((a5 : Int32).toInt64)) ((x22 : Int32).toInt64)) ≤ 0 then if a2 < a4 then Md_copy_L143 F F a1 a2 a3 a4 a5 0 0 M6 else Md_copy_L143 F F a1 a2 a3 a4 a5 1 0 M6 else tv_cb (Md_finding F 2 M6) (fun r23 M24 => some (r23, M24)))) else tv_cb (Md_finding F 5 M6) (fun r25 M26 => some (r25, M26)))) else tv_cb (Md_finding F 1 M6) (fun r27 M28 => some (r27, M28))))))))
/-- TiedViewsModel.drop(I)I -/
def Md_drop (F : Nat) (a1 : Int32) (M : tv_M) : Option (Int32 × tv_M) := tv_pf M 249 0 0 (fun M1 => tv_cb (Md_isSheet F a1 M1) (fun r2 M3 => if r2 = 0 then some ((-1000001), M3) else tv_pf M3 249 1 0 (fun M4 => tv_rd M4 250 8 a1 (fun x5 => if 0 ≤ x5 then tv_wr M4 250 8 a1 (-1) (fun M6 => tv_rd M6 251 8 a1 (fun x7 => some (x7, M6))) else tv_cb (Md_finding F 1 M4) (fun r8 M9 => some (r8, M9))))))
/-- TiedViewsModel.feed(JI)I -/
def Md_feed_L40 (F : Nat) : Nat → Int64 → Int32 → tv_M → Option (Int32 × tv_M)
  | 0, _, _, _ => none
  | nn + 1, l1, l4, M => if l4 < 0 then some (M.1 249 24, M) else tv_wr M 266 500 (M.1 249 24) (((l1 >>> ((8 * l4 : Int32).toInt64 &&& 63)) &&& 255 : Int64).toInt32) (fun M4 => tv_pf M4 249 24 ((M4.1 249 24) + 1) (fun M5 => Md_feed_L40 F nn l1 (l4 + (-1)) M5))
def Md_feed (F : Nat) (a1 : Int64) (a3 : Int32) (M : tv_M) : Option (Int32 × tv_M) := tv_pf M 249 0 0 (fun M1 => tv_cb (Md_in F ((a3 : Int32).toInt64) 1 8 M1) (fun r2 M3 => if r2 = 0 then some ((-1000001), M3) else if ((M3.1 249 24) + a3) ≤ 500 then Md_feed_L40 F F a1 (a3 - 1) M3 else some ((-1000003), M3)))
/-- TiedViewsModel.byteAt(I)I -/
def Md_byteAt (F : Nat) (a1 : Int32) (M : tv_M) : Option (Int32 × tv_M) := if (M.1 249 26) ≤ a1 then some ((-1000000), M) else tv_rd M 266 500 a1 (fun x1 => some (x1, M))
/-- TiedViewsModel.isLetter(I)Z -/
def Md_isLetter (F : Nat) (a0 : Int32) (M : tv_M) : Option (Int32 × tv_M) := if a0 < 97 then some (0, M) else if 122 < a0 then some (0, M) else some (1, M)
/-- TiedViewsModel.isFigure(I)Z -/
def Md_isFigure (F : Nat) (a0 : Int32) (M : tv_M) : Option (Int32 × tv_M) := if a0 < 48 then some (0, M) else if 57 < a0 then some (0, M) else some (1, M)
/-- TiedViewsModel.step()V -/
def Md_step_L77 (F : Nat) : Nat → tv_M → Option (Unit × tv_M)
  | 0, _ => none
  | nn + 1, M => tv_cb (Md_byteAt F (M.1 249 27) M) (fun r32 M33 => tv_cb (Md_isLetter F r32 M33) (fun r34 M35 => if r34 = 0 then tv_pf M35 249 28 2 (fun M36 => tv_pf M36 249 30 (M36.1 249 27) (fun M37 => some ((), M37))) else tv_pf M35 249 27 ((M35.1 249 27) + 1) (fun M38 => Md_step_L77 F nn M38)))
def Md_step_L119 (F : Nat) : Nat → tv_M → Option (Unit × tv_M)
  | 0, _ => none
  | nn + 1, M => tv_cb (Md_byteAt F (M.1 249 27) M) (fun r23 M24 => tv_cb (Md_isFigure F r23 M24) (fun r25 M26 => if r25 = 0 then if ((M26.1 249 27) - (M26.1 249 29)) ≤ 3 then tv_pf M26 249 28 3 (fun M27 => tv_pf M27 249 30 (M27.1 249 27) (fun M28 => some ((), M28))) else tv_pf M26 249 28 0 (fun M29 => tv_pf M29 249 30 (M29.1 249 27) (fun M30 => some ((), M30))) else tv_pf M26 249 27 ((M26.1 249 27) + 1) (fun M31 => Md_step_L119 F nn M31)))
def Md_step_L0 (F : Nat) : Nat → tv_M → Option (Unit × tv_M)
  | 0, _ => none
  | nn + 1, M => tv_cb (Md_byteAt F (M.1 249 27) M) (fun r1 M2 => if r1 = 32 then tv_pf M2 249 27 ((M2.1 249 27) + 1) (fun M3 => Md_step_L0 F nn M3) else tv_cb (Md_byteAt F (M2.1 249 27) M2) (fun r4 M5 => if r4 = 10 then tv_pf M5 249 27 ((M5.1 249 27) + 1) (fun M22 => Md_step_L0 F nn M22) else tv_pf M5 249 29 (M5.1 249 27) (fun M6 => tv_cb (Md_byteAt F (M6.1 249 27) M6) (fun r7 M8 => if r7 = (-1000000) then tv_pf M8 249 28 1 (fun M20 => tv_pf M20 249 30 (M20.1 249 27) (fun M21 => some ((), M21))) else tv_cb (Md_isLetter F r7 M8) (fun r9 M10 => if r9 = 0 then tv_cb (Md_isFigure F r7 M10) (fun r11 M12 => if r11 = 0 then tv_pf M12 249 27 ((M12.1 249 27) + 1) (fun M13 => if r7 = 59 then tv_pf M13 249 28 4 (fun M14 => tv_pf M14 249 30 (M14.1 249 27) (fun M15 => some ((), M15))) else if r7 = 44 then tv_pf M13 249 28 4 (fun M18 => tv_pf M18 249 30 (M18.1 249 27) (fun M19 => some ((), M19))) else tv_pf M13 249 28 0 (fun M16 => tv_pf M16 249 30 (M16.1 249 27) (fun M17 => some ((), M17)))) else Md_step_L119 F F M12) else Md_step_L77 F F M10)))))
def Md_step (F : Nat)  (M : tv_M) : Option (Unit × tv_M) := Md_step_L0 F F M
/-- TiedViewsModel.word()J -/
def Md_word_L7 (F : Nat) : Nat → Int64 → Int32 → tv_M → Option (Int64 × tv_M)
  | 0, _, _, _ => none
  | nn + 1, l1, l3, M => if (M.1 249 30) ≤ l3 then some (l1, M) else if (M.1 249 28) = 2 then if 8 ≤ ((M.1 249 30) - (M.1 249 29)) then some (l1, M) else tv_rd M 266 500 l3 (fun x1 => Md_word_L7 F nn ((l1 <<< ((8 : Int32).toInt64 &&& 63)) ||| ((x1 : Int32).toInt64)) (l3 + 1) M) else some (l1, M)
def Md_word (F : Nat)  (M : tv_M) : Option (Int64 × tv_M) := Md_word_L7 F F 0 (M.1 249 29) M
/-- TiedViewsModel.bad(I)V -/
def Md_bad (F : Nat) (a1 : Int32) (M : tv_M) : Option (Unit × tv_M) := if (M.1 249 31) = 0 then tv_pf M 249 31 a1 (fun M1 => tv_pf M1 249 32 (M1.1 249 29) (fun M2 => some ((), M2))) else some ((), M)
/-- TiedViewsModel.must(Z)V -/
def Md_must (F : Nat) (a1 : Int32) (M : tv_M) : Option (Unit × tv_M) := if a1 = 0 then tv_cb (Md_bad F 1 M) (fun r3 M4 => if (M4.1 249 31) = 0 then tv_cb (Md_step F M4) (fun r5 M6 => some ((), M6)) else some ((), M4)) else if (M.1 249 31) = 0 then tv_cb (Md_step F M) (fun r1 M2 => some ((), M2)) else some ((), M)
/-- TiedViewsModel.numberHere()I -/
def Md_numberHere_L7 (F : Nat) : Nat → Int32 → Int32 → tv_M → Option (Int32 × tv_M)
  | 0, _, _, _ => none
  | nn + 1, l1, l2, M => if (M.1 249 30) ≤ l2 then some (l1, M) else if (M.1 249 28) = 3 then tv_rd M 266 500 l2 (fun x1 => Md_numberHere_L7 F nn (((10 * l1) + x1) - 48) (l2 + 1) M) else some (l1, M)
def Md_numberHere (F : Nat)  (M : tv_M) : Option (Int32 × tv_M) := Md_numberHere_L7 F F 0 (M.1 249 29) M
/-- TiedViewsModel.numberIn(II)I -/
def Md_numberIn_L39 (F : Nat) (l3 : Int32) (M : tv_M) : Option (Int32 × tv_M) := if (M.1 249 28) = 3 then tv_cb (Md_must F 1 M) (fun r9 M10 => some (l3, M10)) else tv_cb (Md_must F 0 M) (fun r7 M8 => some (l3, M8))
def Md_numberIn (F : Nat) (a1 : Int32) (a2 : Int32) (M : tv_M) : Option (Int32 × tv_M) := if (M.1 249 31) ≤ 0 then tv_cb (Md_numberHere F M) (fun r1 M2 => if (M2.1 249 28) = 3 then tv_cb (Md_in F ((r1 : Int32).toInt64) ((a1 : Int32).toInt64) ((a2 : Int32).toInt64) M2) (fun r3 M4 => if r3 = 0 then tv_cb (Md_bad F 2 M4) (fun r5 M6 => Md_numberIn_L39 F r1 M6) else Md_numberIn_L39 F r1 M4) else Md_numberIn_L39 F r1 M2) else some (0, M)
/-- TiedViewsModel.readEye()V -/
def Md_readEye_L127 (F : Nat) (l3 : Int32) (s0 : Int32) (s1 : Int32) (M : tv_M) : Option (Unit × tv_M) := tv_wr M 255 8 s1 s0 (fun M9 => if l3 = 3 then tv_pf M9 249 34 ((M9.1 249 34) + 0) (fun M13 => tv_pf M13 249 33 ((M13.1 249 33) + 1) (fun M14 => some ((), M14))) else tv_rd M9 254 8 (M9.1 249 33) (fun x10 => tv_pf M9 249 34 ((M9.1 249 34) + x10) (fun M11 => tv_pf M11 249 33 ((M11.1 249 33) + 1) (fun M12 => some ((), M12)))))
def Md_readEye_L101 (F : Nat) (l3 : Int32) (s0 : Int32) (s1 : Int32) (s3 : Int32) (M : tv_M) : Option (Unit × tv_M) := tv_cb (Md_numberIn F s1 s0 M) (fun r6 M7 => tv_wr M7 254 8 s3 r6 (fun M8 => if l3 = 3 then Md_readEye_L127 F l3 (-1000000) (M8.1 249 33) M8 else Md_readEye_L127 F l3 (M8.1 249 34) (M8.1 249 33) M8))
def Md_readEye_L68 (F : Nat) (l3 : Int32) (s0 : Int32) (M : tv_M) : Option (Unit × tv_M) := tv_cb (Md_must F s0 M) (fun r3 M4 => tv_wr M4 253 8 (M4.1 249 33) l3 (fun M5 => if l3 = 3 then Md_readEye_L101 F l3 4 1 (M5.1 249 33) M5 else Md_readEye_L101 F l3 3 1 (M5.1 249 33) M5))
def Md_readEye (F : Nat)  (M : tv_M) : Option (Unit × tv_M) := tv_cb (Md_word F M) (fun r1 M2 => if (lg_cmp r1 1986618743) = 0 then Md_readEye_L68 F 0 1 M2 else if (lg_cmp r1 7171940) = 0 then Md_readEye_L68 F 1 1 M2 else if (lg_cmp r1 1751477348) = 0 then Md_readEye_L68 F 2 1 M2 else if (lg_cmp r1 109300196926309) = 0 then Md_readEye_L68 F 3 1 M2 else Md_readEye_L68 F (-1000000) 0 M2)
/-- TiedViewsModel.eyeHere(ZI)I -/
def Md_eyeHere_L59 (F : Nat) (l3 : Int32) (M : tv_M) : Option (Int32 × tv_M) := if (M.1 249 28) = 3 then tv_cb (Md_must F 1 M) (fun r12 M13 => some (l3, M13)) else tv_cb (Md_must F 0 M) (fun r10 M11 => some (l3, M11))
def Md_eyeHere_L45 (F : Nat) (l1 : Int32) (l2 : Int32) (l3 : Int32) (s0 : Int32) (M : tv_M) : Option (Int32 × tv_M) := if s0 = l1 then if l3 = l2 then tv_cb (Md_bad F 2 M) (fun r8 M9 => Md_eyeHere_L59 F l3 M9) else Md_eyeHere_L59 F l3 M else tv_cb (Md_bad F 2 M) (fun r6 M7 => Md_eyeHere_L59 F l3 M7)
def Md_eyeHere (F : Nat) (a1 : Int32) (a2 : Int32) (M : tv_M) : Option (Int32 × tv_M) := if (M.1 249 31) ≤ 0 then tv_cb (Md_numberHere F M) (fun r1 M2 => if (M2.1 249 28) = 3 then if (M2.1 249 33) ≤ r1 then tv_cb (Md_bad F 2 M2) (fun r3 M4 => Md_eyeHere_L59 F r1 M4) else tv_rd M2 253 8 r1 (fun x5 => if x5 = 3 then Md_eyeHere_L45 F a1 a2 r1 1 M2 else Md_eyeHere_L45 F a1 a2 r1 0 M2) else Md_eyeHere_L59 F r1 M2) else some (0, M)
/-- TiedViewsModel.is(I)Z -/
def Md_is (F : Nat) (a1 : Int32) (M : tv_M) : Option (Int32 × tv_M) := if (M.1 249 28) = 4 then tv_cb (Md_byteAt F (M.1 249 29) M) (fun r1 M2 => if r1 = a1 then some (1, M2) else some (0, M2)) else some (0, M)
/-- TiedViewsModel.readTable(III)V -/
def Md_readTable_L19 (F : Nat) (k3 : Int32 → Int32 → Int32 → Int32 → tv_M → Option (Unit × tv_M)) : Nat → Int32 → Int32 → Int32 → Int32 → Int32 → tv_M → Option (Unit × tv_M)
  | 0, _, _, _, _, _, _ => none
  | nn + 1, l1, l2, l3, l4, l5, M => if l3 ≤ l5 then if (l2 - 1) ≤ l4 then k3 l1 l2 l3 (l4 + 1) M else if (M.1 249 31) = 0 then tv_cb (Md_is F 44 M) (fun r1 M2 => tv_cb (Md_must F r1 M2) (fun r3 M4 => k3 l1 l2 l3 (l4 + 1) M4)) else k3 l1 l2 l3 (l4 + 1) M else tv_cb (Md_numberIn F 0 ((M.1 249 2) - 1) M) (fun r5 M6 => tv_wr M6 259 180 ((l1 + (3 * l4)) + l5) r5 (fun M7 => Md_readTable_L19 F k3 nn l1 l2 l3 l4 (l5 + 1) M7))
def Md_readTable_L3 (F : Nat) : Nat → Int32 → Int32 → Int32 → Int32 → tv_M → Option (Unit × tv_M)
  | 0, _, _, _, _, _ => none
  | nn + 1, l1, l2, l3, l4, M => if l2 ≤ l4 then some ((), M) else if (M.1 249 31) = 0 then Md_readTable_L19 F (Md_readTable_L3 F nn) F l1 l2 l3 l4 0 M else some ((), M)
def Md_readTable (F : Nat) (a1 : Int32) (a2 : Int32) (a3 : Int32) (M : tv_M) : Option (Unit × tv_M) := Md_readTable_L3 F F a1 a2 a3 0 M
/-- TiedViewsModel.readTie()V -/
def Md_readTie_L129 (F : Nat) (l1 : Int32) (l2 : Int32) (l3 : Int32) (M : tv_M) : Option (Unit × tv_M) := tv_wr M 256 10 (M.1 249 35) l1 (fun M25 => tv_wr M25 257 10 (M25.1 249 35) l2 (fun M26 => tv_wr M26 258 10 (M26.1 249 35) l3 (fun M27 => tv_pf M27 249 35 ((M27.1 249 35) + 1) (fun M28 => some ((), M28)))))
def Md_readTie_L101 (F : Nat) (l1 : Int32) (l2 : Int32) (l3 : Int32) (M : tv_M) : Option (Unit × tv_M) := if (M.1 249 31) = 0 then tv_rd M 254 8 l2 (fun x22 => tv_cb (Md_readTable F ((18 * (M.1 249 35)) + 9) l3 x22 M) (fun r23 M24 => Md_readTie_L129 F l1 l2 l3 M24)) else Md_readTie_L129 F l1 l2 l3 M
def Md_readTie_L74 (F : Nat) (l1 : Int32) (l2 : Int32) (l3 : Int32) (M : tv_M) : Option (Unit × tv_M) := if (M.1 249 31) = 0 then tv_cb (Md_word F M) (fun r16 M17 => if (lg_cmp r16 6385252) = 0 then tv_cb (Md_must F 1 M17) (fun r20 M21 => Md_readTie_L101 F l1 l2 l3 M21) else tv_cb (Md_must F 0 M17) (fun r18 M19 => Md_readTie_L101 F l1 l2 l3 M19)) else Md_readTie_L101 F l1 l2 l3 M
def Md_readTie_L49 (F : Nat) (l1 : Int32) (l2 : Int32) (l3 : Int32) (M : tv_M) : Option (Unit × tv_M) := if (M.1 249 31) = 0 then tv_rd M 254 8 l1 (fun x13 => tv_cb (Md_readTable F (18 * (M.1 249 35)) l3 x13 M) (fun r14 M15 => Md_readTie_L74 F l1 l2 l3 M15)) else Md_readTie_L74 F l1 l2 l3 M
def Md_readTie (F : Nat)  (M : tv_M) : Option (Unit × tv_M) := tv_cb (Md_eyeHere F 0 (-1000000) M) (fun r1 M2 => tv_cb (Md_eyeHere F 0 r1 M2) (fun r3 M4 => tv_cb (Md_numberIn F 1 3 M4) (fun r5 M6 => if (M6.1 249 31) = 0 then tv_cb (Md_word F M6) (fun r7 M8 => if (lg_cmp r7 25209) = 0 then tv_cb (Md_must F 1 M8) (fun r11 M12 => Md_readTie_L49 F r1 r3 r5 M12) else tv_cb (Md_must F 0 M8) (fun r9 M10 => Md_readTie_L49 F r1 r3 r5 M10)) else Md_readTie_L49 F r1 r3 r5 M6)))
/-- TiedViewsModel.readBar()V -/
def Md_readBar_L50 (F : Nat) (l1 : Int32) (s0 : Int32) (s1 : Int32) (M : tv_M) : Option (Unit × tv_M) := tv_wr M 262 30 s1 s0 (fun M7 => tv_cb (Md_eyeHere F 1 l1 M7) (fun r8 M9 => tv_wr M9 261 30 (M9.1 249 36) r8 (fun M10 => if (M10.1 249 31) ≤ 0 then tv_rd M10 254 8 r8 (fun x11 => tv_cb (Md_numberIn F 0 (x11 - 1) M10) (fun r12 M13 => tv_wr M13 263 30 (M10.1 249 36) r12 (fun M14 => tv_pf M14 249 36 ((M14.1 249 36) + 1) (fun M15 => some ((), M15))))) else tv_wr M10 263 30 (M10.1 249 36) 0 (fun M16 => tv_pf M16 249 36 ((M16.1 249 36) + 1) (fun M17 => some ((), M17))))))
def Md_readBar (F : Nat)  (M : tv_M) : Option (Unit × tv_M) := tv_cb (Md_eyeHere F 1 (-1000000) M) (fun r1 M2 => tv_wr M2 260 30 (M2.1 249 36) r1 (fun M3 => if (M3.1 249 31) ≤ 0 then tv_rd M3 254 8 r1 (fun x4 => tv_cb (Md_numberIn F 0 (x4 - 1) M3) (fun r5 M6 => Md_readBar_L50 F r1 r5 (M3.1 249 36) M6)) else Md_readBar_L50 F r1 0 (M3.1 249 36) M3))
/-- TiedViewsModel.read()I -/
def Md_read_L228 (F : Nat) (k64 : tv_M → Option (Int32 × tv_M)) (M : tv_M) : Option (Int32 × tv_M) := if (M.1 249 31) = 0 then tv_cb (Md_is F 59 M) (fun r24 M25 => tv_cb (Md_must F r24 M25) (fun r26 M27 => k64 M27)) else k64 M
def Md_read_L195 (F : Nat) (k64 : tv_M → Option (Int32 × tv_M)) (l1 : Int64) (M : tv_M) : Option (Int32 × tv_M) := if (M.1 249 31) = 0 then if (lg_cmp l1 7629157) = 0 then tv_cb (Md_readTie F M) (fun r32 M33 => Md_read_L228 F k64 M33) else if (M.1 249 31) = 0 then tv_cb (Md_readBar F M) (fun r30 M31 => Md_read_L228 F k64 M31) else Md_read_L228 F k64 M else if (M.1 249 31) = 0 then tv_cb (Md_readBar F M) (fun r28 M29 => Md_read_L228 F k64 M29) else Md_read_L228 F k64 M
def Md_read_L170 (F : Nat) (k64 : tv_M → Option (Int32 × tv_M)) (l1 : Int64) (s0 : Int32) (M : tv_M) : Option (Int32 × tv_M) := tv_cb (Md_must F s0 M) (fun r20 M21 => if (M21.1 249 31) = 0 then if (lg_cmp l1 6650213) = 0 then tv_cb (Md_readEye F M21) (fun r22 M23 => Md_read_L228 F k64 M23) else Md_read_L195 F k64 l1 M21 else Md_read_L195 F k64 l1 M21)
def Md_read_L140 (F : Nat) (k64 : tv_M → Option (Int32 × tv_M)) (l1 : Int64) (M : tv_M) : Option (Int32 × tv_M) := if (lg_cmp l1 6650213) = 0 then Md_read_L170 F k64 l1 1 M else if (lg_cmp l1 7629157) = 0 then Md_read_L170 F k64 l1 1 M else if (lg_cmp l1 6447474) = 0 then Md_read_L170 F k64 l1 1 M else Md_read_L170 F k64 l1 0 M
def Md_read_L118 (F : Nat) (k64 : tv_M → Option (Int32 × tv_M)) (l1 : Int64) (M : tv_M) : Option (Int32 × tv_M) := if (lg_cmp l1 6447474) = 0 then if (M.1 249 36) = 30 then tv_cb (Md_bad F 3 M) (fun r18 M19 => Md_read_L140 F k64 l1 M19) else Md_read_L140 F k64 l1 M else Md_read_L140 F k64 l1 M
def Md_read_L101 (F : Nat) (k64 : tv_M → Option (Int32 × tv_M)) (l1 : Int64) (M : tv_M) : Option (Int32 × tv_M) := if (lg_cmp l1 7629157) = 0 then if (M.1 249 35) = 10 then tv_cb (Md_bad F 3 M) (fun r16 M17 => Md_read_L140 F k64 l1 M17) else Md_read_L118 F k64 l1 M else Md_read_L118 F k64 l1 M
def Md_read_L391 (F : Nat) : Nat → Int32 → tv_M → Option (Int32 × tv_M)
  | 0, _, _ => none
  | nn + 1, l1, M => if (M.1 249 36) ≤ l1 then tv_pf M 249 16 (M.1 249 36) (fun M46 => some (M46.1 249 6, M46)) else tv_rd M 260 30 l1 (fun x47 => tv_rd M 262 30 l1 (fun x48 => tv_rd M 261 30 l1 (fun x49 => tv_rd M 264 256 (((32 * x47) + (8 * x48)) + x49) (fun x50 => tv_rd M 263 30 l1 (fun x51 => tv_wr M 264 256 (((32 * x47) + (8 * x48)) + x49) (x50 ||| (1 <<< (x51 &&& 31))) (fun M52 => tv_rd M52 261 30 l1 (fun x53 => tv_rd M52 263 30 l1 (fun x54 => tv_rd M52 260 30 l1 (fun x55 => tv_rd M52 264 256 (((32 * x53) + (8 * x54)) + x55) (fun x56 => tv_rd M52 262 30 l1 (fun x57 => tv_wr M52 264 256 (((32 * x53) + (8 * x54)) + x55) (x56 ||| (1 <<< (x57 &&& 31))) (fun M58 => Md_read_L391 F nn (l1 + 1) M58))))))))))))
def Md_read_L341 (F : Nat) : Nat → Int32 → tv_M → Option (Int32 × tv_M)
  | 0, _, _ => none
  | nn + 1, l1, M => if (M.1 249 34) ≤ l1 then tv_pf M 249 6 (M.1 249 33) (fun M42 => tv_pf M42 249 10 (M42.1 249 34) (fun M43 => tv_pf M43 249 11 (M43.1 249 35) (fun M44 => Md_read_L391 F F (M44.1 249 16) M44))) else tv_wr M 274 24 l1 0 (fun M45 => Md_read_L341 F nn (l1 + 1) M45)
def Md_read_L277 (F : Nat) : Nat → Int32 → tv_M → Option (Int32 × tv_M)
  | 0, _, _ => none
  | nn + 1, l1, M => if (M.1 249 33) ≤ l1 then Md_read_L341 F F (M.1 249 10) M else tv_wr M 270 8 l1 (vp_nar .boolean 0) (fun M35 => tv_rd M35 253 8 l1 (fun x36 => if x36 = 3 then tv_rd M35 254 8 l1 (fun x39 => tv_wr M35 265 8 l1 ((1 <<< (x39 &&& 31)) - 1) (fun M40 => tv_wr M40 272 8 l1 (-1000000) (fun M41 => Md_read_L277 F nn (l1 + 1) M41))) else tv_wr M35 265 8 l1 0 (fun M37 => tv_wr M37 272 8 l1 (-1000000) (fun M38 => Md_read_L277 F nn (l1 + 1) M38))))
def Md_read_L248 (F : Nat) (M : tv_M) : Option (Int32 × tv_M) := if (M.1 249 31) ≤ 0 then Md_read_L277 F F (M.1 249 6) M else tv_pf M 249 25 (M.1 249 31) (fun M34 => some ((-1000100) - (M34.1 249 32), M34))
def Md_read_L64 (F : Nat) : Nat → tv_M → Option (Int32 × tv_M)
  | 0, _ => none
  | nn + 1, M => if (M.1 249 31) = 0 then if (M.1 249 28) = 1 then Md_read_L248 F M else tv_cb (Md_word F M) (fun r12 M13 => if (lg_cmp r12 6650213) = 0 then if (M13.1 249 33) = 8 then tv_cb (Md_bad F 3 M13) (fun r14 M15 => Md_read_L140 F (Md_read_L64 F nn) r12 M15) else Md_read_L101 F (Md_read_L64 F nn) r12 M13 else Md_read_L101 F (Md_read_L64 F nn) r12 M13) else Md_read_L248 F M
def Md_read (F : Nat)  (M : tv_M) : Option (Int32 × tv_M) := tv_pf M 249 0 0 (fun M1 => tv_pf M1 249 26 (M1.1 249 24) (fun M2 => tv_pf M2 249 24 0 (fun M3 => tv_pf M3 249 27 0 (fun M4 => tv_pf M4 249 31 0 (fun M5 => tv_pf M5 249 33 (M5.1 249 6) (fun M6 => tv_pf M6 249 34 (M6.1 249 10) (fun M7 => tv_pf M7 249 35 (M7.1 249 11) (fun M8 => tv_pf M8 249 36 (M8.1 249 16) (fun M9 => tv_cb (Md_step F M9) (fun r10 M11 => Md_read_L64 F F M11))))))))))
/-- TiedViewsModel.fault()I -/
def Md_fault (F : Nat)  (M : tv_M) : Option (Int32 × tv_M) := tv_pf M 249 0 0 (fun M1 => some (M1.1 249 25, M1))
/-- TiedViewsModel.isEye(I)Z -/
def Md_isEye (F : Nat) (a1 : Int32) (M : tv_M) : Option (Int32 × tv_M) := tv_cb (Md_in F ((a1 : Int32).toInt64) 0 (((M.1 249 6) - 1 : Int32).toInt64) M) (fun r1 M2 => tv_zo r1 (some (r1, M2)))
/-- TiedViewsModel.tiesOf(I)I -/
def Md_tiesOf_L4 (F : Nat) : Nat → Int32 → Int32 → Int32 → tv_M → Option (Int32 × tv_M)
  | 0, _, _, _, _ => none
  | nn + 1, l1, l2, l3, M => if (M.1 249 11) ≤ l3 then some (l2, M) else tv_rd M 256 10 l3 (fun x1 => if x1 = l1 then Md_tiesOf_L4 F nn l1 (l2 + 1) (l3 + 1) M else tv_rd M 257 10 l3 (fun x2 => if x2 = l1 then Md_tiesOf_L4 F nn l1 (l2 + 1) (l3 + 1) M else Md_tiesOf_L4 F nn l1 (l2 + 0) (l3 + 1) M))
def Md_tiesOf (F : Nat) (a1 : Int32) (M : tv_M) : Option (Int32 × tv_M) := Md_tiesOf_L4 F F a1 0 0 M
/-- TiedViewsModel.eye(II)I -/
def Md_eye (F : Nat) (a1 : Int32) (a2 : Int32) (M : tv_M) : Option (Int32 × tv_M) := tv_pf M 249 0 0 (fun M1 => tv_cb (Md_isEye F a1 M1) (fun r2 M3 => if r2 = 0 then some ((-1000001), M3) else tv_cb (Md_in F ((a2 : Int32).toInt64) 0 5 M3) (fun r4 M5 => if r4 = 0 then some ((-1000001), M5) else if a2 = 0 then tv_rd M5 253 8 a1 (fun x13 => some (x13, M5)) else if a2 = 1 then tv_rd M5 254 8 a1 (fun x12 => some (x12, M5)) else if a2 = 2 then tv_rd M5 255 8 a1 (fun x11 => some (x11, M5)) else if a2 = 3 then tv_rd M5 270 8 a1 (fun x10 => if x10 = 0 then some (0, M5) else some (1, M5)) else if a2 = 4 then tv_cb (Md_tiesOf F a1 M5) (fun r8 M9 => some (r8, M9)) else tv_rd M5 253 8 a1 (fun x6 => if x6 = 3 then tv_rd M5 265 8 a1 (fun x7 => some (x7, M5)) else some ((-1000000), M5)))))
/-- TiedViewsModel.addLine()V -/
def Md_addLine_L2 (F : Nat) : Nat → Int32 → tv_M → Option (Unit × tv_M)
  | 0, _, _ => none
  | nn + 1, l1, M => if 55 ≤ l1 then tv_pf M 249 37 ((M.1 249 37) + 1) (fun M1 => some ((), M1)) else tv_wr M 267 2970 ((55 * (M.1 249 37)) + l1) 0 (fun M2 => Md_addLine_L2 F nn (l1 + 1) M2)
def Md_addLine (F : Nat)  (M : tv_M) : Option (Unit × tv_M) := Md_addLine_L2 F F 0 M
/-- TiedViewsModel.layTies(I)V -/
def Md_layTies_L113 (F : Nat) (k7 : Int32 → Int32 → tv_M → Option (Unit × tv_M)) (k17 : Int32 → Int32 → Int32 → tv_M → Option (Unit × tv_M)) : Nat → Int32 → Int32 → Int32 → Int32 → Int32 → tv_M → Option (Unit × tv_M)
  | 0, _, _, _, _, _, _ => none
  | nn + 1, l1, l2, l3, l4, l5, M => tv_rd M 257 10 l2 (fun x11 => tv_rd M 254 8 x11 (fun x12 => if x12 ≤ l5 then k17 l1 l2 (l3 + 1) M else tv_rd M 257 10 l2 (fun x13 => tv_rd M 255 8 x13 (fun x14 => tv_rd M 259 180 ((((18 * l2) + 9) + (3 * l3)) + l5) (fun x15 => tv_nz (M.1 249 2) (tv_wr M 267 2970 ((l4 + x14) + l5) (tv_rem ((M.1 249 2) - x15) (M.1 249 2)) (fun M16 => Md_layTies_L113 F k7 k17 nn l1 l2 l3 l4 (l5 + 1) M16)))))))
def Md_layTies_L50 (F : Nat) (k7 : Int32 → Int32 → tv_M → Option (Unit × tv_M)) (k17 : Int32 → Int32 → Int32 → tv_M → Option (Unit × tv_M)) : Nat → Int32 → Int32 → Int32 → Int32 → Int32 → tv_M → Option (Unit × tv_M)
  | 0, _, _, _, _, _, _ => none
  | nn + 1, l1, l2, l3, l4, l5, M => tv_rd M 256 10 l2 (fun x5 => tv_rd M 254 8 x5 (fun x6 => if x6 ≤ l5 then Md_layTies_L113 F k7 k17 F l1 l2 l3 l4 0 M else tv_rd M 256 10 l2 (fun x7 => tv_rd M 255 8 x7 (fun x8 => tv_rd M 259 180 (((18 * l2) + (3 * l3)) + l5) (fun x9 => tv_wr M 267 2970 ((l4 + x8) + l5) x9 (fun M10 => Md_layTies_L50 F k7 k17 nn l1 l2 l3 l4 (l5 + 1) M10))))))
def Md_layTies_L17 (F : Nat) (k7 : Int32 → Int32 → tv_M → Option (Unit × tv_M)) : Nat → Int32 → Int32 → Int32 → tv_M → Option (Unit × tv_M)
  | 0, _, _, _, _ => none
  | nn + 1, l1, l2, l3, M => tv_rd M 258 10 l2 (fun x2 => if x2 ≤ l3 then k7 l1 (l2 + 1) M else if l2 = l1 then k7 l1 (l2 + 1) M else tv_cb (Md_addLine F M) (fun r3 M4 => Md_layTies_L50 F k7 (Md_layTies_L17 F k7 nn) F l1 l2 l3 (55 * ((M4.1 249 37) - 1)) 0 M4))
def Md_layTies_L7 (F : Nat) : Nat → Int32 → Int32 → tv_M → Option (Unit × tv_M)
  | 0, _, _, _ => none
  | nn + 1, l1, l2, M => if (M.1 249 11) ≤ l2 then some ((), M) else Md_layTies_L17 F (Md_layTies_L7 F nn) F l1 l2 0 M
def Md_layTies (F : Nat) (a1 : Int32) (M : tv_M) : Option (Unit × tv_M) := tv_pf M 249 37 0 (fun M1 => Md_layTies_L7 F F a1 0 M1)
/-- TiedViewsModel.turned(I)I -/
def Md_turned_L2 (F : Nat) : Nat → Int32 → Int32 → tv_M → Option (Int32 × tv_M)
  | 0, _, _, _ => none
  | nn + 1, l1, l2, M => tv_nz (M.1 249 2) (if (tv_rem (l2 * l1) (M.1 249 2)) = 1 then some (l2, M) else Md_turned_L2 F nn l1 (l2 + 1) M)
def Md_turned (F : Nat) (a1 : Int32) (M : tv_M) : Option (Int32 × tv_M) := Md_turned_L2 F F a1 1 M
/-- TiedViewsModel.takeSteps()V -/
def Md_takeSteps_L219 (F : Nat) (k25 : Int32 → tv_M → Option (Unit × tv_M)) (k193 : Int32 → Int32 → Int32 → tv_M → Option (Unit × tv_M)) : Nat → Int32 → Int32 → Int32 → Int32 → Int32 → tv_M → Option (Unit × tv_M)
  | 0, _, _, _, _, _, _ => none
  | nn + 1, l1, l2, l4, l5, l6, M => if 55 ≤ l6 then k193 l1 l2 (l4 + 1) M else tv_rd M 269 24 l1 (fun x19 => if l4 = x19 then k193 l1 l2 (l4 + 1) M else if l5 = 0 then k193 l1 l2 (l4 + 1) M else tv_rd M 267 2970 ((55 * l4) + l6) (fun x20 => tv_rd M 267 2970 (l2 + l6) (fun x21 => tv_nz (M.1 249 2) (tv_wr M 267 2970 ((55 * l4) + l6) (tv_rem (x20 + (((M.1 249 2) - l5) * x21)) (M.1 249 2)) (fun M22 => Md_takeSteps_L219 F k25 k193 nn l1 l2 l4 l5 (l6 + 1) M22)))))
def Md_takeSteps_L193 (F : Nat) (k25 : Int32 → tv_M → Option (Unit × tv_M)) : Nat → Int32 → Int32 → Int32 → tv_M → Option (Unit × tv_M)
  | 0, _, _, _, _ => none
  | nn + 1, l1, l2, l4, M => if (M.1 249 37) ≤ l4 then k25 (l1 + 1) M else tv_rd M 267 2970 ((55 * l4) + l1) (fun x18 => Md_takeSteps_L219 F k25 (Md_takeSteps_L193 F k25 nn) F l1 l2 l4 x18 0 M)
def Md_takeSteps_L152 (F : Nat) (k25 : Int32 → tv_M → Option (Unit × tv_M)) : Nat → Int32 → Int32 → Int32 → Int32 → tv_M → Option (Unit × tv_M)
  | 0, _, _, _, _, _ => none
  | nn + 1, l1, l2, l3, l4, M => if 55 ≤ l4 then Md_takeSteps_L193 F k25 F l1 l2 0 M else tv_rd M 267 2970 (l2 + l4) (fun x16 => tv_nz (M.1 249 2) (tv_wr M 267 2970 (l2 + l4) (tv_rem (x16 * l3) (M.1 249 2)) (fun M17 => Md_takeSteps_L152 F k25 nn l1 l2 l3 (l4 + 1) M17)))
def Md_takeSteps_L103 (F : Nat) (k25 : Int32 → tv_M → Option (Unit × tv_M)) (l1 : Int32) (M : tv_M) : Option (Unit × tv_M) := tv_rd M 269 24 l1 (fun x9 => if x9 = (-1000000) then k25 (l1 + 1) M else tv_rd M 269 24 l1 (fun x10 => tv_rd M 269 24 l1 (fun x11 => tv_wr M 268 54 x11 (vp_nar .boolean 1) (fun M12 => tv_rd M12 267 2970 ((55 * x10) + l1) (fun x13 => tv_cb (Md_turned F x13 M12) (fun r14 M15 => Md_takeSteps_L152 F k25 F l1 (55 * x10) r14 0 M15))))))
def Md_takeSteps_L43 (F : Nat) (k25 : Int32 → tv_M → Option (Unit × tv_M)) : Nat → Int32 → Int32 → tv_M → Option (Unit × tv_M)
  | 0, _, _, _ => none
  | nn + 1, l1, l2, M => if (M.1 249 37) ≤ l2 then Md_takeSteps_L103 F k25 l1 M else tv_rd M 269 24 l1 (fun x3 => if x3 = (-1000000) then tv_rd M 268 54 l2 (fun x4 => if x4 = 0 then tv_rd M 267 2970 ((55 * l2) + l1) (fun x6 => if x6 = 0 then tv_wr M 269 24 l1 (-1000000) (fun M7 => Md_takeSteps_L43 F k25 nn l1 (l2 + 1) M7) else tv_wr M 269 24 l1 l2 (fun M8 => Md_takeSteps_L43 F k25 nn l1 (l2 + 1) M8)) else tv_wr M 269 24 l1 (-1000000) (fun M5 => Md_takeSteps_L43 F k25 nn l1 (l2 + 1) M5)) else Md_takeSteps_L103 F k25 l1 M)
def Md_takeSteps_L25 (F : Nat) : Nat → Int32 → tv_M → Option (Unit × tv_M)
  | 0, _, _ => none
  | nn + 1, l1, M => if (M.1 249 10) ≤ l1 then some ((), M) else tv_wr M 269 24 l1 (-1000000) (fun M2 => Md_takeSteps_L43 F (Md_takeSteps_L25 F nn) F l1 0 M2)
def Md_takeSteps_L2 (F : Nat) : Nat → Int32 → tv_M → Option (Unit × tv_M)
  | 0, _, _ => none
  | nn + 1, l1, M => if (M.1 249 37) ≤ l1 then Md_takeSteps_L25 F F 0 M else tv_wr M 268 54 l1 (vp_nar .boolean 0) (fun M1 => Md_takeSteps_L2 F nn (l1 + 1) M1)
def Md_takeSteps (F : Nat)  (M : tv_M) : Option (Unit × tv_M) := Md_takeSteps_L2 F F 0 M
/-- TiedViewsModel.leaders()I -/
def Md_leaders_L4 (F : Nat) : Nat → Int32 → Int32 → tv_M → Option (Int32 × tv_M)
  | 0, _, _, _ => none
  | nn + 1, l1, l2, M => if (M.1 249 10) ≤ l2 then some (l1, M) else tv_rd M 269 24 l2 (fun x1 => if x1 = (-1000000) then Md_leaders_L4 F nn (l1 + 0) (l2 + 1) M else Md_leaders_L4 F nn (l1 + 1) (l2 + 1) M)
def Md_leaders (F : Nat)  (M : tv_M) : Option (Int32 × tv_M) := Md_leaders_L4 F F 0 0 M
/-- TiedViewsModel.all(I)I -/
def Md_all (F : Nat) (a1 : Int32) (M : tv_M) : Option (Int32 × tv_M) := tv_pf M 249 0 0 (fun M1 => tv_cb (Md_in F ((a1 : Int32).toInt64) 0 4 M1) (fun r2 M3 => if r2 = 0 then some ((-1000001), M3) else tv_cb (Md_layTies F (-1000000) M3) (fun r4 M5 => tv_cb (Md_takeSteps F M5) (fun r6 M7 => if a1 = 0 then tv_cb (Md_leaders F M7) (fun r12 M13 => some ((M7.1 249 10) - r12, M13)) else if a1 = 1 then some (M7.1 249 10, M7) else if a1 = 2 then some (M7.1 249 37, M7) else if a1 = 3 then tv_cb (Md_leaders F M7) (fun r10 M11 => some (r10, M11)) else tv_cb (Md_leaders F M7) (fun r8 M9 => some ((M7.1 249 37) - r8, M9))))))
/-- TiedViewsModel.isColumn(I)Z -/
def Md_isColumn (F : Nat) (a1 : Int32) (M : tv_M) : Option (Int32 × tv_M) := tv_cb (Md_in F ((a1 : Int32).toInt64) 0 (((M.1 249 10) - 1 : Int32).toInt64) M) (fun r1 M2 => tv_zo r1 (some (r1, M2)))
/-- TiedViewsModel.basis(II)I -/
def Md_basis_L35 (F : Nat) : Nat → Int32 → Int32 → Int32 → Int32 → tv_M → Option (Int32 × tv_M)
  | 0, _, _, _, _, _ => none
  | nn + 1, l1, l2, l3, l4, M => if (M.1 249 10) ≤ l4 then some ((-1000000), M) else tv_rd M 269 24 l4 (fun x8 => if x8 = (-1000000) then if l3 = l1 then tv_rd M 269 24 l2 (fun x9 => if x9 = (-1000000) then if l4 = l2 then some (1, M) else some (0, M) else tv_rd M 269 24 l2 (fun x10 => tv_rd M 267 2970 ((55 * x10) + l4) (fun x11 => tv_nz (M.1 249 2) (some (tv_rem ((M.1 249 2) - x11) (M.1 249 2), M))))) else Md_basis_L35 F nn l1 l2 (l3 + 1) (l4 + 1) M else Md_basis_L35 F nn l1 l2 l3 (l4 + 1) M)
def Md_basis (F : Nat) (a1 : Int32) (a2 : Int32) (M : tv_M) : Option (Int32 × tv_M) := tv_pf M 249 0 0 (fun M1 => if a1 < 0 then some ((-1000001), M1) else tv_cb (Md_isColumn F a2 M1) (fun r2 M3 => if r2 = 0 then some ((-1000001), M3) else tv_cb (Md_layTies F (-1000000) M3) (fun r4 M5 => tv_cb (Md_takeSteps F M5) (fun r6 M7 => Md_basis_L35 F F a1 a2 0 0 M7))))
/-- TiedViewsModel.isLinear(I)Z -/
def Md_isLinear (F : Nat) (a1 : Int32) (M : tv_M) : Option (Int32 × tv_M) := tv_cb (Md_isEye F a1 M) (fun r1 M2 => if r1 = 0 then some (0, M2) else tv_rd M2 253 8 a1 (fun x3 => if x3 = 3 then some (0, M2) else some (1, M2)))
/-- TiedViewsModel.isRest(I)Z -/
def Md_isRest (F : Nat) (a1 : Int32) (M : tv_M) : Option (Int32 × tv_M) := tv_cb (Md_in F ((a1 : Int32).toInt64) 0 (((M.1 249 2) - 1 : Int32).toInt64) M) (fun r1 M2 => tv_zo r1 (some (r1, M2)))
/-- TiedViewsModel.lookRests(III)I -/
def Md_lookRests_L44 (F : Nat) : Nat → Int32 → Int32 → Int32 → Int32 → tv_M → Option (Int32 × tv_M)
  | 0, _, _, _, _, _ => none
  | nn + 1, l1, l2, l3, l4, M => if l3 ≤ l4 then tv_pf M 249 1 0 (fun M9 => some (0, M9)) else tv_rd M 252 320 (((40 * l1) + l2) + l4) (fun x10 => tv_cb (Md_isRest F x10 M) (fun r11 M12 => if r11 = 0 then some ((-1000001), M12) else Md_lookRests_L44 F nn l1 l2 l3 (l4 + 1) M12))
def Md_lookRests (F : Nat) (a1 : Int32) (a2 : Int32) (a3 : Int32) (M : tv_M) : Option (Int32 × tv_M) := tv_rd M 250 8 a1 (fun x1 => if 0 ≤ x1 then if a2 < 0 then tv_cb (Md_finding F 2 M) (fun r2 M3 => some (r2, M3)) else tv_rd M 251 8 a1 (fun x4 => if (lg_cmp (((a2 : Int32).toInt64) + ((a3 : Int32).toInt64)) ((x4 : Int32).toInt64)) ≤ 0 then Md_lookRests_L44 F F a1 a2 a3 0 M else tv_cb (Md_finding F 2 M) (fun r5 M6 => some (r5, M6))) else tv_cb (Md_finding F 1 M) (fun r7 M8 => some (r7, M8)))
/-- TiedViewsModel.reading(III)I -/
def Md_reading_L55 (F : Nat) : Nat → Int32 → Int32 → Int32 → Int32 → tv_M → Option (Int32 × tv_M)
  | 0, _, _, _, _, _ => none
  | nn + 1, l1, l2, l3, l5, M => tv_rd M 254 8 l1 (fun x10 => if x10 ≤ l5 then some (1, M) else tv_rd M 255 8 l1 (fun x11 => tv_rd M 252 320 (((40 * l2) + l3) + l5) (fun x12 => tv_wr M 271 24 (x11 + l5) x12 (fun M13 => Md_reading_L55 F nn l1 l2 l3 (l5 + 1) M13))))
def Md_reading (F : Nat) (a1 : Int32) (a2 : Int32) (a3 : Int32) (M : tv_M) : Option (Int32 × tv_M) := tv_pf M 249 0 0 (fun M1 => tv_cb (Md_isLinear F a1 M1) (fun r2 M3 => if r2 = 0 then some ((-1000001), M3) else tv_cb (Md_isSheet F a2 M3) (fun r4 M5 => if r4 = 0 then some ((-1000001), M5) else tv_rd M5 254 8 a1 (fun x6 => tv_cb (Md_lookRests F a2 a3 x6 M5) (fun r7 M8 => if 0 ≤ r7 then tv_wr M8 270 8 a1 (vp_nar .boolean 1) (fun M9 => Md_reading_L55 F F a1 a2 a3 0 M9) else some (r7, M8))))))
/-- TiedViewsModel.unread(I)I -/
def Md_unread (F : Nat) (a1 : Int32) (M : tv_M) : Option (Int32 × tv_M) := tv_pf M 249 0 0 (fun M1 => tv_cb (Md_isLinear F a1 M1) (fun r2 M3 => if r2 = 0 then some ((-1000001), M3) else tv_rd M3 270 8 a1 (fun x4 => if x4 = 0 then tv_wr M3 270 8 a1 (vp_nar .boolean 0) (fun M5 => some (0, M5)) else tv_wr M3 270 8 a1 (vp_nar .boolean 0) (fun M6 => some (1, M6)))))
/-- TiedViewsModel.readingSet()I -/
def Md_readingSet_L4 (F : Nat) : Nat → Int32 → Int32 → tv_M → Option (Int32 × tv_M)
  | 0, _, _, _ => none
  | nn + 1, l1, l2, M => if (M.1 249 6) ≤ l2 then some (l1, M) else tv_rd M 270 8 l2 (fun x1 => if x1 = 0 then Md_readingSet_L4 F nn (l1 ||| 0) (l2 + 1) M else Md_readingSet_L4 F nn (l1 ||| (1 <<< (l2 &&& 31))) (l2 + 1) M)
def Md_readingSet (F : Nat)  (M : tv_M) : Option (Int32 × tv_M) := Md_readingSet_L4 F F 0 0 M
/-- TiedViewsModel.wantsInVain()I -/
def Md_wantsInVain_L2 (F : Nat) : Nat → Int32 → tv_M → Option (Int32 × tv_M)
  | 0, _, _ => none
  | nn + 1, l1, M => if (M.1 249 37) ≤ l1 then some ((-1000000), M) else tv_rd M 268 54 l1 (fun x1 => if x1 = 0 then tv_rd M 267 2970 ((55 * l1) + 24) (fun x2 => if x2 = 0 then Md_wantsInVain_L2 F nn (l1 + 1) M else some (l1, M)) else Md_wantsInVain_L2 F nn (l1 + 1) M)
def Md_wantsInVain (F : Nat)  (M : tv_M) : Option (Int32 × tv_M) := Md_wantsInVain_L2 F F 0 M
/-- TiedViewsModel.areFit(I)Z -/
def Md_areFit_L18 (F : Nat) (k8 : Int32 → Int32 → tv_M → Option (Int32 × tv_M)) : Nat → Int32 → Int32 → Int32 → tv_M → Option (Int32 × tv_M)
  | 0, _, _, _, _ => none
  | nn + 1, l1, l2, l3, M => tv_rd M 254 8 l2 (fun x7 => if x7 ≤ l3 then k8 l1 (l2 + 1) M else if ((l1 >>> (l2 &&& 31)) &&& 1) = 1 then tv_cb (Md_addLine F M) (fun r8 M9 => tv_rd M9 255 8 l2 (fun x10 => tv_wr M9 267 2970 (((55 * ((M9.1 249 37) - 1)) + x10) + l3) 1 (fun M11 => tv_rd M11 255 8 l2 (fun x12 => tv_rd M11 271 24 (x12 + l3) (fun x13 => tv_wr M11 267 2970 ((55 * ((M11.1 249 37) - 1)) + 24) x13 (fun M14 => Md_areFit_L18 F k8 nn l1 l2 (l3 + 1) M14)))))) else k8 l1 (l2 + 1) M)
def Md_areFit_L8 (F : Nat) : Nat → Int32 → Int32 → tv_M → Option (Int32 × tv_M)
  | 0, _, _, _ => none
  | nn + 1, l1, l2, M => if (M.1 249 6) ≤ l2 then tv_cb (Md_takeSteps F M) (fun r3 M4 => tv_cb (Md_wantsInVain F M4) (fun r5 M6 => if r5 = (-1000000) then some (1, M6) else some (0, M6))) else Md_areFit_L18 F (Md_areFit_L8 F nn) F l1 l2 0 M
def Md_areFit (F : Nat) (a1 : Int32) (M : tv_M) : Option (Int32 × tv_M) := tv_cb (Md_layTies F (-1000000) M) (fun r1 M2 => Md_areFit_L8 F F a1 0 M2)
/-- TiedViewsModel.fill(I)I -/
def Md_fill_L21 (F : Nat) (l1 : Int32) (M : tv_M) : Option (Int32 × tv_M) := tv_cb (Md_readingSet F M) (fun r4 M5 => tv_cb (Md_areFit F r4 M5) (fun r6 M7 => if l1 = (-1) then if r6 = 0 then some (0, M7) else some (1, M7) else if r6 = 0 then some ((-1000000), M7) else tv_rd M7 269 24 l1 (fun x8 => if x8 = (-1000000) then some (0, M7) else tv_rd M7 269 24 l1 (fun x9 => tv_rd M7 267 2970 ((55 * x9) + 24) (fun x10 => some (x10, M7))))))
def Md_fill (F : Nat) (a1 : Int32) (M : tv_M) : Option (Int32 × tv_M) := tv_pf M 249 0 0 (fun M1 => if a1 = (-1) then Md_fill_L21 F a1 M1 else tv_cb (Md_isColumn F a1 M1) (fun r2 M3 => if r2 = 0 then some ((-1000001), M3) else Md_fill_L21 F a1 M3))
/-- TiedViewsModel.fixed(I)I -/
def Md_fixed_L43 (F : Nat) : Nat → Int32 → Int32 → tv_M → Option (Int32 × tv_M)
  | 0, _, _, _ => none
  | nn + 1, l1, l2, M => if (M.1 249 10) ≤ l2 then tv_rd M 269 24 l1 (fun x9 => tv_rd M 267 2970 ((55 * x9) + 24) (fun x10 => some (x10, M))) else tv_rd M 269 24 l2 (fun x11 => if x11 = (-1000000) then tv_rd M 269 24 l1 (fun x12 => tv_rd M 267 2970 ((55 * x12) + l2) (fun x13 => if x13 = 0 then Md_fixed_L43 F nn l1 (l2 + 1) M else some ((-1000000), M))) else Md_fixed_L43 F nn l1 (l2 + 1) M)
def Md_fixed (F : Nat) (a1 : Int32) (M : tv_M) : Option (Int32 × tv_M) := tv_pf M 249 0 0 (fun M1 => tv_cb (Md_isColumn F a1 M1) (fun r2 M3 => if r2 = 0 then some ((-1000001), M3) else tv_cb (Md_readingSet F M3) (fun r4 M5 => tv_cb (Md_areFit F r4 M5) (fun r6 M7 => if r6 = 0 then some ((-1000000), M7) else tv_rd M7 269 24 a1 (fun x8 => if x8 = (-1000000) then some ((-1000000), M7) else Md_fixed_L43 F F a1 0 M7)))))
/-- TiedViewsModel.bits(I)I -/
def Md_bits_L4 (F : Nat) : Nat → Int32 → Int32 → Int32 → tv_M → Option (Int32 × tv_M)
  | 0, _, _, _, _ => none
  | nn + 1, l0, l1, l2, M => if 8 ≤ l2 then some (l1, M) else tv_lt (l1 + ((l0 >>> (l2 &&& 31)) &&& 1)) (fun x1 => Md_bits_L4 F nn l0 x1 (l2 + 1) M)
def Md_bits (F : Nat) (a0 : Int32) (M : tv_M) : Option (Int32 × tv_M) := Md_bits_L4 F F a0 0 0 M
/-- TiedViewsModel.fewest()I -/
def Md_fewest_L14 (F : Nat) : Nat → Int32 → Int32 → Int32 → tv_M → Option (Int32 × tv_M)
  | 0, _, _, _, _ => none
  | nn + 1, l1, l2, l3, M => if 256 ≤ l3 then some (l2, M) else if (l3 &&& (l1 ^^^ (-1))) = 0 then tv_cb (Md_bits F l3 M) (fun r4 M5 => tv_cb (Md_bits F l2 M5) (fun r6 M7 => if r6 ≤ r4 then Md_fewest_L14 F nn l1 l2 (l3 + 1) M7 else tv_cb (Md_areFit F (l1 &&& (l3 ^^^ (-1))) M7) (fun r8 M9 => if r8 = 0 then Md_fewest_L14 F nn l1 l2 (l3 + 1) M9 else Md_fewest_L14 F nn l1 l3 (l3 + 1) M9))) else Md_fewest_L14 F nn l1 l2 (l3 + 1) M
def Md_fewest (F : Nat)  (M : tv_M) : Option (Int32 × tv_M) := tv_pf M 249 0 0 (fun M1 => tv_cb (Md_readingSet F M1) (fun r2 M3 => Md_fewest_L14 F F r2 r2 0 M3))
/-- TiedViewsModel.met(III)I -/
def Md_met_L62 (F : Nat) : Nat → Int32 → Int32 → Int32 → Int32 → tv_M → Option (Int32 × tv_M)
  | 0, _, _, _, _, _ => none
  | nn + 1, l1, l2, l3, l5, M => if (M.1 249 37) ≤ l5 then tv_cb (Md_takeSteps F M) (fun r10 M11 => tv_cb (Md_wantsInVain F M11) (fun r12 M13 => if l3 = (-1) then if r12 = (-1000000) then some (1, M13) else some (0, M13) else if r12 = (-1000000) then some ((-1000000), M13) else tv_rd M13 267 2970 (((55 * r12) + 25) + l3) (fun x14 => some (x14, M13)))) else tv_rd M 252 320 (((40 * l1) + l2) + l5) (fun x15 => tv_wr M 267 2970 ((55 * l5) + 24) x15 (fun M16 => tv_wr M16 267 2970 (((55 * l5) + 25) + l5) 1 (fun M17 => Md_met_L62 F nn l1 l2 l3 (l5 + 1) M17)))
def Md_met (F : Nat) (a1 : Int32) (a2 : Int32) (a3 : Int32) (M : tv_M) : Option (Int32 × tv_M) := tv_pf M 249 0 0 (fun M1 => tv_cb (Md_layTies F (-1000000) M1) (fun r2 M3 => tv_cb (Md_isSheet F a1 M3) (fun r4 M5 => if r4 = 0 then some ((-1000001), M5) else tv_cb (Md_in F ((a3 : Int32).toInt64) (-1) (((M5.1 249 37) - 1 : Int32).toInt64) M5) (fun r6 M7 => if r6 = 0 then some ((-1000001), M7) else tv_cb (Md_lookRests F a1 a2 (M7.1 249 37) M7) (fun r8 M9 => if 0 ≤ r8 then Md_met_L62 F F a1 a2 a3 0 M9 else some (r8, M9))))))
/-- TiedViewsModel.cost(I)I -/
def Md_cost (F : Nat) (a1 : Int32) (M : tv_M) : Option (Int32 × tv_M) := tv_pf M 249 0 0 (fun M1 => tv_cb (Md_in F ((a1 : Int32).toInt64) 0 (((M1.1 249 11) - 1 : Int32).toInt64) M1) (fun r2 M3 => if r2 = 0 then some ((-1000001), M3) else tv_cb (Md_layTies F (-1000000) M3) (fun r4 M5 => tv_cb (Md_takeSteps F M5) (fun r6 M7 => tv_cb (Md_leaders F M7) (fun r8 M9 => tv_cb (Md_layTies F a1 M9) (fun r10 M11 => tv_cb (Md_takeSteps F M11) (fun r12 M13 => tv_cb (Md_leaders F M13) (fun r14 M15 => some (r8 - r14, M15)))))))))
/-- TiedViewsModel.hear(III)I -/
def Md_hear_L57 (F : Nat) (l1 : Int32) (l2 : Int32) (l3 : Int32) (M : tv_M) : Option (Int32 × tv_M) := tv_rd M 258 10 l3 (fun x10 => tv_rd M 254 8 l1 (fun x11 => if x10 = x11 then if (M.1 249 43) = 16 then some ((-1000003), M) else tv_wr M 272 8 l1 l3 (fun M12 => tv_wr M12 273 8 l1 l2 (fun M13 => tv_pf M13 249 43 ((M13.1 249 43) + 1) (fun M14 => some (M14.1 249 43, M14)))) else some ((-1000001), M)))
def Md_hear (F : Nat) (a1 : Int32) (a2 : Int32) (a3 : Int32) (M : tv_M) : Option (Int32 × tv_M) := tv_pf M 249 0 0 (fun M1 => tv_cb (Md_isLinear F a1 M1) (fun r2 M3 => if r2 = 0 then some ((-1000001), M3) else tv_cb (Md_isLinear F a2 M3) (fun r4 M5 => if r4 = 0 then some ((-1000001), M5) else tv_cb (Md_in F ((a3 : Int32).toInt64) 0 (((M5.1 249 11) - 1 : Int32).toInt64) M5) (fun r6 M7 => if r6 = 0 then some ((-1000001), M7) else tv_rd M7 256 10 a3 (fun x8 => if x8 = a2 then Md_hear_L57 F a1 a2 a3 M7 else tv_rd M7 257 10 a3 (fun x9 => if x9 = a2 then Md_hear_L57 F a1 a2 a3 M7 else some ((-1000001), M7)))))))
/-- TiedViewsModel.isNumberOf(II)Z -/
def Md_isNumberOf (F : Nat) (a1 : Int32) (a2 : Int32) (M : tv_M) : Option (Int32 × tv_M) := tv_cb (Md_isLinear F a1 M) (fun r1 M2 => if r1 = 0 then some (0, M2) else tv_rd M2 254 8 a1 (fun x3 => tv_cb (Md_in F ((a2 : Int32).toInt64) 0 ((x3 - 1 : Int32).toInt64) M2) (fun r4 M5 => if r4 = 0 then some (0, M5) else some (1, M5))))
/-- TiedViewsModel.now(III)I -/
def Md_now (F : Nat) (a1 : Int32) (a2 : Int32) (a3 : Int32) (M : tv_M) : Option (Int32 × tv_M) := tv_pf M 249 0 0 (fun M1 => tv_cb (Md_isNumberOf F a1 a2 M1) (fun r2 M3 => if r2 = 0 then some ((-1000001), M3) else tv_cb (Md_isRest F a3 M3) (fun r4 M5 => if r4 = 0 then some ((-1000001), M5) else tv_rd M5 255 8 a1 (fun x6 => tv_rd M5 274 24 (x6 + a2) (fun x7 => tv_rd M5 255 8 a1 (fun x8 => tv_wr M5 274 24 (x8 + a2) a3 (fun M9 => some (x7, M9))))))))
/-- TiedViewsModel.tickOnce()V -/
def Md_tickOnce_L127 (F : Nat) (k30 : Int32 → tv_M → Option (Unit × tv_M)) (k110 : Int32 → Int32 → Int32 → Int32 → tv_M → Option (Unit × tv_M)) : Nat → Int32 → Int32 → Int32 → Int32 → Int32 → Int32 → tv_M → Option (Unit × tv_M)
  | 0, _, _, _, _, _, _, _ => none
  | nn + 1, l1, l2, l3, l4, l5, l6, M => tv_rd M 254 8 l2 (fun x13 => if x13 ≤ l6 then tv_rd M 255 8 l1 (fun x14 => tv_nz (M.1 249 2) (tv_wr M 275 24 (x14 + l4) (tv_rem l5 (M.1 249 2)) (fun M15 => k110 l1 l2 l3 (l4 + 1) M15))) else tv_rd M 259 180 ((l3 + (3 * l4)) + l6) (fun x16 => tv_rd M 255 8 l2 (fun x17 => tv_rd M 274 24 (x17 + l6) (fun x18 => Md_tickOnce_L127 F k30 k110 nn l1 l2 l3 l4 (l5 + (x16 * x18)) (l6 + 1) M))))
def Md_tickOnce_L110 (F : Nat) (k30 : Int32 → tv_M → Option (Unit × tv_M)) : Nat → Int32 → Int32 → Int32 → Int32 → tv_M → Option (Unit × tv_M)
  | 0, _, _, _, _, _ => none
  | nn + 1, l1, l2, l3, l4, M => tv_rd M 254 8 l1 (fun x12 => if x12 ≤ l4 then k30 (l1 + 1) M else Md_tickOnce_L127 F k30 (Md_tickOnce_L110 F k30 nn) F l1 l2 l3 l4 0 0 M)
def Md_tickOnce_L57 (F : Nat) (k30 : Int32 → tv_M → Option (Unit × tv_M)) (l1 : Int32) (M : tv_M) : Option (Unit × tv_M) := tv_rd M 272 8 l1 (fun x7 => if x7 = (-1000000) then k30 (l1 + 1) M else tv_rd M 273 8 l1 (fun x8 => tv_rd M 272 8 l1 (fun x9 => tv_rd M 272 8 l1 (fun x10 => tv_rd M 256 10 x10 (fun x11 => if x11 = x8 then Md_tickOnce_L110 F k30 F l1 x8 ((18 * x9) + 0) 0 M else Md_tickOnce_L110 F k30 F l1 x8 ((18 * x9) + 9) 0 M)))))
def Md_tickOnce_L213 (F : Nat) : Nat → Int32 → tv_M → Option (Unit × tv_M)
  | 0, _, _ => none
  | nn + 1, l1, M => if (M.1 249 10) ≤ l1 then some ((), M) else tv_rd M 275 24 l1 (fun x5 => tv_wr M 274 24 l1 x5 (fun M6 => Md_tickOnce_L213 F nn (l1 + 1) M6))
def Md_tickOnce_L30 (F : Nat) : Nat → Int32 → tv_M → Option (Unit × tv_M)
  | 0, _, _ => none
  | nn + 1, l1, M => if (M.1 249 6) ≤ l1 then Md_tickOnce_L213 F F 0 M else tv_rd M 253 8 l1 (fun x3 => if x3 = 0 then Md_tickOnce_L57 F (Md_tickOnce_L30 F nn) l1 M else tv_rd M 253 8 l1 (fun x4 => if x4 = 1 then Md_tickOnce_L57 F (Md_tickOnce_L30 F nn) l1 M else Md_tickOnce_L30 F nn (l1 + 1) M))
def Md_tickOnce_L2 (F : Nat) : Nat → Int32 → tv_M → Option (Unit × tv_M)
  | 0, _, _ => none
  | nn + 1, l1, M => if (M.1 249 10) ≤ l1 then Md_tickOnce_L30 F F 0 M else tv_rd M 274 24 l1 (fun x1 => tv_wr M 275 24 l1 x1 (fun M2 => Md_tickOnce_L2 F nn (l1 + 1) M2))
def Md_tickOnce (F : Nat)  (M : tv_M) : Option (Unit × tv_M) := Md_tickOnce_L2 F F 0 M
/-- TiedViewsModel.tick(I)I -/
def Md_tick_L41 (F : Nat) : Nat → Int32 → Int32 → tv_M → Option (Int32 × tv_M)
  | 0, _, _, _ => none
  | nn + 1, l2, l3, M => if (M.1 249 10) ≤ l3 then some (l2, M) else tv_rd M 274 24 l3 (fun x6 => if x6 = 0 then Md_tick_L41 F nn (l2 + 0) (l3 + 1) M else Md_tick_L41 F nn (l2 + 1) (l3 + 1) M)
def Md_tick_L22 (F : Nat) : Nat → Int32 → Int32 → tv_M → Option (Int32 × tv_M)
  | 0, _, _, _ => none
  | nn + 1, l1, l2, M => if l1 ≤ l2 then Md_tick_L41 F F 0 0 M else tv_cb (Md_tickOnce F M) (fun r4 M5 => Md_tick_L22 F nn l1 (l2 + 1) M5)
def Md_tick (F : Nat) (a1 : Int32) (M : tv_M) : Option (Int32 × tv_M) := tv_pf M 249 0 0 (fun M1 => tv_cb (Md_in F ((a1 : Int32).toInt64) 1 100 M1) (fun r2 M3 => if r2 = 0 then some ((-1000001), M3) else Md_tick_L22 F F a1 0 M3))
/-- TiedViewsModel.says(II)I -/
def Md_says (F : Nat) (a1 : Int32) (a2 : Int32) (M : tv_M) : Option (Int32 × tv_M) := tv_pf M 249 0 0 (fun M1 => tv_cb (Md_isNumberOf F a1 a2 M1) (fun r2 M3 => if r2 = 0 then some ((-1000001), M3) else tv_rd M3 255 8 a1 (fun x4 => tv_rd M3 274 24 (x4 + a2) (fun x5 => some (x5, M3)))))
/-- TiedViewsModel.isRow(I)Z -/
def Md_isRow_L4 (F : Nat) : Nat → Int32 → Int32 → Int32 → tv_M → Option (Int32 × tv_M)
  | 0, _, _, _, _ => none
  | nn + 1, l1, l2, l3, M => if (M.1 249 10) ≤ l3 then tv_zo l2 (some (l2, M)) else if l2 = 0 then tv_zo l2 (some (l2, M)) else tv_rd M 276 7224 ((24 * l1) + l3) (fun x3 => tv_rd M 274 24 l3 (fun x4 => if x3 = x4 then Md_isRow_L4 F nn l1 1 (l3 + 1) M else Md_isRow_L4 F nn l1 0 (l3 + 1) M))
def Md_isRow (F : Nat) (a1 : Int32) (M : tv_M) : Option (Int32 × tv_M) := Md_isRow_L4 F F a1 1 0 M
/-- TiedViewsModel.settles(I)I -/
def Md_settles_L99 (F : Nat) (k27 : Int32 → Int32 → Int32 → Int32 → tv_M → Option (Int32 × tv_M)) : Nat → Int32 → Int32 → Int32 → Int32 → Int32 → tv_M → Option (Int32 × tv_M)
  | 0, _, _, _, _, _, _ => none
  | nn + 1, l1, l2, l3, l4, l5, M => if (M.1 249 10) ≤ l5 then tv_cb (Md_tickOnce F M) (fun r6 M7 => k27 l1 l2 l3 (l4 + 1) M7) else tv_rd M 274 24 l5 (fun x8 => tv_wr M 276 7224 ((24 * l4) + l5) x8 (fun M9 => Md_settles_L99 F k27 nn l1 l2 l3 l4 (l5 + 1) M9))
def Md_settles_L80 (F : Nat) (k27 : Int32 → Int32 → Int32 → Int32 → tv_M → Option (Int32 × tv_M)) (l1 : Int32) (l2 : Int32) (l4 : Int32) (M : tv_M) : Option (Int32 × tv_M) := if l2 = (-1000000) then Md_settles_L99 F k27 F l1 l2 (-1000000) l4 0 M else Md_settles_L99 F k27 F l1 l2 (l4 - l2) l4 0 M
def Md_settles_L44 (F : Nat) (k27 : Int32 → Int32 → Int32 → Int32 → tv_M → Option (Int32 × tv_M)) : Nat → Int32 → Int32 → Int32 → Int32 → tv_M → Option (Int32 × tv_M)
  | 0, _, _, _, _, _ => none
  | nn + 1, l1, l2, l4, l5, M => if l4 ≤ l5 then Md_settles_L80 F k27 l1 l2 l4 M else if l2 = (-1000000) then tv_cb (Md_isRow F l5 M) (fun r4 M5 => if r4 = 0 then Md_settles_L44 F k27 nn l1 (-1000000) l4 (l5 + 1) M5 else Md_settles_L44 F k27 nn l1 l5 l4 (l5 + 1) M5) else Md_settles_L80 F k27 l1 l2 l4 M
def Md_settles_L147 (F : Nat) : Nat → Int32 → Int32 → Int32 → Int32 → tv_M → Option (Int32 × tv_M)
  | 0, _, _, _, _, _ => none
  | nn + 1, l1, l2, l3, l4, M => if (M.1 249 10) ≤ l4 then if l1 = 0 then some (l2, M) else some (l3, M) else tv_rd M 276 7224 l4 (fun x10 => tv_wr M 274 24 l4 x10 (fun M11 => Md_settles_L147 F nn l1 l2 l3 (l4 + 1) M11))
def Md_settles_L27 (F : Nat) : Nat → Int32 → Int32 → Int32 → Int32 → tv_M → Option (Int32 × tv_M)
  | 0, _, _, _, _, _ => none
  | nn + 1, l1, l2, l3, l4, M => if 300 < l4 then Md_settles_L147 F F l1 l2 l3 0 M else if l2 = (-1000000) then Md_settles_L44 F (Md_settles_L27 F nn) F l1 l2 l4 0 M else Md_settles_L147 F F l1 l2 l3 0 M
def Md_settles (F : Nat) (a1 : Int32) (M : tv_M) : Option (Int32 × tv_M) := tv_pf M 249 0 0 (fun M1 => tv_cb (Md_in F ((a1 : Int32).toInt64) 0 1 M1) (fun r2 M3 => if r2 = 0 then some ((-1000001), M3) else Md_settles_L27 F F a1 (-1000000) (-1000000) 0 M3))
/-- TiedViewsModel.isChoice(I)Z -/
def Md_isChoice (F : Nat) (a1 : Int32) (M : tv_M) : Option (Int32 × tv_M) := tv_cb (Md_isEye F a1 M) (fun r1 M2 => if r1 = 0 then some (0, M2) else tv_rd M2 253 8 a1 (fun x3 => if x3 = 3 then some (1, M2) else some (0, M2)))
/-- TiedViewsModel.choose(II)I -/
def Md_choose (F : Nat) (a1 : Int32) (a2 : Int32) (M : tv_M) : Option (Int32 × tv_M) := tv_pf M 249 0 0 (fun M1 => tv_cb (Md_isChoice F a1 M1) (fun r2 M3 => if r2 = 0 then some ((-1000001), M3) else tv_rd M3 254 8 a1 (fun x4 => tv_cb (Md_in F ((a2 : Int32).toInt64) 1 (((1 <<< (x4 &&& 31)) - 1 : Int32).toInt64) M3) (fun r5 M6 => if r5 = 0 then some ((-1000001), M6) else tv_rd M6 265 8 a1 (fun x7 => tv_wr M6 265 8 a1 a2 (fun M8 => some (x7, M8)))))))
/-- TiedViewsModel.isBarred(IIII)Z -/
def Md_isBarred (F : Nat) (a1 : Int32) (a2 : Int32) (a3 : Int32) (a4 : Int32) (M : tv_M) : Option (Int32 × tv_M) := tv_rd M 264 256 (((32 * a1) + (8 * a2)) + a3) (fun x1 => if ((x1 >>> (a4 &&& 31)) &&& 1) = 1 then some (1, M) else some (0, M))
/-- TiedViewsModel.hasAll(II)Z -/
def Md_hasAll_L94 (F : Nat) (k5 : Int32 → Int32 → Int32 → Int32 → tv_M → Option (Int32 × tv_M)) (l1 : Int32) (l2 : Int32) (l3 : Int32) (l4 : Int32) (l5 : Int32) (M : tv_M) : Option (Int32 × tv_M) := if l3 = 0 then k5 l1 l2 0 (l4 + 1) M else if l5 = 0 then k5 l1 l2 0 (l4 + 1) M else k5 l1 l2 1 (l4 + 1) M
def Md_hasAll_L41 (F : Nat) (k5 : Int32 → Int32 → Int32 → Int32 → tv_M → Option (Int32 × tv_M)) : Nat → Int32 → Int32 → Int32 → Int32 → Int32 → Int32 → tv_M → Option (Int32 × tv_M)
  | 0, _, _, _, _, _, _, _ => none
  | nn + 1, l1, l2, l3, l4, l5, l6, M => if 4 ≤ l6 then Md_hasAll_L94 F k5 l1 l2 l3 l4 l5 M else if l5 = 0 then tv_rd M 265 8 l4 (fun x3 => if ((x3 >>> (l6 &&& 31)) &&& 1) = 1 then tv_cb (Md_isBarred F l1 l2 l4 l6 M) (fun r4 M5 => if r4 = 0 then Md_hasAll_L41 F k5 nn l1 l2 l3 l4 1 (l6 + 1) M5 else Md_hasAll_L41 F k5 nn l1 l2 l3 l4 0 (l6 + 1) M5) else Md_hasAll_L41 F k5 nn l1 l2 l3 l4 0 (l6 + 1) M) else Md_hasAll_L94 F k5 l1 l2 l3 l4 l5 M
def Md_hasAll_L5 (F : Nat) : Nat → Int32 → Int32 → Int32 → Int32 → tv_M → Option (Int32 × tv_M)
  | 0, _, _, _, _, _ => none
  | nn + 1, l1, l2, l3, l4, M => if (M.1 249 6) ≤ l4 then tv_zo l3 (some (l3, M)) else if l4 = l1 then Md_hasAll_L41 F (Md_hasAll_L5 F nn) F l1 l2 l3 l4 1 0 M else tv_rd M 253 8 l4 (fun x2 => if x2 = 3 then Md_hasAll_L41 F (Md_hasAll_L5 F nn) F l1 l2 l3 l4 0 0 M else Md_hasAll_L41 F (Md_hasAll_L5 F nn) F l1 l2 l3 l4 1 0 M)
def Md_hasAll (F : Nat) (a1 : Int32) (a2 : Int32) (M : tv_M) : Option (Int32 × tv_M) := Md_hasAll_L5 F F a1 a2 1 0 M
/-- TiedViewsModel.narrow()I -/
def Md_narrow_L28 (F : Nat) (k9 : Int32 → Int32 → tv_M → Option (Int32 × tv_M)) (k17 : Int32 → Int32 → Int32 → tv_M → Option (Int32 × tv_M)) : Nat → Int32 → Int32 → Int32 → Int32 → tv_M → Option (Int32 × tv_M)
  | 0, _, _, _, _, _ => none
  | nn + 1, l1, l2, l3, l4, M => if 4 ≤ l4 then k17 l1 l2 (l3 + 1) M else tv_rd M 253 8 l3 (fun x2 => if x2 = 3 then tv_rd M 265 8 l3 (fun x3 => if ((x3 >>> (l4 &&& 31)) &&& 1) = 1 then tv_cb (Md_hasAll F l3 l4 M) (fun r4 M5 => if r4 = 0 then tv_rd M5 265 8 l3 (fun x6 => tv_wr M5 265 8 l3 (x6 &&& ((1 <<< (l4 &&& 31)) ^^^ (-1))) (fun M7 => Md_narrow_L28 F k9 k17 nn (l1 + 1) 1 l3 (l4 + 1) M7)) else Md_narrow_L28 F k9 k17 nn l1 l2 l3 (l4 + 1) M5) else Md_narrow_L28 F k9 k17 nn l1 l2 l3 (l4 + 1) M) else Md_narrow_L28 F k9 k17 nn l1 l2 l3 (l4 + 1) M)
def Md_narrow_L17 (F : Nat) (k9 : Int32 → Int32 → tv_M → Option (Int32 × tv_M)) : Nat → Int32 → Int32 → Int32 → tv_M → Option (Int32 × tv_M)
  | 0, _, _, _, _ => none
  | nn + 1, l1, l2, l3, M => if (M.1 249 6) ≤ l3 then k9 l1 l2 M else Md_narrow_L28 F k9 (Md_narrow_L17 F k9 nn) F l1 l2 l3 0 M
def Md_narrow_L9 (F : Nat) : Nat → Int32 → Int32 → tv_M → Option (Int32 × tv_M)
  | 0, _, _, _ => none
  | nn + 1, l1, l2, M => if l2 = 0 then some (l1, M) else Md_narrow_L17 F (Md_narrow_L9 F nn) F l1 0 0 M
def Md_narrow (F : Nat)  (M : tv_M) : Option (Int32 × tv_M) := tv_pf M 249 0 0 (fun M1 => Md_narrow_L9 F F 0 1 M1)
/-- TiedViewsModel.mayStand(I)Z -/
def Md_mayStand_L32 (F : Nat) : Nat → Int32 → Int32 → Int32 → tv_M → Option (Int32 × tv_M)
  | 0, _, _, _, _ => none
  | nn + 1, l1, l2, l3, M => if l1 ≤ l3 then tv_zo l2 (some (l2, M)) else if l2 = 0 then Md_mayStand_L32 F nn l1 0 (l3 + 1) M else tv_rd M 277 8 l3 (fun x5 => tv_rd M 278 8 l3 (fun x6 => tv_rd M 277 8 l1 (fun x7 => tv_rd M 278 8 l1 (fun x8 => tv_cb (Md_isBarred F x5 x6 x7 x8 M) (fun r9 M10 => if r9 = 0 then Md_mayStand_L32 F nn l1 1 (l3 + 1) M10 else Md_mayStand_L32 F nn l1 0 (l3 + 1) M10)))))
def Md_mayStand (F : Nat) (a1 : Int32) (M : tv_M) : Option (Int32 × tv_M) := tv_rd M 277 8 a1 (fun x1 => tv_rd M 265 8 x1 (fun x2 => tv_rd M 278 8 a1 (fun x3 => if ((x2 >>> (x3 &&& 31)) &&& 1) = 1 then Md_mayStand_L32 F F a1 1 0 M else Md_mayStand_L32 F F a1 0 0 M)))
/-- TiedViewsModel.ways()I -/
def Md_ways_L134 (F : Nat) (k71 : Int32 → Int32 → tv_M → Option (Int32 × tv_M)) : Nat → Int32 → Int32 → Int32 → tv_M → Option (Int32 × tv_M)
  | 0, _, _, _, _ => none
  | nn + 1, l1, l2, l3, M => if (M.1 249 49) ≤ l3 then k71 (l1 + 1) l2 M else if l1 = 0 then tv_rd M 278 8 l3 (fun x12 => tv_wr M 279 8 l3 x12 (fun M13 => Md_ways_L134 F k71 nn l1 l2 (l3 + 1) M13)) else k71 (l1 + 1) l2 M
def Md_ways_L71 (F : Nat) : Nat → Int32 → Int32 → tv_M → Option (Int32 × tv_M)
  | 0, _, _, _ => none
  | nn + 1, l1, l2, M => if l2 < 0 then some (l1, M) else tv_rd M 278 8 l2 (fun x6 => tv_wr M 278 8 l2 (x6 + 1) (fun M7 => tv_rd M7 278 8 l2 (fun x8 => if x8 = 4 then Md_ways_L71 F nn l1 (l2 + (-1)) M7 else tv_cb (Md_mayStand F l2 M7) (fun r9 M10 => if r9 = 0 then Md_ways_L71 F nn l1 l2 M10 else if (M10.1 249 49) ≤ (l2 + 1) then Md_ways_L134 F (Md_ways_L71 F nn) F l1 l2 0 M10 else tv_wr M10 278 8 (l2 + 1) (-1) (fun M11 => Md_ways_L71 F nn l1 (l2 + 1) M11)))))
def Md_ways_L7 (F : Nat) : Nat → Int32 → tv_M → Option (Int32 × tv_M)
  | 0, _, _ => none
  | nn + 1, l1, M => if (M.1 249 6) ≤ l1 then if (M.1 249 49) = 0 then some (1, M) else tv_wr M 278 8 0 (-1) (fun M2 => Md_ways_L71 F F 0 0 M2) else tv_rd M 253 8 l1 (fun x3 => if x3 = 3 then tv_wr M 277 8 (M.1 249 49) l1 (fun M4 => tv_pf M4 249 49 ((M4.1 249 49) + 1) (fun M5 => Md_ways_L7 F nn (l1 + 1) M5)) else Md_ways_L7 F nn (l1 + 1) M)
def Md_ways (F : Nat)  (M : tv_M) : Option (Int32 × tv_M) := tv_pf M 249 49 0 (fun M1 => Md_ways_L7 F F 0 M1)
/-- TiedViewsModel.fills(I)I -/
def Md_fills_L35 (F : Nat) : Nat → Int32 → Int32 → Int32 → tv_M → Option (Int32 × tv_M)
  | 0, _, _, _, _ => none
  | nn + 1, l1, l2, l3, M => tv_rd M 277 8 l3 (fun x8 => if x8 = l1 then if l2 = 0 then some ((-1000000), M) else tv_rd M 279 8 l3 (fun x9 => some (x9, M)) else Md_fills_L35 F nn l1 l2 (l3 + 1) M)
def Md_fills (F : Nat) (a1 : Int32) (M : tv_M) : Option (Int32 × tv_M) := tv_pf M 249 0 0 (fun M1 => if a1 = (-1) then tv_cb (Md_ways F M1) (fun r2 M3 => if a1 = (-1) then some (r2, M3) else Md_fills_L35 F F a1 r2 0 M3) else tv_cb (Md_isChoice F a1 M1) (fun r4 M5 => if r4 = 0 then some ((-1000001), M5) else tv_cb (Md_ways F M5) (fun r6 M7 => if a1 = (-1) then some (r6, M7) else Md_fills_L35 F F a1 r6 0 M7)))
/-- TiedViewsModel.kindOf(I)I -/
def Md_kindOf (F : Nat) (a1 : Int32) (M : tv_M) : Option (Int32 × tv_M) := tv_rd M 253 8 a1 (fun x1 => if x1 = 0 then some (1, M) else tv_rd M 253 8 a1 (fun x2 => if x2 = 1 then some (2, M) else tv_rd M 253 8 a1 (fun x3 => if x3 = 2 then some (3, M) else some (4, M))))
/-- TiedViewsModel.kind(I)I -/
def Md_kind (F : Nat) (a1 : Int32) (M : tv_M) : Option (Int32 × tv_M) := tv_pf M 249 0 0 (fun M1 => tv_cb (Md_isEye F a1 M1) (fun r2 M3 => if r2 = 0 then some ((-1000001), M3) else tv_cb (Md_kindOf F a1 M3) (fun r4 M5 => some (r4, M5))))
/-- TiedViewsModel.isOf(II)Z -/
def Md_isOf (F : Nat) (a0 : Int32) (a1 : Int32) (M : tv_M) : Option (Int32 × tv_M) := if a1 = 0 then some (1, M) else if a0 = a1 then some (1, M) else if a1 = 1 then if a0 = 2 then some (1, M) else if a0 = 3 then some (1, M) else some (0, M) else some (0, M)
/-- TiedViewsModel.as(II)I -/
def Md_as (F : Nat) (a1 : Int32) (a2 : Int32) (M : tv_M) : Option (Int32 × tv_M) := tv_pf M 249 0 0 (fun M1 => tv_cb (Md_isEye F a1 M1) (fun r2 M3 => if r2 = 0 then some ((-1000001), M3) else tv_cb (Md_in F ((a2 : Int32).toInt64) 0 4 M3) (fun r4 M5 => if r4 = 0 then some ((-1000001), M5) else tv_pf M5 249 1 0 (fun M6 => tv_cb (Md_kindOf F a1 M6) (fun r7 M8 => tv_cb (Md_isOf F r7 a2 M8) (fun r9 M10 => if r9 = 0 then tv_cb (Md_finding F 3 M10) (fun r11 M12 => some (r11, M12)) else tv_rd M10 254 8 a1 (fun x13 => some (x13, M10))))))))
/-- TiedViewsModel.began(I)V -/
def Md_began (F : Nat) (a1 : Int32) (M : tv_M) : Option (Unit × tv_M) := if 16 ≤ (M.1 249 54) then some ((), M) else tv_wr M 280 16 (M.1 249 54) a1 (fun M1 => tv_pf M1 249 54 ((M1.1 249 54) + 1) (fun M2 => some ((), M2)))
/-- TiedViewsModel.linearSize(I)I -/
def Md_linearSize (F : Nat) (a1 : Int32) (M : tv_M) : Option (Int32 × tv_M) := tv_cb (Md_began F 11 M) (fun r1 M2 => tv_cb (Md_began F 10 M2) (fun r3 M4 => tv_rd M4 254 8 a1 (fun x5 => tv_cb (Md_tiesOf F a1 M4) (fun r6 M7 => some (x5 + r6, M7)))))
/-- TiedViewsModel.modSize(I)I -/
def Md_modSize (F : Nat) (a1 : Int32) (M : tv_M) : Option (Int32 × tv_M) := tv_cb (Md_began F 12 M) (fun r1 M2 => tv_cb (Md_linearSize F a1 M2) (fun r3 M4 => some (r3 * (M4.1 249 2), M4)))
/-- TiedViewsModel.markOf(I)I -/
def Md_markOf_L69 (F : Nat) (l1 : Int32) (l2 : Int32) (s0 : Int32) (M : tv_M) : Option (Int32 × tv_M) := if l2 = 2 then tv_cb (Md_modSize F l1 M) (fun r10 M11 => some (s0 + r10, M11)) else some (s0, M)
def Md_markOf_L30 (F : Nat) (l1 : Int32) (l2 : Int32) (s0 : Int32) (M : tv_M) : Option (Int32 × tv_M) := tv_cb (Md_began F s0 M) (fun r5 M6 => tv_cb (Md_began F 20 M6) (fun r7 M8 => if l2 = 4 then Md_markOf_L69 F l1 l2 (l1 + 1000) M8 else tv_rd M8 270 8 l1 (fun x9 => if x9 = 0 then Md_markOf_L69 F l1 l2 l1 M8 else Md_markOf_L69 F l1 l2 (l1 + 100) M8)))
def Md_markOf (F : Nat) (a1 : Int32) (M : tv_M) : Option (Int32 × tv_M) := tv_cb (Md_kindOf F a1 M) (fun r1 M2 => if r1 = 2 then tv_cb (Md_began F 22 M2) (fun r3 M4 => if r1 = 4 then Md_markOf_L30 F a1 r1 23 M4 else Md_markOf_L30 F a1 r1 21 M4) else if r1 = 4 then Md_markOf_L30 F a1 r1 23 M2 else Md_markOf_L30 F a1 r1 21 M2)
/-- TiedViewsModel.sizeOf(I)I -/
def Md_sizeOf_L62 (F : Nat) (l1 : Int32) (l2 : Int32) (M : tv_M) : Option (Int32 × tv_M) := tv_cb (Md_linearSize F l1 M) (fun r15 M16 => if l2 = 3 then tv_cb (Md_markOf F l1 M16) (fun r17 M18 => some (r15 - r17, M18)) else some (r15, M16))
def Md_sizeOf (F : Nat) (a1 : Int32) (M : tv_M) : Option (Int32 × tv_M) := tv_cb (Md_kindOf F a1 M) (fun r1 M2 => if r1 = 2 then tv_cb (Md_modSize F a1 M2) (fun r13 M14 => some (r13, M14)) else if r1 = 4 then tv_cb (Md_began F 14 M2) (fun r5 M6 => tv_cb (Md_began F 10 M6) (fun r7 M8 => tv_rd M8 254 8 a1 (fun x9 => tv_rd M8 265 8 a1 (fun x10 => tv_cb (Md_bits F x10 M8) (fun r11 M12 => some (x9 + r11, M12)))))) else if r1 = 3 then tv_cb (Md_began F 13 M2) (fun r3 M4 => Md_sizeOf_L62 F a1 r1 M4) else Md_sizeOf_L62 F a1 r1 M2)
/-- TiedViewsModel.ask(II)I -/
def Md_ask (F : Nat) (a1 : Int32) (a2 : Int32) (M : tv_M) : Option (Int32 × tv_M) := tv_pf M 249 0 0 (fun M1 => tv_cb (Md_isEye F a1 M1) (fun r2 M3 => if r2 = 0 then some ((-1000001), M3) else tv_cb (Md_in F ((a2 : Int32).toInt64) 0 1 M3) (fun r4 M5 => if r4 = 0 then some ((-1000001), M5) else tv_pf M5 249 54 0 (fun M6 => if a2 = 0 then tv_cb (Md_sizeOf F a1 M6) (fun r9 M10 => some (r9, M10)) else tv_cb (Md_markOf F a1 M6) (fun r7 M8 => some (r7, M8))))))
/-- TiedViewsModel.trace(I)I -/
def Md_trace (F : Nat) (a1 : Int32) (M : tv_M) : Option (Int32 × tv_M) := tv_pf M 249 0 0 (fun M1 => tv_cb (Md_in F ((a1 : Int32).toInt64) 0 (((M1.1 249 54) - 1 : Int32).toInt64) M1) (fun r2 M3 => if r2 = 0 then some ((-1000000), M3) else tv_rd M3 280 16 a1 (fun x4 => some (x4, M3))))
/-- TiedViewsModel.count(I)I -/
def Md_count_L62 (F : Nat) : Nat → Int32 → Int32 → tv_M → Option (Int32 × tv_M)
  | 0, _, _, _ => none
  | nn + 1, l2, l3, M => if 8 ≤ l3 then some (l2, M) else tv_rd M 250 8 l3 (fun x15 => if x15 < 0 then Md_count_L62 F nn (l2 + 0) (l3 + 1) M else Md_count_L62 F nn (l2 + 1) (l3 + 1) M)
def Md_count_L123 (F : Nat) : Nat → Int32 → Int32 → tv_M → Option (Int32 × tv_M)
  | 0, _, _, _ => none
  | nn + 1, l2, l3, M => if (M.1 249 6) ≤ l3 then some (l2, M) else tv_rd M 253 8 l3 (fun x16 => if x16 = 3 then Md_count_L123 F nn (l2 + 1) (l3 + 1) M else Md_count_L123 F nn (l2 + 0) (l3 + 1) M)
def Md_count (F : Nat) (a1 : Int32) (M : tv_M) : Option (Int32 × tv_M) := tv_pf M 249 0 0 (fun M1 => if a1 = 0 then Md_count_L62 F F 0 0 M1 else if a1 = 1 then some (M1.1 249 6, M1) else if a1 = 2 then some (M1.1 249 11, M1) else if a1 = 3 then some (M1.1 249 16, M1) else if a1 = 4 then tv_cb (Md_readingSet F M1) (fun r6 M7 => tv_cb (Md_bits F r6 M7) (fun r8 M9 => some (r8, M9))) else if a1 = 5 then some (M1.1 249 43, M1) else if a1 = 6 then Md_count_L123 F F 0 0 M1 else if a1 = 7 then some (M1.1 249 24, M1) else if a1 = 8 then some (M1.1 249 2, M1) else some ((-1000001), M1))
/-- TiedViewsModel.status()I -/
def Md_status (F : Nat)  (M : tv_M) : Option (Int32 × tv_M) := tv_pf M 249 0 0 (fun M1 => some (M1.1 249 1, M1))
