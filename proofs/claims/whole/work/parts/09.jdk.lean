theorem dJS_coder_0 : decode bJS_coder 0 = .ok (.getstatic 38, 3) := by decide +kernel
theorem dJS_coder_3 : decode bJS_coder 3 = .ok (.ifCond .eq 10, 3) := by decide +kernel
theorem dJS_coder_6 : decode bJS_coder 6 = .ok (.aload_n 0, 1) := by decide +kernel
theorem dJS_coder_7 : decode bJS_coder 7 = .ok (.getfield 15, 3) := by decide +kernel
theorem dJS_coder_10 : decode bJS_coder 10 = .ok (.goto 4, 3) := by decide +kernel
theorem dJS_coder_13 : decode bJS_coder 13 = .ok (.iconst 1, 1) := by decide +kernel
theorem dJS_coder_14 : decode bJS_coder 14 = .ok (.ireturn, 1) := by decide +kernel
theorem cJS_coder {l : Launch} {G : GT} {I : List Nat} {q : Nat} (hq : q < 3) {fu : Nat} {z : Sg} {R1 : Int32} {Z : Sg} (h : pJS_coder fu q z = some (R1, Z)) : Mt l yJS_coder rmJS_coder bJS_coder 1 (some .byte) G I z [.ref (gS G q)] (Qi G I R1 Z) := by
  refine entMF (by decide +kernel) (Nat.le_of_ble_eq_true rfl) ?_
  intro p e s m below meth c C hG ls hl
  have hl : lv_has ls 1 [(0, .ref (gS G q))] := hl
  unfold pJS_coder at h
  refine rGetsC C hG k_181 dJS_coder_0 ?_
  refine rIfeq C (tgt := 13) h dJS_coder_3 (by decide) (fun h => ?_) (fun h => ?_)
  · refine lv_iconst (v := 1) C.1 C.2.1 dJS_coder_13 (by decide) ?_
    exact rRetn C hG (ty := .byte) rfl rfl h dJS_coder_14
  · refine rAload_n C dJS_coder_6 hl 0 rfl ?_
    refine rStrC C hG hq k_1195 dJS_coder_7 ?_
    refine lv_goto (tgt := 14) C.1 C.2.1 dJS_coder_10 (by decide) ?_
    exact rRetn C hG (ty := .byte) rfl rfl h dJS_coder_14
theorem dJS_length_0 : decode bJS_length 0 = .ok (.aload_n 0, 1) := by decide +kernel
theorem dJS_length_1 : decode bJS_length 1 = .ok (.getfield 9, 3) := by decide +kernel
theorem dJS_length_4 : decode bJS_length 4 = .ok (.arraylength, 1) := by decide +kernel
theorem dJS_length_5 : decode bJS_length 5 = .ok (.aload_n 0, 1) := by decide +kernel
theorem dJS_length_6 : decode bJS_length 6 = .ok (.invokevirtual 335, 3) := by decide +kernel
theorem dJS_length_9 : decode bJS_length 9 = .ok (.ishr, 1) := by decide +kernel
theorem dJS_length_10 : decode bJS_length 10 = .ok (.ireturn, 1) := by decide +kernel
theorem cJS_length {l : Launch} {G : GT} {I : List Nat} {q : Nat} (hq : q < 3) {fu : Nat} {z : Sg} {R1 : Int32} {Z : Sg} (h : pJS_length fu q z = some (R1, Z)) : Mt l yJS_length rmJS_length bJS_length 1 (some .int) G I z [.ref (gS G q)] (Qi G I R1 Z) := by
  refine entMF (by decide +kernel) (Nat.le_of_ble_eq_true rfl) ?_
  intro p e s m below meth c C hG ls hl
  have hl : lv_has ls 1 [(0, .ref (gS G q))] := hl
  unfold pJS_length at h
  refine rAload_n C dJS_length_0 hl 0 rfl ?_
  refine rStrV C hG hq k_1194 dJS_length_1 ?_
  refine rSlen C hG hq dJS_length_4 ?_
  refine rAload_n C dJS_length_5 hl 0 rfl ?_
  refine rCVi [] [.int (nI (jsLen.getD q 0))] C hG h (fun h => cJS_coder hq h) mvJS_coder k_177 ⟨Nat.le_of_ble_eq_true rfl, Nat.le_of_ble_eq_true rfl⟩ ⟨rfl, rfl⟩ (rStrR C hG hq) rfl hl.1 (Nat.le_of_ble_eq_true rfl) dJS_length_6 ⟨Nat.zero_le _, Nat.zero_le _⟩ rfl (fun H locs x2 z1 h hG => ?_)
  refine lv_ishr C.1 C.2.1 dJS_length_9 ?_
  exact rReti C hG h dJS_length_10
theorem dJS_isLatin1_0 : decode bJS_isLatin1 0 = .ok (.getstatic 38, 3) := by decide +kernel
theorem dJS_isLatin1_3 : decode bJS_isLatin1 3 = .ok (.ifCond .eq 14, 3) := by decide +kernel
theorem dJS_isLatin1_6 : decode bJS_isLatin1 6 = .ok (.aload_n 0, 1) := by decide +kernel
theorem dJS_isLatin1_7 : decode bJS_isLatin1 7 = .ok (.getfield 15, 3) := by decide +kernel
theorem dJS_isLatin1_10 : decode bJS_isLatin1 10 = .ok (.ifCond .ne 7, 3) := by decide +kernel
theorem dJS_isLatin1_13 : decode bJS_isLatin1 13 = .ok (.iconst 1, 1) := by decide +kernel
theorem dJS_isLatin1_14 : decode bJS_isLatin1 14 = .ok (.goto 4, 3) := by decide +kernel
theorem dJS_isLatin1_17 : decode bJS_isLatin1 17 = .ok (.iconst 0, 1) := by decide +kernel
theorem dJS_isLatin1_18 : decode bJS_isLatin1 18 = .ok (.ireturn, 1) := by decide +kernel
theorem cJS_isLatin1 {l : Launch} {G : GT} {I : List Nat} {q : Nat} (hq : q < 3) {fu : Nat} {z : Sg} {R1 : Int32} {Z : Sg} (h : pJS_isLatin1 fu q z = some (R1, Z)) : Mt l yJS_isLatin1 rmJS_isLatin1 bJS_isLatin1 1 (some .boolean) G I z [.ref (gS G q)] (Qi G I R1 Z) := by
  refine entMF (by decide +kernel) (Nat.le_of_ble_eq_true rfl) ?_
  intro p e s m below meth c C hG ls hl
  have hl : lv_has ls 1 [(0, .ref (gS G q))] := hl
  unfold pJS_isLatin1 at h
  refine rGetsC C hG k_181 dJS_isLatin1_0 ?_
  refine rIfeq C (tgt := 17) h dJS_isLatin1_3 (by decide) (fun h => ?_) (fun h => ?_)
  · refine lv_iconst (v := 0) C.1 C.2.1 dJS_isLatin1_17 (by decide) ?_
    exact rRetn C hG (ty := .boolean) rfl rfl h dJS_isLatin1_18
  · refine rAload_n C dJS_isLatin1_6 hl 0 rfl ?_
    refine rStrC C hG hq k_1195 dJS_isLatin1_7 ?_
    refine rIfne C (tgt := 17) h dJS_isLatin1_10 (by decide) (fun h => ?_) (fun h => ?_)
    · refine lv_iconst (v := 0) C.1 C.2.1 dJS_isLatin1_17 (by decide) ?_
      exact rRetn C hG (ty := .boolean) rfl rfl h dJS_isLatin1_18
    · refine lv_iconst (v := 1) C.1 C.2.1 dJS_isLatin1_13 (by decide) ?_
      refine lv_goto (tgt := 18) C.1 C.2.1 dJS_isLatin1_14 (by decide) ?_
      exact rRetn C hG (ty := .boolean) rfl rfl h dJS_isLatin1_18
theorem dJP_checkIndex_0 : decode bJP_checkIndex 0 = .ok (.iload_n 0, 1) := by decide +kernel
theorem dJP_checkIndex_1 : decode bJP_checkIndex 1 = .ok (.ifCond .lt 8, 3) := by decide +kernel
theorem dJP_checkIndex_4 : decode bJP_checkIndex 4 = .ok (.iload_n 0, 1) := by decide +kernel
theorem dJP_checkIndex_5 : decode bJP_checkIndex 5 = .ok (.iload_n 1, 1) := by decide +kernel
theorem dJP_checkIndex_6 : decode bJP_checkIndex 6 = .ok (.if_icmp .lt 10, 3) := by decide +kernel
theorem dJP_checkIndex_16 : decode bJP_checkIndex 16 = .ok (.iload_n 0, 1) := by decide +kernel
theorem dJP_checkIndex_17 : decode bJP_checkIndex 17 = .ok (.ireturn, 1) := by decide +kernel
theorem cJP_checkIndex {l : Launch} {G : GT} {I : List Nat} {w : Value} (hw : w = .null ∨ ∃ t : Nat, w = .ref t) {fu : Nat} {v0 : Int32} {v1 : Int32} {z : Sg} {R1 : Int32} {Z : Sg} (h : pJP_checkIndex fu v0 v1 z = some (R1, Z)) : Mt l yJP_checkIndex rmJP_checkIndex bJP_checkIndex 3 (some .int) G I z [.int v0, .int v1, w] (Qi G I R1 Z) := by
  refine entMF (by decide +kernel) (by rcases hw with rfl | ⟨t, rfl⟩ <;> exact Nat.le_of_ble_eq_true rfl) ?_
  intro p e s m below meth c C hG ls hl
  have hl : lv_has ls 3 [(0, .int v0), (1, .int v1), (2, w)] := hl
  unfold pJP_checkIndex at h
  refine rIload_n C dJP_checkIndex_0 hl 0 rfl ?_
  refine rIflt C (tgt := 9) h dJP_checkIndex_1 (by decide) (fun h => ?_) (fun h => ?_)
  · cases h
  · refine rIload_n C dJP_checkIndex_4 hl 0 rfl ?_
    refine rIload_n C dJP_checkIndex_5 hl 1 rfl ?_
    refine rIcmplt C (tgt := 16) h dJP_checkIndex_6 (by decide) (fun h => ?_) (fun h => ?_)
    · refine rIload_n C dJP_checkIndex_16 hl 0 rfl ?_
      exact rReti C hG h dJP_checkIndex_17
    · cases h
theorem dJS_checkIndex_0 : decode bJS_checkIndex 0 = .ok (.iload_n 0, 1) := by decide +kernel
theorem dJS_checkIndex_1 : decode bJS_checkIndex 1 = .ok (.iload_n 1, 1) := by decide +kernel
theorem dJS_checkIndex_2 : decode bJS_checkIndex 2 = .ok (.getstatic 1053, 3) := by decide +kernel
theorem dJS_checkIndex_5 : decode bJS_checkIndex 5 = .ok (.invokestatic 1059, 3) := by decide +kernel
theorem dJS_checkIndex_8 : decode bJS_checkIndex 8 = .ok (.pop, 1) := by decide +kernel
theorem dJS_checkIndex_9 : decode bJS_checkIndex 9 = .ok (.return_, 1) := by decide +kernel
theorem cJS_checkIndex {l : Launch} {G : GT} {I : List Nat} {fu : Nat} {v0 : Int32} {v1 : Int32} {z : Sg} {Z : Sg} (h : pJS_checkIndex fu v0 v1 z = some Z) : Mt l yJS_checkIndex rmJS_checkIndex bJS_checkIndex 2 none G I z [.int v0, .int v1] (Qv G I Z) := by
  refine entMF (by decide +kernel) (Nat.le_of_ble_eq_true rfl) ?_
  intro p e s m below meth c C hG ls hl
  have hl : lv_has ls 2 [(0, .int v0), (1, .int v1)] := hl
  unfold pJS_checkIndex at h
  refine rIload_n C dJS_checkIndex_0 hl 0 rfl ?_
  refine rIload_n C dJS_checkIndex_1 hl 1 rfl ?_
  refine rGetsQ C hG k_197 dJS_checkIndex_2 (fun w hw => ?_)
  refine rCSi [.int v0, .int v1, w] [] C hG h (fun h => cJP_checkIndex hw h) mvJP_checkIndex k_199 ⟨Nat.le_of_ble_eq_true rfl, Nat.le_of_ble_eq_true rfl⟩ ⟨rfl, rfl⟩ rfl hl.1 (Nat.le_of_ble_eq_true rfl) dJS_checkIndex_5 ⟨Nat.zero_le _, Nat.zero_le _⟩ rfl (fun H locs x2 z1 h hG => ?_)
  refine lv_pop C.1 C.2.1 dJS_checkIndex_8 rfl ?_
  exact rRetv C hG h dJS_checkIndex_9
theorem dJL_charAt_0 : decode bJL_charAt 0 = .ok (.iload_n 1, 1) := by decide +kernel
theorem dJL_charAt_1 : decode bJL_charAt 1 = .ok (.aload_n 0, 1) := by decide +kernel
theorem dJL_charAt_2 : decode bJL_charAt 2 = .ok (.arraylength, 1) := by decide +kernel
theorem dJL_charAt_3 : decode bJL_charAt 3 = .ok (.invokestatic 9, 3) := by decide +kernel
theorem dJL_charAt_6 : decode bJL_charAt 6 = .ok (.aload_n 0, 1) := by decide +kernel
theorem dJL_charAt_7 : decode bJL_charAt 7 = .ok (.iload_n 1, 1) := by decide +kernel
theorem dJL_charAt_8 : decode bJL_charAt 8 = .ok (.baload, 1) := by decide +kernel
theorem dJL_charAt_9 : decode bJL_charAt 9 = .ok (.sipush 255, 3) := by decide +kernel
theorem dJL_charAt_12 : decode bJL_charAt 12 = .ok (.iand, 1) := by decide +kernel
theorem dJL_charAt_13 : decode bJL_charAt 13 = .ok (.i2c, 1) := by decide +kernel
theorem dJL_charAt_14 : decode bJL_charAt 14 = .ok (.ireturn, 1) := by decide +kernel
theorem cJL_charAt {l : Launch} {G : GT} {I : List Nat} {q : Nat} (hq : q < 3) {fu : Nat} {v1 : Int32} {z : Sg} {R1 : Int32} {Z : Sg} (h : pJL_charAt fu q v1 z = some (R1, Z)) : Mt l yJL_charAt rmJL_charAt bJL_charAt 2 (some .char) G I z [.ref (gV G q), .int v1] (Qi G I R1 Z) := by
  refine entMF (by decide +kernel) (Nat.le_of_ble_eq_true rfl) ?_
  intro p e s m below meth c C hG ls hl
  have hl : lv_has ls 2 [(0, .ref (gV G q)), (1, .int v1)] := hl
  unfold pJL_charAt at h
  refine rIload_n C dJL_charAt_0 hl 1 rfl ?_
  refine rAload_n C dJL_charAt_1 hl 0 rfl ?_
  refine rSlen C hG hq dJL_charAt_2 ?_
  refine rCSv [.int v1, .int (nI (jsLen.getD q 0))] [] C hG h (fun h => cJS_checkIndex h) mvJS_checkIndex k_194 ⟨Nat.le_of_ble_eq_true rfl, Nat.le_of_ble_eq_true rfl⟩ ⟨rfl, rfl⟩ rfl hl.1 (Nat.le_of_ble_eq_true rfl) dJL_charAt_3 ⟨Nat.zero_le _, Nat.zero_le _⟩ rfl (fun H locs z1 h hG => ?_)
  refine rAload_n C dJL_charAt_6 hl 0 rfl ?_
  refine rIload_n C dJL_charAt_7 hl 1 rfl ?_
  refine rSald C hG hq h dJL_charAt_8 (fun h => ?_)
  refine lv_sipush (v := 255) C.1 C.2.1 dJL_charAt_9 (by decide) ?_
  refine lv_iand C.1 C.2.1 dJL_charAt_12 ?_
  refine lv_i2c C.1 C.2.1 dJL_charAt_13 rfl ?_
  exact rRetn C hG (ty := .char) rfl (isC_nar (chk_some h).1) (chk_some h).2 dJL_charAt_14
theorem dJS_charAt_0 : decode bJS_charAt 0 = .ok (.aload_n 0, 1) := by decide +kernel
theorem dJS_charAt_1 : decode bJS_charAt 1 = .ok (.invokevirtual 492, 3) := by decide +kernel
theorem dJS_charAt_4 : decode bJS_charAt 4 = .ok (.ifCond .eq 12, 3) := by decide +kernel
theorem dJS_charAt_7 : decode bJS_charAt 7 = .ok (.aload_n 0, 1) := by decide +kernel
theorem dJS_charAt_8 : decode bJS_charAt 8 = .ok (.getfield 9, 3) := by decide +kernel
theorem dJS_charAt_11 : decode bJS_charAt 11 = .ok (.iload_n 1, 1) := by decide +kernel
theorem dJS_charAt_12 : decode bJS_charAt 12 = .ok (.invokestatic 495, 3) := by decide +kernel
theorem dJS_charAt_15 : decode bJS_charAt 15 = .ok (.ireturn, 1) := by decide +kernel
theorem dJS_charAt_16 : decode bJS_charAt 16 = .ok (.aload_n 0, 1) := by decide +kernel
theorem dJS_charAt_17 : decode bJS_charAt 17 = .ok (.getfield 9, 3) := by decide +kernel
theorem dJS_charAt_20 : decode bJS_charAt 20 = .ok (.iload_n 1, 1) := by decide +kernel
theorem cJS_charAt {l : Launch} {G : GT} {I : List Nat} {q : Nat} (hq : q < 3) {fu : Nat} {v1 : Int32} {z : Sg} {R1 : Int32} {Z : Sg} (h : pJS_charAt fu q v1 z = some (R1, Z)) : Mt l yJS_charAt rmJS_charAt bJS_charAt 2 (some .char) G I z [.ref (gS G q), .int v1] (Qi G I R1 Z) := by
  refine entMF (by decide +kernel) (Nat.le_of_ble_eq_true rfl) ?_
  intro p e s m below meth c C hG ls hl
  have hl : lv_has ls 2 [(0, .ref (gS G q)), (1, .int v1)] := hl
  unfold pJS_charAt at h
  refine rAload_n C dJS_charAt_0 hl 0 rfl ?_
  refine rCVi [] [] C hG h (fun h => cJS_isLatin1 hq h) mvJS_isLatin1 k_187 ⟨Nat.le_of_ble_eq_true rfl, Nat.le_of_ble_eq_true rfl⟩ ⟨rfl, rfl⟩ (rStrR C hG hq) rfl hl.1 (Nat.le_of_ble_eq_true rfl) dJS_charAt_1 ⟨Nat.zero_le _, Nat.zero_le _⟩ rfl (fun H locs x2 z1 h hG => ?_)
  refine rIfeq C (tgt := 16) h dJS_charAt_4 (by decide) (fun h => ?_) (fun h => ?_)
  · refine rAload_n C dJS_charAt_16 hl 0 rfl ?_
    refine rStrV C hG hq k_1194 dJS_charAt_17 ?_
    refine rIload_n C dJS_charAt_20 hl 1 rfl ?_
    cases h
  · refine rAload_n C dJS_charAt_7 hl 0 rfl ?_
    refine rStrV C hG hq k_1194 dJS_charAt_8 ?_
    refine rIload_n C dJS_charAt_11 hl 1 rfl ?_
    refine rCSi [.ref (gV G q), .int v1] [] C hG h (fun h => cJL_charAt hq h) mvJL_charAt k_191 ⟨Nat.le_of_ble_eq_true rfl, Nat.le_of_ble_eq_true rfl⟩ ⟨rfl, rfl⟩ rfl hl.1 (Nat.le_of_ble_eq_true rfl) dJS_charAt_12 ⟨Nat.zero_le _, Nat.zero_le _⟩ rfl (fun H locs x4 z3 h hG => ?_)
    exact rRetn C hG (ty := .char) rfl (isC_nar (chk_some h).1) (chk_some h).2 dJS_charAt_15
theorem dJL_canEncode_0 : decode bJL_canEncode 0 = .ok (.iload_n 0, 1) := by decide +kernel
theorem dJL_canEncode_1 : decode bJL_canEncode 1 = .ok (.ifCond .lt 14, 3) := by decide +kernel
theorem dJL_canEncode_4 : decode bJL_canEncode 4 = .ok (.iload_n 0, 1) := by decide +kernel
theorem dJL_canEncode_5 : decode bJL_canEncode 5 = .ok (.sipush 255, 3) := by decide +kernel
theorem dJL_canEncode_8 : decode bJL_canEncode 8 = .ok (.if_icmp .gt 7, 3) := by decide +kernel
theorem dJL_canEncode_11 : decode bJL_canEncode 11 = .ok (.iconst 1, 1) := by decide +kernel
theorem dJL_canEncode_12 : decode bJL_canEncode 12 = .ok (.goto 4, 3) := by decide +kernel
theorem dJL_canEncode_15 : decode bJL_canEncode 15 = .ok (.iconst 0, 1) := by decide +kernel
theorem dJL_canEncode_16 : decode bJL_canEncode 16 = .ok (.ireturn, 1) := by decide +kernel
theorem cJL_canEncode {l : Launch} {G : GT} {I : List Nat} {fu : Nat} {v0 : Int32} {z : Sg} {R1 : Int32} {Z : Sg} (h : pJL_canEncode fu v0 z = some (R1, Z)) : Mt l yJL_canEncode rmJL_canEncode bJL_canEncode 1 (some .boolean) G I z [.int v0] (Qi G I R1 Z) := by
  refine entMF (by decide +kernel) (Nat.le_of_ble_eq_true rfl) ?_
  intro p e s m below meth c C hG ls hl
  have hl : lv_has ls 1 [(0, .int v0)] := hl
  unfold pJL_canEncode at h
  refine rIload_n C dJL_canEncode_0 hl 0 rfl ?_
  refine rIflt C (tgt := 15) h dJL_canEncode_1 (by decide) (fun h => ?_) (fun h => ?_)
  · refine lv_iconst (v := 0) C.1 C.2.1 dJL_canEncode_15 (by decide) ?_
    exact rRetn C hG (ty := .boolean) rfl rfl h dJL_canEncode_16
  · refine rIload_n C dJL_canEncode_4 hl 0 rfl ?_
    refine lv_sipush (v := 255) C.1 C.2.1 dJL_canEncode_5 (by decide) ?_
    refine rIcmpgt C (tgt := 15) h dJL_canEncode_8 (by decide) (fun h => ?_) (fun h => ?_)
    · refine lv_iconst (v := 0) C.1 C.2.1 dJL_canEncode_15 (by decide) ?_
      exact rRetn C hG (ty := .boolean) rfl rfl h dJL_canEncode_16
    · refine lv_iconst (v := 1) C.1 C.2.1 dJL_canEncode_11 (by decide) ?_
      refine lv_goto (tgt := 16) C.1 C.2.1 dJL_canEncode_12 (by decide) ?_
      exact rRetn C hG (ty := .boolean) rfl rfl h dJL_canEncode_16
theorem dJL_indexOfChar_0 : decode bJL_indexOfChar 0 = .ok (.iload_n 1, 1) := by decide +kernel
theorem dJL_indexOfChar_1 : decode bJL_indexOfChar 1 = .ok (.i2b, 1) := by decide +kernel
theorem dJL_indexOfChar_2 : decode bJL_indexOfChar 2 = .ok (.istore 4, 2) := by decide +kernel
theorem dJL_indexOfChar_4 : decode bJL_indexOfChar 4 = .ok (.iload_n 2, 1) := by decide +kernel
theorem dJL_indexOfChar_5 : decode bJL_indexOfChar 5 = .ok (.istore 5, 2) := by decide +kernel
theorem dJL_indexOfChar_7 : decode bJL_indexOfChar 7 = .ok (.iload 5, 2) := by decide +kernel
theorem dJL_indexOfChar_9 : decode bJL_indexOfChar 9 = .ok (.iload_n 3, 1) := by decide +kernel
theorem dJL_indexOfChar_10 : decode bJL_indexOfChar 10 = .ok (.if_icmp .ge 21, 3) := by decide +kernel
theorem dJL_indexOfChar_13 : decode bJL_indexOfChar 13 = .ok (.aload_n 0, 1) := by decide +kernel
theorem dJL_indexOfChar_14 : decode bJL_indexOfChar 14 = .ok (.iload 5, 2) := by decide +kernel
theorem dJL_indexOfChar_16 : decode bJL_indexOfChar 16 = .ok (.baload, 1) := by decide +kernel
theorem dJL_indexOfChar_17 : decode bJL_indexOfChar 17 = .ok (.iload 4, 2) := by decide +kernel
theorem dJL_indexOfChar_19 : decode bJL_indexOfChar 19 = .ok (.if_icmp .ne 6, 3) := by decide +kernel
theorem dJL_indexOfChar_22 : decode bJL_indexOfChar 22 = .ok (.iload 5, 2) := by decide +kernel
theorem dJL_indexOfChar_24 : decode bJL_indexOfChar 24 = .ok (.ireturn, 1) := by decide +kernel
theorem dJL_indexOfChar_25 : decode bJL_indexOfChar 25 = .ok (.iinc 5 1, 3) := by decide +kernel
theorem dJL_indexOfChar_28 : decode bJL_indexOfChar 28 = .ok (.goto (-21), 3) := by decide +kernel
theorem dJL_indexOfChar_31 : decode bJL_indexOfChar 31 = .ok (.iconst (-1), 1) := by decide +kernel
theorem dJL_indexOfChar_32 : decode bJL_indexOfChar 32 = .ok (.ireturn, 1) := by decide +kernel
theorem wJL_indexOfChar_7 {p : Program} {l : Launch} {e : Env} {s : State} {m : MethodId} {args : Array Value} {below : List Frame} {meth : Method} {c : Code} {G : GT} {I : List Nat} (C : CX p s m args meth c NJL bJL_indexOfChar 6 (some .int) G I) {q : Nat} (hq : q < 3) {fu : Nat} {R1 : Int32} {Z : Sg} : ∀ (k : Nat) {v3 : Int32} {v4 : Int32} {v5 : Int32} {z : Sg} {H : Heap} {locs : List Loc} {ls : Array Slot}, pJL_indexOfChar_7 fu q k v3 v4 v5 z = some (R1, Z) → GW G I z s.heap H locs → lv_has ls 6 [(0, .ref (gV G q)), (3, .int v3), (4, .int v4), (5, .int v5)] → W p l e rmJL_indexOfChar s m args below meth c H locs 0 0 (MQ below (Qi G I R1 Z) args s 0 0 (AD G I)) (F0 m 7 ls []) := by
  intro k
  induction k with
  | zero => intro v3 v4 v5 z H locs ls h hG hl; rw [pJL_indexOfChar_7] at h; cases h
  | succ k ih =>
    intro v3 v4 v5 z H locs ls h hG hl
    rw [pJL_indexOfChar_7] at h
    refine rIload C dJL_indexOfChar_7 hl 3 rfl ?_
    refine rIload_n C dJL_indexOfChar_9 hl 1 rfl ?_
    refine rIcmpge C (tgt := 31) h dJL_indexOfChar_10 (by decide) (fun h => ?_) (fun h => ?_)
    · refine lv_iconst (v := (-1)) C.1 C.2.1 dJL_indexOfChar_31 (by decide) ?_
      exact rReti C hG h dJL_indexOfChar_32
    · refine rAload_n C dJL_indexOfChar_13 hl 0 rfl ?_
      refine rIload C dJL_indexOfChar_14 hl 3 rfl ?_
      refine rSald C hG hq h dJL_indexOfChar_16 (fun h => ?_)
      refine rIload C dJL_indexOfChar_17 hl 2 rfl ?_
      refine rIcmpne C (tgt := 25) h dJL_indexOfChar_19 (by decide) (fun h => ?_) (fun h => ?_)
      · refine rIinc C dJL_indexOfChar_25 hl 3 rfl (d := 1) (by decide) h (by decide) [(0, .ref (gV G q)), (3, .int v3), (4, .int v4)] rfl (fun x2 ls h hl => ?_)
        refine lv_goto (tgt := 7) C.1 C.2.1 dJL_indexOfChar_28 (by decide) ?_
        exact ih h hG (lv_sub hl [1, 2, 3, 0] rfl)
      · refine rIload C dJL_indexOfChar_22 hl 3 rfl ?_
        exact rReti C hG h dJL_indexOfChar_24
theorem cJL_indexOfChar {l : Launch} {G : GT} {I : List Nat} {q : Nat} (hq : q < 3) {fu : Nat} {v1 : Int32} {v2 : Int32} {v3 : Int32} {z : Sg} {R1 : Int32} {Z : Sg} (h : pJL_indexOfChar fu q v1 v2 v3 z = some (R1, Z)) : Mt l yJL_indexOfChar rmJL_indexOfChar bJL_indexOfChar 6 (some .int) G I z [.ref (gV G q), .int v1, .int v2, .int v3] (Qi G I R1 Z) := by
  refine entMF (by decide +kernel) (Nat.le_of_ble_eq_true rfl) ?_
  intro p e s m below meth c C hG ls hl
  have hl : lv_has ls 6 [(0, .ref (gV G q)), (1, .int v1), (2, .int v2), (3, .int v3)] := hl
  unfold pJL_indexOfChar at h
  refine rIload_n C dJL_indexOfChar_0 hl 1 rfl ?_
  refine lv_i2b C.1 C.2.1 dJL_indexOfChar_1 rfl ?_
  refine rIstore C dJL_indexOfChar_2 hl h (by decide) [(0, .ref (gV G q)), (1, .int v1), (2, .int v2), (3, .int v3)] rfl (fun x1 ls h hl => ?_)
  refine rIload_n C dJL_indexOfChar_4 hl 3 rfl ?_
  refine rIstoreA C dJL_indexOfChar_5 hl (by decide) [(4, .int x1), (0, .ref (gV G q)), (1, .int v1), (2, .int v2), (3, .int v3)] rfl (fun ls hl => ?_)
  exact wJL_indexOfChar_7 C hq _ h hG (lv_sub hl [2, 5, 1, 0] rfl)
theorem dJL_indexOf_0 : decode bJL_indexOf 0 = .ok (.iload_n 1, 1) := by decide +kernel
theorem dJL_indexOf_1 : decode bJL_indexOf 1 = .ok (.invokestatic 88, 3) := by decide +kernel
theorem dJL_indexOf_4 : decode bJL_indexOf 4 = .ok (.ifCond .ne 5, 3) := by decide +kernel
theorem dJL_indexOf_7 : decode bJL_indexOf 7 = .ok (.iconst (-1), 1) := by decide +kernel
theorem dJL_indexOf_8 : decode bJL_indexOf 8 = .ok (.ireturn, 1) := by decide +kernel
theorem dJL_indexOf_9 : decode bJL_indexOf 9 = .ok (.iload_n 2, 1) := by decide +kernel
theorem dJL_indexOf_10 : decode bJL_indexOf 10 = .ok (.iconst 0, 1) := by decide +kernel
theorem dJL_indexOf_11 : decode bJL_indexOf 11 = .ok (.invokestatic 92, 3) := by decide +kernel
theorem dJL_indexOf_14 : decode bJL_indexOf 14 = .ok (.istore_n 2, 1) := by decide +kernel
theorem dJL_indexOf_15 : decode bJL_indexOf 15 = .ok (.iload_n 3, 1) := by decide +kernel
theorem dJL_indexOf_16 : decode bJL_indexOf 16 = .ok (.aload_n 0, 1) := by decide +kernel
theorem dJL_indexOf_17 : decode bJL_indexOf 17 = .ok (.arraylength, 1) := by decide +kernel
theorem dJL_indexOf_18 : decode bJL_indexOf 18 = .ok (.invokestatic 38, 3) := by decide +kernel
theorem dJL_indexOf_21 : decode bJL_indexOf 21 = .ok (.istore_n 3, 1) := by decide +kernel
theorem dJL_indexOf_22 : decode bJL_indexOf 22 = .ok (.iload_n 2, 1) := by decide +kernel
theorem dJL_indexOf_23 : decode bJL_indexOf 23 = .ok (.iload_n 3, 1) := by decide +kernel
theorem dJL_indexOf_24 : decode bJL_indexOf 24 = .ok (.if_icmp .lt 5, 3) := by decide +kernel
theorem dJL_indexOf_27 : decode bJL_indexOf 27 = .ok (.iconst (-1), 1) := by decide +kernel
theorem dJL_indexOf_28 : decode bJL_indexOf 28 = .ok (.ireturn, 1) := by decide +kernel
theorem dJL_indexOf_29 : decode bJL_indexOf 29 = .ok (.aload_n 0, 1) := by decide +kernel
theorem dJL_indexOf_30 : decode bJL_indexOf 30 = .ok (.iload_n 1, 1) := by decide +kernel
theorem dJL_indexOf_31 : decode bJL_indexOf 31 = .ok (.iload_n 2, 1) := by decide +kernel
theorem dJL_indexOf_32 : decode bJL_indexOf 32 = .ok (.iload_n 3, 1) := by decide +kernel
theorem dJL_indexOf_33 : decode bJL_indexOf 33 = .ok (.invokestatic 95, 3) := by decide +kernel
theorem dJL_indexOf_36 : decode bJL_indexOf 36 = .ok (.ireturn, 1) := by decide +kernel
theorem cJL_indexOf {l : Launch} {G : GT} {I : List Nat} {q : Nat} (hq : q < 3) {fu : Nat} {v1 : Int32} {v2 : Int32} {v3 : Int32} {z : Sg} {R1 : Int32} {Z : Sg} (h : pJL_indexOf fu q v1 v2 v3 z = some (R1, Z)) : Mt l yJL_indexOf rmJL_indexOf bJL_indexOf 4 (some .int) G I z [.ref (gV G q), .int v1, .int v2, .int v3] (Qi G I R1 Z) := by
  refine entMF (by decide +kernel) (Nat.le_of_ble_eq_true rfl) ?_
  intro p e s m below meth c C hG ls hl
  have hl : lv_has ls 4 [(0, .ref (gV G q)), (1, .int v1), (2, .int v2), (3, .int v3)] := hl
  unfold pJL_indexOf at h
  refine rIload_n C dJL_indexOf_0 hl 1 rfl ?_
  refine rCSi [.int v1] [] C hG h (fun h => cJL_canEncode h) mvJL_canEncode k_271 ⟨Nat.le_of_ble_eq_true rfl, Nat.le_of_ble_eq_true rfl⟩ ⟨rfl, rfl⟩ rfl hl.1 (Nat.le_of_ble_eq_true rfl) dJL_indexOf_1 ⟨Nat.zero_le _, Nat.zero_le _⟩ rfl (fun H locs x2 z1 h hG => ?_)
  refine rIfne C (tgt := 9) h dJL_indexOf_4 (by decide) (fun h => ?_) (fun h => ?_)
  · refine rIload_n C dJL_indexOf_9 hl 2 rfl ?_
    refine lv_iconst (v := 0) C.1 C.2.1 dJL_indexOf_10 (by decide) ?_
    refine rMax C k_274 mt_max hl.1 (Nat.le_of_ble_eq_true rfl) (Nat.le_of_ble_eq_true rfl) ⟨Nat.zero_le _, Nat.zero_le _⟩ dJL_indexOf_11 ?_
    refine rIstore_n C dJL_indexOf_14 hl h (by decide) [(0, .ref (gV G q)), (1, .int v1), (3, .int v3)] rfl (fun x3 ls h hl => ?_)
    refine rIload_n C dJL_indexOf_15 hl 3 rfl ?_
    refine rAload_n C dJL_indexOf_16 hl 1 rfl ?_
    refine rSlen C hG hq dJL_indexOf_17 ?_
    refine rMin C k_277 mt_min hl.1 (Nat.le_of_ble_eq_true rfl) (Nat.le_of_ble_eq_true rfl) ⟨Nat.zero_le _, Nat.zero_le _⟩ dJL_indexOf_18 ?_
    refine rIstore_n C dJL_indexOf_21 hl h (by decide) [(2, .int x3), (0, .ref (gV G q)), (1, .int v1)] rfl (fun x4 ls h hl => ?_)
    refine rIload_n C dJL_indexOf_22 hl 1 rfl ?_
    refine rIload_n C dJL_indexOf_23 hl 0 rfl ?_
    refine rIcmplt C (tgt := 29) h dJL_indexOf_24 (by decide) (fun h => ?_) (fun h => ?_)
    · refine rAload_n C dJL_indexOf_29 hl 2 rfl ?_
      refine rIload_n C dJL_indexOf_30 hl 3 rfl ?_
      refine rIload_n C dJL_indexOf_31 hl 1 rfl ?_
      refine rIload_n C dJL_indexOf_32 hl 0 rfl ?_
      refine rCSi [.ref (gV G q), .int v1, .int x3, .int x4] [] C hG h (fun h => cJL_indexOfChar hq h) mvJL_indexOfChar k_280 ⟨Nat.le_of_ble_eq_true rfl, Nat.le_of_ble_eq_true rfl⟩ ⟨rfl, rfl⟩ rfl hl.1 (Nat.le_of_ble_eq_true rfl) dJL_indexOf_33 ⟨Nat.zero_le _, Nat.zero_le _⟩ rfl (fun H locs x6 z5 h hG => ?_)
      exact rReti C hG h dJL_indexOf_36
    · refine lv_iconst (v := (-1)) C.1 C.2.1 dJL_indexOf_27 (by decide) ?_
      exact rReti C hG h dJL_indexOf_28
  · refine lv_iconst (v := (-1)) C.1 C.2.1 dJL_indexOf_7 (by decide) ?_
    exact rReti C hG h dJL_indexOf_8
theorem dJS_indexOf2_0 : decode bJS_indexOf2 0 = .ok (.aload_n 0, 1) := by decide +kernel
theorem dJS_indexOf2_1 : decode bJS_indexOf2 1 = .ok (.invokevirtual 492, 3) := by decide +kernel
theorem dJS_indexOf2_4 : decode bJS_indexOf2 4 = .ok (.ifCond .eq 19, 3) := by decide +kernel
theorem dJS_indexOf2_7 : decode bJS_indexOf2 7 = .ok (.aload_n 0, 1) := by decide +kernel
theorem dJS_indexOf2_8 : decode bJS_indexOf2 8 = .ok (.getfield 9, 3) := by decide +kernel
theorem dJS_indexOf2_11 : decode bJS_indexOf2 11 = .ok (.iload_n 1, 1) := by decide +kernel
theorem dJS_indexOf2_12 : decode bJS_indexOf2 12 = .ok (.iload_n 2, 1) := by decide +kernel
theorem dJS_indexOf2_13 : decode bJS_indexOf2 13 = .ok (.aload_n 0, 1) := by decide +kernel
theorem dJS_indexOf2_14 : decode bJS_indexOf2 14 = .ok (.invokevirtual 505, 3) := by decide +kernel
theorem dJS_indexOf2_17 : decode bJS_indexOf2 17 = .ok (.invokestatic 637, 3) := by decide +kernel
theorem dJS_indexOf2_20 : decode bJS_indexOf2 20 = .ok (.goto 16, 3) := by decide +kernel
theorem dJS_indexOf2_23 : decode bJS_indexOf2 23 = .ok (.aload_n 0, 1) := by decide +kernel
theorem dJS_indexOf2_24 : decode bJS_indexOf2 24 = .ok (.getfield 9, 3) := by decide +kernel
theorem dJS_indexOf2_27 : decode bJS_indexOf2 27 = .ok (.iload_n 1, 1) := by decide +kernel
theorem dJS_indexOf2_28 : decode bJS_indexOf2 28 = .ok (.iload_n 2, 1) := by decide +kernel
theorem dJS_indexOf2_29 : decode bJS_indexOf2 29 = .ok (.aload_n 0, 1) := by decide +kernel
theorem dJS_indexOf2_30 : decode bJS_indexOf2 30 = .ok (.invokevirtual 505, 3) := by decide +kernel
theorem dJS_indexOf2_36 : decode bJS_indexOf2 36 = .ok (.ireturn, 1) := by decide +kernel
theorem cJS_indexOf2 {l : Launch} {G : GT} {I : List Nat} {q : Nat} (hq : q < 3) {fu : Nat} {v1 : Int32} {v2 : Int32} {z : Sg} {R1 : Int32} {Z : Sg} (h : pJS_indexOf2 fu q v1 v2 z = some (R1, Z)) : Mt l yJS_indexOf2 rmJS_indexOf2 bJS_indexOf2 3 (some .int) G I z [.ref (gS G q), .int v1, .int v2] (Qi G I R1 Z) := by
  refine entMF (by decide +kernel) (Nat.le_of_ble_eq_true rfl) ?_
  intro p e s m below meth c C hG ls hl
  have hl : lv_has ls 3 [(0, .ref (gS G q)), (1, .int v1), (2, .int v2)] := hl
  unfold pJS_indexOf2 at h
  refine rAload_n C dJS_indexOf2_0 hl 0 rfl ?_
  refine rCVi [] [] C hG h (fun h => cJS_isLatin1 hq h) mvJS_isLatin1 k_187 ⟨Nat.le_of_ble_eq_true rfl, Nat.le_of_ble_eq_true rfl⟩ ⟨rfl, rfl⟩ (rStrR C hG hq) rfl hl.1 (Nat.le_of_ble_eq_true rfl) dJS_indexOf2_1 ⟨Nat.zero_le _, Nat.zero_le _⟩ rfl (fun H locs x2 z1 h hG => ?_)
  refine rIfeq C (tgt := 23) h dJS_indexOf2_4 (by decide) (fun h => ?_) (fun h => ?_)
  · refine rAload_n C dJS_indexOf2_23 hl 0 rfl ?_
    refine rStrV C hG hq k_1194 dJS_indexOf2_24 ?_
    refine rIload_n C dJS_indexOf2_27 hl 1 rfl ?_
    refine rIload_n C dJS_indexOf2_28 hl 2 rfl ?_
    refine rAload_n C dJS_indexOf2_29 hl 0 rfl ?_
    refine rCVi [] [.int v2, .int v1, .ref (gV G q)] C hG h (fun h => cJS_length hq h) mvJS_length k_267 ⟨Nat.le_of_ble_eq_true rfl, Nat.le_of_ble_eq_true rfl⟩ ⟨rfl, rfl⟩ (rStrR C hG hq) rfl hl.1 (Nat.le_of_ble_eq_true rfl) dJS_indexOf2_30 ⟨Nat.zero_le _, Nat.zero_le _⟩ rfl (fun H locs x4 z3 h hG => ?_)
    cases h
  · refine rAload_n C dJS_indexOf2_7 hl 0 rfl ?_
    refine rStrV C hG hq k_1194 dJS_indexOf2_8 ?_
    refine rIload_n C dJS_indexOf2_11 hl 1 rfl ?_
    refine rIload_n C dJS_indexOf2_12 hl 2 rfl ?_
    refine rAload_n C dJS_indexOf2_13 hl 0 rfl ?_
    refine rCVi [] [.int v2, .int v1, .ref (gV G q)] C hG h (fun h => cJS_length hq h) mvJS_length k_267 ⟨Nat.le_of_ble_eq_true rfl, Nat.le_of_ble_eq_true rfl⟩ ⟨rfl, rfl⟩ (rStrR C hG hq) rfl hl.1 (Nat.le_of_ble_eq_true rfl) dJS_indexOf2_14 ⟨Nat.zero_le _, Nat.zero_le _⟩ rfl (fun H locs x6 z5 h hG => ?_)
    refine rCSi [.ref (gV G q), .int v1, .int v2, .int x6] [] C hG h (fun h => cJL_indexOf hq h) mvJL_indexOf k_268 ⟨Nat.le_of_ble_eq_true rfl, Nat.le_of_ble_eq_true rfl⟩ ⟨rfl, rfl⟩ rfl hl.1 (Nat.le_of_ble_eq_true rfl) dJS_indexOf2_17 ⟨Nat.zero_le _, Nat.zero_le _⟩ rfl (fun H locs x8 z7 h hG => ?_)
    refine lv_goto (tgt := 36) C.1 C.2.1 dJS_indexOf2_20 (by decide) ?_
    exact rReti C hG h dJS_indexOf2_36
theorem dJS_indexOf_0 : decode bJS_indexOf 0 = .ok (.aload_n 0, 1) := by decide +kernel
theorem dJS_indexOf_1 : decode bJS_indexOf 1 = .ok (.iload_n 1, 1) := by decide +kernel
theorem dJS_indexOf_2 : decode bJS_indexOf 2 = .ok (.iconst 0, 1) := by decide +kernel
theorem dJS_indexOf_3 : decode bJS_indexOf 3 = .ok (.invokevirtual 633, 3) := by decide +kernel
theorem dJS_indexOf_6 : decode bJS_indexOf 6 = .ok (.ireturn, 1) := by decide +kernel
theorem cJS_indexOf {l : Launch} {G : GT} {I : List Nat} {q : Nat} (hq : q < 3) {fu : Nat} {v1 : Int32} {z : Sg} {R1 : Int32} {Z : Sg} (h : pJS_indexOf fu q v1 z = some (R1, Z)) : Mt l yJS_indexOf rmJS_indexOf bJS_indexOf 2 (some .int) G I z [.ref (gS G q), .int v1] (Qi G I R1 Z) := by
  refine entMF (by decide +kernel) (Nat.le_of_ble_eq_true rfl) ?_
  intro p e s m below meth c C hG ls hl
  have hl : lv_has ls 2 [(0, .ref (gS G q)), (1, .int v1)] := hl
  unfold pJS_indexOf at h
  refine rAload_n C dJS_indexOf_0 hl 0 rfl ?_
  refine rIload_n C dJS_indexOf_1 hl 1 rfl ?_
  refine lv_iconst (v := 0) C.1 C.2.1 dJS_indexOf_2 (by decide) ?_
  refine rCVi [.int v1, .int 0] [] C hG h (fun h => cJS_indexOf2 hq h) mvJS_indexOf2 k_263 ⟨Nat.le_of_ble_eq_true rfl, Nat.le_of_ble_eq_true rfl⟩ ⟨rfl, rfl⟩ (rStrR C hG hq) rfl hl.1 (Nat.le_of_ble_eq_true rfl) dJS_indexOf_3 ⟨Nat.zero_le _, Nat.zero_le _⟩ rfl (fun H locs x2 z1 h hG => ?_)
  exact rReti C hG h dJS_indexOf_6
theorem dJI_bitCount_0 : decode bJI_bitCount 0 = .ok (.iload_n 0, 1) := by decide +kernel
theorem dJI_bitCount_1 : decode bJI_bitCount 1 = .ok (.iload_n 0, 1) := by decide +kernel
theorem dJI_bitCount_2 : decode bJI_bitCount 2 = .ok (.iconst 1, 1) := by decide +kernel
theorem dJI_bitCount_3 : decode bJI_bitCount 3 = .ok (.iushr, 1) := by decide +kernel
theorem dJI_bitCount_4 : decode bJI_bitCount 4 = .ok (.ldc_w 265, 3) := by decide +kernel
theorem dJI_bitCount_7 : decode bJI_bitCount 7 = .ok (.iand, 1) := by decide +kernel
theorem dJI_bitCount_8 : decode bJI_bitCount 8 = .ok (.isub, 1) := by decide +kernel
theorem dJI_bitCount_9 : decode bJI_bitCount 9 = .ok (.istore_n 0, 1) := by decide +kernel
theorem dJI_bitCount_10 : decode bJI_bitCount 10 = .ok (.iload_n 0, 1) := by decide +kernel
theorem dJI_bitCount_11 : decode bJI_bitCount 11 = .ok (.ldc_w 266, 3) := by decide +kernel
theorem dJI_bitCount_14 : decode bJI_bitCount 14 = .ok (.iand, 1) := by decide +kernel
theorem dJI_bitCount_15 : decode bJI_bitCount 15 = .ok (.iload_n 0, 1) := by decide +kernel
theorem dJI_bitCount_16 : decode bJI_bitCount 16 = .ok (.iconst 2, 1) := by decide +kernel
theorem dJI_bitCount_17 : decode bJI_bitCount 17 = .ok (.iushr, 1) := by decide +kernel
theorem dJI_bitCount_18 : decode bJI_bitCount 18 = .ok (.ldc_w 266, 3) := by decide +kernel
theorem dJI_bitCount_21 : decode bJI_bitCount 21 = .ok (.iand, 1) := by decide +kernel
theorem dJI_bitCount_22 : decode bJI_bitCount 22 = .ok (.iadd, 1) := by decide +kernel
theorem dJI_bitCount_23 : decode bJI_bitCount 23 = .ok (.istore_n 0, 1) := by decide +kernel
theorem dJI_bitCount_24 : decode bJI_bitCount 24 = .ok (.iload_n 0, 1) := by decide +kernel
theorem dJI_bitCount_25 : decode bJI_bitCount 25 = .ok (.iload_n 0, 1) := by decide +kernel
theorem dJI_bitCount_26 : decode bJI_bitCount 26 = .ok (.iconst 4, 1) := by decide +kernel
theorem dJI_bitCount_27 : decode bJI_bitCount 27 = .ok (.iushr, 1) := by decide +kernel
theorem dJI_bitCount_28 : decode bJI_bitCount 28 = .ok (.iadd, 1) := by decide +kernel
theorem dJI_bitCount_29 : decode bJI_bitCount 29 = .ok (.ldc_w 267, 3) := by decide +kernel
theorem dJI_bitCount_32 : decode bJI_bitCount 32 = .ok (.iand, 1) := by decide +kernel
theorem dJI_bitCount_33 : decode bJI_bitCount 33 = .ok (.istore_n 0, 1) := by decide +kernel
theorem dJI_bitCount_34 : decode bJI_bitCount 34 = .ok (.iload_n 0, 1) := by decide +kernel
theorem dJI_bitCount_35 : decode bJI_bitCount 35 = .ok (.iload_n 0, 1) := by decide +kernel
theorem dJI_bitCount_36 : decode bJI_bitCount 36 = .ok (.bipush 8, 2) := by decide +kernel
theorem dJI_bitCount_38 : decode bJI_bitCount 38 = .ok (.iushr, 1) := by decide +kernel
theorem dJI_bitCount_39 : decode bJI_bitCount 39 = .ok (.iadd, 1) := by decide +kernel
theorem dJI_bitCount_40 : decode bJI_bitCount 40 = .ok (.istore_n 0, 1) := by decide +kernel
theorem dJI_bitCount_41 : decode bJI_bitCount 41 = .ok (.iload_n 0, 1) := by decide +kernel
theorem dJI_bitCount_42 : decode bJI_bitCount 42 = .ok (.iload_n 0, 1) := by decide +kernel
theorem dJI_bitCount_43 : decode bJI_bitCount 43 = .ok (.bipush 16, 2) := by decide +kernel
theorem dJI_bitCount_45 : decode bJI_bitCount 45 = .ok (.iushr, 1) := by decide +kernel
theorem dJI_bitCount_46 : decode bJI_bitCount 46 = .ok (.iadd, 1) := by decide +kernel
theorem dJI_bitCount_47 : decode bJI_bitCount 47 = .ok (.istore_n 0, 1) := by decide +kernel
theorem dJI_bitCount_48 : decode bJI_bitCount 48 = .ok (.iload_n 0, 1) := by decide +kernel
theorem dJI_bitCount_49 : decode bJI_bitCount 49 = .ok (.bipush 63, 2) := by decide +kernel
theorem dJI_bitCount_51 : decode bJI_bitCount 51 = .ok (.iand, 1) := by decide +kernel
theorem dJI_bitCount_52 : decode bJI_bitCount 52 = .ok (.ireturn, 1) := by decide +kernel
theorem cJI_bitCount {l : Launch} {G : GT} {I : List Nat} {fu : Nat} {v0 : Int32} {z : Sg} {R1 : Int32} {Z : Sg} (h : pJI_bitCount fu v0 z = some (R1, Z)) : Mt l yJI_bitCount rmJI_bitCount bJI_bitCount 1 (some .int) G I z [.int v0] (Qi G I R1 Z) := by
  refine entMF (by decide +kernel) (Nat.le_of_ble_eq_true rfl) ?_
  intro p e s m below meth c C hG ls hl
  have hl : lv_has ls 1 [(0, .int v0)] := hl
  unfold pJI_bitCount at h
  refine rIload_n C dJI_bitCount_0 hl 0 rfl ?_
  refine rIload_n C dJI_bitCount_1 hl 0 rfl ?_
  refine lv_iconst (v := 1) C.1 C.2.1 dJI_bitCount_2 (by decide) ?_
  refine lv_iushr C.1 C.2.1 dJI_bitCount_3 rfl ?_
  refine lv_ldcw C.1 C.2.1 C.2.2.2.1 (C.2.2.2.2.1 _ k_416) dJI_bitCount_4 ?_
  refine lv_iand C.1 C.2.1 dJI_bitCount_7 ?_
  refine lv_isub C.1 C.2.1 dJI_bitCount_8 ?_
  refine rIstore_n C dJI_bitCount_9 hl h (by decide) [] rfl (fun x1 ls h hl => ?_)
  refine rIload_n C dJI_bitCount_10 hl 0 rfl ?_
  refine lv_ldcw C.1 C.2.1 C.2.2.2.1 (C.2.2.2.2.1 _ k_417) dJI_bitCount_11 ?_
  refine lv_iand C.1 C.2.1 dJI_bitCount_14 ?_
  refine rIload_n C dJI_bitCount_15 hl 0 rfl ?_
  refine lv_iconst (v := 2) C.1 C.2.1 dJI_bitCount_16 (by decide) ?_
  refine lv_iushr C.1 C.2.1 dJI_bitCount_17 rfl ?_
  refine lv_ldcw C.1 C.2.1 C.2.2.2.1 (C.2.2.2.2.1 _ k_417) dJI_bitCount_18 ?_
  refine lv_iand C.1 C.2.1 dJI_bitCount_21 ?_
  refine lv_iadd C.1 C.2.1 dJI_bitCount_22 ?_
  refine rIstore_n C dJI_bitCount_23 hl h (by decide) [] rfl (fun x2 ls h hl => ?_)
  refine rIload_n C dJI_bitCount_24 hl 0 rfl ?_
  refine rIload_n C dJI_bitCount_25 hl 0 rfl ?_
  refine lv_iconst (v := 4) C.1 C.2.1 dJI_bitCount_26 (by decide) ?_
  refine lv_iushr C.1 C.2.1 dJI_bitCount_27 rfl ?_
  refine lv_iadd C.1 C.2.1 dJI_bitCount_28 ?_
  refine lv_ldcw C.1 C.2.1 C.2.2.2.1 (C.2.2.2.2.1 _ k_418) dJI_bitCount_29 ?_
  refine lv_iand C.1 C.2.1 dJI_bitCount_32 ?_
  refine rIstore_n C dJI_bitCount_33 hl h (by decide) [] rfl (fun x3 ls h hl => ?_)
  refine rIload_n C dJI_bitCount_34 hl 0 rfl ?_
  refine rIload_n C dJI_bitCount_35 hl 0 rfl ?_
  refine lv_bipush (v := 8) C.1 C.2.1 dJI_bitCount_36 (by decide) ?_
  refine lv_iushr C.1 C.2.1 dJI_bitCount_38 rfl ?_
  refine lv_iadd C.1 C.2.1 dJI_bitCount_39 ?_
  refine rIstore_n C dJI_bitCount_40 hl h (by decide) [] rfl (fun x4 ls h hl => ?_)
  refine rIload_n C dJI_bitCount_41 hl 0 rfl ?_
  refine rIload_n C dJI_bitCount_42 hl 0 rfl ?_
  refine lv_bipush (v := 16) C.1 C.2.1 dJI_bitCount_43 (by decide) ?_
  refine lv_iushr C.1 C.2.1 dJI_bitCount_45 rfl ?_
  refine lv_iadd C.1 C.2.1 dJI_bitCount_46 ?_
  refine rIstore_n C dJI_bitCount_47 hl h (by decide) [] rfl (fun x5 ls h hl => ?_)
  refine rIload_n C dJI_bitCount_48 hl 0 rfl ?_
  refine lv_bipush (v := 63) C.1 C.2.1 dJI_bitCount_49 (by decide) ?_
  refine lv_iand C.1 C.2.1 dJI_bitCount_51 ?_
  exact rReti C hG h dJI_bitCount_52
theorem dJM_floorMod_0 : decode bJM_floorMod 0 = .ok (.iload_n 0, 1) := by decide +kernel
theorem dJM_floorMod_1 : decode bJM_floorMod 1 = .ok (.iload_n 1, 1) := by decide +kernel
theorem dJM_floorMod_2 : decode bJM_floorMod 2 = .ok (.irem, 1) := by decide +kernel
theorem dJM_floorMod_3 : decode bJM_floorMod 3 = .ok (.istore_n 2, 1) := by decide +kernel
theorem dJM_floorMod_4 : decode bJM_floorMod 4 = .ok (.iload_n 0, 1) := by decide +kernel
theorem dJM_floorMod_5 : decode bJM_floorMod 5 = .ok (.iload_n 1, 1) := by decide +kernel
theorem dJM_floorMod_6 : decode bJM_floorMod 6 = .ok (.ixor, 1) := by decide +kernel
theorem dJM_floorMod_7 : decode bJM_floorMod 7 = .ok (.ifCond .ge 11, 3) := by decide +kernel
theorem dJM_floorMod_10 : decode bJM_floorMod 10 = .ok (.iload_n 2, 1) := by decide +kernel
theorem dJM_floorMod_11 : decode bJM_floorMod 11 = .ok (.ifCond .eq 7, 3) := by decide +kernel
theorem dJM_floorMod_14 : decode bJM_floorMod 14 = .ok (.iload_n 2, 1) := by decide +kernel
theorem dJM_floorMod_15 : decode bJM_floorMod 15 = .ok (.iload_n 1, 1) := by decide +kernel
theorem dJM_floorMod_16 : decode bJM_floorMod 16 = .ok (.iadd, 1) := by decide +kernel
theorem dJM_floorMod_17 : decode bJM_floorMod 17 = .ok (.ireturn, 1) := by decide +kernel
theorem dJM_floorMod_18 : decode bJM_floorMod 18 = .ok (.iload_n 2, 1) := by decide +kernel
theorem dJM_floorMod_19 : decode bJM_floorMod 19 = .ok (.ireturn, 1) := by decide +kernel
theorem cJM_floorMod {l : Launch} {G : GT} {I : List Nat} {fu : Nat} {v0 : Int32} {v1 : Int32} {z : Sg} {R1 : Int32} {Z : Sg} (h : pJM_floorMod fu v0 v1 z = some (R1, Z)) : Mt l yJM_floorMod rmJM_floorMod bJM_floorMod 3 (some .int) G I z [.int v0, .int v1] (Qi G I R1 Z) := by
  refine entMF (by decide +kernel) (Nat.le_of_ble_eq_true rfl) ?_
  intro p e s m below meth c C hG ls hl
  have hl : lv_has ls 3 [(0, .int v0), (1, .int v1)] := hl
  unfold pJM_floorMod at h
  refine rIload_n C dJM_floorMod_0 hl 0 rfl ?_
  refine rIload_n C dJM_floorMod_1 hl 1 rfl ?_
  refine rIrem C h dJM_floorMod_2 (fun h => ?_)
  refine rIstore_n C dJM_floorMod_3 hl h (by decide) [(0, .int v0), (1, .int v1)] rfl (fun x1 ls h hl => ?_)
  refine rIload_n C dJM_floorMod_4 hl 1 rfl ?_
  refine rIload_n C dJM_floorMod_5 hl 2 rfl ?_
  refine lv_ixor C.1 C.2.1 dJM_floorMod_6 ?_
  refine rIfge C (tgt := 18) h dJM_floorMod_7 (by decide) (fun h => ?_) (fun h => ?_)
  · refine rIload_n C dJM_floorMod_18 hl 0 rfl ?_
    exact rReti C hG h dJM_floorMod_19
  · refine rIload_n C dJM_floorMod_10 hl 0 rfl ?_
    refine rIfeq C (tgt := 18) h dJM_floorMod_11 (by decide) (fun h => ?_) (fun h => ?_)
    · refine rIload_n C dJM_floorMod_18 hl 0 rfl ?_
      exact rReti C hG h dJM_floorMod_19
    · refine rIload_n C dJM_floorMod_14 hl 0 rfl ?_
      refine rIload_n C dJM_floorMod_15 hl 2 rfl ?_
      refine lv_iadd C.1 C.2.1 dJM_floorMod_16 ?_
      exact rReti C hG h dJM_floorMod_17
