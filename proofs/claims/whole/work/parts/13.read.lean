theorem dD_take_0 : decode bD_take 0 = .ok (.aload_n 0, 1) := by decide +kernel
theorem dD_take_1 : decode bD_take 1 = .ok (.getfield 22, 3) := by decide +kernel
theorem dD_take_4 : decode bD_take 4 = .ok (.sipush 160, 3) := by decide +kernel
theorem dD_take_7 : decode bD_take 7 = .ok (.if_icmp .ge 23, 3) := by decide +kernel
theorem dD_take_10 : decode bD_take 10 = .ok (.aload_n 0, 1) := by decide +kernel
theorem dD_take_11 : decode bD_take 11 = .ok (.getfield 18, 3) := by decide +kernel
theorem dD_take_14 : decode bD_take 14 = .ok (.aload_n 0, 1) := by decide +kernel
theorem dD_take_15 : decode bD_take 15 = .ok (.getfield 22, 3) := by decide +kernel
theorem dD_take_18 : decode bD_take 18 = .ok (.iload_n 1, 1) := by decide +kernel
theorem dD_take_19 : decode bD_take 19 = .ok (.iastore, 1) := by decide +kernel
theorem dD_take_20 : decode bD_take 20 = .ok (.aload_n 0, 1) := by decide +kernel
theorem dD_take_21 : decode bD_take 21 = .ok (.dup, 1) := by decide +kernel
theorem dD_take_22 : decode bD_take 22 = .ok (.getfield 22, 3) := by decide +kernel
theorem dD_take_25 : decode bD_take 25 = .ok (.iconst 1, 1) := by decide +kernel
theorem dD_take_26 : decode bD_take 26 = .ok (.iadd, 1) := by decide +kernel
theorem dD_take_27 : decode bD_take 27 = .ok (.putfield 22, 3) := by decide +kernel
theorem dD_take_30 : decode bD_take 30 = .ok (.return_, 1) := by decide +kernel
theorem cD_take {l : Launch} {G : GT} {I : List Nat} (hI : cI I) {fu : Nat} {v1 : Int32} {z : Sg} {Z : Sg} (h : pD_take fu v1 z = some Z) : Mt l yD_take rmD_take bD_take 2 none G I z [.ref (gA G 3), .int v1] (Qv G I Z) := by
  refine entM (by decide +kernel) (Nat.le_of_ble_eq_true rfl) ?_
  intro p e s m below meth c C hG ls hl
  have hl : lv_has ls 2 [(0, .ref (gA G 3)), (1, .int v1)] := hl
  unfold pD_take at h
  refine rAload_n C dD_take_0 hl 0 rfl ?_
  refine rGet C hG (hI 3 (by decide)) e_3 fiD_1 (v := .int (z 3 1)) rfl k_57 dD_take_1 ?_
  refine lv_sipush (v := 160) C.1 C.2.1 dD_take_4 (by decide) ?_
  refine rIcmpge C (tgt := 30) h dD_take_7 (by decide) (fun h => ?_) (fun h => ?_)
  · exact rRetv C hG h dD_take_30
  · refine rAload_n C dD_take_10 hl 0 rfl ?_
    refine rGet C hG (hI 3 (by decide)) e_3 fiD_2 (v := .ref (gA G 4)) rfl k_59 dD_take_11 ?_
    refine rAload_n C dD_take_14 hl 0 rfl ?_
    refine rGet C hG (hI 3 (by decide)) e_3 fiD_1 (v := .int (z 3 1)) rfl k_57 dD_take_15 ?_
    refine rIload_n C dD_take_18 hl 1 rfl ?_
    refine rIast C hG (hI 4 (by decide)) e_4 h dD_take_19 (fun H locs z1 h hG => ?_)
    refine rAload_n C dD_take_20 hl 0 rfl ?_
    refine lv_dup C.1 C.2.1 dD_take_21 rfl ?_
    refine rGet C hG (hI 3 (by decide)) e_3 fiD_1 (v := .int (z1 3 1)) rfl k_57 dD_take_22 ?_
    refine lv_iconst (v := 1) C.1 C.2.1 dD_take_25 (by decide) ?_
    refine lv_iadd C.1 C.2.1 dD_take_26 ?_
    refine rPut C hG (hI 3 (by decide)) e_3 fiD_1 tokD nmD rfl (fpD_1 _) (Nat.le_of_ble_eq_true rfl) rfl rfl k_57 h dD_take_27 (fun H locs z2 h hG => ?_)
    exact rRetv C hG h dD_take_30
theorem dD_isLetter_0 : decode bD_isLetter 0 = .ok (.iload_n 0, 1) := by decide +kernel
theorem dD_isLetter_1 : decode bD_isLetter 1 = .ok (.bipush 97, 2) := by decide +kernel
theorem dD_isLetter_3 : decode bD_isLetter 3 = .ok (.if_icmp .lt 13, 3) := by decide +kernel
theorem dD_isLetter_6 : decode bD_isLetter 6 = .ok (.iload_n 0, 1) := by decide +kernel
theorem dD_isLetter_7 : decode bD_isLetter 7 = .ok (.bipush 122, 2) := by decide +kernel
theorem dD_isLetter_9 : decode bD_isLetter 9 = .ok (.if_icmp .gt 7, 3) := by decide +kernel
theorem dD_isLetter_12 : decode bD_isLetter 12 = .ok (.iconst 1, 1) := by decide +kernel
theorem dD_isLetter_13 : decode bD_isLetter 13 = .ok (.goto 4, 3) := by decide +kernel
theorem dD_isLetter_16 : decode bD_isLetter 16 = .ok (.iconst 0, 1) := by decide +kernel
theorem dD_isLetter_17 : decode bD_isLetter 17 = .ok (.ireturn, 1) := by decide +kernel
theorem cD_isLetter {l : Launch} {G : GT} {I : List Nat} (hI : cI I) {fu : Nat} {v0 : Int32} {z : Sg} {R1 : Int32} {Z : Sg} (h : pD_isLetter fu v0 z = some (R1, Z)) : Mt l yD_isLetter rmD_isLetter bD_isLetter 1 (some .boolean) G I z [.int v0] (Qi G I R1 Z) := by
  refine entM (by decide +kernel) (Nat.le_of_ble_eq_true rfl) ?_
  intro p e s m below meth c C hG ls hl
  have hl : lv_has ls 1 [(0, .int v0)] := hl
  unfold pD_isLetter at h
  refine rIload_n C dD_isLetter_0 hl 0 rfl ?_
  refine lv_bipush (v := 97) C.1 C.2.1 dD_isLetter_1 (by decide) ?_
  refine rIcmplt C (tgt := 16) h dD_isLetter_3 (by decide) (fun h => ?_) (fun h => ?_)
  · refine lv_iconst (v := 0) C.1 C.2.1 dD_isLetter_16 (by decide) ?_
    exact rRetn C hG (ty := .boolean) rfl rfl h dD_isLetter_17
  · refine rIload_n C dD_isLetter_6 hl 0 rfl ?_
    refine lv_bipush (v := 122) C.1 C.2.1 dD_isLetter_7 (by decide) ?_
    refine rIcmpgt C (tgt := 16) h dD_isLetter_9 (by decide) (fun h => ?_) (fun h => ?_)
    · refine lv_iconst (v := 0) C.1 C.2.1 dD_isLetter_16 (by decide) ?_
      exact rRetn C hG (ty := .boolean) rfl rfl h dD_isLetter_17
    · refine lv_iconst (v := 1) C.1 C.2.1 dD_isLetter_12 (by decide) ?_
      refine lv_goto (tgt := 17) C.1 C.2.1 dD_isLetter_13 (by decide) ?_
      exact rRetn C hG (ty := .boolean) rfl rfl h dD_isLetter_17
theorem dD_isWordAt_0 : decode bD_isWordAt 0 = .ok (.iload_n 2, 1) := by decide +kernel
theorem dD_isWordAt_1 : decode bD_isWordAt 1 = .ok (.iload_n 1, 1) := by decide +kernel
theorem dD_isWordAt_2 : decode bD_isWordAt 2 = .ok (.isub, 1) := by decide +kernel
theorem dD_isWordAt_3 : decode bD_isWordAt 3 = .ok (.aload_n 0, 1) := by decide +kernel
theorem dD_isWordAt_4 : decode bD_isWordAt 4 = .ok (.getfield 26, 3) := by decide +kernel
theorem dD_isWordAt_7 : decode bD_isWordAt 7 = .ok (.aload_n 0, 1) := by decide +kernel
theorem dD_isWordAt_8 : decode bD_isWordAt 8 = .ok (.getfield 54, 3) := by decide +kernel
theorem dD_isWordAt_11 : decode bD_isWordAt 11 = .ok (.isub, 1) := by decide +kernel
theorem dD_isWordAt_12 : decode bD_isWordAt 12 = .ok (.if_icmp .eq 5, 3) := by decide +kernel
theorem dD_isWordAt_15 : decode bD_isWordAt 15 = .ok (.iconst 0, 1) := by decide +kernel
theorem dD_isWordAt_16 : decode bD_isWordAt 16 = .ok (.ireturn, 1) := by decide +kernel
theorem dD_isWordAt_17 : decode bD_isWordAt 17 = .ok (.iload_n 1, 1) := by decide +kernel
theorem dD_isWordAt_18 : decode bD_isWordAt 18 = .ok (.istore_n 3, 1) := by decide +kernel
theorem dD_isWordAt_19 : decode bD_isWordAt 19 = .ok (.iload_n 3, 1) := by decide +kernel
theorem dD_isWordAt_20 : decode bD_isWordAt 20 = .ok (.iload_n 2, 1) := by decide +kernel
theorem dD_isWordAt_21 : decode bD_isWordAt 21 = .ok (.if_icmp .ge 33, 3) := by decide +kernel
theorem dD_isWordAt_24 : decode bD_isWordAt 24 = .ok (.ldc 102, 2) := by decide +kernel
theorem dD_isWordAt_26 : decode bD_isWordAt 26 = .ok (.iload_n 3, 1) := by decide +kernel
theorem dD_isWordAt_27 : decode bD_isWordAt 27 = .ok (.invokevirtual 108, 3) := by decide +kernel
theorem dD_isWordAt_30 : decode bD_isWordAt 30 = .ok (.aload_n 0, 1) := by decide +kernel
theorem dD_isWordAt_31 : decode bD_isWordAt 31 = .ok (.getfield 18, 3) := by decide +kernel
theorem dD_isWordAt_34 : decode bD_isWordAt 34 = .ok (.aload_n 0, 1) := by decide +kernel
theorem dD_isWordAt_35 : decode bD_isWordAt 35 = .ok (.getfield 54, 3) := by decide +kernel
theorem dD_isWordAt_38 : decode bD_isWordAt 38 = .ok (.iload_n 3, 1) := by decide +kernel
theorem dD_isWordAt_39 : decode bD_isWordAt 39 = .ok (.iadd, 1) := by decide +kernel
theorem dD_isWordAt_40 : decode bD_isWordAt 40 = .ok (.iload_n 1, 1) := by decide +kernel
theorem dD_isWordAt_41 : decode bD_isWordAt 41 = .ok (.isub, 1) := by decide +kernel
theorem dD_isWordAt_42 : decode bD_isWordAt 42 = .ok (.iaload, 1) := by decide +kernel
theorem dD_isWordAt_43 : decode bD_isWordAt 43 = .ok (.if_icmp .eq 5, 3) := by decide +kernel
theorem dD_isWordAt_46 : decode bD_isWordAt 46 = .ok (.iconst 0, 1) := by decide +kernel
theorem dD_isWordAt_47 : decode bD_isWordAt 47 = .ok (.ireturn, 1) := by decide +kernel
theorem dD_isWordAt_48 : decode bD_isWordAt 48 = .ok (.iinc 3 1, 3) := by decide +kernel
theorem dD_isWordAt_51 : decode bD_isWordAt 51 = .ok (.goto (-32), 3) := by decide +kernel
theorem dD_isWordAt_54 : decode bD_isWordAt 54 = .ok (.iconst 1, 1) := by decide +kernel
theorem dD_isWordAt_55 : decode bD_isWordAt 55 = .ok (.ireturn, 1) := by decide +kernel
theorem wD_isWordAt_19 {p : Program} {l : Launch} {e : Env} {s : State} {m : MethodId} {args : Array Value} {below : List Frame} {meth : Method} {c : Code} {G : GT} {I : List Nat} (C : CX p s m args meth c ND bD_isWordAt 4 (some .boolean) G I) (hI : cI I) {fu : Nat} {R1 : Int32} {Z : Sg} : ∀ (k : Nat) {v1 : Int32} {v2 : Int32} {v3 : Int32} {z : Sg} {H : Heap} {locs : List Loc} {ls : Array Slot}, pD_isWordAt_19 fu k v1 v2 v3 z = some (R1, Z) → GW G I z s.heap H locs → lv_has ls 4 [(0, .ref (gA G 3)), (1, .int v1), (2, .int v2), (3, .int v3)] → W p l e rmD_isWordAt s m args below meth c H locs 0 0 (MQ below (Qi G I R1 Z) args s 0 0 (AD G I)) (F0 m 19 ls []) := by
  intro k
  induction k with
  | zero => intro v1 v2 v3 z H locs ls h hG hl; rw [pD_isWordAt_19] at h; cases h
  | succ k ih =>
    intro v1 v2 v3 z H locs ls h hG hl
    rw [pD_isWordAt_19] at h
    refine rIload_n C dD_isWordAt_19 hl 3 rfl ?_
    refine rIload_n C dD_isWordAt_20 hl 2 rfl ?_
    refine rIcmpge C (tgt := 54) h dD_isWordAt_21 (by decide) (fun h => ?_) (fun h => ?_)
    · refine lv_iconst (v := 1) C.1 C.2.1 dD_isWordAt_54 (by decide) ?_
      exact rRetn C hG (ty := .boolean) rfl rfl h dD_isWordAt_55
    · refine rLdcS1 C dD_isWordAt_24 ?_
      refine rIload_n C dD_isWordAt_26 hl 3 rfl ?_
      refine rCVi [.int v3] [] C hG h (fun h => cJS_charAt (by decide) h) mvJS_charAt k_246 ⟨Nat.le_of_ble_eq_true rfl, Nat.le_of_ble_eq_true rfl⟩ ⟨rfl, rfl⟩ (rStrR C hG (by decide)) rfl hl.1 (Nat.le_of_ble_eq_true rfl) dD_isWordAt_27 ⟨Nat.zero_le _, Nat.zero_le _⟩ rfl (fun H locs x2 z1 h hG => ?_)
      refine rAload_n C dD_isWordAt_30 hl 0 rfl ?_
      refine rGet C hG (hI 3 (by decide)) e_3 fiD_2 (v := .ref (gA G 4)) rfl k_59 dD_isWordAt_31 ?_
      refine rAload_n C dD_isWordAt_34 hl 0 rfl ?_
      refine rGet C hG (hI 3 (by decide)) e_3 fiD_5 (v := .int (z1 3 5)) rfl k_62 dD_isWordAt_35 ?_
      refine rIload_n C dD_isWordAt_38 hl 3 rfl ?_
      refine lv_iadd C.1 C.2.1 dD_isWordAt_39 ?_
      refine rIload_n C dD_isWordAt_40 hl 1 rfl ?_
      refine lv_isub C.1 C.2.1 dD_isWordAt_41 ?_
      refine rIald C hG (hI 4 (by decide)) e_4 h dD_isWordAt_42 (fun h => ?_)
      refine rIcmpeq C (tgt := 48) h dD_isWordAt_43 (by decide) (fun h => ?_) (fun h => ?_)
      · refine rIinc C dD_isWordAt_48 hl 3 rfl (d := 1) (by decide) h (by decide) [(0, .ref (gA G 3)), (1, .int v1), (2, .int v2)] rfl (fun x3 ls h hl => ?_)
        refine lv_goto (tgt := 19) C.1 C.2.1 dD_isWordAt_51 (by decide) ?_
        exact ih h hG (lv_sub hl [1, 2, 3, 0] rfl)
      · refine lv_iconst (v := 0) C.1 C.2.1 dD_isWordAt_46 (by decide) ?_
        exact rRetn C hG (ty := .boolean) rfl rfl h dD_isWordAt_47
theorem cD_isWordAt {l : Launch} {G : GT} {I : List Nat} (hI : cI I) {fu : Nat} {v1 : Int32} {v2 : Int32} {z : Sg} {R1 : Int32} {Z : Sg} (h : pD_isWordAt fu v1 v2 z = some (R1, Z)) : Mt l yD_isWordAt rmD_isWordAt bD_isWordAt 4 (some .boolean) G I z [.ref (gA G 3), .int v1, .int v2] (Qi G I R1 Z) := by
  refine entM (by decide +kernel) (Nat.le_of_ble_eq_true rfl) ?_
  intro p e s m below meth c C hG ls hl
  have hl : lv_has ls 4 [(0, .ref (gA G 3)), (1, .int v1), (2, .int v2)] := hl
  unfold pD_isWordAt at h
  refine rIload_n C dD_isWordAt_0 hl 2 rfl ?_
  refine rIload_n C dD_isWordAt_1 hl 1 rfl ?_
  refine lv_isub C.1 C.2.1 dD_isWordAt_2 ?_
  refine rAload_n C dD_isWordAt_3 hl 0 rfl ?_
  refine rGet C hG (hI 3 (by decide)) e_3 fiD_3 (v := .int (z 3 3)) rfl k_60 dD_isWordAt_4 ?_
  refine rAload_n C dD_isWordAt_7 hl 0 rfl ?_
  refine rGet C hG (hI 3 (by decide)) e_3 fiD_5 (v := .int (z 3 5)) rfl k_62 dD_isWordAt_8 ?_
  refine lv_isub C.1 C.2.1 dD_isWordAt_11 ?_
  refine rIcmpeq C (tgt := 17) h dD_isWordAt_12 (by decide) (fun h => ?_) (fun h => ?_)
  · refine rIload_n C dD_isWordAt_17 hl 1 rfl ?_
    refine rIstoreA_n C dD_isWordAt_18 hl (by decide) [(0, .ref (gA G 3)), (1, .int v1), (2, .int v2)] rfl (fun ls hl => ?_)
    exact wD_isWordAt_19 C hI _ h hG (lv_sub hl [1, 2, 3, 0] rfl)
  · refine lv_iconst (v := 0) C.1 C.2.1 dD_isWordAt_15 (by decide) ?_
    exact rRetn C hG (ty := .boolean) rfl rfl h dD_isWordAt_16
theorem dD_advanceWord_0 : decode bD_advanceWord 0 = .ok (.aload_n 0, 1) := by decide +kernel
theorem dD_advanceWord_1 : decode bD_advanceWord 1 = .ok (.getfield 26, 3) := by decide +kernel
theorem dD_advanceWord_4 : decode bD_advanceWord 4 = .ok (.aload_n 0, 1) := by decide +kernel
theorem dD_advanceWord_5 : decode bD_advanceWord 5 = .ok (.getfield 22, 3) := by decide +kernel
theorem dD_advanceWord_8 : decode bD_advanceWord 8 = .ok (.if_icmp .ge 31, 3) := by decide +kernel
theorem dD_advanceWord_11 : decode bD_advanceWord 11 = .ok (.aload_n 0, 1) := by decide +kernel
theorem dD_advanceWord_12 : decode bD_advanceWord 12 = .ok (.getfield 18, 3) := by decide +kernel
theorem dD_advanceWord_15 : decode bD_advanceWord 15 = .ok (.aload_n 0, 1) := by decide +kernel
theorem dD_advanceWord_16 : decode bD_advanceWord 16 = .ok (.getfield 26, 3) := by decide +kernel
theorem dD_advanceWord_19 : decode bD_advanceWord 19 = .ok (.iaload, 1) := by decide +kernel
theorem dD_advanceWord_20 : decode bD_advanceWord 20 = .ok (.invokestatic 82, 3) := by decide +kernel
theorem dD_advanceWord_23 : decode bD_advanceWord 23 = .ok (.ifCond .eq 16, 3) := by decide +kernel
theorem dD_advanceWord_26 : decode bD_advanceWord 26 = .ok (.aload_n 0, 1) := by decide +kernel
theorem dD_advanceWord_27 : decode bD_advanceWord 27 = .ok (.dup, 1) := by decide +kernel
theorem dD_advanceWord_28 : decode bD_advanceWord 28 = .ok (.getfield 26, 3) := by decide +kernel
theorem dD_advanceWord_31 : decode bD_advanceWord 31 = .ok (.iconst 1, 1) := by decide +kernel
theorem dD_advanceWord_32 : decode bD_advanceWord 32 = .ok (.iadd, 1) := by decide +kernel
theorem dD_advanceWord_33 : decode bD_advanceWord 33 = .ok (.putfield 26, 3) := by decide +kernel
theorem dD_advanceWord_36 : decode bD_advanceWord 36 = .ok (.goto (-36), 3) := by decide +kernel
theorem dD_advanceWord_39 : decode bD_advanceWord 39 = .ok (.aload_n 0, 1) := by decide +kernel
theorem dD_advanceWord_40 : decode bD_advanceWord 40 = .ok (.sipush 258, 3) := by decide +kernel
theorem dD_advanceWord_43 : decode bD_advanceWord 43 = .ok (.putfield 48, 3) := by decide +kernel
theorem dD_advanceWord_46 : decode bD_advanceWord 46 = .ok (.iconst 0, 1) := by decide +kernel
theorem dD_advanceWord_47 : decode bD_advanceWord 47 = .ok (.istore_n 1, 1) := by decide +kernel
theorem dD_advanceWord_48 : decode bD_advanceWord 48 = .ok (.iconst 0, 1) := by decide +kernel
theorem dD_advanceWord_49 : decode bD_advanceWord 49 = .ok (.istore_n 2, 1) := by decide +kernel
theorem dD_advanceWord_50 : decode bD_advanceWord 50 = .ok (.iconst 0, 1) := by decide +kernel
theorem dD_advanceWord_51 : decode bD_advanceWord 51 = .ok (.istore_n 3, 1) := by decide +kernel
theorem dD_advanceWord_52 : decode bD_advanceWord 52 = .ok (.iload_n 3, 1) := by decide +kernel
theorem dD_advanceWord_53 : decode bD_advanceWord 53 = .ok (.ldc 102, 2) := by decide +kernel
theorem dD_advanceWord_55 : decode bD_advanceWord 55 = .ok (.invokevirtual 104, 3) := by decide +kernel
theorem dD_advanceWord_58 : decode bD_advanceWord 58 = .ok (.if_icmp .ge 41, 3) := by decide +kernel
theorem dD_advanceWord_61 : decode bD_advanceWord 61 = .ok (.ldc 102, 2) := by decide +kernel
theorem dD_advanceWord_63 : decode bD_advanceWord 63 = .ok (.iload_n 3, 1) := by decide +kernel
theorem dD_advanceWord_64 : decode bD_advanceWord 64 = .ok (.invokevirtual 108, 3) := by decide +kernel
theorem dD_advanceWord_67 : decode bD_advanceWord 67 = .ok (.bipush 32, 2) := by decide +kernel
theorem dD_advanceWord_69 : decode bD_advanceWord 69 = .ok (.if_icmp .ne 24, 3) := by decide +kernel
theorem dD_advanceWord_72 : decode bD_advanceWord 72 = .ok (.aload_n 0, 1) := by decide +kernel
theorem dD_advanceWord_73 : decode bD_advanceWord 73 = .ok (.iload_n 2, 1) := by decide +kernel
theorem dD_advanceWord_74 : decode bD_advanceWord 74 = .ok (.iload_n 3, 1) := by decide +kernel
theorem dD_advanceWord_75 : decode bD_advanceWord 75 = .ok (.invokevirtual 112, 3) := by decide +kernel
theorem dD_advanceWord_78 : decode bD_advanceWord 78 = .ok (.ifCond .eq 8, 3) := by decide +kernel
theorem dD_advanceWord_81 : decode bD_advanceWord 81 = .ok (.aload_n 0, 1) := by decide +kernel
theorem dD_advanceWord_82 : decode bD_advanceWord 82 = .ok (.iload_n 1, 1) := by decide +kernel
theorem dD_advanceWord_83 : decode bD_advanceWord 83 = .ok (.putfield 48, 3) := by decide +kernel
theorem dD_advanceWord_86 : decode bD_advanceWord 86 = .ok (.iinc 1 1, 3) := by decide +kernel
theorem dD_advanceWord_89 : decode bD_advanceWord 89 = .ok (.iload_n 3, 1) := by decide +kernel
theorem dD_advanceWord_90 : decode bD_advanceWord 90 = .ok (.iconst 1, 1) := by decide +kernel
theorem dD_advanceWord_91 : decode bD_advanceWord 91 = .ok (.iadd, 1) := by decide +kernel
theorem dD_advanceWord_92 : decode bD_advanceWord 92 = .ok (.istore_n 2, 1) := by decide +kernel
theorem dD_advanceWord_93 : decode bD_advanceWord 93 = .ok (.iinc 3 1, 3) := by decide +kernel
theorem dD_advanceWord_96 : decode bD_advanceWord 96 = .ok (.goto (-44), 3) := by decide +kernel
theorem dD_advanceWord_99 : decode bD_advanceWord 99 = .ok (.return_, 1) := by decide +kernel
theorem wD_advanceWord_93 {p : Program} {l : Launch} {e : Env} {s : State} {m : MethodId} {args : Array Value} {below : List Frame} {meth : Method} {c : Code} {G : GT} {I : List Nat} (C : CX p s m args meth c ND bD_advanceWord 4 none G I) (hI : cI I) {fu : Nat} {Z : Sg} {rc52 : Int32 → Int32 → Int32 → Sg → Option Sg} (hr52 : ∀ {v1 : Int32} {v2 : Int32} {v3 : Int32} {z : Sg} {H : Heap} {locs : List Loc} {ls : Array Slot}, rc52 v1 v2 v3 z = some Z → GW G I z s.heap H locs → lv_has ls 4 [(0, .ref (gA G 3)), (1, .int v1), (2, .int v2), (3, .int v3)] → W p l e rmD_advanceWord s m args below meth c H locs 0 0 (MQ below (Qv G I Z) args s 0 0 (AD G I)) (F0 m 52 ls [])) {v1 : Int32} {v2 : Int32} {v3 : Int32} {z : Sg} {H : Heap} {locs : List Loc} {ls : Array Slot} (h : pD_advanceWord_93 fu rc52 v1 v2 v3 z = some Z) (hG : GW G I z s.heap H locs) (hl : lv_has ls 4 [(0, .ref (gA G 3)), (1, .int v1), (2, .int v2), (3, .int v3)]) : W p l e rmD_advanceWord s m args below meth c H locs 0 0 (MQ below (Qv G I Z) args s 0 0 (AD G I)) (F0 m 93 ls []) := by
  unfold pD_advanceWord_93 at h
  refine rIinc C dD_advanceWord_93 hl 3 rfl (d := 1) (by decide) h (by decide) [(0, .ref (gA G 3)), (1, .int v1), (2, .int v2)] rfl (fun x12 ls h hl => ?_)
  refine lv_goto (tgt := 52) C.1 C.2.1 dD_advanceWord_96 (by decide) ?_
  exact hr52 h hG (lv_sub hl [1, 2, 3, 0] rfl)
theorem wD_advanceWord_86 {p : Program} {l : Launch} {e : Env} {s : State} {m : MethodId} {args : Array Value} {below : List Frame} {meth : Method} {c : Code} {G : GT} {I : List Nat} (C : CX p s m args meth c ND bD_advanceWord 4 none G I) (hI : cI I) {fu : Nat} {Z : Sg} {rc52 : Int32 → Int32 → Int32 → Sg → Option Sg} (hr52 : ∀ {v1 : Int32} {v2 : Int32} {v3 : Int32} {z : Sg} {H : Heap} {locs : List Loc} {ls : Array Slot}, rc52 v1 v2 v3 z = some Z → GW G I z s.heap H locs → lv_has ls 4 [(0, .ref (gA G 3)), (1, .int v1), (2, .int v2), (3, .int v3)] → W p l e rmD_advanceWord s m args below meth c H locs 0 0 (MQ below (Qv G I Z) args s 0 0 (AD G I)) (F0 m 52 ls [])) {v1 : Int32} {v3 : Int32} {z : Sg} {H : Heap} {locs : List Loc} {ls : Array Slot} (h : pD_advanceWord_86 fu rc52 v1 v3 z = some Z) (hG : GW G I z s.heap H locs) (hl : lv_has ls 4 [(0, .ref (gA G 3)), (1, .int v1), (3, .int v3)]) : W p l e rmD_advanceWord s m args below meth c H locs 0 0 (MQ below (Qv G I Z) args s 0 0 (AD G I)) (F0 m 86 ls []) := by
  unfold pD_advanceWord_86 at h
  refine rIinc C dD_advanceWord_86 hl 1 rfl (d := 1) (by decide) h (by decide) [(0, .ref (gA G 3)), (3, .int v3)] rfl (fun x13 ls h hl => ?_)
  refine rIload_n C dD_advanceWord_89 hl 2 rfl ?_
  refine lv_iconst (v := 1) C.1 C.2.1 dD_advanceWord_90 (by decide) ?_
  refine lv_iadd C.1 C.2.1 dD_advanceWord_91 ?_
  refine rIstore_n C dD_advanceWord_92 hl h (by decide) [(1, .int x13), (0, .ref (gA G 3)), (3, .int v3)] rfl (fun x14 ls h hl => ?_)
  exact wD_advanceWord_93 C hI hr52 h hG (lv_sub hl [2, 1, 0, 3] rfl)
theorem wD_advanceWord_52 {p : Program} {l : Launch} {e : Env} {s : State} {m : MethodId} {args : Array Value} {below : List Frame} {meth : Method} {c : Code} {G : GT} {I : List Nat} (C : CX p s m args meth c ND bD_advanceWord 4 none G I) (hI : cI I) {fu : Nat} {Z : Sg} : ∀ (k : Nat) {v1 : Int32} {v2 : Int32} {v3 : Int32} {z : Sg} {H : Heap} {locs : List Loc} {ls : Array Slot}, pD_advanceWord_52 fu k v1 v2 v3 z = some Z → GW G I z s.heap H locs → lv_has ls 4 [(0, .ref (gA G 3)), (1, .int v1), (2, .int v2), (3, .int v3)] → W p l e rmD_advanceWord s m args below meth c H locs 0 0 (MQ below (Qv G I Z) args s 0 0 (AD G I)) (F0 m 52 ls []) := by
  intro k
  induction k with
  | zero => intro v1 v2 v3 z H locs ls h hG hl; rw [pD_advanceWord_52] at h; cases h
  | succ k ih =>
    intro v1 v2 v3 z H locs ls h hG hl
    rw [pD_advanceWord_52] at h
    refine rIload_n C dD_advanceWord_52 hl 3 rfl ?_
    refine rLdcS1 C dD_advanceWord_53 ?_
    refine rCVi [] [.int v3] C hG h (fun h => cJS_length (by decide) h) mvJS_length k_245 ⟨Nat.le_of_ble_eq_true rfl, Nat.le_of_ble_eq_true rfl⟩ ⟨rfl, rfl⟩ (rStrR C hG (by decide)) rfl hl.1 (Nat.le_of_ble_eq_true rfl) dD_advanceWord_55 ⟨Nat.zero_le _, Nat.zero_le _⟩ rfl (fun H locs x6 z5 h hG => ?_)
    refine rIcmpge C (tgt := 99) h dD_advanceWord_58 (by decide) (fun h => ?_) (fun h => ?_)
    · exact rRetv C hG h dD_advanceWord_99
    · refine rLdcS1 C dD_advanceWord_61 ?_
      refine rIload_n C dD_advanceWord_63 hl 3 rfl ?_
      refine rCVi [.int v3] [] C hG h (fun h => cJS_charAt (by decide) h) mvJS_charAt k_246 ⟨Nat.le_of_ble_eq_true rfl, Nat.le_of_ble_eq_true rfl⟩ ⟨rfl, rfl⟩ (rStrR C hG (by decide)) rfl hl.1 (Nat.le_of_ble_eq_true rfl) dD_advanceWord_64 ⟨Nat.zero_le _, Nat.zero_le _⟩ rfl (fun H locs x8 z7 h hG => ?_)
      refine lv_bipush (v := 32) C.1 C.2.1 dD_advanceWord_67 (by decide) ?_
      refine rIcmpne C (tgt := 93) h dD_advanceWord_69 (by decide) (fun h => ?_) (fun h => ?_)
      · exact wD_advanceWord_93 C hI ih h hG (lv_sub hl [0, 1, 2, 3] rfl)
      · refine rAload_n C dD_advanceWord_72 hl 0 rfl ?_
        refine rIload_n C dD_advanceWord_73 hl 2 rfl ?_
        refine rIload_n C dD_advanceWord_74 hl 3 rfl ?_
        refine rCVi [.int v2, .int v3] [] C hG h (fun h => cD_isWordAt hI h) mvD_isWordAt k_247 ⟨Nat.le_of_ble_eq_true rfl, Nat.le_of_ble_eq_true rfl⟩ ⟨rfl, rfl⟩ (rRecv C hG (hI 3 (by decide)) e_3 rfl) rfl hl.1 (Nat.le_of_ble_eq_true rfl) dD_advanceWord_75 ⟨Nat.zero_le _, Nat.zero_le _⟩ rfl (fun H locs x10 z9 h hG => ?_)
        refine rIfeq C (tgt := 86) h dD_advanceWord_78 (by decide) (fun h => ?_) (fun h => ?_)
        · exact wD_advanceWord_86 C hI ih h hG (lv_sub hl [0, 1, 3] rfl)
        · refine rAload_n C dD_advanceWord_81 hl 0 rfl ?_
          refine rIload_n C dD_advanceWord_82 hl 1 rfl ?_
          refine rPut C hG (hI 3 (by decide)) e_3 fiD_4 tokD nmD rfl (fpD_4 _) (Nat.le_of_ble_eq_true rfl) rfl rfl k_61 h dD_advanceWord_83 (fun H locs z11 h hG => ?_)
          exact wD_advanceWord_86 C hI ih h hG (lv_sub hl [0, 1, 3] rfl)
theorem wD_advanceWord_39 {p : Program} {l : Launch} {e : Env} {s : State} {m : MethodId} {args : Array Value} {below : List Frame} {meth : Method} {c : Code} {G : GT} {I : List Nat} (C : CX p s m args meth c ND bD_advanceWord 4 none G I) (hI : cI I) {fu : Nat} {Z : Sg} {z : Sg} {H : Heap} {locs : List Loc} {ls : Array Slot} (h : pD_advanceWord_39 fu z = some Z) (hG : GW G I z s.heap H locs) (hl : lv_has ls 4 [(0, .ref (gA G 3))]) : W p l e rmD_advanceWord s m args below meth c H locs 0 0 (MQ below (Qv G I Z) args s 0 0 (AD G I)) (F0 m 39 ls []) := by
  unfold pD_advanceWord_39 at h
  refine rAload_n C dD_advanceWord_39 hl 0 rfl ?_
  refine lv_sipush (v := 258) C.1 C.2.1 dD_advanceWord_40 (by decide) ?_
  refine rPut C hG (hI 3 (by decide)) e_3 fiD_4 tokD nmD rfl (fpD_4 _) (Nat.le_of_ble_eq_true rfl) rfl rfl k_61 h dD_advanceWord_43 (fun H locs z4 h hG => ?_)
  refine lv_iconst (v := 0) C.1 C.2.1 dD_advanceWord_46 (by decide) ?_
  refine rIstoreA_n C dD_advanceWord_47 hl (by decide) [(0, .ref (gA G 3))] rfl (fun ls hl => ?_)
  refine lv_iconst (v := 0) C.1 C.2.1 dD_advanceWord_48 (by decide) ?_
  refine rIstoreA_n C dD_advanceWord_49 hl (by decide) [(1, .int 0), (0, .ref (gA G 3))] rfl (fun ls hl => ?_)
  refine lv_iconst (v := 0) C.1 C.2.1 dD_advanceWord_50 (by decide) ?_
  refine rIstoreA_n C dD_advanceWord_51 hl (by decide) [(2, .int 0), (1, .int 0), (0, .ref (gA G 3))] rfl (fun ls hl => ?_)
  exact wD_advanceWord_52 C hI _ h hG (lv_sub hl [3, 2, 1, 0] rfl)
theorem wD_advanceWord_0 {p : Program} {l : Launch} {e : Env} {s : State} {m : MethodId} {args : Array Value} {below : List Frame} {meth : Method} {c : Code} {G : GT} {I : List Nat} (C : CX p s m args meth c ND bD_advanceWord 4 none G I) (hI : cI I) {fu : Nat} {Z : Sg} : ∀ (k : Nat) {z : Sg} {H : Heap} {locs : List Loc} {ls : Array Slot}, pD_advanceWord_0 fu k z = some Z → GW G I z s.heap H locs → lv_has ls 4 [(0, .ref (gA G 3))] → W p l e rmD_advanceWord s m args below meth c H locs 0 0 (MQ below (Qv G I Z) args s 0 0 (AD G I)) (F0 m 0 ls []) := by
  intro k
  induction k with
  | zero => intro z H locs ls h hG hl; rw [pD_advanceWord_0] at h; cases h
  | succ k ih =>
    intro z H locs ls h hG hl
    rw [pD_advanceWord_0] at h
    refine rAload_n C dD_advanceWord_0 hl 0 rfl ?_
    refine rGet C hG (hI 3 (by decide)) e_3 fiD_3 (v := .int (z 3 3)) rfl k_60 dD_advanceWord_1 ?_
    refine rAload_n C dD_advanceWord_4 hl 0 rfl ?_
    refine rGet C hG (hI 3 (by decide)) e_3 fiD_1 (v := .int (z 3 1)) rfl k_57 dD_advanceWord_5 ?_
    refine rIcmpge C (tgt := 39) h dD_advanceWord_8 (by decide) (fun h => ?_) (fun h => ?_)
    · exact wD_advanceWord_39 C hI h hG (lv_sub hl [0] rfl)
    · refine rAload_n C dD_advanceWord_11 hl 0 rfl ?_
      refine rGet C hG (hI 3 (by decide)) e_3 fiD_2 (v := .ref (gA G 4)) rfl k_59 dD_advanceWord_12 ?_
      refine rAload_n C dD_advanceWord_15 hl 0 rfl ?_
      refine rGet C hG (hI 3 (by decide)) e_3 fiD_3 (v := .int (z 3 3)) rfl k_60 dD_advanceWord_16 ?_
      refine rIald C hG (hI 4 (by decide)) e_4 h dD_advanceWord_19 (fun h => ?_)
      refine rCSi [.int (ga z 4 (z 3 3))] [] C hG h (fun h => cD_isLetter hI h) mvD_isLetter k_237 ⟨Nat.le_of_ble_eq_true rfl, Nat.le_of_ble_eq_true rfl⟩ ⟨rfl, rfl⟩ rfl hl.1 (Nat.le_of_ble_eq_true rfl) dD_advanceWord_20 ⟨Nat.zero_le _, Nat.zero_le _⟩ rfl (fun H locs x2 z1 h hG => ?_)
      refine rIfeq C (tgt := 39) h dD_advanceWord_23 (by decide) (fun h => ?_) (fun h => ?_)
      · exact wD_advanceWord_39 C hI h hG (lv_sub hl [0] rfl)
      · refine rAload_n C dD_advanceWord_26 hl 0 rfl ?_
        refine lv_dup C.1 C.2.1 dD_advanceWord_27 rfl ?_
        refine rGet C hG (hI 3 (by decide)) e_3 fiD_3 (v := .int (z1 3 3)) rfl k_60 dD_advanceWord_28 ?_
        refine lv_iconst (v := 1) C.1 C.2.1 dD_advanceWord_31 (by decide) ?_
        refine lv_iadd C.1 C.2.1 dD_advanceWord_32 ?_
        refine rPut C hG (hI 3 (by decide)) e_3 fiD_3 tokD nmD rfl (fpD_3 _) (Nat.le_of_ble_eq_true rfl) rfl rfl k_60 h dD_advanceWord_33 (fun H locs z3 h hG => ?_)
        refine lv_goto (tgt := 0) C.1 C.2.1 dD_advanceWord_36 (by decide) ?_
        exact ih h hG (lv_sub hl [0] rfl)
theorem cD_advanceWord {l : Launch} {G : GT} {I : List Nat} (hI : cI I) {fu : Nat} {z : Sg} {Z : Sg} (h : pD_advanceWord fu z = some Z) : Mt l yD_advanceWord rmD_advanceWord bD_advanceWord 4 none G I z [.ref (gA G 3)] (Qv G I Z) := by
  refine entM (by decide +kernel) (Nat.le_of_ble_eq_true rfl) ?_
  intro p e s m below meth c C hG ls hl
  have hl : lv_has ls 4 [(0, .ref (gA G 3))] := hl
  unfold pD_advanceWord at h
  exact wD_advanceWord_0 C hI _ h hG (lv_sub hl [0] rfl)
theorem dD_isDigit_0 : decode bD_isDigit 0 = .ok (.iload_n 0, 1) := by decide +kernel
theorem dD_isDigit_1 : decode bD_isDigit 1 = .ok (.bipush 48, 2) := by decide +kernel
theorem dD_isDigit_3 : decode bD_isDigit 3 = .ok (.if_icmp .lt 13, 3) := by decide +kernel
theorem dD_isDigit_6 : decode bD_isDigit 6 = .ok (.iload_n 0, 1) := by decide +kernel
theorem dD_isDigit_7 : decode bD_isDigit 7 = .ok (.bipush 57, 2) := by decide +kernel
theorem dD_isDigit_9 : decode bD_isDigit 9 = .ok (.if_icmp .gt 7, 3) := by decide +kernel
theorem dD_isDigit_12 : decode bD_isDigit 12 = .ok (.iconst 1, 1) := by decide +kernel
theorem dD_isDigit_13 : decode bD_isDigit 13 = .ok (.goto 4, 3) := by decide +kernel
theorem dD_isDigit_16 : decode bD_isDigit 16 = .ok (.iconst 0, 1) := by decide +kernel
theorem dD_isDigit_17 : decode bD_isDigit 17 = .ok (.ireturn, 1) := by decide +kernel
theorem cD_isDigit {l : Launch} {G : GT} {I : List Nat} (hI : cI I) {fu : Nat} {v0 : Int32} {z : Sg} {R1 : Int32} {Z : Sg} (h : pD_isDigit fu v0 z = some (R1, Z)) : Mt l yD_isDigit rmD_isDigit bD_isDigit 1 (some .boolean) G I z [.int v0] (Qi G I R1 Z) := by
  refine entM (by decide +kernel) (Nat.le_of_ble_eq_true rfl) ?_
  intro p e s m below meth c C hG ls hl
  have hl : lv_has ls 1 [(0, .int v0)] := hl
  unfold pD_isDigit at h
  refine rIload_n C dD_isDigit_0 hl 0 rfl ?_
  refine lv_bipush (v := 48) C.1 C.2.1 dD_isDigit_1 (by decide) ?_
  refine rIcmplt C (tgt := 16) h dD_isDigit_3 (by decide) (fun h => ?_) (fun h => ?_)
  · refine lv_iconst (v := 0) C.1 C.2.1 dD_isDigit_16 (by decide) ?_
    exact rRetn C hG (ty := .boolean) rfl rfl h dD_isDigit_17
  · refine rIload_n C dD_isDigit_6 hl 0 rfl ?_
    refine lv_bipush (v := 57) C.1 C.2.1 dD_isDigit_7 (by decide) ?_
    refine rIcmpgt C (tgt := 16) h dD_isDigit_9 (by decide) (fun h => ?_) (fun h => ?_)
    · refine lv_iconst (v := 0) C.1 C.2.1 dD_isDigit_16 (by decide) ?_
      exact rRetn C hG (ty := .boolean) rfl rfl h dD_isDigit_17
    · refine lv_iconst (v := 1) C.1 C.2.1 dD_isDigit_12 (by decide) ?_
      refine lv_goto (tgt := 17) C.1 C.2.1 dD_isDigit_13 (by decide) ?_
      exact rRetn C hG (ty := .boolean) rfl rfl h dD_isDigit_17
theorem dD_advanceNumber_0 : decode bD_advanceNumber 0 = .ok (.aload_n 0, 1) := by decide +kernel
theorem dD_advanceNumber_1 : decode bD_advanceNumber 1 = .ok (.iconst 0, 1) := by decide +kernel
theorem dD_advanceNumber_2 : decode bD_advanceNumber 2 = .ok (.putfield 79, 3) := by decide +kernel
theorem dD_advanceNumber_5 : decode bD_advanceNumber 5 = .ok (.aload_n 0, 1) := by decide +kernel
theorem dD_advanceNumber_6 : decode bD_advanceNumber 6 = .ok (.getfield 26, 3) := by decide +kernel
theorem dD_advanceNumber_9 : decode bD_advanceNumber 9 = .ok (.aload_n 0, 1) := by decide +kernel
theorem dD_advanceNumber_10 : decode bD_advanceNumber 10 = .ok (.getfield 22, 3) := by decide +kernel
theorem dD_advanceNumber_13 : decode bD_advanceNumber 13 = .ok (.if_icmp .ge 55, 3) := by decide +kernel
theorem dD_advanceNumber_16 : decode bD_advanceNumber 16 = .ok (.aload_n 0, 1) := by decide +kernel
theorem dD_advanceNumber_17 : decode bD_advanceNumber 17 = .ok (.getfield 18, 3) := by decide +kernel
theorem dD_advanceNumber_20 : decode bD_advanceNumber 20 = .ok (.aload_n 0, 1) := by decide +kernel
theorem dD_advanceNumber_21 : decode bD_advanceNumber 21 = .ok (.getfield 26, 3) := by decide +kernel
theorem dD_advanceNumber_24 : decode bD_advanceNumber 24 = .ok (.iaload, 1) := by decide +kernel
theorem dD_advanceNumber_25 : decode bD_advanceNumber 25 = .ok (.invokestatic 88, 3) := by decide +kernel
theorem dD_advanceNumber_28 : decode bD_advanceNumber 28 = .ok (.ifCond .eq 40, 3) := by decide +kernel
theorem dD_advanceNumber_31 : decode bD_advanceNumber 31 = .ok (.aload_n 0, 1) := by decide +kernel
theorem dD_advanceNumber_32 : decode bD_advanceNumber 32 = .ok (.aload_n 0, 1) := by decide +kernel
theorem dD_advanceNumber_33 : decode bD_advanceNumber 33 = .ok (.getfield 79, 3) := by decide +kernel
theorem dD_advanceNumber_36 : decode bD_advanceNumber 36 = .ok (.bipush 10, 2) := by decide +kernel
theorem dD_advanceNumber_38 : decode bD_advanceNumber 38 = .ok (.imul, 1) := by decide +kernel
theorem dD_advanceNumber_39 : decode bD_advanceNumber 39 = .ok (.aload_n 0, 1) := by decide +kernel
theorem dD_advanceNumber_40 : decode bD_advanceNumber 40 = .ok (.getfield 18, 3) := by decide +kernel
theorem dD_advanceNumber_43 : decode bD_advanceNumber 43 = .ok (.aload_n 0, 1) := by decide +kernel
theorem dD_advanceNumber_44 : decode bD_advanceNumber 44 = .ok (.getfield 26, 3) := by decide +kernel
theorem dD_advanceNumber_47 : decode bD_advanceNumber 47 = .ok (.iaload, 1) := by decide +kernel
theorem dD_advanceNumber_48 : decode bD_advanceNumber 48 = .ok (.iadd, 1) := by decide +kernel
theorem dD_advanceNumber_49 : decode bD_advanceNumber 49 = .ok (.bipush 48, 2) := by decide +kernel
theorem dD_advanceNumber_51 : decode bD_advanceNumber 51 = .ok (.isub, 1) := by decide +kernel
theorem dD_advanceNumber_52 : decode bD_advanceNumber 52 = .ok (.putfield 79, 3) := by decide +kernel
theorem dD_advanceNumber_55 : decode bD_advanceNumber 55 = .ok (.aload_n 0, 1) := by decide +kernel
theorem dD_advanceNumber_56 : decode bD_advanceNumber 56 = .ok (.dup, 1) := by decide +kernel
theorem dD_advanceNumber_57 : decode bD_advanceNumber 57 = .ok (.getfield 26, 3) := by decide +kernel
theorem dD_advanceNumber_60 : decode bD_advanceNumber 60 = .ok (.iconst 1, 1) := by decide +kernel
theorem dD_advanceNumber_61 : decode bD_advanceNumber 61 = .ok (.iadd, 1) := by decide +kernel
theorem dD_advanceNumber_62 : decode bD_advanceNumber 62 = .ok (.putfield 26, 3) := by decide +kernel
theorem dD_advanceNumber_65 : decode bD_advanceNumber 65 = .ok (.goto (-60), 3) := by decide +kernel
theorem dD_advanceNumber_68 : decode bD_advanceNumber 68 = .ok (.aload_n 0, 1) := by decide +kernel
theorem dD_advanceNumber_69 : decode bD_advanceNumber 69 = .ok (.aload_n 0, 1) := by decide +kernel
theorem dD_advanceNumber_70 : decode bD_advanceNumber 70 = .ok (.getfield 26, 3) := by decide +kernel
theorem dD_advanceNumber_73 : decode bD_advanceNumber 73 = .ok (.aload_n 0, 1) := by decide +kernel
theorem dD_advanceNumber_74 : decode bD_advanceNumber 74 = .ok (.getfield 54, 3) := by decide +kernel
theorem dD_advanceNumber_77 : decode bD_advanceNumber 77 = .ok (.isub, 1) := by decide +kernel
theorem dD_advanceNumber_78 : decode bD_advanceNumber 78 = .ok (.iconst 4, 1) := by decide +kernel
theorem dD_advanceNumber_79 : decode bD_advanceNumber 79 = .ok (.if_icmp .le 9, 3) := by decide +kernel
theorem dD_advanceNumber_82 : decode bD_advanceNumber 82 = .ok (.sipush 258, 3) := by decide +kernel
theorem dD_advanceNumber_85 : decode bD_advanceNumber 85 = .ok (.goto 6, 3) := by decide +kernel
theorem dD_advanceNumber_88 : decode bD_advanceNumber 88 = .ok (.sipush 256, 3) := by decide +kernel
theorem dD_advanceNumber_91 : decode bD_advanceNumber 91 = .ok (.putfield 48, 3) := by decide +kernel
theorem dD_advanceNumber_94 : decode bD_advanceNumber 94 = .ok (.return_, 1) := by decide +kernel
theorem wD_advanceNumber_91 {p : Program} {l : Launch} {e : Env} {s : State} {m : MethodId} {args : Array Value} {below : List Frame} {meth : Method} {c : Code} {G : GT} {I : List Nat} (C : CX p s m args meth c ND bD_advanceNumber 1 none G I) (hI : cI I) {fu : Nat} {Z : Sg} {t1 : Int32} {z : Sg} {H : Heap} {locs : List Loc} {ls : Array Slot} (h : pD_advanceNumber_91 fu t1 z = some Z) (hG : GW G I z s.heap H locs) (hl : lv_has ls 1 []) : W p l e rmD_advanceNumber s m args below meth c H locs 0 0 (MQ below (Qv G I Z) args s 0 0 (AD G I)) (F0 m 91 ls [.int t1, .ref (gA G 3)]) := by
  unfold pD_advanceNumber_91 at h
  refine rPut C hG (hI 3 (by decide)) e_3 fiD_4 tokD nmD rfl (fpD_4 _) (Nat.le_of_ble_eq_true rfl) rfl rfl k_61 h dD_advanceNumber_91 (fun H locs z6 h hG => ?_)
  exact rRetv C hG h dD_advanceNumber_94
theorem wD_advanceNumber_68 {p : Program} {l : Launch} {e : Env} {s : State} {m : MethodId} {args : Array Value} {below : List Frame} {meth : Method} {c : Code} {G : GT} {I : List Nat} (C : CX p s m args meth c ND bD_advanceNumber 1 none G I) (hI : cI I) {fu : Nat} {Z : Sg} {z : Sg} {H : Heap} {locs : List Loc} {ls : Array Slot} (h : pD_advanceNumber_68 fu z = some Z) (hG : GW G I z s.heap H locs) (hl : lv_has ls 1 [(0, .ref (gA G 3))]) : W p l e rmD_advanceNumber s m args below meth c H locs 0 0 (MQ below (Qv G I Z) args s 0 0 (AD G I)) (F0 m 68 ls []) := by
  unfold pD_advanceNumber_68 at h
  refine rAload_n C dD_advanceNumber_68 hl 0 rfl ?_
  refine rAload_n C dD_advanceNumber_69 hl 0 rfl ?_
  refine rGet C hG (hI 3 (by decide)) e_3 fiD_3 (v := .int (z 3 3)) rfl k_60 dD_advanceNumber_70 ?_
  refine rAload_n C dD_advanceNumber_73 hl 0 rfl ?_
  refine rGet C hG (hI 3 (by decide)) e_3 fiD_5 (v := .int (z 3 5)) rfl k_62 dD_advanceNumber_74 ?_
  refine lv_isub C.1 C.2.1 dD_advanceNumber_77 ?_
  refine lv_iconst (v := 4) C.1 C.2.1 dD_advanceNumber_78 (by decide) ?_
  refine rIcmple C (tgt := 88) h dD_advanceNumber_79 (by decide) (fun h => ?_) (fun h => ?_)
  · refine lv_sipush (v := 256) C.1 C.2.1 dD_advanceNumber_88 (by decide) ?_
    exact wD_advanceNumber_91 C hI h hG (lv_sub hl [] rfl)
  · refine lv_sipush (v := 258) C.1 C.2.1 dD_advanceNumber_82 (by decide) ?_
    refine lv_goto (tgt := 91) C.1 C.2.1 dD_advanceNumber_85 (by decide) ?_
    exact wD_advanceNumber_91 C hI h hG (lv_sub hl [] rfl)
theorem wD_advanceNumber_5 {p : Program} {l : Launch} {e : Env} {s : State} {m : MethodId} {args : Array Value} {below : List Frame} {meth : Method} {c : Code} {G : GT} {I : List Nat} (C : CX p s m args meth c ND bD_advanceNumber 1 none G I) (hI : cI I) {fu : Nat} {Z : Sg} : ∀ (k : Nat) {z : Sg} {H : Heap} {locs : List Loc} {ls : Array Slot}, pD_advanceNumber_5 fu k z = some Z → GW G I z s.heap H locs → lv_has ls 1 [(0, .ref (gA G 3))] → W p l e rmD_advanceNumber s m args below meth c H locs 0 0 (MQ below (Qv G I Z) args s 0 0 (AD G I)) (F0 m 5 ls []) := by
  intro k
  induction k with
  | zero => intro z H locs ls h hG hl; rw [pD_advanceNumber_5] at h; cases h
  | succ k ih =>
    intro z H locs ls h hG hl
    rw [pD_advanceNumber_5] at h
    refine rAload_n C dD_advanceNumber_5 hl 0 rfl ?_
    refine rGet C hG (hI 3 (by decide)) e_3 fiD_3 (v := .int (z 3 3)) rfl k_60 dD_advanceNumber_6 ?_
    refine rAload_n C dD_advanceNumber_9 hl 0 rfl ?_
    refine rGet C hG (hI 3 (by decide)) e_3 fiD_1 (v := .int (z 3 1)) rfl k_57 dD_advanceNumber_10 ?_
    refine rIcmpge C (tgt := 68) h dD_advanceNumber_13 (by decide) (fun h => ?_) (fun h => ?_)
    · exact wD_advanceNumber_68 C hI h hG (lv_sub hl [0] rfl)
    · refine rAload_n C dD_advanceNumber_16 hl 0 rfl ?_
      refine rGet C hG (hI 3 (by decide)) e_3 fiD_2 (v := .ref (gA G 4)) rfl k_59 dD_advanceNumber_17 ?_
      refine rAload_n C dD_advanceNumber_20 hl 0 rfl ?_
      refine rGet C hG (hI 3 (by decide)) e_3 fiD_3 (v := .int (z 3 3)) rfl k_60 dD_advanceNumber_21 ?_
      refine rIald C hG (hI 4 (by decide)) e_4 h dD_advanceNumber_24 (fun h => ?_)
      refine rCSi [.int (ga z 4 (z 3 3))] [] C hG h (fun h => cD_isDigit hI h) mvD_isDigit k_251 ⟨Nat.le_of_ble_eq_true rfl, Nat.le_of_ble_eq_true rfl⟩ ⟨rfl, rfl⟩ rfl hl.1 (Nat.le_of_ble_eq_true rfl) dD_advanceNumber_25 ⟨Nat.zero_le _, Nat.zero_le _⟩ rfl (fun H locs x3 z2 h hG => ?_)
      refine rIfeq C (tgt := 68) h dD_advanceNumber_28 (by decide) (fun h => ?_) (fun h => ?_)
      · exact wD_advanceNumber_68 C hI h hG (lv_sub hl [0] rfl)
      · refine rAload_n C dD_advanceNumber_31 hl 0 rfl ?_
        refine rAload_n C dD_advanceNumber_32 hl 0 rfl ?_
        refine rGet C hG (hI 3 (by decide)) e_3 fiD_6 (v := .int (z2 3 6)) rfl k_63 dD_advanceNumber_33 ?_
        refine lv_bipush (v := 10) C.1 C.2.1 dD_advanceNumber_36 (by decide) ?_
        refine lv_imul C.1 C.2.1 dD_advanceNumber_38 ?_
        refine rAload_n C dD_advanceNumber_39 hl 0 rfl ?_
        refine rGet C hG (hI 3 (by decide)) e_3 fiD_2 (v := .ref (gA G 4)) rfl k_59 dD_advanceNumber_40 ?_
        refine rAload_n C dD_advanceNumber_43 hl 0 rfl ?_
        refine rGet C hG (hI 3 (by decide)) e_3 fiD_3 (v := .int (z2 3 3)) rfl k_60 dD_advanceNumber_44 ?_
        refine rIald C hG (hI 4 (by decide)) e_4 h dD_advanceNumber_47 (fun h => ?_)
        refine lv_iadd C.1 C.2.1 dD_advanceNumber_48 ?_
        refine lv_bipush (v := 48) C.1 C.2.1 dD_advanceNumber_49 (by decide) ?_
        refine lv_isub C.1 C.2.1 dD_advanceNumber_51 ?_
        refine rPut C hG (hI 3 (by decide)) e_3 fiD_6 tokD nmD rfl (fpD_6 _) (Nat.le_of_ble_eq_true rfl) rfl rfl k_63 h dD_advanceNumber_52 (fun H locs z4 h hG => ?_)
        refine rAload_n C dD_advanceNumber_55 hl 0 rfl ?_
        refine lv_dup C.1 C.2.1 dD_advanceNumber_56 rfl ?_
        refine rGet C hG (hI 3 (by decide)) e_3 fiD_3 (v := .int (z4 3 3)) rfl k_60 dD_advanceNumber_57 ?_
        refine lv_iconst (v := 1) C.1 C.2.1 dD_advanceNumber_60 (by decide) ?_
        refine lv_iadd C.1 C.2.1 dD_advanceNumber_61 ?_
        refine rPut C hG (hI 3 (by decide)) e_3 fiD_3 tokD nmD rfl (fpD_3 _) (Nat.le_of_ble_eq_true rfl) rfl rfl k_60 h dD_advanceNumber_62 (fun H locs z5 h hG => ?_)
        refine lv_goto (tgt := 5) C.1 C.2.1 dD_advanceNumber_65 (by decide) ?_
        exact ih h hG (lv_sub hl [0] rfl)
theorem cD_advanceNumber {l : Launch} {G : GT} {I : List Nat} (hI : cI I) {fu : Nat} {z : Sg} {Z : Sg} (h : pD_advanceNumber fu z = some Z) : Mt l yD_advanceNumber rmD_advanceNumber bD_advanceNumber 1 none G I z [.ref (gA G 3)] (Qv G I Z) := by
  refine entM (by decide +kernel) (Nat.le_of_ble_eq_true rfl) ?_
  intro p e s m below meth c C hG ls hl
  have hl : lv_has ls 1 [(0, .ref (gA G 3))] := hl
  unfold pD_advanceNumber at h
  refine rAload_n C dD_advanceNumber_0 hl 0 rfl ?_
  refine lv_iconst (v := 0) C.1 C.2.1 dD_advanceNumber_1 (by decide) ?_
  refine rPut C hG (hI 3 (by decide)) e_3 fiD_6 tokD nmD rfl (fpD_6 _) (Nat.le_of_ble_eq_true rfl) rfl rfl k_63 h dD_advanceNumber_2 (fun H locs z1 h hG => ?_)
  exact wD_advanceNumber_5 C hI _ h hG (lv_sub hl [0] rfl)
theorem dD_advance_0 : decode bD_advance 0 = .ok (.aload_n 0, 1) := by decide +kernel
theorem dD_advance_1 : decode bD_advance 1 = .ok (.getfield 26, 3) := by decide +kernel
theorem dD_advance_4 : decode bD_advance 4 = .ok (.aload_n 0, 1) := by decide +kernel
theorem dD_advance_5 : decode bD_advance 5 = .ok (.getfield 22, 3) := by decide +kernel
theorem dD_advance_8 : decode bD_advance 8 = .ok (.if_icmp .ge 44, 3) := by decide +kernel
theorem dD_advance_11 : decode bD_advance 11 = .ok (.aload_n 0, 1) := by decide +kernel
theorem dD_advance_12 : decode bD_advance 12 = .ok (.getfield 18, 3) := by decide +kernel
theorem dD_advance_15 : decode bD_advance 15 = .ok (.aload_n 0, 1) := by decide +kernel
theorem dD_advance_16 : decode bD_advance 16 = .ok (.getfield 26, 3) := by decide +kernel
theorem dD_advance_19 : decode bD_advance 19 = .ok (.iaload, 1) := by decide +kernel
theorem dD_advance_20 : decode bD_advance 20 = .ok (.bipush 32, 2) := by decide +kernel
theorem dD_advance_22 : decode bD_advance 22 = .ok (.if_icmp .eq 17, 3) := by decide +kernel
theorem dD_advance_25 : decode bD_advance 25 = .ok (.aload_n 0, 1) := by decide +kernel
theorem dD_advance_26 : decode bD_advance 26 = .ok (.getfield 18, 3) := by decide +kernel
theorem dD_advance_29 : decode bD_advance 29 = .ok (.aload_n 0, 1) := by decide +kernel
theorem dD_advance_30 : decode bD_advance 30 = .ok (.getfield 26, 3) := by decide +kernel
theorem dD_advance_33 : decode bD_advance 33 = .ok (.iaload, 1) := by decide +kernel
theorem dD_advance_34 : decode bD_advance 34 = .ok (.bipush 10, 2) := by decide +kernel
theorem dD_advance_36 : decode bD_advance 36 = .ok (.if_icmp .ne 16, 3) := by decide +kernel
theorem dD_advance_39 : decode bD_advance 39 = .ok (.aload_n 0, 1) := by decide +kernel
theorem dD_advance_40 : decode bD_advance 40 = .ok (.dup, 1) := by decide +kernel
theorem dD_advance_41 : decode bD_advance 41 = .ok (.getfield 26, 3) := by decide +kernel
theorem dD_advance_44 : decode bD_advance 44 = .ok (.iconst 1, 1) := by decide +kernel
theorem dD_advance_45 : decode bD_advance 45 = .ok (.iadd, 1) := by decide +kernel
theorem dD_advance_46 : decode bD_advance 46 = .ok (.putfield 26, 3) := by decide +kernel
theorem dD_advance_49 : decode bD_advance 49 = .ok (.goto (-49), 3) := by decide +kernel
theorem dD_advance_52 : decode bD_advance 52 = .ok (.aload_n 0, 1) := by decide +kernel
theorem dD_advance_53 : decode bD_advance 53 = .ok (.aload_n 0, 1) := by decide +kernel
theorem dD_advance_54 : decode bD_advance 54 = .ok (.getfield 26, 3) := by decide +kernel
theorem dD_advance_57 : decode bD_advance 57 = .ok (.putfield 54, 3) := by decide +kernel
theorem dD_advance_60 : decode bD_advance 60 = .ok (.aload_n 0, 1) := by decide +kernel
theorem dD_advance_61 : decode bD_advance 61 = .ok (.getfield 26, 3) := by decide +kernel
theorem dD_advance_64 : decode bD_advance 64 = .ok (.aload_n 0, 1) := by decide +kernel
theorem dD_advance_65 : decode bD_advance 65 = .ok (.getfield 22, 3) := by decide +kernel
theorem dD_advance_68 : decode bD_advance 68 = .ok (.if_icmp .lt 13, 3) := by decide +kernel
theorem dD_advance_71 : decode bD_advance 71 = .ok (.aload_n 0, 1) := by decide +kernel
theorem dD_advance_72 : decode bD_advance 72 = .ok (.sipush 257, 3) := by decide +kernel
theorem dD_advance_75 : decode bD_advance 75 = .ok (.putfield 48, 3) := by decide +kernel
theorem dD_advance_78 : decode bD_advance 78 = .ok (.goto 94, 3) := by decide +kernel
theorem dD_advance_81 : decode bD_advance 81 = .ok (.aload_n 0, 1) := by decide +kernel
theorem dD_advance_82 : decode bD_advance 82 = .ok (.getfield 18, 3) := by decide +kernel
theorem dD_advance_85 : decode bD_advance 85 = .ok (.aload_n 0, 1) := by decide +kernel
theorem dD_advance_86 : decode bD_advance 86 = .ok (.getfield 26, 3) := by decide +kernel
theorem dD_advance_89 : decode bD_advance 89 = .ok (.iaload, 1) := by decide +kernel
theorem dD_advance_90 : decode bD_advance 90 = .ok (.invokestatic 82, 3) := by decide +kernel
theorem dD_advance_93 : decode bD_advance 93 = .ok (.ifCond .eq 10, 3) := by decide +kernel
theorem dD_advance_96 : decode bD_advance 96 = .ok (.aload_n 0, 1) := by decide +kernel
theorem dD_advance_97 : decode bD_advance 97 = .ok (.invokevirtual 85, 3) := by decide +kernel
theorem dD_advance_100 : decode bD_advance 100 = .ok (.goto 72, 3) := by decide +kernel
theorem dD_advance_103 : decode bD_advance 103 = .ok (.aload_n 0, 1) := by decide +kernel
theorem dD_advance_104 : decode bD_advance 104 = .ok (.getfield 18, 3) := by decide +kernel
theorem dD_advance_107 : decode bD_advance 107 = .ok (.aload_n 0, 1) := by decide +kernel
theorem dD_advance_108 : decode bD_advance 108 = .ok (.getfield 26, 3) := by decide +kernel
theorem dD_advance_111 : decode bD_advance 111 = .ok (.iaload, 1) := by decide +kernel
theorem dD_advance_112 : decode bD_advance 112 = .ok (.invokestatic 88, 3) := by decide +kernel
theorem dD_advance_115 : decode bD_advance 115 = .ok (.ifCond .eq 10, 3) := by decide +kernel
theorem dD_advance_118 : decode bD_advance 118 = .ok (.aload_n 0, 1) := by decide +kernel
theorem dD_advance_119 : decode bD_advance 119 = .ok (.invokevirtual 91, 3) := by decide +kernel
theorem dD_advance_122 : decode bD_advance 122 = .ok (.goto 50, 3) := by decide +kernel
theorem dD_advance_125 : decode bD_advance 125 = .ok (.aload_n 0, 1) := by decide +kernel
theorem dD_advance_126 : decode bD_advance 126 = .ok (.ldc 94, 2) := by decide +kernel
theorem dD_advance_128 : decode bD_advance 128 = .ok (.aload_n 0, 1) := by decide +kernel
theorem dD_advance_129 : decode bD_advance 129 = .ok (.getfield 18, 3) := by decide +kernel
theorem dD_advance_132 : decode bD_advance 132 = .ok (.aload_n 0, 1) := by decide +kernel
theorem dD_advance_133 : decode bD_advance 133 = .ok (.getfield 26, 3) := by decide +kernel
theorem dD_advance_136 : decode bD_advance 136 = .ok (.iaload, 1) := by decide +kernel
theorem dD_advance_137 : decode bD_advance 137 = .ok (.i2c, 1) := by decide +kernel
theorem dD_advance_138 : decode bD_advance 138 = .ok (.invokevirtual 96, 3) := by decide +kernel
theorem dD_advance_141 : decode bD_advance 141 = .ok (.ifCond .lt 15, 3) := by decide +kernel
theorem dD_advance_144 : decode bD_advance 144 = .ok (.aload_n 0, 1) := by decide +kernel
theorem dD_advance_145 : decode bD_advance 145 = .ok (.getfield 18, 3) := by decide +kernel
theorem dD_advance_148 : decode bD_advance 148 = .ok (.aload_n 0, 1) := by decide +kernel
theorem dD_advance_149 : decode bD_advance 149 = .ok (.getfield 26, 3) := by decide +kernel
theorem dD_advance_152 : decode bD_advance 152 = .ok (.iaload, 1) := by decide +kernel
theorem dD_advance_153 : decode bD_advance 153 = .ok (.goto 6, 3) := by decide +kernel
theorem dD_advance_156 : decode bD_advance 156 = .ok (.sipush 258, 3) := by decide +kernel
theorem dD_advance_159 : decode bD_advance 159 = .ok (.putfield 48, 3) := by decide +kernel
theorem dD_advance_162 : decode bD_advance 162 = .ok (.aload_n 0, 1) := by decide +kernel
theorem dD_advance_163 : decode bD_advance 163 = .ok (.dup, 1) := by decide +kernel
theorem dD_advance_164 : decode bD_advance 164 = .ok (.getfield 26, 3) := by decide +kernel
theorem dD_advance_167 : decode bD_advance 167 = .ok (.iconst 1, 1) := by decide +kernel
theorem dD_advance_168 : decode bD_advance 168 = .ok (.iadd, 1) := by decide +kernel
theorem dD_advance_169 : decode bD_advance 169 = .ok (.putfield 26, 3) := by decide +kernel
theorem dD_advance_172 : decode bD_advance 172 = .ok (.return_, 1) := by decide +kernel
theorem wD_advance_39 {p : Program} {l : Launch} {e : Env} {s : State} {m : MethodId} {args : Array Value} {below : List Frame} {meth : Method} {c : Code} {G : GT} {I : List Nat} (C : CX p s m args meth c ND bD_advance 1 none G I) (hI : cI I) {fu : Nat} {Z : Sg} {rc0 : Sg → Option Sg} (hr0 : ∀ {z : Sg} {H : Heap} {locs : List Loc} {ls : Array Slot}, rc0 z = some Z → GW G I z s.heap H locs → lv_has ls 1 [(0, .ref (gA G 3))] → W p l e rmD_advance s m args below meth c H locs 0 0 (MQ below (Qv G I Z) args s 0 0 (AD G I)) (F0 m 0 ls [])) {z : Sg} {H : Heap} {locs : List Loc} {ls : Array Slot} (h : pD_advance_39 fu rc0 z = some Z) (hG : GW G I z s.heap H locs) (hl : lv_has ls 1 [(0, .ref (gA G 3))]) : W p l e rmD_advance s m args below meth c H locs 0 0 (MQ below (Qv G I Z) args s 0 0 (AD G I)) (F0 m 39 ls []) := by
  unfold pD_advance_39 at h
  refine rAload_n C dD_advance_39 hl 0 rfl ?_
  refine lv_dup C.1 C.2.1 dD_advance_40 rfl ?_
  refine rGet C hG (hI 3 (by decide)) e_3 fiD_3 (v := .int (z 3 3)) rfl k_60 dD_advance_41 ?_
  refine lv_iconst (v := 1) C.1 C.2.1 dD_advance_44 (by decide) ?_
  refine lv_iadd C.1 C.2.1 dD_advance_45 ?_
  refine rPut C hG (hI 3 (by decide)) e_3 fiD_3 tokD nmD rfl (fpD_3 _) (Nat.le_of_ble_eq_true rfl) rfl rfl k_60 h dD_advance_46 (fun H locs z11 h hG => ?_)
  refine lv_goto (tgt := 0) C.1 C.2.1 dD_advance_49 (by decide) ?_
  exact hr0 h hG (lv_sub hl [0] rfl)
theorem wD_advance_159 {p : Program} {l : Launch} {e : Env} {s : State} {m : MethodId} {args : Array Value} {below : List Frame} {meth : Method} {c : Code} {G : GT} {I : List Nat} (C : CX p s m args meth c ND bD_advance 1 none G I) (hI : cI I) {fu : Nat} {Z : Sg} {t1 : Int32} {z : Sg} {H : Heap} {locs : List Loc} {ls : Array Slot} (h : pD_advance_159 fu t1 z = some Z) (hG : GW G I z s.heap H locs) (hl : lv_has ls 1 [(0, .ref (gA G 3))]) : W p l e rmD_advance s m args below meth c H locs 0 0 (MQ below (Qv G I Z) args s 0 0 (AD G I)) (F0 m 159 ls [.int t1, .ref (gA G 3)]) := by
  unfold pD_advance_159 at h
  refine rPut C hG (hI 3 (by decide)) e_3 fiD_4 tokD nmD rfl (fpD_4 _) (Nat.le_of_ble_eq_true rfl) rfl rfl k_61 h dD_advance_159 (fun H locs z12 h hG => ?_)
  refine rAload_n C dD_advance_162 hl 0 rfl ?_
  refine lv_dup C.1 C.2.1 dD_advance_163 rfl ?_
  refine rGet C hG (hI 3 (by decide)) e_3 fiD_3 (v := .int (z12 3 3)) rfl k_60 dD_advance_164 ?_
  refine lv_iconst (v := 1) C.1 C.2.1 dD_advance_167 (by decide) ?_
  refine lv_iadd C.1 C.2.1 dD_advance_168 ?_
  refine rPut C hG (hI 3 (by decide)) e_3 fiD_3 tokD nmD rfl (fpD_3 _) (Nat.le_of_ble_eq_true rfl) rfl rfl k_60 h dD_advance_169 (fun H locs z13 h hG => ?_)
  exact rRetv C hG h dD_advance_172
theorem wD_advance_52 {p : Program} {l : Launch} {e : Env} {s : State} {m : MethodId} {args : Array Value} {below : List Frame} {meth : Method} {c : Code} {G : GT} {I : List Nat} (C : CX p s m args meth c ND bD_advance 1 none G I) (hI : cI I) {fu : Nat} {Z : Sg} {z : Sg} {H : Heap} {locs : List Loc} {ls : Array Slot} (h : pD_advance_52 fu z = some Z) (hG : GW G I z s.heap H locs) (hl : lv_has ls 1 [(0, .ref (gA G 3))]) : W p l e rmD_advance s m args below meth c H locs 0 0 (MQ below (Qv G I Z) args s 0 0 (AD G I)) (F0 m 52 ls []) := by
  unfold pD_advance_52 at h
  refine rAload_n C dD_advance_52 hl 0 rfl ?_
  refine rAload_n C dD_advance_53 hl 0 rfl ?_
  refine rGet C hG (hI 3 (by decide)) e_3 fiD_3 (v := .int (z 3 3)) rfl k_60 dD_advance_54 ?_
  refine rPut C hG (hI 3 (by decide)) e_3 fiD_5 tokD nmD rfl (fpD_5 _) (Nat.le_of_ble_eq_true rfl) rfl rfl k_62 h dD_advance_57 (fun H locs z1 h hG => ?_)
  refine rAload_n C dD_advance_60 hl 0 rfl ?_
  refine rGet C hG (hI 3 (by decide)) e_3 fiD_3 (v := .int (z1 3 3)) rfl k_60 dD_advance_61 ?_
  refine rAload_n C dD_advance_64 hl 0 rfl ?_
  refine rGet C hG (hI 3 (by decide)) e_3 fiD_1 (v := .int (z1 3 1)) rfl k_57 dD_advance_65 ?_
  refine rIcmplt C (tgt := 81) h dD_advance_68 (by decide) (fun h => ?_) (fun h => ?_)
  · refine rAload_n C dD_advance_81 hl 0 rfl ?_
    refine rGet C hG (hI 3 (by decide)) e_3 fiD_2 (v := .ref (gA G 4)) rfl k_59 dD_advance_82 ?_
    refine rAload_n C dD_advance_85 hl 0 rfl ?_
    refine rGet C hG (hI 3 (by decide)) e_3 fiD_3 (v := .int (z1 3 3)) rfl k_60 dD_advance_86 ?_
    refine rIald C hG (hI 4 (by decide)) e_4 h dD_advance_89 (fun h => ?_)
    refine rCSi [.int (ga z1 4 (z1 3 3))] [] C hG h (fun h => cD_isLetter hI h) mvD_isLetter k_237 ⟨Nat.le_of_ble_eq_true rfl, Nat.le_of_ble_eq_true rfl⟩ ⟨rfl, rfl⟩ rfl hl.1 (Nat.le_of_ble_eq_true rfl) dD_advance_90 ⟨Nat.zero_le _, Nat.zero_le _⟩ rfl (fun H locs x3 z2 h hG => ?_)
    refine rIfeq C (tgt := 103) h dD_advance_93 (by decide) (fun h => ?_) (fun h => ?_)
    · refine rAload_n C dD_advance_103 hl 0 rfl ?_
      refine rGet C hG (hI 3 (by decide)) e_3 fiD_2 (v := .ref (gA G 4)) rfl k_59 dD_advance_104 ?_
      refine rAload_n C dD_advance_107 hl 0 rfl ?_
      refine rGet C hG (hI 3 (by decide)) e_3 fiD_3 (v := .int (z2 3 3)) rfl k_60 dD_advance_108 ?_
      refine rIald C hG (hI 4 (by decide)) e_4 h dD_advance_111 (fun h => ?_)
      refine rCSi [.int (ga z2 4 (z2 3 3))] [] C hG h (fun h => cD_isDigit hI h) mvD_isDigit k_251 ⟨Nat.le_of_ble_eq_true rfl, Nat.le_of_ble_eq_true rfl⟩ ⟨rfl, rfl⟩ rfl hl.1 (Nat.le_of_ble_eq_true rfl) dD_advance_112 ⟨Nat.zero_le _, Nat.zero_le _⟩ rfl (fun H locs x5 z4 h hG => ?_)
      refine rIfeq C (tgt := 125) h dD_advance_115 (by decide) (fun h => ?_) (fun h => ?_)
      · refine rAload_n C dD_advance_125 hl 0 rfl ?_
        refine rLdcS2 C dD_advance_126 ?_
        refine rAload_n C dD_advance_128 hl 0 rfl ?_
        refine rGet C hG (hI 3 (by decide)) e_3 fiD_2 (v := .ref (gA G 4)) rfl k_59 dD_advance_129 ?_
        refine rAload_n C dD_advance_132 hl 0 rfl ?_
        refine rGet C hG (hI 3 (by decide)) e_3 fiD_3 (v := .int (z4 3 3)) rfl k_60 dD_advance_133 ?_
        refine rIald C hG (hI 4 (by decide)) e_4 h dD_advance_136 (fun h => ?_)
        refine lv_i2c C.1 C.2.1 dD_advance_137 rfl ?_
        refine rCVi [.int (((ga z4 4 (z4 3 3)).toUInt32 % 65536).toInt32)] [.ref (gA G 3)] C hG h (fun h => cJS_indexOf (by decide) h) mvJS_indexOf k_259 ⟨Nat.le_of_ble_eq_true rfl, Nat.le_of_ble_eq_true rfl⟩ ⟨rfl, rfl⟩ (rStrR C hG (by decide)) rfl hl.1 (Nat.le_of_ble_eq_true rfl) dD_advance_138 ⟨Nat.zero_le _, Nat.zero_le _⟩ rfl (fun H locs x7 z6 h hG => ?_)
        refine rIflt C (tgt := 156) h dD_advance_141 (by decide) (fun h => ?_) (fun h => ?_)
        · refine lv_sipush (v := 258) C.1 C.2.1 dD_advance_156 (by decide) ?_
          exact wD_advance_159 C hI h hG (lv_sub hl [0] rfl)
        · refine rAload_n C dD_advance_144 hl 0 rfl ?_
          refine rGet C hG (hI 3 (by decide)) e_3 fiD_2 (v := .ref (gA G 4)) rfl k_59 dD_advance_145 ?_
          refine rAload_n C dD_advance_148 hl 0 rfl ?_
          refine rGet C hG (hI 3 (by decide)) e_3 fiD_3 (v := .int (z6 3 3)) rfl k_60 dD_advance_149 ?_
          refine rIald C hG (hI 4 (by decide)) e_4 h dD_advance_152 (fun h => ?_)
          refine lv_goto (tgt := 159) C.1 C.2.1 dD_advance_153 (by decide) ?_
          exact wD_advance_159 C hI h hG (lv_sub hl [0] rfl)
      · refine rAload_n C dD_advance_118 hl 0 rfl ?_
        refine rCVv [] [] C hG h (fun h => cD_advanceNumber hI h) mvD_advanceNumber k_254 ⟨Nat.le_of_ble_eq_true rfl, Nat.le_of_ble_eq_true rfl⟩ ⟨rfl, rfl⟩ (rRecv C hG (hI 3 (by decide)) e_3 rfl) rfl hl.1 (Nat.le_of_ble_eq_true rfl) dD_advance_119 ⟨Nat.zero_le _, Nat.zero_le _⟩ rfl (fun H locs z8 h hG => ?_)
        refine lv_goto (tgt := 172) C.1 C.2.1 dD_advance_122 (by decide) ?_
        exact rRetv C hG h dD_advance_172
    · refine rAload_n C dD_advance_96 hl 0 rfl ?_
      refine rCVv [] [] C hG h (fun h => cD_advanceWord hI h) mvD_advanceWord k_240 ⟨Nat.le_of_ble_eq_true rfl, Nat.le_of_ble_eq_true rfl⟩ ⟨rfl, rfl⟩ (rRecv C hG (hI 3 (by decide)) e_3 rfl) rfl hl.1 (Nat.le_of_ble_eq_true rfl) dD_advance_97 ⟨Nat.zero_le _, Nat.zero_le _⟩ rfl (fun H locs z9 h hG => ?_)
      refine lv_goto (tgt := 172) C.1 C.2.1 dD_advance_100 (by decide) ?_
      exact rRetv C hG h dD_advance_172
  · refine rAload_n C dD_advance_71 hl 0 rfl ?_
    refine lv_sipush (v := 257) C.1 C.2.1 dD_advance_72 (by decide) ?_
    refine rPut C hG (hI 3 (by decide)) e_3 fiD_4 tokD nmD rfl (fpD_4 _) (Nat.le_of_ble_eq_true rfl) rfl rfl k_61 h dD_advance_75 (fun H locs z10 h hG => ?_)
    refine lv_goto (tgt := 172) C.1 C.2.1 dD_advance_78 (by decide) ?_
    exact rRetv C hG h dD_advance_172
theorem wD_advance_0 {p : Program} {l : Launch} {e : Env} {s : State} {m : MethodId} {args : Array Value} {below : List Frame} {meth : Method} {c : Code} {G : GT} {I : List Nat} (C : CX p s m args meth c ND bD_advance 1 none G I) (hI : cI I) {fu : Nat} {Z : Sg} : ∀ (k : Nat) {z : Sg} {H : Heap} {locs : List Loc} {ls : Array Slot}, pD_advance_0 fu k z = some Z → GW G I z s.heap H locs → lv_has ls 1 [(0, .ref (gA G 3))] → W p l e rmD_advance s m args below meth c H locs 0 0 (MQ below (Qv G I Z) args s 0 0 (AD G I)) (F0 m 0 ls []) := by
  intro k
  induction k with
  | zero => intro z H locs ls h hG hl; rw [pD_advance_0] at h; cases h
  | succ k ih =>
    intro z H locs ls h hG hl
    rw [pD_advance_0] at h
    refine rAload_n C dD_advance_0 hl 0 rfl ?_
    refine rGet C hG (hI 3 (by decide)) e_3 fiD_3 (v := .int (z 3 3)) rfl k_60 dD_advance_1 ?_
    refine rAload_n C dD_advance_4 hl 0 rfl ?_
    refine rGet C hG (hI 3 (by decide)) e_3 fiD_1 (v := .int (z 3 1)) rfl k_57 dD_advance_5 ?_
    refine rIcmpge C (tgt := 52) h dD_advance_8 (by decide) (fun h => ?_) (fun h => ?_)
    · exact wD_advance_52 C hI h hG (lv_sub hl [0] rfl)
    · refine rAload_n C dD_advance_11 hl 0 rfl ?_
      refine rGet C hG (hI 3 (by decide)) e_3 fiD_2 (v := .ref (gA G 4)) rfl k_59 dD_advance_12 ?_
      refine rAload_n C dD_advance_15 hl 0 rfl ?_
      refine rGet C hG (hI 3 (by decide)) e_3 fiD_3 (v := .int (z 3 3)) rfl k_60 dD_advance_16 ?_
      refine rIald C hG (hI 4 (by decide)) e_4 h dD_advance_19 (fun h => ?_)
      refine lv_bipush (v := 32) C.1 C.2.1 dD_advance_20 (by decide) ?_
      refine rIcmpeq C (tgt := 39) h dD_advance_22 (by decide) (fun h => ?_) (fun h => ?_)
      · exact wD_advance_39 C hI ih h hG (lv_sub hl [0] rfl)
      · refine rAload_n C dD_advance_25 hl 0 rfl ?_
        refine rGet C hG (hI 3 (by decide)) e_3 fiD_2 (v := .ref (gA G 4)) rfl k_59 dD_advance_26 ?_
        refine rAload_n C dD_advance_29 hl 0 rfl ?_
        refine rGet C hG (hI 3 (by decide)) e_3 fiD_3 (v := .int (z 3 3)) rfl k_60 dD_advance_30 ?_
        refine rIald C hG (hI 4 (by decide)) e_4 h dD_advance_33 (fun h => ?_)
        refine lv_bipush (v := 10) C.1 C.2.1 dD_advance_34 (by decide) ?_
        refine rIcmpne C (tgt := 52) h dD_advance_36 (by decide) (fun h => ?_) (fun h => ?_)
        · exact wD_advance_52 C hI h hG (lv_sub hl [0] rfl)
        · exact wD_advance_39 C hI ih h hG (lv_sub hl [0] rfl)
theorem cD_advance {l : Launch} {G : GT} {I : List Nat} (hI : cI I) {fu : Nat} {z : Sg} {Z : Sg} (h : pD_advance fu z = some Z) : Mt l yD_advance rmD_advance bD_advance 1 none G I z [.ref (gA G 3)] (Qv G I Z) := by
  refine entM (by decide +kernel) (Nat.le_of_ble_eq_true rfl) ?_
  intro p e s m below meth c C hG ls hl
  have hl : lv_has ls 1 [(0, .ref (gA G 3))] := hl
  unfold pD_advance at h
  exact wD_advance_0 C hI _ h hG (lv_sub hl [0] rfl)
theorem dD_fail_0 : decode bD_fail 0 = .ok (.aload_n 0, 1) := by decide +kernel
theorem dD_fail_1 : decode bD_fail 1 = .ok (.getfield 29, 3) := by decide +kernel
theorem dD_fail_4 : decode bD_fail 4 = .ok (.iconst (-1), 1) := by decide +kernel
theorem dD_fail_5 : decode bD_fail 5 = .ok (.if_icmp .ne 11, 3) := by decide +kernel
theorem dD_fail_8 : decode bD_fail 8 = .ok (.aload_n 0, 1) := by decide +kernel
theorem dD_fail_9 : decode bD_fail 9 = .ok (.aload_n 0, 1) := by decide +kernel
theorem dD_fail_10 : decode bD_fail 10 = .ok (.getfield 54, 3) := by decide +kernel
theorem dD_fail_13 : decode bD_fail 13 = .ok (.putfield 29, 3) := by decide +kernel
theorem dD_fail_16 : decode bD_fail 16 = .ok (.aload_n 0, 1) := by decide +kernel
theorem dD_fail_17 : decode bD_fail 17 = .ok (.sipush 258, 3) := by decide +kernel
theorem dD_fail_20 : decode bD_fail 20 = .ok (.putfield 48, 3) := by decide +kernel
theorem dD_fail_23 : decode bD_fail 23 = .ok (.return_, 1) := by decide +kernel
theorem wD_fail_16 {p : Program} {l : Launch} {e : Env} {s : State} {m : MethodId} {args : Array Value} {below : List Frame} {meth : Method} {c : Code} {G : GT} {I : List Nat} (C : CX p s m args meth c ND bD_fail 1 none G I) (hI : cI I) {fu : Nat} {Z : Sg} {z : Sg} {H : Heap} {locs : List Loc} {ls : Array Slot} (h : pD_fail_16 fu z = some Z) (hG : GW G I z s.heap H locs) (hl : lv_has ls 1 [(0, .ref (gA G 3))]) : W p l e rmD_fail s m args below meth c H locs 0 0 (MQ below (Qv G I Z) args s 0 0 (AD G I)) (F0 m 16 ls []) := by
  unfold pD_fail_16 at h
  refine rAload_n C dD_fail_16 hl 0 rfl ?_
  refine lv_sipush (v := 258) C.1 C.2.1 dD_fail_17 (by decide) ?_
  refine rPut C hG (hI 3 (by decide)) e_3 fiD_4 tokD nmD rfl (fpD_4 _) (Nat.le_of_ble_eq_true rfl) rfl rfl k_61 h dD_fail_20 (fun H locs z2 h hG => ?_)
  exact rRetv C hG h dD_fail_23
theorem cD_fail {l : Launch} {G : GT} {I : List Nat} (hI : cI I) {fu : Nat} {z : Sg} {Z : Sg} (h : pD_fail fu z = some Z) : Mt l yD_fail rmD_fail bD_fail 1 none G I z [.ref (gA G 3)] (Qv G I Z) := by
  refine entM (by decide +kernel) (Nat.le_of_ble_eq_true rfl) ?_
  intro p e s m below meth c C hG ls hl
  have hl : lv_has ls 1 [(0, .ref (gA G 3))] := hl
  unfold pD_fail at h
  refine rAload_n C dD_fail_0 hl 0 rfl ?_
  refine rGet C hG (hI 3 (by decide)) e_3 fiD_7 (v := .int (z 3 7)) rfl k_64 dD_fail_1 ?_
  refine lv_iconst (v := (-1)) C.1 C.2.1 dD_fail_4 (by decide) ?_
  refine rIcmpne C (tgt := 16) h dD_fail_5 (by decide) (fun h => ?_) (fun h => ?_)
  · exact wD_fail_16 C hI h hG (lv_sub hl [0] rfl)
  · refine rAload_n C dD_fail_8 hl 0 rfl ?_
    refine rAload_n C dD_fail_9 hl 0 rfl ?_
    refine rGet C hG (hI 3 (by decide)) e_3 fiD_5 (v := .int (z 3 5)) rfl k_62 dD_fail_10 ?_
    refine rPut C hG (hI 3 (by decide)) e_3 fiD_7 tokD nmD rfl (fpD_7 _) (Nat.le_of_ble_eq_true rfl) rfl rfl k_64 h dD_fail_13 (fun H locs z1 h hG => ?_)
    exact wD_fail_16 C hI h hG (lv_sub hl [0] rfl)
theorem dD_expect_0 : decode bD_expect 0 = .ok (.aload_n 0, 1) := by decide +kernel
theorem dD_expect_1 : decode bD_expect 1 = .ok (.getfield 48, 3) := by decide +kernel
theorem dD_expect_4 : decode bD_expect 4 = .ok (.iload_n 1, 1) := by decide +kernel
theorem dD_expect_5 : decode bD_expect 5 = .ok (.if_icmp .ne 10, 3) := by decide +kernel
theorem dD_expect_8 : decode bD_expect 8 = .ok (.aload_n 0, 1) := by decide +kernel
theorem dD_expect_9 : decode bD_expect 9 = .ok (.invokevirtual 35, 3) := by decide +kernel
theorem dD_expect_12 : decode bD_expect 12 = .ok (.goto 7, 3) := by decide +kernel
theorem dD_expect_15 : decode bD_expect 15 = .ok (.aload_n 0, 1) := by decide +kernel
theorem dD_expect_16 : decode bD_expect 16 = .ok (.invokevirtual 51, 3) := by decide +kernel
theorem dD_expect_19 : decode bD_expect 19 = .ok (.return_, 1) := by decide +kernel
theorem cD_expect {l : Launch} {G : GT} {I : List Nat} (hI : cI I) {fu : Nat} {v1 : Int32} {z : Sg} {Z : Sg} (h : pD_expect fu v1 z = some Z) : Mt l yD_expect rmD_expect bD_expect 2 none G I z [.ref (gA G 3), .int v1] (Qv G I Z) := by
  refine entM (by decide +kernel) (Nat.le_of_ble_eq_true rfl) ?_
  intro p e s m below meth c C hG ls hl
  have hl : lv_has ls 2 [(0, .ref (gA G 3)), (1, .int v1)] := hl
  unfold pD_expect at h
  refine rAload_n C dD_expect_0 hl 0 rfl ?_
  refine rGet C hG (hI 3 (by decide)) e_3 fiD_4 (v := .int (z 3 4)) rfl k_61 dD_expect_1 ?_
  refine rIload_n C dD_expect_4 hl 1 rfl ?_
  refine rIcmpne C (tgt := 15) h dD_expect_5 (by decide) (fun h => ?_) (fun h => ?_)
  · refine rAload_n C dD_expect_15 hl 0 rfl ?_
    refine rCVv [] [] C hG h (fun h => cD_fail hI h) mvD_fail k_322 ⟨Nat.le_of_ble_eq_true rfl, Nat.le_of_ble_eq_true rfl⟩ ⟨rfl, rfl⟩ (rRecv C hG (hI 3 (by decide)) e_3 rfl) rfl hl.1 (Nat.le_of_ble_eq_true rfl) dD_expect_16 ⟨Nat.zero_le _, Nat.zero_le _⟩ rfl (fun H locs z1 h hG => ?_)
    exact rRetv C hG h dD_expect_19
  · refine rAload_n C dD_expect_8 hl 0 rfl ?_
    refine rCVv [] [] C hG h (fun h => cD_advance hI h) mvD_advance k_233 ⟨Nat.le_of_ble_eq_true rfl, Nat.le_of_ble_eq_true rfl⟩ ⟨rfl, rfl⟩ (rRecv C hG (hI 3 (by decide)) e_3 rfl) rfl hl.1 (Nat.le_of_ble_eq_true rfl) dD_expect_9 ⟨Nat.zero_le _, Nat.zero_le _⟩ rfl (fun H locs z2 h hG => ?_)
    refine lv_goto (tgt := 19) C.1 C.2.1 dD_expect_12 (by decide) ?_
    exact rRetv C hG h dD_expect_19
theorem dD_opens_0 : decode bD_opens 0 = .ok (.iload_n 1, 1) := by decide +kernel
theorem dD_opens_1 : decode bD_opens 1 = .ok (.iconst 5, 1) := by decide +kernel
theorem dD_opens_2 : decode bD_opens 2 = .ok (.if_icmp .lt 9, 3) := by decide +kernel
theorem dD_opens_5 : decode bD_opens 5 = .ok (.aload_n 0, 1) := by decide +kernel
theorem dD_opens_6 : decode bD_opens 6 = .ok (.invokevirtual 51, 3) := by decide +kernel
theorem dD_opens_9 : decode bD_opens 9 = .ok (.iconst 0, 1) := by decide +kernel
theorem dD_opens_10 : decode bD_opens 10 = .ok (.ireturn, 1) := by decide +kernel
theorem dD_opens_11 : decode bD_opens 11 = .ok (.aload_n 0, 1) := by decide +kernel
theorem dD_opens_12 : decode bD_opens 12 = .ok (.invokevirtual 35, 3) := by decide +kernel
theorem dD_opens_15 : decode bD_opens 15 = .ok (.iconst 1, 1) := by decide +kernel
theorem dD_opens_16 : decode bD_opens 16 = .ok (.ireturn, 1) := by decide +kernel
theorem cD_opens {l : Launch} {G : GT} {I : List Nat} (hI : cI I) {fu : Nat} {v1 : Int32} {z : Sg} {R1 : Int32} {Z : Sg} (h : pD_opens fu v1 z = some (R1, Z)) : Mt l yD_opens rmD_opens bD_opens 2 (some .boolean) G I z [.ref (gA G 3), .int v1] (Qi G I R1 Z) := by
  refine entM (by decide +kernel) (Nat.le_of_ble_eq_true rfl) ?_
  intro p e s m below meth c C hG ls hl
  have hl : lv_has ls 2 [(0, .ref (gA G 3)), (1, .int v1)] := hl
  unfold pD_opens at h
  refine rIload_n C dD_opens_0 hl 1 rfl ?_
  refine lv_iconst (v := 5) C.1 C.2.1 dD_opens_1 (by decide) ?_
  refine rIcmplt C (tgt := 11) h dD_opens_2 (by decide) (fun h => ?_) (fun h => ?_)
  · refine rAload_n C dD_opens_11 hl 0 rfl ?_
    refine rCVv [] [] C hG h (fun h => cD_advance hI h) mvD_advance k_233 ⟨Nat.le_of_ble_eq_true rfl, Nat.le_of_ble_eq_true rfl⟩ ⟨rfl, rfl⟩ (rRecv C hG (hI 3 (by decide)) e_3 rfl) rfl hl.1 (Nat.le_of_ble_eq_true rfl) dD_opens_12 ⟨Nat.zero_le _, Nat.zero_le _⟩ rfl (fun H locs z1 h hG => ?_)
    refine lv_iconst (v := 1) C.1 C.2.1 dD_opens_15 (by decide) ?_
    exact rRetn C hG (ty := .boolean) rfl rfl h dD_opens_16
  · refine rAload_n C dD_opens_5 hl 0 rfl ?_
    refine rCVv [] [] C hG h (fun h => cD_fail hI h) mvD_fail k_322 ⟨Nat.le_of_ble_eq_true rfl, Nat.le_of_ble_eq_true rfl⟩ ⟨rfl, rfl⟩ (rRecv C hG (hI 3 (by decide)) e_3 rfl) rfl hl.1 (Nat.le_of_ble_eq_true rfl) dD_opens_6 ⟨Nat.zero_le _, Nat.zero_le _⟩ rfl (fun H locs z2 h hG => ?_)
    refine lv_iconst (v := 0) C.1 C.2.1 dD_opens_9 (by decide) ?_
    exact rRetn C hG (ty := .boolean) rfl rfl h dD_opens_10
theorem dD_readEither_0 : decode bD_readEither 0 = .ok (.aload_n 0, 1) := by decide +kernel
theorem dD_readEither_1 : decode bD_readEither 1 = .ok (.iload_n 1, 1) := by decide +kernel
theorem dD_readEither_2 : decode bD_readEither 2 = .ok (.invokevirtual 57, 3) := by decide +kernel
theorem dD_readEither_5 : decode bD_readEither 5 = .ok (.iconst 0, 1) := by decide +kernel
theorem dD_readEither_6 : decode bD_readEither 6 = .ok (.istore_n 2, 1) := by decide +kernel
theorem dD_readEither_7 : decode bD_readEither 7 = .ok (.iload_n 2, 1) := by decide +kernel
theorem dD_readEither_8 : decode bD_readEither 8 = .ok (.sipush 160, 3) := by decide +kernel
theorem dD_readEither_11 : decode bD_readEither 11 = .ok (.if_icmp .ge 35, 3) := by decide +kernel
theorem dD_readEither_14 : decode bD_readEither 14 = .ok (.aload_n 0, 1) := by decide +kernel
theorem dD_readEither_15 : decode bD_readEither 15 = .ok (.getfield 48, 3) := by decide +kernel
theorem dD_readEither_18 : decode bD_readEither 18 = .ok (.iconst 3, 1) := by decide +kernel
theorem dD_readEither_19 : decode bD_readEither 19 = .ok (.if_icmp .ne 27, 3) := by decide +kernel
theorem dD_readEither_22 : decode bD_readEither 22 = .ok (.aload_n 0, 1) := by decide +kernel
theorem dD_readEither_23 : decode bD_readEither 23 = .ok (.invokevirtual 35, 3) := by decide +kernel
theorem dD_readEither_26 : decode bD_readEither 26 = .ok (.aload_n 0, 1) := by decide +kernel
theorem dD_readEither_27 : decode bD_readEither 27 = .ok (.iload_n 1, 1) := by decide +kernel
theorem dD_readEither_28 : decode bD_readEither 28 = .ok (.invokevirtual 57, 3) := by decide +kernel
theorem dD_readEither_31 : decode bD_readEither 31 = .ok (.aload_n 0, 1) := by decide +kernel
theorem dD_readEither_32 : decode bD_readEither 32 = .ok (.getfield 12, 3) := by decide +kernel
theorem dD_readEither_35 : decode bD_readEither 35 = .ok (.bipush (-9), 2) := by decide +kernel
theorem dD_readEither_37 : decode bD_readEither 37 = .ok (.invokevirtual 60, 3) := by decide +kernel
theorem dD_readEither_40 : decode bD_readEither 40 = .ok (.iinc 2 1, 3) := by decide +kernel
theorem dD_readEither_43 : decode bD_readEither 43 = .ok (.goto (-36), 3) := by decide +kernel
theorem dD_readEither_46 : decode bD_readEither 46 = .ok (.return_, 1) := by decide +kernel
theorem wD_readEither_7 {p : Program} {l : Launch} {e : Env} {s : State} {m : MethodId} {args : Array Value} {below : List Frame} {meth : Method} {c : Code} {G : GT} {I : List Nat} (C : CX p s m args meth c ND bD_readEither 3 none G I) (hI : cI I) {rec : Nat → Int32 → Sg → Option Sg} {d : Nat} (hg : QG l G I rec d) {fu : Nat} {Z : Sg} : ∀ (k : Nat) {v1 : Int32} {v2 : Int32} {z : Sg} {H : Heap} {locs : List Loc} {ls : Array Slot}, pD_readEither_7 fu rec k v1 v2 z = some Z → GW G I z s.heap H locs → lv_has ls 3 [(0, .ref (gA G 3)), (1, .int v1), (2, .int v2)] → W p l e (rmG (d + 1)) s m args below meth c H locs 0 0 (MQ below (Qv G I Z) args s 0 0 (AD G I)) (F0 m 7 ls []) := by
  intro k
  induction k with
  | zero => intro v1 v2 z H locs ls h hG hl; rw [pD_readEither_7] at h; cases h
  | succ k ih =>
    intro v1 v2 z H locs ls h hG hl
    rw [pD_readEither_7] at h
    refine rIload_n C dD_readEither_7 hl 2 rfl ?_
    refine lv_sipush (v := 160) C.1 C.2.1 dD_readEither_8 (by decide) ?_
    refine rIcmpge C (tgt := 46) h dD_readEither_11 (by decide) (fun h => ?_) (fun h => ?_)
    · exact rRetv C hG h dD_readEither_46
    · refine rAload_n C dD_readEither_14 hl 0 rfl ?_
      refine rGet C hG (hI 3 (by decide)) e_3 fiD_4 (v := .int (z 3 4)) rfl k_61 dD_readEither_15 ?_
      refine lv_iconst (v := 3) C.1 C.2.1 dD_readEither_18 (by decide) ?_
      refine rIcmpne C (tgt := 46) h dD_readEither_19 (by decide) (fun h => ?_) (fun h => ?_)
      · exact rRetv C hG h dD_readEither_46
      · refine rAload_n C dD_readEither_22 hl 0 rfl ?_
        refine rCVv [] [] C hG h (fun h => cD_advance hI h) mvD_advance k_233 (rmG_out (by decide) (by decide)) ⟨rfl, rfl⟩ (rRecv C hG (hI 3 (by decide)) e_3 rfl) rfl hl.1 (Nat.le_of_ble_eq_true rfl) dD_readEither_23 ⟨Nat.zero_le _, Nat.zero_le _⟩ rfl (fun H locs z2 h hG => ?_)
        refine rAload_n C dD_readEither_26 hl 0 rfl ?_
        refine rIload_n C dD_readEither_27 hl 1 rfl ?_
        refine rCVv [.int v1] [] C hG h (fun h => hg.2.1 h) mvD_readBoth k_330 (rmG_ok (by decide)) ⟨rfl, rfl⟩ (rRecv C hG (hI 3 (by decide)) e_3 rfl) rfl hl.1 (Nat.le_of_ble_eq_true rfl) dD_readEither_28 ⟨Nat.zero_le _, Nat.zero_le _⟩ rfl (fun H locs z3 h hG => ?_)
        refine rAload_n C dD_readEither_31 hl 0 rfl ?_
        refine rGet C hG (hI 3 (by decide)) e_3 fiD_0 (v := .ref (gA G 66)) rfl k_55 dD_readEither_32 ?_
        refine lv_bipush (v := (-9)) C.1 C.2.1 dD_readEither_35 (by decide) ?_
        refine rCVv [.int (-9)] [] C hG h (fun h => cL_add hI law66 h) mvL_add k_342 (rmG_out (by decide) (by decide)) ⟨rfl, rfl⟩ (rRecv C hG (hI 66 (by decide)) e_66 rfl) rfl hl.1 (Nat.le_of_ble_eq_true rfl) dD_readEither_37 ⟨Nat.zero_le _, Nat.zero_le _⟩ rfl (fun H locs z4 h hG => ?_)
        refine rIinc C dD_readEither_40 hl 2 rfl (d := 1) (by decide) h (by decide) [(0, .ref (gA G 3)), (1, .int v1)] rfl (fun x5 ls h hl => ?_)
        refine lv_goto (tgt := 7) C.1 C.2.1 dD_readEither_43 (by decide) ?_
        exact ih h hG (lv_sub hl [1, 2, 0] rfl)
theorem cD_readEither {l : Launch} {G : GT} {I : List Nat} (hI : cI I) {rec : Nat → Int32 → Sg → Option Sg} {d : Nat} (hg : QG l G I rec d) {fu : Nat} {v1 : Int32} {z : Sg} {Z : Sg} (h : pD_readEither fu rec v1 z = some Z) : Mt l yD_readEither (rmG (d + 1)) bD_readEither 3 none G I z [.ref (gA G 3), .int v1] (Qv G I Z) := by
  refine entM (by decide +kernel) (Nat.le_of_ble_eq_true rfl) ?_
  intro p e s m below meth c C hG ls hl
  have hl : lv_has ls 3 [(0, .ref (gA G 3)), (1, .int v1)] := hl
  unfold pD_readEither at h
  refine rAload_n C dD_readEither_0 hl 0 rfl ?_
  refine rIload_n C dD_readEither_1 hl 1 rfl ?_
  refine rCVv [.int v1] [] C hG h (fun h => hg.2.1 h) mvD_readBoth k_330 (rmG_ok (by decide)) ⟨rfl, rfl⟩ (rRecv C hG (hI 3 (by decide)) e_3 rfl) rfl hl.1 (Nat.le_of_ble_eq_true rfl) dD_readEither_2 ⟨Nat.zero_le _, Nat.zero_le _⟩ rfl (fun H locs z1 h hG => ?_)
  refine lv_iconst (v := 0) C.1 C.2.1 dD_readEither_5 (by decide) ?_
  refine rIstoreA_n C dD_readEither_6 hl (by decide) [(0, .ref (gA G 3)), (1, .int v1)] rfl (fun ls hl => ?_)
  exact wD_readEither_7 C hI hg _ h hG (lv_sub hl [1, 2, 0] rfl)
theorem dD_readBoth_0 : decode bD_readBoth 0 = .ok (.aload_n 0, 1) := by decide +kernel
theorem dD_readBoth_1 : decode bD_readBoth 1 = .ok (.iload_n 1, 1) := by decide +kernel
theorem dD_readBoth_2 : decode bD_readBoth 2 = .ok (.invokevirtual 63, 3) := by decide +kernel
theorem dD_readBoth_5 : decode bD_readBoth 5 = .ok (.iconst 0, 1) := by decide +kernel
theorem dD_readBoth_6 : decode bD_readBoth 6 = .ok (.istore_n 2, 1) := by decide +kernel
theorem dD_readBoth_7 : decode bD_readBoth 7 = .ok (.iload_n 2, 1) := by decide +kernel
theorem dD_readBoth_8 : decode bD_readBoth 8 = .ok (.sipush 160, 3) := by decide +kernel
theorem dD_readBoth_11 : decode bD_readBoth 11 = .ok (.if_icmp .ge 35, 3) := by decide +kernel
theorem dD_readBoth_14 : decode bD_readBoth 14 = .ok (.aload_n 0, 1) := by decide +kernel
theorem dD_readBoth_15 : decode bD_readBoth 15 = .ok (.getfield 48, 3) := by decide +kernel
theorem dD_readBoth_18 : decode bD_readBoth 18 = .ok (.iconst 4, 1) := by decide +kernel
theorem dD_readBoth_19 : decode bD_readBoth 19 = .ok (.if_icmp .ne 27, 3) := by decide +kernel
theorem dD_readBoth_22 : decode bD_readBoth 22 = .ok (.aload_n 0, 1) := by decide +kernel
theorem dD_readBoth_23 : decode bD_readBoth 23 = .ok (.invokevirtual 35, 3) := by decide +kernel
theorem dD_readBoth_26 : decode bD_readBoth 26 = .ok (.aload_n 0, 1) := by decide +kernel
theorem dD_readBoth_27 : decode bD_readBoth 27 = .ok (.iload_n 1, 1) := by decide +kernel
theorem dD_readBoth_28 : decode bD_readBoth 28 = .ok (.invokevirtual 63, 3) := by decide +kernel
theorem dD_readBoth_31 : decode bD_readBoth 31 = .ok (.aload_n 0, 1) := by decide +kernel
theorem dD_readBoth_32 : decode bD_readBoth 32 = .ok (.getfield 12, 3) := by decide +kernel
theorem dD_readBoth_35 : decode bD_readBoth 35 = .ok (.bipush (-10), 2) := by decide +kernel
theorem dD_readBoth_37 : decode bD_readBoth 37 = .ok (.invokevirtual 60, 3) := by decide +kernel
theorem dD_readBoth_40 : decode bD_readBoth 40 = .ok (.iinc 2 1, 3) := by decide +kernel
theorem dD_readBoth_43 : decode bD_readBoth 43 = .ok (.goto (-36), 3) := by decide +kernel
theorem dD_readBoth_46 : decode bD_readBoth 46 = .ok (.return_, 1) := by decide +kernel
theorem wD_readBoth_7 {p : Program} {l : Launch} {e : Env} {s : State} {m : MethodId} {args : Array Value} {below : List Frame} {meth : Method} {c : Code} {G : GT} {I : List Nat} (C : CX p s m args meth c ND bD_readBoth 3 none G I) (hI : cI I) {rec : Nat → Int32 → Sg → Option Sg} {d : Nat} (hg : QG l G I rec d) {fu : Nat} {Z : Sg} : ∀ (k : Nat) {v1 : Int32} {v2 : Int32} {z : Sg} {H : Heap} {locs : List Loc} {ls : Array Slot}, pD_readBoth_7 fu rec k v1 v2 z = some Z → GW G I z s.heap H locs → lv_has ls 3 [(0, .ref (gA G 3)), (1, .int v1), (2, .int v2)] → W p l e (rmG (d + 1)) s m args below meth c H locs 0 0 (MQ below (Qv G I Z) args s 0 0 (AD G I)) (F0 m 7 ls []) := by
  intro k
  induction k with
  | zero => intro v1 v2 z H locs ls h hG hl; rw [pD_readBoth_7] at h; cases h
  | succ k ih =>
    intro v1 v2 z H locs ls h hG hl
    rw [pD_readBoth_7] at h
    refine rIload_n C dD_readBoth_7 hl 2 rfl ?_
    refine lv_sipush (v := 160) C.1 C.2.1 dD_readBoth_8 (by decide) ?_
    refine rIcmpge C (tgt := 46) h dD_readBoth_11 (by decide) (fun h => ?_) (fun h => ?_)
    · exact rRetv C hG h dD_readBoth_46
    · refine rAload_n C dD_readBoth_14 hl 0 rfl ?_
      refine rGet C hG (hI 3 (by decide)) e_3 fiD_4 (v := .int (z 3 4)) rfl k_61 dD_readBoth_15 ?_
      refine lv_iconst (v := 4) C.1 C.2.1 dD_readBoth_18 (by decide) ?_
      refine rIcmpne C (tgt := 46) h dD_readBoth_19 (by decide) (fun h => ?_) (fun h => ?_)
      · exact rRetv C hG h dD_readBoth_46
      · refine rAload_n C dD_readBoth_22 hl 0 rfl ?_
        refine rCVv [] [] C hG h (fun h => cD_advance hI h) mvD_advance k_233 (rmG_out (by decide) (by decide)) ⟨rfl, rfl⟩ (rRecv C hG (hI 3 (by decide)) e_3 rfl) rfl hl.1 (Nat.le_of_ble_eq_true rfl) dD_readBoth_23 ⟨Nat.zero_le _, Nat.zero_le _⟩ rfl (fun H locs z2 h hG => ?_)
        refine rAload_n C dD_readBoth_26 hl 0 rfl ?_
        refine rIload_n C dD_readBoth_27 hl 1 rfl ?_
        refine rCVv [.int v1] [] C hG h (fun h => hg.2.2.1 h) mvD_readNot k_334 (rmG_ok (by decide)) ⟨rfl, rfl⟩ (rRecv C hG (hI 3 (by decide)) e_3 rfl) rfl hl.1 (Nat.le_of_ble_eq_true rfl) dD_readBoth_28 ⟨Nat.zero_le _, Nat.zero_le _⟩ rfl (fun H locs z3 h hG => ?_)
        refine rAload_n C dD_readBoth_31 hl 0 rfl ?_
        refine rGet C hG (hI 3 (by decide)) e_3 fiD_0 (v := .ref (gA G 66)) rfl k_55 dD_readBoth_32 ?_
        refine lv_bipush (v := (-10)) C.1 C.2.1 dD_readBoth_35 (by decide) ?_
        refine rCVv [.int (-10)] [] C hG h (fun h => cL_add hI law66 h) mvL_add k_342 (rmG_out (by decide) (by decide)) ⟨rfl, rfl⟩ (rRecv C hG (hI 66 (by decide)) e_66 rfl) rfl hl.1 (Nat.le_of_ble_eq_true rfl) dD_readBoth_37 ⟨Nat.zero_le _, Nat.zero_le _⟩ rfl (fun H locs z4 h hG => ?_)
        refine rIinc C dD_readBoth_40 hl 2 rfl (d := 1) (by decide) h (by decide) [(0, .ref (gA G 3)), (1, .int v1)] rfl (fun x5 ls h hl => ?_)
        refine lv_goto (tgt := 7) C.1 C.2.1 dD_readBoth_43 (by decide) ?_
        exact ih h hG (lv_sub hl [1, 2, 0] rfl)
theorem cD_readBoth {l : Launch} {G : GT} {I : List Nat} (hI : cI I) {rec : Nat → Int32 → Sg → Option Sg} {d : Nat} (hg : QG l G I rec d) {fu : Nat} {v1 : Int32} {z : Sg} {Z : Sg} (h : pD_readBoth fu rec v1 z = some Z) : Mt l yD_readBoth (rmG (d + 1)) bD_readBoth 3 none G I z [.ref (gA G 3), .int v1] (Qv G I Z) := by
  refine entM (by decide +kernel) (Nat.le_of_ble_eq_true rfl) ?_
  intro p e s m below meth c C hG ls hl
  have hl : lv_has ls 3 [(0, .ref (gA G 3)), (1, .int v1)] := hl
  unfold pD_readBoth at h
  refine rAload_n C dD_readBoth_0 hl 0 rfl ?_
  refine rIload_n C dD_readBoth_1 hl 1 rfl ?_
  refine rCVv [.int v1] [] C hG h (fun h => hg.2.2.1 h) mvD_readNot k_334 (rmG_ok (by decide)) ⟨rfl, rfl⟩ (rRecv C hG (hI 3 (by decide)) e_3 rfl) rfl hl.1 (Nat.le_of_ble_eq_true rfl) dD_readBoth_2 ⟨Nat.zero_le _, Nat.zero_le _⟩ rfl (fun H locs z1 h hG => ?_)
  refine lv_iconst (v := 0) C.1 C.2.1 dD_readBoth_5 (by decide) ?_
  refine rIstoreA_n C dD_readBoth_6 hl (by decide) [(0, .ref (gA G 3)), (1, .int v1)] rfl (fun ls hl => ?_)
  exact wD_readBoth_7 C hI hg _ h hG (lv_sub hl [1, 2, 0] rfl)
theorem dD_readNot_0 : decode bD_readNot 0 = .ok (.aload_n 0, 1) := by decide +kernel
theorem dD_readNot_1 : decode bD_readNot 1 = .ok (.getfield 48, 3) := by decide +kernel
theorem dD_readNot_4 : decode bD_readNot 4 = .ok (.iconst 5, 1) := by decide +kernel
theorem dD_readNot_5 : decode bD_readNot 5 = .ok (.if_icmp .ne 28, 3) := by decide +kernel
theorem dD_readNot_8 : decode bD_readNot 8 = .ok (.aload_n 0, 1) := by decide +kernel
theorem dD_readNot_9 : decode bD_readNot 9 = .ok (.iload_n 1, 1) := by decide +kernel
theorem dD_readNot_10 : decode bD_readNot 10 = .ok (.invokevirtual 66, 3) := by decide +kernel
theorem dD_readNot_13 : decode bD_readNot 13 = .ok (.ifCond .eq 19, 3) := by decide +kernel
theorem dD_readNot_16 : decode bD_readNot 16 = .ok (.aload_n 0, 1) := by decide +kernel
theorem dD_readNot_17 : decode bD_readNot 17 = .ok (.iload_n 1, 1) := by decide +kernel
theorem dD_readNot_18 : decode bD_readNot 18 = .ok (.iconst 1, 1) := by decide +kernel
theorem dD_readNot_19 : decode bD_readNot 19 = .ok (.iadd, 1) := by decide +kernel
theorem dD_readNot_20 : decode bD_readNot 20 = .ok (.invokevirtual 63, 3) := by decide +kernel
theorem dD_readNot_23 : decode bD_readNot 23 = .ok (.aload_n 0, 1) := by decide +kernel
theorem dD_readNot_24 : decode bD_readNot 24 = .ok (.getfield 12, 3) := by decide +kernel
theorem dD_readNot_27 : decode bD_readNot 27 = .ok (.bipush (-7), 2) := by decide +kernel
theorem dD_readNot_29 : decode bD_readNot 29 = .ok (.invokevirtual 60, 3) := by decide +kernel
theorem dD_readNot_32 : decode bD_readNot 32 = .ok (.return_, 1) := by decide +kernel
theorem dD_readNot_33 : decode bD_readNot 33 = .ok (.aload_n 0, 1) := by decide +kernel
theorem dD_readNot_34 : decode bD_readNot 34 = .ok (.iload_n 1, 1) := by decide +kernel
theorem dD_readNot_35 : decode bD_readNot 35 = .ok (.invokevirtual 70, 3) := by decide +kernel
theorem dD_readNot_38 : decode bD_readNot 38 = .ok (.aload_n 0, 1) := by decide +kernel
theorem dD_readNot_39 : decode bD_readNot 39 = .ok (.getfield 48, 3) := by decide +kernel
theorem dD_readNot_42 : decode bD_readNot 42 = .ok (.bipush 60, 2) := by decide +kernel
theorem dD_readNot_44 : decode bD_readNot 44 = .ok (.if_icmp .eq 12, 3) := by decide +kernel
theorem dD_readNot_47 : decode bD_readNot 47 = .ok (.aload_n 0, 1) := by decide +kernel
theorem dD_readNot_48 : decode bD_readNot 48 = .ok (.getfield 48, 3) := by decide +kernel
theorem dD_readNot_51 : decode bD_readNot 51 = .ok (.bipush 61, 2) := by decide +kernel
theorem dD_readNot_53 : decode bD_readNot 53 = .ok (.if_icmp .ne 37, 3) := by decide +kernel
theorem dD_readNot_56 : decode bD_readNot 56 = .ok (.aload_n 0, 1) := by decide +kernel
theorem dD_readNot_57 : decode bD_readNot 57 = .ok (.getfield 48, 3) := by decide +kernel
theorem dD_readNot_60 : decode bD_readNot 60 = .ok (.bipush 60, 2) := by decide +kernel
theorem dD_readNot_62 : decode bD_readNot 62 = .ok (.if_icmp .ne 8, 3) := by decide +kernel
theorem dD_readNot_65 : decode bD_readNot 65 = .ok (.bipush (-11), 2) := by decide +kernel
theorem dD_readNot_67 : decode bD_readNot 67 = .ok (.goto 5, 3) := by decide +kernel
theorem dD_readNot_70 : decode bD_readNot 70 = .ok (.bipush (-12), 2) := by decide +kernel
theorem dD_readNot_72 : decode bD_readNot 72 = .ok (.istore_n 2, 1) := by decide +kernel
theorem dD_readNot_73 : decode bD_readNot 73 = .ok (.aload_n 0, 1) := by decide +kernel
theorem dD_readNot_74 : decode bD_readNot 74 = .ok (.invokevirtual 35, 3) := by decide +kernel
theorem dD_readNot_77 : decode bD_readNot 77 = .ok (.aload_n 0, 1) := by decide +kernel
theorem dD_readNot_78 : decode bD_readNot 78 = .ok (.iload_n 1, 1) := by decide +kernel
theorem dD_readNot_79 : decode bD_readNot 79 = .ok (.invokevirtual 70, 3) := by decide +kernel
theorem dD_readNot_82 : decode bD_readNot 82 = .ok (.aload_n 0, 1) := by decide +kernel
theorem dD_readNot_83 : decode bD_readNot 83 = .ok (.getfield 12, 3) := by decide +kernel
theorem dD_readNot_86 : decode bD_readNot 86 = .ok (.iload_n 2, 1) := by decide +kernel
theorem dD_readNot_87 : decode bD_readNot 87 = .ok (.invokevirtual 60, 3) := by decide +kernel
theorem dD_readNot_90 : decode bD_readNot 90 = .ok (.return_, 1) := by decide +kernel
theorem wD_readNot_72 {p : Program} {l : Launch} {e : Env} {s : State} {m : MethodId} {args : Array Value} {below : List Frame} {meth : Method} {c : Code} {G : GT} {I : List Nat} (C : CX p s m args meth c ND bD_readNot 3 none G I) (hI : cI I) {rec : Nat → Int32 → Sg → Option Sg} {d : Nat} (hg : QG l G I rec d) {fu : Nat} {Z : Sg} {v1 : Int32} {t0 : Int32} {z : Sg} {H : Heap} {locs : List Loc} {ls : Array Slot} (h : pD_readNot_72 fu rec v1 t0 z = some Z) (hG : GW G I z s.heap H locs) (hl : lv_has ls 3 [(0, .ref (gA G 3)), (1, .int v1)]) : W p l e (rmG (d + 1)) s m args below meth c H locs 0 0 (MQ below (Qv G I Z) args s 0 0 (AD G I)) (F0 m 72 ls [.int t0]) := by
  unfold pD_readNot_72 at h
  refine rIstoreA_n C dD_readNot_72 hl (by decide) [(0, .ref (gA G 3)), (1, .int v1)] rfl (fun ls hl => ?_)
  refine rAload_n C dD_readNot_73 hl 1 rfl ?_
  refine rCVv [] [] C hG h (fun h => cD_advance hI h) mvD_advance k_233 (rmG_out (by decide) (by decide)) ⟨rfl, rfl⟩ (rRecv C hG (hI 3 (by decide)) e_3 rfl) rfl hl.1 (Nat.le_of_ble_eq_true rfl) dD_readNot_74 ⟨Nat.zero_le _, Nat.zero_le _⟩ rfl (fun H locs z6 h hG => ?_)
  refine rAload_n C dD_readNot_77 hl 1 rfl ?_
  refine rIload_n C dD_readNot_78 hl 2 rfl ?_
  refine rCVv [.int v1] [] C hG h (fun h => hg.2.2.2.1 h) mvD_readSum k_346 (rmG_ok (by decide)) ⟨rfl, rfl⟩ (rRecv C hG (hI 3 (by decide)) e_3 rfl) rfl hl.1 (Nat.le_of_ble_eq_true rfl) dD_readNot_79 ⟨Nat.zero_le _, Nat.zero_le _⟩ rfl (fun H locs z7 h hG => ?_)
  refine rAload_n C dD_readNot_82 hl 1 rfl ?_
  refine rGet C hG (hI 3 (by decide)) e_3 fiD_0 (v := .ref (gA G 66)) rfl k_55 dD_readNot_83 ?_
  refine rIload_n C dD_readNot_86 hl 0 rfl ?_
  refine rCVv [.int t0] [] C hG h (fun h => cL_add hI law66 h) mvL_add k_342 (rmG_out (by decide) (by decide)) ⟨rfl, rfl⟩ (rRecv C hG (hI 66 (by decide)) e_66 rfl) rfl hl.1 (Nat.le_of_ble_eq_true rfl) dD_readNot_87 ⟨Nat.zero_le _, Nat.zero_le _⟩ rfl (fun H locs z8 h hG => ?_)
  exact rRetv C hG h dD_readNot_90
theorem wD_readNot_56 {p : Program} {l : Launch} {e : Env} {s : State} {m : MethodId} {args : Array Value} {below : List Frame} {meth : Method} {c : Code} {G : GT} {I : List Nat} (C : CX p s m args meth c ND bD_readNot 3 none G I) (hI : cI I) {rec : Nat → Int32 → Sg → Option Sg} {d : Nat} (hg : QG l G I rec d) {fu : Nat} {Z : Sg} {v1 : Int32} {z : Sg} {H : Heap} {locs : List Loc} {ls : Array Slot} (h : pD_readNot_56 fu rec v1 z = some Z) (hG : GW G I z s.heap H locs) (hl : lv_has ls 3 [(0, .ref (gA G 3)), (1, .int v1)]) : W p l e (rmG (d + 1)) s m args below meth c H locs 0 0 (MQ below (Qv G I Z) args s 0 0 (AD G I)) (F0 m 56 ls []) := by
  unfold pD_readNot_56 at h
  refine rAload_n C dD_readNot_56 hl 0 rfl ?_
  refine rGet C hG (hI 3 (by decide)) e_3 fiD_4 (v := .int (z 3 4)) rfl k_61 dD_readNot_57 ?_
  refine lv_bipush (v := 60) C.1 C.2.1 dD_readNot_60 (by decide) ?_
  refine rIcmpne C (tgt := 70) h dD_readNot_62 (by decide) (fun h => ?_) (fun h => ?_)
  · refine lv_bipush (v := (-12)) C.1 C.2.1 dD_readNot_70 (by decide) ?_
    exact wD_readNot_72 C hI hg h hG (lv_sub hl [0, 1] rfl)
  · refine lv_bipush (v := (-11)) C.1 C.2.1 dD_readNot_65 (by decide) ?_
    refine lv_goto (tgt := 72) C.1 C.2.1 dD_readNot_67 (by decide) ?_
    exact wD_readNot_72 C hI hg h hG (lv_sub hl [0, 1] rfl)
theorem cD_readNot {l : Launch} {G : GT} {I : List Nat} (hI : cI I) {rec : Nat → Int32 → Sg → Option Sg} {d : Nat} (hg : QG l G I rec d) {fu : Nat} {v1 : Int32} {z : Sg} {Z : Sg} (h : pD_readNot fu rec v1 z = some Z) : Mt l yD_readNot (rmG (d + 1)) bD_readNot 3 none G I z [.ref (gA G 3), .int v1] (Qv G I Z) := by
  refine entM (by decide +kernel) (Nat.le_of_ble_eq_true rfl) ?_
  intro p e s m below meth c C hG ls hl
  have hl : lv_has ls 3 [(0, .ref (gA G 3)), (1, .int v1)] := hl
  unfold pD_readNot at h
  refine rAload_n C dD_readNot_0 hl 0 rfl ?_
  refine rGet C hG (hI 3 (by decide)) e_3 fiD_4 (v := .int (z 3 4)) rfl k_61 dD_readNot_1 ?_
  refine lv_iconst (v := 5) C.1 C.2.1 dD_readNot_4 (by decide) ?_
  refine rIcmpne C (tgt := 33) h dD_readNot_5 (by decide) (fun h => ?_) (fun h => ?_)
  · refine rAload_n C dD_readNot_33 hl 0 rfl ?_
    refine rIload_n C dD_readNot_34 hl 1 rfl ?_
    refine rCVv [.int v1] [] C hG h (fun h => hg.2.2.2.1 h) mvD_readSum k_346 (rmG_ok (by decide)) ⟨rfl, rfl⟩ (rRecv C hG (hI 3 (by decide)) e_3 rfl) rfl hl.1 (Nat.le_of_ble_eq_true rfl) dD_readNot_35 ⟨Nat.zero_le _, Nat.zero_le _⟩ rfl (fun H locs z1 h hG => ?_)
    refine rAload_n C dD_readNot_38 hl 0 rfl ?_
    refine rGet C hG (hI 3 (by decide)) e_3 fiD_4 (v := .int (z1 3 4)) rfl k_61 dD_readNot_39 ?_
    refine lv_bipush (v := 60) C.1 C.2.1 dD_readNot_42 (by decide) ?_
    refine rIcmpeq C (tgt := 56) h dD_readNot_44 (by decide) (fun h => ?_) (fun h => ?_)
    · exact wD_readNot_56 C hI hg h hG (lv_sub hl [0, 1] rfl)
    · refine rAload_n C dD_readNot_47 hl 0 rfl ?_
      refine rGet C hG (hI 3 (by decide)) e_3 fiD_4 (v := .int (z1 3 4)) rfl k_61 dD_readNot_48 ?_
      refine lv_bipush (v := 61) C.1 C.2.1 dD_readNot_51 (by decide) ?_
      refine rIcmpne C (tgt := 90) h dD_readNot_53 (by decide) (fun h => ?_) (fun h => ?_)
      · exact rRetv C hG h dD_readNot_90
      · exact wD_readNot_56 C hI hg h hG (lv_sub hl [0, 1] rfl)
  · refine rAload_n C dD_readNot_8 hl 0 rfl ?_
    refine rIload_n C dD_readNot_9 hl 1 rfl ?_
    refine rCVi [.int v1] [] C hG h (fun h => cD_opens hI h) mvD_opens k_338 (rmG_out (by decide) (by decide)) ⟨rfl, rfl⟩ (rRecv C hG (hI 3 (by decide)) e_3 rfl) rfl hl.1 (Nat.le_of_ble_eq_true rfl) dD_readNot_10 ⟨Nat.zero_le _, Nat.zero_le _⟩ rfl (fun H locs x3 z2 h hG => ?_)
    refine rIfeq C (tgt := 32) h dD_readNot_13 (by decide) (fun h => ?_) (fun h => ?_)
    · exact rRetv C hG h dD_readNot_32
    · refine rAload_n C dD_readNot_16 hl 0 rfl ?_
      refine rIload_n C dD_readNot_17 hl 1 rfl ?_
      refine lv_iconst (v := 1) C.1 C.2.1 dD_readNot_18 (by decide) ?_
      refine lv_iadd C.1 C.2.1 dD_readNot_19 ?_
      refine rCVv [.int (v1 + 1)] [] C hG h (fun h => hg.2.2.1 h) mvD_readNot k_334 (rmG_ok (by decide)) ⟨rfl, rfl⟩ (rRecv C hG (hI 3 (by decide)) e_3 rfl) rfl hl.1 (Nat.le_of_ble_eq_true rfl) dD_readNot_20 ⟨Nat.zero_le _, Nat.zero_le _⟩ rfl (fun H locs z4 h hG => ?_)
      refine rAload_n C dD_readNot_23 hl 0 rfl ?_
      refine rGet C hG (hI 3 (by decide)) e_3 fiD_0 (v := .ref (gA G 66)) rfl k_55 dD_readNot_24 ?_
      refine lv_bipush (v := (-7)) C.1 C.2.1 dD_readNot_27 (by decide) ?_
      refine rCVv [.int (-7)] [] C hG h (fun h => cL_add hI law66 h) mvL_add k_342 (rmG_out (by decide) (by decide)) ⟨rfl, rfl⟩ (rRecv C hG (hI 66 (by decide)) e_66 rfl) rfl hl.1 (Nat.le_of_ble_eq_true rfl) dD_readNot_29 ⟨Nat.zero_le _, Nat.zero_le _⟩ rfl (fun H locs z5 h hG => ?_)
      exact rRetv C hG h dD_readNot_32
theorem dD_readSum_0 : decode bD_readSum 0 = .ok (.aload_n 0, 1) := by decide +kernel
theorem dD_readSum_1 : decode bD_readSum 1 = .ok (.iload_n 1, 1) := by decide +kernel
theorem dD_readSum_2 : decode bD_readSum 2 = .ok (.invokevirtual 73, 3) := by decide +kernel
theorem dD_readSum_5 : decode bD_readSum 5 = .ok (.iconst 0, 1) := by decide +kernel
theorem dD_readSum_6 : decode bD_readSum 6 = .ok (.istore_n 2, 1) := by decide +kernel
theorem dD_readSum_7 : decode bD_readSum 7 = .ok (.iload_n 2, 1) := by decide +kernel
theorem dD_readSum_8 : decode bD_readSum 8 = .ok (.sipush 160, 3) := by decide +kernel
theorem dD_readSum_11 : decode bD_readSum 11 = .ok (.if_icmp .ge 61, 3) := by decide +kernel
theorem dD_readSum_14 : decode bD_readSum 14 = .ok (.aload_n 0, 1) := by decide +kernel
theorem dD_readSum_15 : decode bD_readSum 15 = .ok (.getfield 48, 3) := by decide +kernel
theorem dD_readSum_18 : decode bD_readSum 18 = .ok (.bipush 43, 2) := by decide +kernel
theorem dD_readSum_20 : decode bD_readSum 20 = .ok (.if_icmp .eq 12, 3) := by decide +kernel
theorem dD_readSum_23 : decode bD_readSum 23 = .ok (.aload_n 0, 1) := by decide +kernel
theorem dD_readSum_24 : decode bD_readSum 24 = .ok (.getfield 48, 3) := by decide +kernel
theorem dD_readSum_27 : decode bD_readSum 27 = .ok (.bipush 45, 2) := by decide +kernel
theorem dD_readSum_29 : decode bD_readSum 29 = .ok (.if_icmp .ne 43, 3) := by decide +kernel
theorem dD_readSum_32 : decode bD_readSum 32 = .ok (.aload_n 0, 1) := by decide +kernel
theorem dD_readSum_33 : decode bD_readSum 33 = .ok (.getfield 48, 3) := by decide +kernel
theorem dD_readSum_36 : decode bD_readSum 36 = .ok (.bipush 43, 2) := by decide +kernel
theorem dD_readSum_38 : decode bD_readSum 38 = .ok (.if_icmp .ne 8, 3) := by decide +kernel
theorem dD_readSum_41 : decode bD_readSum 41 = .ok (.bipush (-13), 2) := by decide +kernel
theorem dD_readSum_43 : decode bD_readSum 43 = .ok (.goto 5, 3) := by decide +kernel
theorem dD_readSum_46 : decode bD_readSum 46 = .ok (.bipush (-14), 2) := by decide +kernel
theorem dD_readSum_48 : decode bD_readSum 48 = .ok (.istore_n 3, 1) := by decide +kernel
theorem dD_readSum_49 : decode bD_readSum 49 = .ok (.aload_n 0, 1) := by decide +kernel
theorem dD_readSum_50 : decode bD_readSum 50 = .ok (.invokevirtual 35, 3) := by decide +kernel
theorem dD_readSum_53 : decode bD_readSum 53 = .ok (.aload_n 0, 1) := by decide +kernel
theorem dD_readSum_54 : decode bD_readSum 54 = .ok (.iload_n 1, 1) := by decide +kernel
theorem dD_readSum_55 : decode bD_readSum 55 = .ok (.invokevirtual 73, 3) := by decide +kernel
theorem dD_readSum_58 : decode bD_readSum 58 = .ok (.aload_n 0, 1) := by decide +kernel
theorem dD_readSum_59 : decode bD_readSum 59 = .ok (.getfield 12, 3) := by decide +kernel
theorem dD_readSum_62 : decode bD_readSum 62 = .ok (.iload_n 3, 1) := by decide +kernel
theorem dD_readSum_63 : decode bD_readSum 63 = .ok (.invokevirtual 60, 3) := by decide +kernel
theorem dD_readSum_66 : decode bD_readSum 66 = .ok (.iinc 2 1, 3) := by decide +kernel
theorem dD_readSum_69 : decode bD_readSum 69 = .ok (.goto (-62), 3) := by decide +kernel
theorem dD_readSum_72 : decode bD_readSum 72 = .ok (.return_, 1) := by decide +kernel
theorem wD_readSum_48 {p : Program} {l : Launch} {e : Env} {s : State} {m : MethodId} {args : Array Value} {below : List Frame} {meth : Method} {c : Code} {G : GT} {I : List Nat} (C : CX p s m args meth c ND bD_readSum 4 none G I) (hI : cI I) {rec : Nat → Int32 → Sg → Option Sg} {d : Nat} (hg : QG l G I rec d) {fu : Nat} {Z : Sg} {rc7 : Int32 → Int32 → Sg → Option Sg} (hr7 : ∀ {v1 : Int32} {v2 : Int32} {z : Sg} {H : Heap} {locs : List Loc} {ls : Array Slot}, rc7 v1 v2 z = some Z → GW G I z s.heap H locs → lv_has ls 4 [(0, .ref (gA G 3)), (1, .int v1), (2, .int v2)] → W p l e (rmG (d + 1)) s m args below meth c H locs 0 0 (MQ below (Qv G I Z) args s 0 0 (AD G I)) (F0 m 7 ls [])) {v1 : Int32} {v2 : Int32} {t0 : Int32} {z : Sg} {H : Heap} {locs : List Loc} {ls : Array Slot} (h : pD_readSum_48 fu rec rc7 v1 v2 t0 z = some Z) (hG : GW G I z s.heap H locs) (hl : lv_has ls 4 [(0, .ref (gA G 3)), (1, .int v1), (2, .int v2)]) : W p l e (rmG (d + 1)) s m args below meth c H locs 0 0 (MQ below (Qv G I Z) args s 0 0 (AD G I)) (F0 m 48 ls [.int t0]) := by
  unfold pD_readSum_48 at h
  refine rIstoreA_n C dD_readSum_48 hl (by decide) [(0, .ref (gA G 3)), (1, .int v1), (2, .int v2)] rfl (fun ls hl => ?_)
  refine rAload_n C dD_readSum_49 hl 1 rfl ?_
  refine rCVv [] [] C hG h (fun h => cD_advance hI h) mvD_advance k_233 (rmG_out (by decide) (by decide)) ⟨rfl, rfl⟩ (rRecv C hG (hI 3 (by decide)) e_3 rfl) rfl hl.1 (Nat.le_of_ble_eq_true rfl) dD_readSum_50 ⟨Nat.zero_le _, Nat.zero_le _⟩ rfl (fun H locs z2 h hG => ?_)
  refine rAload_n C dD_readSum_53 hl 1 rfl ?_
  refine rIload_n C dD_readSum_54 hl 2 rfl ?_
  refine rCVv [.int v1] [] C hG h (fun h => hg.2.2.2.2.1 h) mvD_readTerm k_350 (rmG_ok (by decide)) ⟨rfl, rfl⟩ (rRecv C hG (hI 3 (by decide)) e_3 rfl) rfl hl.1 (Nat.le_of_ble_eq_true rfl) dD_readSum_55 ⟨Nat.zero_le _, Nat.zero_le _⟩ rfl (fun H locs z3 h hG => ?_)
  refine rAload_n C dD_readSum_58 hl 1 rfl ?_
  refine rGet C hG (hI 3 (by decide)) e_3 fiD_0 (v := .ref (gA G 66)) rfl k_55 dD_readSum_59 ?_
  refine rIload_n C dD_readSum_62 hl 0 rfl ?_
  refine rCVv [.int t0] [] C hG h (fun h => cL_add hI law66 h) mvL_add k_342 (rmG_out (by decide) (by decide)) ⟨rfl, rfl⟩ (rRecv C hG (hI 66 (by decide)) e_66 rfl) rfl hl.1 (Nat.le_of_ble_eq_true rfl) dD_readSum_63 ⟨Nat.zero_le _, Nat.zero_le _⟩ rfl (fun H locs z4 h hG => ?_)
  refine rIinc C dD_readSum_66 hl 3 rfl (d := 1) (by decide) h (by decide) [(3, .int t0), (0, .ref (gA G 3)), (1, .int v1)] rfl (fun x5 ls h hl => ?_)
  refine lv_goto (tgt := 7) C.1 C.2.1 dD_readSum_69 (by decide) ?_
  exact hr7 h hG (lv_sub hl [2, 3, 0] rfl)
theorem wD_readSum_32 {p : Program} {l : Launch} {e : Env} {s : State} {m : MethodId} {args : Array Value} {below : List Frame} {meth : Method} {c : Code} {G : GT} {I : List Nat} (C : CX p s m args meth c ND bD_readSum 4 none G I) (hI : cI I) {rec : Nat → Int32 → Sg → Option Sg} {d : Nat} (hg : QG l G I rec d) {fu : Nat} {Z : Sg} {rc7 : Int32 → Int32 → Sg → Option Sg} (hr7 : ∀ {v1 : Int32} {v2 : Int32} {z : Sg} {H : Heap} {locs : List Loc} {ls : Array Slot}, rc7 v1 v2 z = some Z → GW G I z s.heap H locs → lv_has ls 4 [(0, .ref (gA G 3)), (1, .int v1), (2, .int v2)] → W p l e (rmG (d + 1)) s m args below meth c H locs 0 0 (MQ below (Qv G I Z) args s 0 0 (AD G I)) (F0 m 7 ls [])) {v1 : Int32} {v2 : Int32} {z : Sg} {H : Heap} {locs : List Loc} {ls : Array Slot} (h : pD_readSum_32 fu rec rc7 v1 v2 z = some Z) (hG : GW G I z s.heap H locs) (hl : lv_has ls 4 [(0, .ref (gA G 3)), (1, .int v1), (2, .int v2)]) : W p l e (rmG (d + 1)) s m args below meth c H locs 0 0 (MQ below (Qv G I Z) args s 0 0 (AD G I)) (F0 m 32 ls []) := by
  unfold pD_readSum_32 at h
  refine rAload_n C dD_readSum_32 hl 0 rfl ?_
  refine rGet C hG (hI 3 (by decide)) e_3 fiD_4 (v := .int (z 3 4)) rfl k_61 dD_readSum_33 ?_
  refine lv_bipush (v := 43) C.1 C.2.1 dD_readSum_36 (by decide) ?_
  refine rIcmpne C (tgt := 46) h dD_readSum_38 (by decide) (fun h => ?_) (fun h => ?_)
  · refine lv_bipush (v := (-14)) C.1 C.2.1 dD_readSum_46 (by decide) ?_
    exact wD_readSum_48 C hI hg hr7 h hG (lv_sub hl [0, 1, 2] rfl)
  · refine lv_bipush (v := (-13)) C.1 C.2.1 dD_readSum_41 (by decide) ?_
    refine lv_goto (tgt := 48) C.1 C.2.1 dD_readSum_43 (by decide) ?_
    exact wD_readSum_48 C hI hg hr7 h hG (lv_sub hl [0, 1, 2] rfl)
theorem wD_readSum_7 {p : Program} {l : Launch} {e : Env} {s : State} {m : MethodId} {args : Array Value} {below : List Frame} {meth : Method} {c : Code} {G : GT} {I : List Nat} (C : CX p s m args meth c ND bD_readSum 4 none G I) (hI : cI I) {rec : Nat → Int32 → Sg → Option Sg} {d : Nat} (hg : QG l G I rec d) {fu : Nat} {Z : Sg} : ∀ (k : Nat) {v1 : Int32} {v2 : Int32} {z : Sg} {H : Heap} {locs : List Loc} {ls : Array Slot}, pD_readSum_7 fu rec k v1 v2 z = some Z → GW G I z s.heap H locs → lv_has ls 4 [(0, .ref (gA G 3)), (1, .int v1), (2, .int v2)] → W p l e (rmG (d + 1)) s m args below meth c H locs 0 0 (MQ below (Qv G I Z) args s 0 0 (AD G I)) (F0 m 7 ls []) := by
  intro k
  induction k with
  | zero => intro v1 v2 z H locs ls h hG hl; rw [pD_readSum_7] at h; cases h
  | succ k ih =>
    intro v1 v2 z H locs ls h hG hl
    rw [pD_readSum_7] at h
    refine rIload_n C dD_readSum_7 hl 2 rfl ?_
    refine lv_sipush (v := 160) C.1 C.2.1 dD_readSum_8 (by decide) ?_
    refine rIcmpge C (tgt := 72) h dD_readSum_11 (by decide) (fun h => ?_) (fun h => ?_)
    · exact rRetv C hG h dD_readSum_72
    · refine rAload_n C dD_readSum_14 hl 0 rfl ?_
      refine rGet C hG (hI 3 (by decide)) e_3 fiD_4 (v := .int (z 3 4)) rfl k_61 dD_readSum_15 ?_
      refine lv_bipush (v := 43) C.1 C.2.1 dD_readSum_18 (by decide) ?_
      refine rIcmpeq C (tgt := 32) h dD_readSum_20 (by decide) (fun h => ?_) (fun h => ?_)
      · exact wD_readSum_32 C hI hg ih h hG (lv_sub hl [0, 1, 2] rfl)
      · refine rAload_n C dD_readSum_23 hl 0 rfl ?_
        refine rGet C hG (hI 3 (by decide)) e_3 fiD_4 (v := .int (z 3 4)) rfl k_61 dD_readSum_24 ?_
        refine lv_bipush (v := 45) C.1 C.2.1 dD_readSum_27 (by decide) ?_
        refine rIcmpne C (tgt := 72) h dD_readSum_29 (by decide) (fun h => ?_) (fun h => ?_)
        · exact rRetv C hG h dD_readSum_72
        · exact wD_readSum_32 C hI hg ih h hG (lv_sub hl [0, 1, 2] rfl)
theorem cD_readSum {l : Launch} {G : GT} {I : List Nat} (hI : cI I) {rec : Nat → Int32 → Sg → Option Sg} {d : Nat} (hg : QG l G I rec d) {fu : Nat} {v1 : Int32} {z : Sg} {Z : Sg} (h : pD_readSum fu rec v1 z = some Z) : Mt l yD_readSum (rmG (d + 1)) bD_readSum 4 none G I z [.ref (gA G 3), .int v1] (Qv G I Z) := by
  refine entM (by decide +kernel) (Nat.le_of_ble_eq_true rfl) ?_
  intro p e s m below meth c C hG ls hl
  have hl : lv_has ls 4 [(0, .ref (gA G 3)), (1, .int v1)] := hl
  unfold pD_readSum at h
  refine rAload_n C dD_readSum_0 hl 0 rfl ?_
  refine rIload_n C dD_readSum_1 hl 1 rfl ?_
  refine rCVv [.int v1] [] C hG h (fun h => hg.2.2.2.2.1 h) mvD_readTerm k_350 (rmG_ok (by decide)) ⟨rfl, rfl⟩ (rRecv C hG (hI 3 (by decide)) e_3 rfl) rfl hl.1 (Nat.le_of_ble_eq_true rfl) dD_readSum_2 ⟨Nat.zero_le _, Nat.zero_le _⟩ rfl (fun H locs z1 h hG => ?_)
  refine lv_iconst (v := 0) C.1 C.2.1 dD_readSum_5 (by decide) ?_
  refine rIstoreA_n C dD_readSum_6 hl (by decide) [(0, .ref (gA G 3)), (1, .int v1)] rfl (fun ls hl => ?_)
  exact wD_readSum_7 C hI hg _ h hG (lv_sub hl [1, 2, 0] rfl)
theorem dD_readTerm_0 : decode bD_readTerm 0 = .ok (.aload_n 0, 1) := by decide +kernel
theorem dD_readTerm_1 : decode bD_readTerm 1 = .ok (.iload_n 1, 1) := by decide +kernel
theorem dD_readTerm_2 : decode bD_readTerm 2 = .ok (.invokevirtual 76, 3) := by decide +kernel
theorem dD_readTerm_5 : decode bD_readTerm 5 = .ok (.iconst 0, 1) := by decide +kernel
theorem dD_readTerm_6 : decode bD_readTerm 6 = .ok (.istore_n 2, 1) := by decide +kernel
theorem dD_readTerm_7 : decode bD_readTerm 7 = .ok (.iload_n 2, 1) := by decide +kernel
theorem dD_readTerm_8 : decode bD_readTerm 8 = .ok (.sipush 160, 3) := by decide +kernel
theorem dD_readTerm_11 : decode bD_readTerm 11 = .ok (.if_icmp .ge 36, 3) := by decide +kernel
theorem dD_readTerm_14 : decode bD_readTerm 14 = .ok (.aload_n 0, 1) := by decide +kernel
theorem dD_readTerm_15 : decode bD_readTerm 15 = .ok (.getfield 48, 3) := by decide +kernel
theorem dD_readTerm_18 : decode bD_readTerm 18 = .ok (.bipush 42, 2) := by decide +kernel
theorem dD_readTerm_20 : decode bD_readTerm 20 = .ok (.if_icmp .ne 27, 3) := by decide +kernel
theorem dD_readTerm_23 : decode bD_readTerm 23 = .ok (.aload_n 0, 1) := by decide +kernel
theorem dD_readTerm_24 : decode bD_readTerm 24 = .ok (.invokevirtual 35, 3) := by decide +kernel
theorem dD_readTerm_27 : decode bD_readTerm 27 = .ok (.aload_n 0, 1) := by decide +kernel
theorem dD_readTerm_28 : decode bD_readTerm 28 = .ok (.iload_n 1, 1) := by decide +kernel
theorem dD_readTerm_29 : decode bD_readTerm 29 = .ok (.invokevirtual 76, 3) := by decide +kernel
theorem dD_readTerm_32 : decode bD_readTerm 32 = .ok (.aload_n 0, 1) := by decide +kernel
theorem dD_readTerm_33 : decode bD_readTerm 33 = .ok (.getfield 12, 3) := by decide +kernel
theorem dD_readTerm_36 : decode bD_readTerm 36 = .ok (.bipush (-15), 2) := by decide +kernel
theorem dD_readTerm_38 : decode bD_readTerm 38 = .ok (.invokevirtual 60, 3) := by decide +kernel
theorem dD_readTerm_41 : decode bD_readTerm 41 = .ok (.iinc 2 1, 3) := by decide +kernel
theorem dD_readTerm_44 : decode bD_readTerm 44 = .ok (.goto (-37), 3) := by decide +kernel
theorem dD_readTerm_47 : decode bD_readTerm 47 = .ok (.return_, 1) := by decide +kernel
theorem wD_readTerm_7 {p : Program} {l : Launch} {e : Env} {s : State} {m : MethodId} {args : Array Value} {below : List Frame} {meth : Method} {c : Code} {G : GT} {I : List Nat} (C : CX p s m args meth c ND bD_readTerm 3 none G I) (hI : cI I) {rec : Nat → Int32 → Sg → Option Sg} {d : Nat} (hg : QG l G I rec d) {fu : Nat} {Z : Sg} : ∀ (k : Nat) {v1 : Int32} {v2 : Int32} {z : Sg} {H : Heap} {locs : List Loc} {ls : Array Slot}, pD_readTerm_7 fu rec k v1 v2 z = some Z → GW G I z s.heap H locs → lv_has ls 3 [(0, .ref (gA G 3)), (1, .int v1), (2, .int v2)] → W p l e (rmG (d + 1)) s m args below meth c H locs 0 0 (MQ below (Qv G I Z) args s 0 0 (AD G I)) (F0 m 7 ls []) := by
  intro k
  induction k with
  | zero => intro v1 v2 z H locs ls h hG hl; rw [pD_readTerm_7] at h; cases h
  | succ k ih =>
    intro v1 v2 z H locs ls h hG hl
    rw [pD_readTerm_7] at h
    refine rIload_n C dD_readTerm_7 hl 2 rfl ?_
    refine lv_sipush (v := 160) C.1 C.2.1 dD_readTerm_8 (by decide) ?_
    refine rIcmpge C (tgt := 47) h dD_readTerm_11 (by decide) (fun h => ?_) (fun h => ?_)
    · exact rRetv C hG h dD_readTerm_47
    · refine rAload_n C dD_readTerm_14 hl 0 rfl ?_
      refine rGet C hG (hI 3 (by decide)) e_3 fiD_4 (v := .int (z 3 4)) rfl k_61 dD_readTerm_15 ?_
      refine lv_bipush (v := 42) C.1 C.2.1 dD_readTerm_18 (by decide) ?_
      refine rIcmpne C (tgt := 47) h dD_readTerm_20 (by decide) (fun h => ?_) (fun h => ?_)
      · exact rRetv C hG h dD_readTerm_47
      · refine rAload_n C dD_readTerm_23 hl 0 rfl ?_
        refine rCVv [] [] C hG h (fun h => cD_advance hI h) mvD_advance k_233 (rmG_out (by decide) (by decide)) ⟨rfl, rfl⟩ (rRecv C hG (hI 3 (by decide)) e_3 rfl) rfl hl.1 (Nat.le_of_ble_eq_true rfl) dD_readTerm_24 ⟨Nat.zero_le _, Nat.zero_le _⟩ rfl (fun H locs z2 h hG => ?_)
        refine rAload_n C dD_readTerm_27 hl 0 rfl ?_
        refine rIload_n C dD_readTerm_28 hl 1 rfl ?_
        refine rCVv [.int v1] [] C hG h (fun h => hg.2.2.2.2.2 h) mvD_readOne k_354 (rmG_ok (by decide)) ⟨rfl, rfl⟩ (rRecv C hG (hI 3 (by decide)) e_3 rfl) rfl hl.1 (Nat.le_of_ble_eq_true rfl) dD_readTerm_29 ⟨Nat.zero_le _, Nat.zero_le _⟩ rfl (fun H locs z3 h hG => ?_)
        refine rAload_n C dD_readTerm_32 hl 0 rfl ?_
        refine rGet C hG (hI 3 (by decide)) e_3 fiD_0 (v := .ref (gA G 66)) rfl k_55 dD_readTerm_33 ?_
        refine lv_bipush (v := (-15)) C.1 C.2.1 dD_readTerm_36 (by decide) ?_
        refine rCVv [.int (-15)] [] C hG h (fun h => cL_add hI law66 h) mvL_add k_342 (rmG_out (by decide) (by decide)) ⟨rfl, rfl⟩ (rRecv C hG (hI 66 (by decide)) e_66 rfl) rfl hl.1 (Nat.le_of_ble_eq_true rfl) dD_readTerm_38 ⟨Nat.zero_le _, Nat.zero_le _⟩ rfl (fun H locs z4 h hG => ?_)
        refine rIinc C dD_readTerm_41 hl 2 rfl (d := 1) (by decide) h (by decide) [(0, .ref (gA G 3)), (1, .int v1)] rfl (fun x5 ls h hl => ?_)
        refine lv_goto (tgt := 7) C.1 C.2.1 dD_readTerm_44 (by decide) ?_
        exact ih h hG (lv_sub hl [1, 2, 0] rfl)
theorem cD_readTerm {l : Launch} {G : GT} {I : List Nat} (hI : cI I) {rec : Nat → Int32 → Sg → Option Sg} {d : Nat} (hg : QG l G I rec d) {fu : Nat} {v1 : Int32} {z : Sg} {Z : Sg} (h : pD_readTerm fu rec v1 z = some Z) : Mt l yD_readTerm (rmG (d + 1)) bD_readTerm 3 none G I z [.ref (gA G 3), .int v1] (Qv G I Z) := by
  refine entM (by decide +kernel) (Nat.le_of_ble_eq_true rfl) ?_
  intro p e s m below meth c C hG ls hl
  have hl : lv_has ls 3 [(0, .ref (gA G 3)), (1, .int v1)] := hl
  unfold pD_readTerm at h
  refine rAload_n C dD_readTerm_0 hl 0 rfl ?_
  refine rIload_n C dD_readTerm_1 hl 1 rfl ?_
  refine rCVv [.int v1] [] C hG h (fun h => hg.2.2.2.2.2 h) mvD_readOne k_354 (rmG_ok (by decide)) ⟨rfl, rfl⟩ (rRecv C hG (hI 3 (by decide)) e_3 rfl) rfl hl.1 (Nat.le_of_ble_eq_true rfl) dD_readTerm_2 ⟨Nat.zero_le _, Nat.zero_le _⟩ rfl (fun H locs z1 h hG => ?_)
  refine lv_iconst (v := 0) C.1 C.2.1 dD_readTerm_5 (by decide) ?_
  refine rIstoreA_n C dD_readTerm_6 hl (by decide) [(0, .ref (gA G 3)), (1, .int v1)] rfl (fun ls hl => ?_)
  exact wD_readTerm_7 C hI hg _ h hG (lv_sub hl [1, 2, 0] rfl)
theorem dD_readOne_0 : decode bD_readOne 0 = .ok (.aload_n 0, 1) := by decide +kernel
theorem dD_readOne_1 : decode bD_readOne 1 = .ok (.getfield 48, 3) := by decide +kernel
theorem dD_readOne_4 : decode bD_readOne 4 = .ok (.sipush 256, 3) := by decide +kernel
theorem dD_readOne_7 : decode bD_readOne 7 = .ok (.if_icmp .ne 21, 3) := by decide +kernel
theorem dD_readOne_10 : decode bD_readOne 10 = .ok (.aload_n 0, 1) := by decide +kernel
theorem dD_readOne_11 : decode bD_readOne 11 = .ok (.getfield 12, 3) := by decide +kernel
theorem dD_readOne_14 : decode bD_readOne 14 = .ok (.aload_n 0, 1) := by decide +kernel
theorem dD_readOne_15 : decode bD_readOne 15 = .ok (.getfield 79, 3) := by decide +kernel
theorem dD_readOne_18 : decode bD_readOne 18 = .ok (.invokevirtual 60, 3) := by decide +kernel
theorem dD_readOne_21 : decode bD_readOne 21 = .ok (.aload_n 0, 1) := by decide +kernel
theorem dD_readOne_22 : decode bD_readOne 22 = .ok (.invokevirtual 35, 3) := by decide +kernel
theorem dD_readOne_25 : decode bD_readOne 25 = .ok (.goto 114, 3) := by decide +kernel
theorem dD_readOne_28 : decode bD_readOne 28 = .ok (.aload_n 0, 1) := by decide +kernel
theorem dD_readOne_29 : decode bD_readOne 29 = .ok (.getfield 48, 3) := by decide +kernel
theorem dD_readOne_32 : decode bD_readOne 32 = .ok (.bipush 6, 2) := by decide +kernel
theorem dD_readOne_34 : decode bD_readOne 34 = .ok (.if_icmp .lt 32, 3) := by decide +kernel
theorem dD_readOne_37 : decode bD_readOne 37 = .ok (.aload_n 0, 1) := by decide +kernel
theorem dD_readOne_38 : decode bD_readOne 38 = .ok (.getfield 48, 3) := by decide +kernel
theorem dD_readOne_41 : decode bD_readOne 41 = .ok (.bipush 11, 2) := by decide +kernel
theorem dD_readOne_43 : decode bD_readOne 43 = .ok (.if_icmp .gt 23, 3) := by decide +kernel
theorem dD_readOne_46 : decode bD_readOne 46 = .ok (.aload_n 0, 1) := by decide +kernel
theorem dD_readOne_47 : decode bD_readOne 47 = .ok (.getfield 12, 3) := by decide +kernel
theorem dD_readOne_50 : decode bD_readOne 50 = .ok (.iconst 5, 1) := by decide +kernel
theorem dD_readOne_51 : decode bD_readOne 51 = .ok (.aload_n 0, 1) := by decide +kernel
theorem dD_readOne_52 : decode bD_readOne 52 = .ok (.getfield 48, 3) := by decide +kernel
theorem dD_readOne_55 : decode bD_readOne 55 = .ok (.isub, 1) := by decide +kernel
theorem dD_readOne_56 : decode bD_readOne 56 = .ok (.invokevirtual 60, 3) := by decide +kernel
theorem dD_readOne_59 : decode bD_readOne 59 = .ok (.aload_n 0, 1) := by decide +kernel
theorem dD_readOne_60 : decode bD_readOne 60 = .ok (.invokevirtual 35, 3) := by decide +kernel
theorem dD_readOne_63 : decode bD_readOne 63 = .ok (.goto 76, 3) := by decide +kernel
theorem dD_readOne_66 : decode bD_readOne 66 = .ok (.aload_n 0, 1) := by decide +kernel
theorem dD_readOne_67 : decode bD_readOne 67 = .ok (.getfield 48, 3) := by decide +kernel
theorem dD_readOne_70 : decode bD_readOne 70 = .ok (.bipush 45, 2) := by decide +kernel
theorem dD_readOne_72 : decode bD_readOne 72 = .ok (.if_icmp .ne 30, 3) := by decide +kernel
theorem dD_readOne_75 : decode bD_readOne 75 = .ok (.aload_n 0, 1) := by decide +kernel
theorem dD_readOne_76 : decode bD_readOne 76 = .ok (.iload_n 1, 1) := by decide +kernel
theorem dD_readOne_77 : decode bD_readOne 77 = .ok (.invokevirtual 66, 3) := by decide +kernel
theorem dD_readOne_80 : decode bD_readOne 80 = .ok (.ifCond .eq 59, 3) := by decide +kernel
theorem dD_readOne_83 : decode bD_readOne 83 = .ok (.aload_n 0, 1) := by decide +kernel
theorem dD_readOne_84 : decode bD_readOne 84 = .ok (.iload_n 1, 1) := by decide +kernel
theorem dD_readOne_85 : decode bD_readOne 85 = .ok (.iconst 1, 1) := by decide +kernel
theorem dD_readOne_86 : decode bD_readOne 86 = .ok (.iadd, 1) := by decide +kernel
theorem dD_readOne_87 : decode bD_readOne 87 = .ok (.invokevirtual 76, 3) := by decide +kernel
theorem dD_readOne_90 : decode bD_readOne 90 = .ok (.aload_n 0, 1) := by decide +kernel
theorem dD_readOne_91 : decode bD_readOne 91 = .ok (.getfield 12, 3) := by decide +kernel
theorem dD_readOne_94 : decode bD_readOne 94 = .ok (.bipush (-8), 2) := by decide +kernel
theorem dD_readOne_96 : decode bD_readOne 96 = .ok (.invokevirtual 60, 3) := by decide +kernel
theorem dD_readOne_99 : decode bD_readOne 99 = .ok (.goto 40, 3) := by decide +kernel
theorem dD_readOne_102 : decode bD_readOne 102 = .ok (.aload_n 0, 1) := by decide +kernel
theorem dD_readOne_103 : decode bD_readOne 103 = .ok (.getfield 48, 3) := by decide +kernel
theorem dD_readOne_106 : decode bD_readOne 106 = .ok (.bipush 40, 2) := by decide +kernel
theorem dD_readOne_108 : decode bD_readOne 108 = .ok (.if_icmp .ne 27, 3) := by decide +kernel
theorem dD_readOne_111 : decode bD_readOne 111 = .ok (.aload_n 0, 1) := by decide +kernel
theorem dD_readOne_112 : decode bD_readOne 112 = .ok (.iload_n 1, 1) := by decide +kernel
theorem dD_readOne_113 : decode bD_readOne 113 = .ok (.invokevirtual 66, 3) := by decide +kernel
theorem dD_readOne_116 : decode bD_readOne 116 = .ok (.ifCond .eq 23, 3) := by decide +kernel
theorem dD_readOne_119 : decode bD_readOne 119 = .ok (.aload_n 0, 1) := by decide +kernel
theorem dD_readOne_120 : decode bD_readOne 120 = .ok (.iload_n 1, 1) := by decide +kernel
theorem dD_readOne_121 : decode bD_readOne 121 = .ok (.iconst 1, 1) := by decide +kernel
theorem dD_readOne_122 : decode bD_readOne 122 = .ok (.iadd, 1) := by decide +kernel
theorem dD_readOne_123 : decode bD_readOne 123 = .ok (.invokevirtual 42, 3) := by decide +kernel
theorem dD_readOne_126 : decode bD_readOne 126 = .ok (.aload_n 0, 1) := by decide +kernel
theorem dD_readOne_127 : decode bD_readOne 127 = .ok (.bipush 41, 2) := by decide +kernel
theorem dD_readOne_129 : decode bD_readOne 129 = .ok (.invokevirtual 38, 3) := by decide +kernel
theorem dD_readOne_132 : decode bD_readOne 132 = .ok (.goto 7, 3) := by decide +kernel
theorem dD_readOne_135 : decode bD_readOne 135 = .ok (.aload_n 0, 1) := by decide +kernel
theorem dD_readOne_136 : decode bD_readOne 136 = .ok (.invokevirtual 51, 3) := by decide +kernel
theorem dD_readOne_139 : decode bD_readOne 139 = .ok (.return_, 1) := by decide +kernel
theorem wD_readOne_66 {p : Program} {l : Launch} {e : Env} {s : State} {m : MethodId} {args : Array Value} {below : List Frame} {meth : Method} {c : Code} {G : GT} {I : List Nat} (C : CX p s m args meth c ND bD_readOne 2 none G I) (hI : cI I) {rec : Nat → Int32 → Sg → Option Sg} {d : Nat} (hg : QG l G I rec d) {fu : Nat} {Z : Sg} {v1 : Int32} {z : Sg} {H : Heap} {locs : List Loc} {ls : Array Slot} (h : pD_readOne_66 fu rec v1 z = some Z) (hG : GW G I z s.heap H locs) (hl : lv_has ls 2 [(0, .ref (gA G 3)), (1, .int v1)]) : W p l e (rmG (d + 1)) s m args below meth c H locs 0 0 (MQ below (Qv G I Z) args s 0 0 (AD G I)) (F0 m 66 ls []) := by
  unfold pD_readOne_66 at h
  refine rAload_n C dD_readOne_66 hl 0 rfl ?_
  refine rGet C hG (hI 3 (by decide)) e_3 fiD_4 (v := .int (z 3 4)) rfl k_61 dD_readOne_67 ?_
  refine lv_bipush (v := 45) C.1 C.2.1 dD_readOne_70 (by decide) ?_
  refine rIcmpne C (tgt := 102) h dD_readOne_72 (by decide) (fun h => ?_) (fun h => ?_)
  · refine rAload_n C dD_readOne_102 hl 0 rfl ?_
    refine rGet C hG (hI 3 (by decide)) e_3 fiD_4 (v := .int (z 3 4)) rfl k_61 dD_readOne_103 ?_
    refine lv_bipush (v := 40) C.1 C.2.1 dD_readOne_106 (by decide) ?_
    refine rIcmpne C (tgt := 135) h dD_readOne_108 (by decide) (fun h => ?_) (fun h => ?_)
    · refine rAload_n C dD_readOne_135 hl 0 rfl ?_
      refine rCVv [] [] C hG h (fun h => cD_fail hI h) mvD_fail k_322 (rmG_out (by decide) (by decide)) ⟨rfl, rfl⟩ (rRecv C hG (hI 3 (by decide)) e_3 rfl) rfl hl.1 (Nat.le_of_ble_eq_true rfl) dD_readOne_136 ⟨Nat.zero_le _, Nat.zero_le _⟩ rfl (fun H locs z5 h hG => ?_)
      exact rRetv C hG h dD_readOne_139
    · refine rAload_n C dD_readOne_111 hl 0 rfl ?_
      refine rIload_n C dD_readOne_112 hl 1 rfl ?_
      refine rCVi [.int v1] [] C hG h (fun h => cD_opens hI h) mvD_opens k_338 (rmG_out (by decide) (by decide)) ⟨rfl, rfl⟩ (rRecv C hG (hI 3 (by decide)) e_3 rfl) rfl hl.1 (Nat.le_of_ble_eq_true rfl) dD_readOne_113 ⟨Nat.zero_le _, Nat.zero_le _⟩ rfl (fun H locs x7 z6 h hG => ?_)
      refine rIfeq C (tgt := 139) h dD_readOne_116 (by decide) (fun h => ?_) (fun h => ?_)
      · exact rRetv C hG h dD_readOne_139
      · refine rAload_n C dD_readOne_119 hl 0 rfl ?_
        refine rIload_n C dD_readOne_120 hl 1 rfl ?_
        refine lv_iconst (v := 1) C.1 C.2.1 dD_readOne_121 (by decide) ?_
        refine lv_iadd C.1 C.2.1 dD_readOne_122 ?_
        refine rCVv [.int (v1 + 1)] [] C hG h (fun h => hg.1 h) mvD_readEither k_326 (rmG_ok (by decide)) ⟨rfl, rfl⟩ (rRecv C hG (hI 3 (by decide)) e_3 rfl) rfl hl.1 (Nat.le_of_ble_eq_true rfl) dD_readOne_123 ⟨Nat.zero_le _, Nat.zero_le _⟩ rfl (fun H locs z8 h hG => ?_)
        refine rAload_n C dD_readOne_126 hl 0 rfl ?_
        refine lv_bipush (v := 41) C.1 C.2.1 dD_readOne_127 (by decide) ?_
        refine rCVv [.int 41] [] C hG h (fun h => cD_expect hI h) mvD_expect k_318 (rmG_out (by decide) (by decide)) ⟨rfl, rfl⟩ (rRecv C hG (hI 3 (by decide)) e_3 rfl) rfl hl.1 (Nat.le_of_ble_eq_true rfl) dD_readOne_129 ⟨Nat.zero_le _, Nat.zero_le _⟩ rfl (fun H locs z9 h hG => ?_)
        refine lv_goto (tgt := 139) C.1 C.2.1 dD_readOne_132 (by decide) ?_
        exact rRetv C hG h dD_readOne_139
  · refine rAload_n C dD_readOne_75 hl 0 rfl ?_
    refine rIload_n C dD_readOne_76 hl 1 rfl ?_
    refine rCVi [.int v1] [] C hG h (fun h => cD_opens hI h) mvD_opens k_338 (rmG_out (by decide) (by decide)) ⟨rfl, rfl⟩ (rRecv C hG (hI 3 (by decide)) e_3 rfl) rfl hl.1 (Nat.le_of_ble_eq_true rfl) dD_readOne_77 ⟨Nat.zero_le _, Nat.zero_le _⟩ rfl (fun H locs x11 z10 h hG => ?_)
    refine rIfeq C (tgt := 139) h dD_readOne_80 (by decide) (fun h => ?_) (fun h => ?_)
    · exact rRetv C hG h dD_readOne_139
    · refine rAload_n C dD_readOne_83 hl 0 rfl ?_
      refine rIload_n C dD_readOne_84 hl 1 rfl ?_
      refine lv_iconst (v := 1) C.1 C.2.1 dD_readOne_85 (by decide) ?_
      refine lv_iadd C.1 C.2.1 dD_readOne_86 ?_
      refine rCVv [.int (v1 + 1)] [] C hG h (fun h => hg.2.2.2.2.2 h) mvD_readOne k_354 (rmG_ok (by decide)) ⟨rfl, rfl⟩ (rRecv C hG (hI 3 (by decide)) e_3 rfl) rfl hl.1 (Nat.le_of_ble_eq_true rfl) dD_readOne_87 ⟨Nat.zero_le _, Nat.zero_le _⟩ rfl (fun H locs z12 h hG => ?_)
      refine rAload_n C dD_readOne_90 hl 0 rfl ?_
      refine rGet C hG (hI 3 (by decide)) e_3 fiD_0 (v := .ref (gA G 66)) rfl k_55 dD_readOne_91 ?_
      refine lv_bipush (v := (-8)) C.1 C.2.1 dD_readOne_94 (by decide) ?_
      refine rCVv [.int (-8)] [] C hG h (fun h => cL_add hI law66 h) mvL_add k_342 (rmG_out (by decide) (by decide)) ⟨rfl, rfl⟩ (rRecv C hG (hI 66 (by decide)) e_66 rfl) rfl hl.1 (Nat.le_of_ble_eq_true rfl) dD_readOne_96 ⟨Nat.zero_le _, Nat.zero_le _⟩ rfl (fun H locs z13 h hG => ?_)
      refine lv_goto (tgt := 139) C.1 C.2.1 dD_readOne_99 (by decide) ?_
      exact rRetv C hG h dD_readOne_139
theorem cD_readOne {l : Launch} {G : GT} {I : List Nat} (hI : cI I) {rec : Nat → Int32 → Sg → Option Sg} {d : Nat} (hg : QG l G I rec d) {fu : Nat} {v1 : Int32} {z : Sg} {Z : Sg} (h : pD_readOne fu rec v1 z = some Z) : Mt l yD_readOne (rmG (d + 1)) bD_readOne 2 none G I z [.ref (gA G 3), .int v1] (Qv G I Z) := by
  refine entM (by decide +kernel) (Nat.le_of_ble_eq_true rfl) ?_
  intro p e s m below meth c C hG ls hl
  have hl : lv_has ls 2 [(0, .ref (gA G 3)), (1, .int v1)] := hl
  unfold pD_readOne at h
  refine rAload_n C dD_readOne_0 hl 0 rfl ?_
  refine rGet C hG (hI 3 (by decide)) e_3 fiD_4 (v := .int (z 3 4)) rfl k_61 dD_readOne_1 ?_
  refine lv_sipush (v := 256) C.1 C.2.1 dD_readOne_4 (by decide) ?_
  refine rIcmpne C (tgt := 28) h dD_readOne_7 (by decide) (fun h => ?_) (fun h => ?_)
  · refine rAload_n C dD_readOne_28 hl 0 rfl ?_
    refine rGet C hG (hI 3 (by decide)) e_3 fiD_4 (v := .int (z 3 4)) rfl k_61 dD_readOne_29 ?_
    refine lv_bipush (v := 6) C.1 C.2.1 dD_readOne_32 (by decide) ?_
    refine rIcmplt C (tgt := 66) h dD_readOne_34 (by decide) (fun h => ?_) (fun h => ?_)
    · exact wD_readOne_66 C hI hg h hG (lv_sub hl [0, 1] rfl)
    · refine rAload_n C dD_readOne_37 hl 0 rfl ?_
      refine rGet C hG (hI 3 (by decide)) e_3 fiD_4 (v := .int (z 3 4)) rfl k_61 dD_readOne_38 ?_
      refine lv_bipush (v := 11) C.1 C.2.1 dD_readOne_41 (by decide) ?_
      refine rIcmpgt C (tgt := 66) h dD_readOne_43 (by decide) (fun h => ?_) (fun h => ?_)
      · exact wD_readOne_66 C hI hg h hG (lv_sub hl [0, 1] rfl)
      · refine rAload_n C dD_readOne_46 hl 0 rfl ?_
        refine rGet C hG (hI 3 (by decide)) e_3 fiD_0 (v := .ref (gA G 66)) rfl k_55 dD_readOne_47 ?_
        refine lv_iconst (v := 5) C.1 C.2.1 dD_readOne_50 (by decide) ?_
        refine rAload_n C dD_readOne_51 hl 0 rfl ?_
        refine rGet C hG (hI 3 (by decide)) e_3 fiD_4 (v := .int (z 3 4)) rfl k_61 dD_readOne_52 ?_
        refine lv_isub C.1 C.2.1 dD_readOne_55 ?_
        refine rCVv [.int (5 - (z 3 4))] [] C hG h (fun h => cL_add hI law66 h) mvL_add k_342 (rmG_out (by decide) (by decide)) ⟨rfl, rfl⟩ (rRecv C hG (hI 66 (by decide)) e_66 rfl) rfl hl.1 (Nat.le_of_ble_eq_true rfl) dD_readOne_56 ⟨Nat.zero_le _, Nat.zero_le _⟩ rfl (fun H locs z1 h hG => ?_)
        refine rAload_n C dD_readOne_59 hl 0 rfl ?_
        refine rCVv [] [] C hG h (fun h => cD_advance hI h) mvD_advance k_233 (rmG_out (by decide) (by decide)) ⟨rfl, rfl⟩ (rRecv C hG (hI 3 (by decide)) e_3 rfl) rfl hl.1 (Nat.le_of_ble_eq_true rfl) dD_readOne_60 ⟨Nat.zero_le _, Nat.zero_le _⟩ rfl (fun H locs z2 h hG => ?_)
        refine lv_goto (tgt := 139) C.1 C.2.1 dD_readOne_63 (by decide) ?_
        exact rRetv C hG h dD_readOne_139
  · refine rAload_n C dD_readOne_10 hl 0 rfl ?_
    refine rGet C hG (hI 3 (by decide)) e_3 fiD_0 (v := .ref (gA G 66)) rfl k_55 dD_readOne_11 ?_
    refine rAload_n C dD_readOne_14 hl 0 rfl ?_
    refine rGet C hG (hI 3 (by decide)) e_3 fiD_6 (v := .int (z 3 6)) rfl k_63 dD_readOne_15 ?_
    refine rCVv [.int (z 3 6)] [] C hG h (fun h => cL_add hI law66 h) mvL_add k_342 (rmG_out (by decide) (by decide)) ⟨rfl, rfl⟩ (rRecv C hG (hI 66 (by decide)) e_66 rfl) rfl hl.1 (Nat.le_of_ble_eq_true rfl) dD_readOne_18 ⟨Nat.zero_le _, Nat.zero_le _⟩ rfl (fun H locs z3 h hG => ?_)
    refine rAload_n C dD_readOne_21 hl 0 rfl ?_
    refine rCVv [] [] C hG h (fun h => cD_advance hI h) mvD_advance k_233 (rmG_out (by decide) (by decide)) ⟨rfl, rfl⟩ (rRecv C hG (hI 3 (by decide)) e_3 rfl) rfl hl.1 (Nat.le_of_ble_eq_true rfl) dD_readOne_22 ⟨Nat.zero_le _, Nat.zero_le _⟩ rfl (fun H locs z4 h hG => ?_)
    refine lv_goto (tgt := 139) C.1 C.2.1 dD_readOne_25 (by decide) ?_
    exact rRetv C hG h dD_readOne_139
theorem cgRd {l : Launch} {G : GT} {I : List Nat} (hI : cI I) {fu : Nat} : ∀ d : Nat, QG l G I (gRd fu d) d := by
  intro d
  induction d with
  | zero => exact ⟨fun h => (by rw [gRd] at h; cases h), fun h => (by rw [gRd] at h; cases h), fun h => (by rw [gRd] at h; cases h), fun h => (by rw [gRd] at h; cases h), fun h => (by rw [gRd] at h; cases h), fun h => (by rw [gRd] at h; cases h)⟩
  | succ d ih =>
    refine ⟨fun h => ?_, fun h => ?_, fun h => ?_, fun h => ?_, fun h => ?_, fun h => ?_⟩
    · rw [gRd] at h; exact cD_readEither hI ih (by simpa using h)
    · rw [gRd] at h; exact cD_readBoth hI ih (by simpa using h)
    · rw [gRd] at h; exact cD_readNot hI ih (by simpa using h)
    · rw [gRd] at h; exact cD_readSum hI ih (by simpa using h)
    · rw [gRd] at h; exact cD_readTerm hI ih (by simpa using h)
    · rw [gRd] at h; exact cD_readOne hI ih (by simpa using h)

theorem dD_readAll_0 : decode bD_readAll 0 = .ok (.aload_n 0, 1) := by decide +kernel
theorem dD_readAll_1 : decode bD_readAll 1 = .ok (.iconst 0, 1) := by decide +kernel
theorem dD_readAll_2 : decode bD_readAll 2 = .ok (.putfield 26, 3) := by decide +kernel
theorem dD_readAll_5 : decode bD_readAll 5 = .ok (.aload_n 0, 1) := by decide +kernel
theorem dD_readAll_6 : decode bD_readAll 6 = .ok (.iconst (-1), 1) := by decide +kernel
theorem dD_readAll_7 : decode bD_readAll 7 = .ok (.putfield 29, 3) := by decide +kernel
theorem dD_readAll_10 : decode bD_readAll 10 = .ok (.aload_n 0, 1) := by decide +kernel
theorem dD_readAll_11 : decode bD_readAll 11 = .ok (.getfield 12, 3) := by decide +kernel
theorem dD_readAll_14 : decode bD_readAll 14 = .ok (.invokevirtual 32, 3) := by decide +kernel
theorem dD_readAll_17 : decode bD_readAll 17 = .ok (.aload_n 0, 1) := by decide +kernel
theorem dD_readAll_18 : decode bD_readAll 18 = .ok (.invokevirtual 35, 3) := by decide +kernel
theorem dD_readAll_21 : decode bD_readAll 21 = .ok (.iconst 0, 1) := by decide +kernel
theorem dD_readAll_22 : decode bD_readAll 22 = .ok (.istore_n 1, 1) := by decide +kernel
theorem dD_readAll_23 : decode bD_readAll 23 = .ok (.iload_n 1, 1) := by decide +kernel
theorem dD_readAll_24 : decode bD_readAll 24 = .ok (.iconst 3, 1) := by decide +kernel
theorem dD_readAll_25 : decode bD_readAll 25 = .ok (.if_icmp .ge 33, 3) := by decide +kernel
theorem dD_readAll_28 : decode bD_readAll 28 = .ok (.aload_n 0, 1) := by decide +kernel
theorem dD_readAll_29 : decode bD_readAll 29 = .ok (.iload_n 1, 1) := by decide +kernel
theorem dD_readAll_30 : decode bD_readAll 30 = .ok (.invokevirtual 38, 3) := by decide +kernel
theorem dD_readAll_33 : decode bD_readAll 33 = .ok (.aload_n 0, 1) := by decide +kernel
theorem dD_readAll_34 : decode bD_readAll 34 = .ok (.iconst 0, 1) := by decide +kernel
theorem dD_readAll_35 : decode bD_readAll 35 = .ok (.invokevirtual 42, 3) := by decide +kernel
theorem dD_readAll_38 : decode bD_readAll 38 = .ok (.aload_n 0, 1) := by decide +kernel
theorem dD_readAll_39 : decode bD_readAll 39 = .ok (.bipush 59, 2) := by decide +kernel
theorem dD_readAll_41 : decode bD_readAll 41 = .ok (.invokevirtual 38, 3) := by decide +kernel
theorem dD_readAll_44 : decode bD_readAll 44 = .ok (.aload_n 0, 1) := by decide +kernel
theorem dD_readAll_45 : decode bD_readAll 45 = .ok (.getfield 12, 3) := by decide +kernel
theorem dD_readAll_48 : decode bD_readAll 48 = .ok (.iload_n 1, 1) := by decide +kernel
theorem dD_readAll_49 : decode bD_readAll 49 = .ok (.invokevirtual 45, 3) := by decide +kernel
theorem dD_readAll_52 : decode bD_readAll 52 = .ok (.iinc 1 1, 3) := by decide +kernel
theorem dD_readAll_55 : decode bD_readAll 55 = .ok (.goto (-32), 3) := by decide +kernel
theorem dD_readAll_58 : decode bD_readAll 58 = .ok (.aload_n 0, 1) := by decide +kernel
theorem dD_readAll_59 : decode bD_readAll 59 = .ok (.sipush 257, 3) := by decide +kernel
theorem dD_readAll_62 : decode bD_readAll 62 = .ok (.invokevirtual 38, 3) := by decide +kernel
theorem dD_readAll_65 : decode bD_readAll 65 = .ok (.aload_n 0, 1) := by decide +kernel
theorem dD_readAll_66 : decode bD_readAll 66 = .ok (.iconst 0, 1) := by decide +kernel
theorem dD_readAll_67 : decode bD_readAll 67 = .ok (.putfield 22, 3) := by decide +kernel
theorem dD_readAll_70 : decode bD_readAll 70 = .ok (.aload_n 0, 1) := by decide +kernel
theorem dD_readAll_71 : decode bD_readAll 71 = .ok (.getfield 29, 3) := by decide +kernel
theorem dD_readAll_74 : decode bD_readAll 74 = .ok (.ireturn, 1) := by decide +kernel
theorem wD_readAll_23 {p : Program} {l : Launch} {e : Env} {s : State} {m : MethodId} {args : Array Value} {below : List Frame} {meth : Method} {c : Code} {G : GT} {I : List Nat} (C : CX p s m args meth c ND bD_readAll 2 (some .int) G I) (hI : cI I) {fu : Nat} {R1 : Int32} {Z : Sg} : ∀ (k : Nat) {v1 : Int32} {z : Sg} {H : Heap} {locs : List Loc} {ls : Array Slot}, pD_readAll_23 fu k v1 z = some (R1, Z) → GW G I z s.heap H locs → lv_has ls 2 [(0, .ref (gA G 3)), (1, .int v1)] → W p l e rmD_readAll s m args below meth c H locs 0 0 (MQ below (Qi G I R1 Z) args s 0 0 (AD G I)) (F0 m 23 ls []) := by
  intro k
  induction k with
  | zero => intro v1 z H locs ls h hG hl; rw [pD_readAll_23] at h; cases h
  | succ k ih =>
    intro v1 z H locs ls h hG hl
    rw [pD_readAll_23] at h
    refine rIload_n C dD_readAll_23 hl 1 rfl ?_
    refine lv_iconst (v := 3) C.1 C.2.1 dD_readAll_24 (by decide) ?_
    refine rIcmpge C (tgt := 58) h dD_readAll_25 (by decide) (fun h => ?_) (fun h => ?_)
    · refine rAload_n C dD_readAll_58 hl 0 rfl ?_
      refine lv_sipush (v := 257) C.1 C.2.1 dD_readAll_59 (by decide) ?_
      refine rCVv [.int 257] [] C hG h (fun h => cD_expect hI h) mvD_expect k_318 ⟨Nat.le_of_ble_eq_true rfl, Nat.le_of_ble_eq_true rfl⟩ ⟨rfl, rfl⟩ (rRecv C hG (hI 3 (by decide)) e_3 rfl) rfl hl.1 (Nat.le_of_ble_eq_true rfl) dD_readAll_62 ⟨Nat.zero_le _, Nat.zero_le _⟩ rfl (fun H locs z5 h hG => ?_)
      refine rAload_n C dD_readAll_65 hl 0 rfl ?_
      refine lv_iconst (v := 0) C.1 C.2.1 dD_readAll_66 (by decide) ?_
      refine rPut C hG (hI 3 (by decide)) e_3 fiD_1 tokD nmD rfl (fpD_1 _) (Nat.le_of_ble_eq_true rfl) rfl rfl k_57 h dD_readAll_67 (fun H locs z6 h hG => ?_)
      refine rAload_n C dD_readAll_70 hl 0 rfl ?_
      refine rGet C hG (hI 3 (by decide)) e_3 fiD_7 (v := .int (z6 3 7)) rfl k_64 dD_readAll_71 ?_
      exact rReti C hG h dD_readAll_74
    · refine rAload_n C dD_readAll_28 hl 0 rfl ?_
      refine rIload_n C dD_readAll_29 hl 1 rfl ?_
      refine rCVv [.int v1] [] C hG h (fun h => cD_expect hI h) mvD_expect k_318 ⟨Nat.le_of_ble_eq_true rfl, Nat.le_of_ble_eq_true rfl⟩ ⟨rfl, rfl⟩ (rRecv C hG (hI 3 (by decide)) e_3 rfl) rfl hl.1 (Nat.le_of_ble_eq_true rfl) dD_readAll_30 ⟨Nat.zero_le _, Nat.zero_le _⟩ rfl (fun H locs z7 h hG => ?_)
      refine rAload_n C dD_readAll_33 hl 0 rfl ?_
      refine lv_iconst (v := 0) C.1 C.2.1 dD_readAll_34 (by decide) ?_
      refine rCVv [.int 0] [] C hG h (fun h => (cgRd hI 64).1 h) mvD_readEither k_326 ⟨Nat.le_of_ble_eq_true rfl, Nat.le_of_ble_eq_true rfl⟩ ⟨rfl, rfl⟩ (rRecv C hG (hI 3 (by decide)) e_3 rfl) rfl hl.1 (Nat.le_of_ble_eq_true rfl) dD_readAll_35 ⟨Nat.zero_le _, Nat.zero_le _⟩ rfl (fun H locs z8 h hG => ?_)
      refine rAload_n C dD_readAll_38 hl 0 rfl ?_
      refine lv_bipush (v := 59) C.1 C.2.1 dD_readAll_39 (by decide) ?_
      refine rCVv [.int 59] [] C hG h (fun h => cD_expect hI h) mvD_expect k_318 ⟨Nat.le_of_ble_eq_true rfl, Nat.le_of_ble_eq_true rfl⟩ ⟨rfl, rfl⟩ (rRecv C hG (hI 3 (by decide)) e_3 rfl) rfl hl.1 (Nat.le_of_ble_eq_true rfl) dD_readAll_41 ⟨Nat.zero_le _, Nat.zero_le _⟩ rfl (fun H locs z9 h hG => ?_)
      refine rAload_n C dD_readAll_44 hl 0 rfl ?_
      refine rGet C hG (hI 3 (by decide)) e_3 fiD_0 (v := .ref (gA G 66)) rfl k_55 dD_readAll_45 ?_
      refine rIload_n C dD_readAll_48 hl 1 rfl ?_
      refine rCVv [.int v1] [] C hG h (fun h => cL_endPart hI law66 h) mvL_endPart k_358 ⟨Nat.le_of_ble_eq_true rfl, Nat.le_of_ble_eq_true rfl⟩ ⟨rfl, rfl⟩ (rRecv C hG (hI 66 (by decide)) e_66 rfl) rfl hl.1 (Nat.le_of_ble_eq_true rfl) dD_readAll_49 ⟨Nat.zero_le _, Nat.zero_le _⟩ rfl (fun H locs z10 h hG => ?_)
      refine rIinc C dD_readAll_52 hl 1 rfl (d := 1) (by decide) h (by decide) [(0, .ref (gA G 3))] rfl (fun x11 ls h hl => ?_)
      refine lv_goto (tgt := 23) C.1 C.2.1 dD_readAll_55 (by decide) ?_
      exact ih h hG (lv_sub hl [1, 0] rfl)
theorem cD_readAll {l : Launch} {G : GT} {I : List Nat} (hI : cI I) {fu : Nat} {z : Sg} {R1 : Int32} {Z : Sg} (h : pD_readAll fu z = some (R1, Z)) : Mt l yD_readAll rmD_readAll bD_readAll 2 (some .int) G I z [.ref (gA G 3)] (Qi G I R1 Z) := by
  refine entM (by decide +kernel) (Nat.le_of_ble_eq_true rfl) ?_
  intro p e s m below meth c C hG ls hl
  have hl : lv_has ls 2 [(0, .ref (gA G 3))] := hl
  unfold pD_readAll at h
  refine rAload_n C dD_readAll_0 hl 0 rfl ?_
  refine lv_iconst (v := 0) C.1 C.2.1 dD_readAll_1 (by decide) ?_
  refine rPut C hG (hI 3 (by decide)) e_3 fiD_3 tokD nmD rfl (fpD_3 _) (Nat.le_of_ble_eq_true rfl) rfl rfl k_60 h dD_readAll_2 (fun H locs z1 h hG => ?_)
  refine rAload_n C dD_readAll_5 hl 0 rfl ?_
  refine lv_iconst (v := (-1)) C.1 C.2.1 dD_readAll_6 (by decide) ?_
  refine rPut C hG (hI 3 (by decide)) e_3 fiD_7 tokD nmD rfl (fpD_7 _) (Nat.le_of_ble_eq_true rfl) rfl rfl k_64 h dD_readAll_7 (fun H locs z2 h hG => ?_)
  refine rAload_n C dD_readAll_10 hl 0 rfl ?_
  refine rGet C hG (hI 3 (by decide)) e_3 fiD_0 (v := .ref (gA G 66)) rfl k_55 dD_readAll_11 ?_
  refine rCVv [] [] C hG h (fun h => cL_clear hI law66 h) mvL_clear k_229 ⟨Nat.le_of_ble_eq_true rfl, Nat.le_of_ble_eq_true rfl⟩ ⟨rfl, rfl⟩ (rRecv C hG (hI 66 (by decide)) e_66 rfl) rfl hl.1 (Nat.le_of_ble_eq_true rfl) dD_readAll_14 ⟨Nat.zero_le _, Nat.zero_le _⟩ rfl (fun H locs z3 h hG => ?_)
  refine rAload_n C dD_readAll_17 hl 0 rfl ?_
  refine rCVv [] [] C hG h (fun h => cD_advance hI h) mvD_advance k_233 ⟨Nat.le_of_ble_eq_true rfl, Nat.le_of_ble_eq_true rfl⟩ ⟨rfl, rfl⟩ (rRecv C hG (hI 3 (by decide)) e_3 rfl) rfl hl.1 (Nat.le_of_ble_eq_true rfl) dD_readAll_18 ⟨Nat.zero_le _, Nat.zero_le _⟩ rfl (fun H locs z4 h hG => ?_)
  refine lv_iconst (v := 0) C.1 C.2.1 dD_readAll_21 (by decide) ?_
  refine rIstoreA_n C dD_readAll_22 hl (by decide) [(0, .ref (gA G 3))] rfl (fun ls hl => ?_)
  exact wD_readAll_23 C hI _ h hG (lv_sub hl [1, 0] rfl)
