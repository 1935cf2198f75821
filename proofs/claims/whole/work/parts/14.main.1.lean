theorem dS_count_0 : decode bS_count 0 = .ok (.iload_n 1, 1) := by decide +kernel
theorem dS_count_1 : decode bS_count 1 = .ok (.tableswitch 75 0 4 #[35, 43, 54, 59, 67], 35) := by decide +kernel
theorem dS_count_36 : decode bS_count 36 = .ok (.aload_n 0, 1) := by decide +kernel
theorem dS_count_37 : decode bS_count 37 = .ok (.getfield 49, 3) := by decide +kernel
theorem dS_count_40 : decode bS_count 40 = .ok (.getfield 90, 3) := by decide +kernel
theorem dS_count_43 : decode bS_count 43 = .ok (.ireturn, 1) := by decide +kernel
theorem dS_count_44 : decode bS_count 44 = .ok (.aload_n 0, 1) := by decide +kernel
theorem dS_count_45 : decode bS_count 45 = .ok (.getfield 49, 3) := by decide +kernel
theorem dS_count_48 : decode bS_count 48 = .ok (.invokevirtual 93, 3) := by decide +kernel
theorem dS_count_51 : decode bS_count 51 = .ok (.invokestatic 96, 3) := by decide +kernel
theorem dS_count_54 : decode bS_count 54 = .ok (.ireturn, 1) := by decide +kernel
theorem dS_count_55 : decode bS_count 55 = .ok (.aload_n 0, 1) := by decide +kernel
theorem dS_count_56 : decode bS_count 56 = .ok (.getfield 86, 3) := by decide +kernel
theorem dS_count_59 : decode bS_count 59 = .ok (.ireturn, 1) := by decide +kernel
theorem dS_count_60 : decode bS_count 60 = .ok (.aload_n 0, 1) := by decide +kernel
theorem dS_count_61 : decode bS_count 61 = .ok (.getfield 49, 3) := by decide +kernel
theorem dS_count_64 : decode bS_count 64 = .ok (.getfield 102, 3) := by decide +kernel
theorem dS_count_67 : decode bS_count 67 = .ok (.ireturn, 1) := by decide +kernel
theorem dS_count_68 : decode bS_count 68 = .ok (.aload_n 0, 1) := by decide +kernel
theorem dS_count_69 : decode bS_count 69 = .ok (.getfield 24, 3) := by decide +kernel
theorem dS_count_72 : decode bS_count 72 = .ok (.getfield 105, 3) := by decide +kernel
theorem dS_count_75 : decode bS_count 75 = .ok (.ireturn, 1) := by decide +kernel
theorem dS_count_76 : decode bS_count 76 = .ok (.bipush (-2), 2) := by decide +kernel
theorem dS_count_78 : decode bS_count 78 = .ok (.ireturn, 1) := by decide +kernel
theorem cS_count {l : Launch} {G : GT} {I : List Nat} (hI : cI I) {fu : Nat} {v1 : Int32} {z : Sg} {R1 : Int32} {Z : Sg} (h : pS_count fu v1 z = some (R1, Z)) : Mt l yS_count rmS_count bS_count 2 (some .int) G I z [.ref (gA G 0), .int v1] (Qi G I R1 Z) := by
  refine entM (by decide +kernel) (Nat.le_of_ble_eq_true rfl) ?_
  intro p e s m below meth c C hG ls hl
  have hl : lv_has ls 2 [(0, .ref (gA G 0)), (1, .int v1)] := hl
  unfold pS_count at h
  refine rIload_n C dS_count_0 hl 1 rfl ?_
  by_cases q1_0 : v1 = 0
  · replace h := ifP q1_0 h
    refine rSwT C dS_count_1 0 q1_0 (by decide) (off := 35) (tgt := 36) (by decide) (by decide) ?_
    refine rAload_n C dS_count_36 hl 0 rfl ?_
    refine rGet C hG (hI 0 (by decide)) e_0 fiS_5 (v := .ref (gA G 9)) rfl k_374 dS_count_37 ?_
    refine rGet C hG (hI 9 (by decide)) e_9 fiR_3 (v := .int (z 9 3)) rfl k_144 dS_count_40 ?_
    exact rReti C hG h dS_count_43
  replace h := ifN q1_0 h
  by_cases q1_1 : v1 = 1
  · replace h := ifP q1_1 h
    refine rSwT C dS_count_1 1 q1_1 (by decide) (off := 43) (tgt := 44) (by decide) (by decide) ?_
    refine rAload_n C dS_count_44 hl 0 rfl ?_
    refine rGet C hG (hI 0 (by decide)) e_0 fiS_5 (v := .ref (gA G 9)) rfl k_374 dS_count_45 ?_
    refine rCVi [] [] C hG h (fun h => cR_inStepBits hI row9 h) mvR_inStepBits k_405 ⟨Nat.le_of_ble_eq_true rfl, Nat.le_of_ble_eq_true rfl⟩ ⟨rfl, rfl⟩ (rRecv C hG (hI 9 (by decide)) e_9 rfl) rfl hl.1 (Nat.le_of_ble_eq_true rfl) dS_count_48 ⟨Nat.zero_le _, Nat.zero_le _⟩ rfl (fun H locs x2 z1 h hG => ?_)
    refine rCSi [.int x2] [] C hG h (fun h => cJI_bitCount h) mvJI_bitCount k_413 ⟨Nat.le_of_ble_eq_true rfl, Nat.le_of_ble_eq_true rfl⟩ ⟨rfl, rfl⟩ rfl hl.1 (Nat.le_of_ble_eq_true rfl) dS_count_51 ⟨Nat.zero_le _, Nat.zero_le _⟩ rfl (fun H locs x4 z3 h hG => ?_)
    exact rReti C hG h dS_count_54
  replace h := ifN q1_1 h
  by_cases q1_2 : v1 = 2
  · replace h := ifP q1_2 h
    refine rSwT C dS_count_1 2 q1_2 (by decide) (off := 54) (tgt := 55) (by decide) (by decide) ?_
    refine rAload_n C dS_count_55 hl 0 rfl ?_
    refine rGet C hG (hI 0 (by decide)) e_0 fiS_8 (v := .int (z 0 8)) rfl k_377 dS_count_56 ?_
    exact rReti C hG h dS_count_59
  replace h := ifN q1_2 h
  by_cases q1_3 : v1 = 3
  · replace h := ifP q1_3 h
    refine rSwT C dS_count_1 3 q1_3 (by decide) (off := 59) (tgt := 60) (by decide) (by decide) ?_
    refine rAload_n C dS_count_60 hl 0 rfl ?_
    refine rGet C hG (hI 0 (by decide)) e_0 fiS_5 (v := .ref (gA G 9)) rfl k_374 dS_count_61 ?_
    refine rGet C hG (hI 9 (by decide)) e_9 fiR_4 (v := .int (z 9 4)) rfl k_147 dS_count_64 ?_
    exact rReti C hG h dS_count_67
  replace h := ifN q1_3 h
  by_cases q1_4 : v1 = 4
  · replace h := ifP q1_4 h
    refine rSwT C dS_count_1 4 q1_4 (by decide) (off := 67) (tgt := 68) (by decide) (by decide) ?_
    refine rAload_n C dS_count_68 hl 0 rfl ?_
    refine rGet C hG (hI 0 (by decide)) e_0 fiS_2 (v := .ref (gA G 3)) rfl k_371 dS_count_69 ?_
    refine rGet C hG (hI 3 (by decide)) e_3 fiD_1 (v := .int (z 3 1)) rfl k_58 dS_count_72 ?_
    exact rReti C hG h dS_count_75
  replace h := ifN q1_4 h
  refine rSwD C dS_count_1 (tgt := 76) (by have q1_0n := ne_toInt (k := 0) q1_0 (by decide); have q1_1n := ne_toInt (k := 1) q1_1 (by decide); have q1_2n := ne_toInt (k := 2) q1_2 (by decide); have q1_3n := ne_toInt (k := 3) q1_3 (by decide); have q1_4n := ne_toInt (k := 4) q1_4 (by decide); omega) (by decide) ?_
  refine lv_bipush (v := (-2)) C.1 C.2.1 dS_count_76 (by decide) ?_
  exact rReti C hG h dS_count_78
theorem dS_sets_0 : decode bS_sets 0 = .ok (.iload_n 1, 1) := by decide +kernel
theorem dS_sets_1 : decode bS_sets 1 = .ok (.iconst 4, 1) := by decide +kernel
theorem dS_sets_2 : decode bS_sets 2 = .ok (.invokestatic 108, 3) := by decide +kernel
theorem dS_sets_5 : decode bS_sets 5 = .ok (.ifCond .eq 15, 3) := by decide +kernel
theorem dS_sets_8 : decode bS_sets 8 = .ok (.iload_n 2, 1) := by decide +kernel
theorem dS_sets_9 : decode bS_sets 9 = .ok (.getstatic 112, 3) := by decide +kernel
theorem dS_sets_12 : decode bS_sets 12 = .ok (.iload_n 1, 1) := by decide +kernel
theorem dS_sets_13 : decode bS_sets 13 = .ok (.iaload, 1) := by decide +kernel
theorem dS_sets_14 : decode bS_sets 14 = .ok (.invokestatic 108, 3) := by decide +kernel
theorem dS_sets_17 : decode bS_sets 17 = .ok (.ifCond .ne 6, 3) := by decide +kernel
theorem dS_sets_20 : decode bS_sets 20 = .ok (.bipush (-2), 2) := by decide +kernel
theorem dS_sets_22 : decode bS_sets 22 = .ok (.ireturn, 1) := by decide +kernel
theorem dS_sets_23 : decode bS_sets 23 = .ok (.iload_n 1, 1) := by decide +kernel
theorem dS_sets_24 : decode bS_sets 24 = .ok (.ifCond .ne 17, 3) := by decide +kernel
theorem dS_sets_27 : decode bS_sets 27 = .ok (.aload_n 0, 1) := by decide +kernel
theorem dS_sets_28 : decode bS_sets 28 = .ok (.getfield 49, 3) := by decide +kernel
theorem dS_sets_31 : decode bS_sets 31 = .ok (.iload_n 2, 1) := by decide +kernel
theorem dS_sets_32 : decode bS_sets 32 = .ok (.invokevirtual 116, 3) := by decide +kernel
theorem dS_sets_35 : decode bS_sets 35 = .ok (.ifCond .lt 6, 3) := by decide +kernel
theorem dS_sets_38 : decode bS_sets 38 = .ok (.bipush (-2), 2) := by decide +kernel
theorem dS_sets_40 : decode bS_sets 40 = .ok (.ireturn, 1) := by decide +kernel
theorem dS_sets_41 : decode bS_sets 41 = .ok (.aload_n 0, 1) := by decide +kernel
theorem dS_sets_42 : decode bS_sets 42 = .ok (.getfield 49, 3) := by decide +kernel
theorem dS_sets_45 : decode bS_sets 45 = .ok (.getfield 119, 3) := by decide +kernel
theorem dS_sets_48 : decode bS_sets 48 = .ok (.iload_n 1, 1) := by decide +kernel
theorem dS_sets_49 : decode bS_sets 49 = .ok (.iaload, 1) := by decide +kernel
theorem dS_sets_50 : decode bS_sets 50 = .ok (.istore_n 3, 1) := by decide +kernel
theorem dS_sets_51 : decode bS_sets 51 = .ok (.aload_n 0, 1) := by decide +kernel
theorem dS_sets_52 : decode bS_sets 52 = .ok (.getfield 49, 3) := by decide +kernel
theorem dS_sets_55 : decode bS_sets 55 = .ok (.getfield 119, 3) := by decide +kernel
theorem dS_sets_58 : decode bS_sets 58 = .ok (.iload_n 1, 1) := by decide +kernel
theorem dS_sets_59 : decode bS_sets 59 = .ok (.iload_n 2, 1) := by decide +kernel
theorem dS_sets_60 : decode bS_sets 60 = .ok (.iastore, 1) := by decide +kernel
theorem dS_sets_61 : decode bS_sets 61 = .ok (.iload_n 3, 1) := by decide +kernel
theorem dS_sets_62 : decode bS_sets 62 = .ok (.ireturn, 1) := by decide +kernel
theorem wS_sets_41 {p : Program} {l : Launch} {e : Env} {s : State} {m : MethodId} {args : Array Value} {below : List Frame} {meth : Method} {c : Code} {G : GT} {I : List Nat} (C : CX p s m args meth c NS bS_sets 4 (some .int) G I) (hI : cI I) {fu : Nat} {R1 : Int32} {Z : Sg} {v1 : Int32} {v2 : Int32} {z : Sg} {H : Heap} {locs : List Loc} {ls : Array Slot} (h : pS_sets_41 fu v1 v2 z = some (R1, Z)) (hG : GW G I z s.heap H locs) (hl : lv_has ls 4 [(0, .ref (gA G 0)), (1, .int v1), (2, .int v2)]) : W p l e rmS_sets s m args below meth c H locs 0 0 (MQ below (Qi G I R1 Z) args s 0 0 (AD G I)) (F0 m 41 ls []) := by
  unfold pS_sets_41 at h
  refine rAload_n C dS_sets_41 hl 0 rfl ?_
  refine rGet C hG (hI 0 (by decide)) e_0 fiS_5 (v := .ref (gA G 9)) rfl k_374 dS_sets_42 ?_
  refine rGet C hG (hI 9 (by decide)) e_9 fiR_1 (v := .ref (gA G 10)) rfl k_140 dS_sets_45 ?_
  refine rIload_n C dS_sets_48 hl 1 rfl ?_
  refine rIald C hG (hI 10 (by decide)) e_10 h dS_sets_49 (fun h => ?_)
  refine rIstore_n C dS_sets_50 hl h (by decide) [(0, .ref (gA G 0)), (1, .int v1), (2, .int v2)] rfl (fun x7 ls h hl => ?_)
  refine rAload_n C dS_sets_51 hl 1 rfl ?_
  refine rGet C hG (hI 0 (by decide)) e_0 fiS_5 (v := .ref (gA G 9)) rfl k_374 dS_sets_52 ?_
  refine rGet C hG (hI 9 (by decide)) e_9 fiR_1 (v := .ref (gA G 10)) rfl k_140 dS_sets_55 ?_
  refine rIload_n C dS_sets_58 hl 2 rfl ?_
  refine rIload_n C dS_sets_59 hl 3 rfl ?_
  refine rIast C hG (hI 10 (by decide)) e_10 h dS_sets_60 (fun H locs z8 h hG => ?_)
  refine rIload_n C dS_sets_61 hl 0 rfl ?_
  exact rReti C hG h dS_sets_62
theorem cS_sets {l : Launch} {G : GT} {I : List Nat} (hI : cI I) {fu : Nat} {v1 : Int32} {v2 : Int32} {z : Sg} {R1 : Int32} {Z : Sg} (h : pS_sets fu v1 v2 z = some (R1, Z)) : Mt l yS_sets rmS_sets bS_sets 4 (some .int) G I z [.ref (gA G 0), .int v1, .int v2] (Qi G I R1 Z) := by
  refine entM (by decide +kernel) (Nat.le_of_ble_eq_true rfl) ?_
  intro p e s m below meth c C hG ls hl
  have hl : lv_has ls 4 [(0, .ref (gA G 0)), (1, .int v1), (2, .int v2)] := hl
  unfold pS_sets at h
  refine rIload_n C dS_sets_0 hl 1 rfl ?_
  refine lv_iconst (v := 4) C.1 C.2.1 dS_sets_1 (by decide) ?_
  refine rCSi [.int v1, .int 4] [] C hG h (fun h => cS_within hI h) mvS_within k_423 ⟨Nat.le_of_ble_eq_true rfl, Nat.le_of_ble_eq_true rfl⟩ ⟨rfl, rfl⟩ rfl hl.1 (Nat.le_of_ble_eq_true rfl) dS_sets_2 ⟨Nat.zero_le _, Nat.zero_le _⟩ rfl (fun H locs x2 z1 h hG => ?_)
  refine rIfeq C (tgt := 20) h dS_sets_5 (by decide) (fun h => ?_) (fun h => ?_)
  · refine lv_bipush (v := (-2)) C.1 C.2.1 dS_sets_20 (by decide) ?_
    exact rReti C hG h dS_sets_22
  · refine rIload_n C dS_sets_8 hl 2 rfl ?_
    refine rGetsM C hG k_426 dS_sets_9 ?_
    refine rIload_n C dS_sets_12 hl 1 rfl ?_
    refine rTabM C hG h dS_sets_13 (fun h => ?_)
    refine rCSi [.int v2, .int (kaM v1)] [] C hG h (fun h => cS_within hI h) mvS_within k_423 ⟨Nat.le_of_ble_eq_true rfl, Nat.le_of_ble_eq_true rfl⟩ ⟨rfl, rfl⟩ rfl hl.1 (Nat.le_of_ble_eq_true rfl) dS_sets_14 ⟨Nat.zero_le _, Nat.zero_le _⟩ rfl (fun H locs x4 z3 h hG => ?_)
    refine rIfne C (tgt := 23) h dS_sets_17 (by decide) (fun h => ?_) (fun h => ?_)
    · refine rIload_n C dS_sets_23 hl 1 rfl ?_
      refine rIfne C (tgt := 41) h dS_sets_24 (by decide) (fun h => ?_) (fun h => ?_)
      · exact wS_sets_41 C hI h hG (lv_sub hl [0, 1, 2] rfl)
      · refine rAload_n C dS_sets_27 hl 0 rfl ?_
        refine rGet C hG (hI 0 (by decide)) e_0 fiS_5 (v := .ref (gA G 9)) rfl k_374 dS_sets_28 ?_
        refine rIload_n C dS_sets_31 hl 2 rfl ?_
        refine rCVi [.int v2] [] C hG h (fun h => cR_whoAt hI row9 h) mvR_whoAt k_428 ⟨Nat.le_of_ble_eq_true rfl, Nat.le_of_ble_eq_true rfl⟩ ⟨rfl, rfl⟩ (rRecv C hG (hI 9 (by decide)) e_9 rfl) rfl hl.1 (Nat.le_of_ble_eq_true rfl) dS_sets_32 ⟨Nat.zero_le _, Nat.zero_le _⟩ rfl (fun H locs x6 z5 h hG => ?_)
        refine rIflt C (tgt := 41) h dS_sets_35 (by decide) (fun h => ?_) (fun h => ?_)
        · exact wS_sets_41 C hI h hG (lv_sub hl [0, 1, 2] rfl)
        · refine lv_bipush (v := (-2)) C.1 C.2.1 dS_sets_38 (by decide) ?_
          exact rReti C hG h dS_sets_40
    · refine lv_bipush (v := (-2)) C.1 C.2.1 dS_sets_20 (by decide) ?_
      exact rReti C hG h dS_sets_22
theorem dS_row_0 : decode bS_row 0 = .ok (.iload_n 1, 1) := by decide +kernel
theorem dS_row_1 : decode bS_row 1 = .ok (.iconst 4, 1) := by decide +kernel
theorem dS_row_2 : decode bS_row 2 = .ok (.invokestatic 108, 3) := by decide +kernel
theorem dS_row_5 : decode bS_row 5 = .ok (.ifCond .eq 15, 3) := by decide +kernel
theorem dS_row_8 : decode bS_row 8 = .ok (.aload_n 0, 1) := by decide +kernel
theorem dS_row_9 : decode bS_row 9 = .ok (.getfield 49, 3) := by decide +kernel
theorem dS_row_12 : decode bS_row 12 = .ok (.getfield 119, 3) := by decide +kernel
theorem dS_row_15 : decode bS_row 15 = .ok (.iload_n 1, 1) := by decide +kernel
theorem dS_row_16 : decode bS_row 16 = .ok (.iaload, 1) := by decide +kernel
theorem dS_row_17 : decode bS_row 17 = .ok (.goto 5, 3) := by decide +kernel
theorem dS_row_20 : decode bS_row 20 = .ok (.bipush (-2), 2) := by decide +kernel
theorem dS_row_22 : decode bS_row 22 = .ok (.ireturn, 1) := by decide +kernel
theorem cS_row {l : Launch} {G : GT} {I : List Nat} (hI : cI I) {fu : Nat} {v1 : Int32} {z : Sg} {R1 : Int32} {Z : Sg} (h : pS_row fu v1 z = some (R1, Z)) : Mt l yS_row rmS_row bS_row 2 (some .int) G I z [.ref (gA G 0), .int v1] (Qi G I R1 Z) := by
  refine entM (by decide +kernel) (Nat.le_of_ble_eq_true rfl) ?_
  intro p e s m below meth c C hG ls hl
  have hl : lv_has ls 2 [(0, .ref (gA G 0)), (1, .int v1)] := hl
  unfold pS_row at h
  refine rIload_n C dS_row_0 hl 1 rfl ?_
  refine lv_iconst (v := 4) C.1 C.2.1 dS_row_1 (by decide) ?_
  refine rCSi [.int v1, .int 4] [] C hG h (fun h => cS_within hI h) mvS_within k_423 ⟨Nat.le_of_ble_eq_true rfl, Nat.le_of_ble_eq_true rfl⟩ ⟨rfl, rfl⟩ rfl hl.1 (Nat.le_of_ble_eq_true rfl) dS_row_2 ⟨Nat.zero_le _, Nat.zero_le _⟩ rfl (fun H locs x2 z1 h hG => ?_)
  refine rIfeq C (tgt := 20) h dS_row_5 (by decide) (fun h => ?_) (fun h => ?_)
  · refine lv_bipush (v := (-2)) C.1 C.2.1 dS_row_20 (by decide) ?_
    exact rReti C hG h dS_row_22
  · refine rAload_n C dS_row_8 hl 0 rfl ?_
    refine rGet C hG (hI 0 (by decide)) e_0 fiS_5 (v := .ref (gA G 9)) rfl k_374 dS_row_9 ?_
    refine rGet C hG (hI 9 (by decide)) e_9 fiR_1 (v := .ref (gA G 10)) rfl k_140 dS_row_12 ?_
    refine rIload_n C dS_row_15 hl 1 rfl ?_
    refine rIald C hG (hI 10 (by decide)) e_10 h dS_row_16 (fun h => ?_)
    refine lv_goto (tgt := 22) C.1 C.2.1 dS_row_17 (by decide) ?_
    exact rReti C hG h dS_row_22
theorem dS_feed_0 : decode bS_feed 0 = .ok (.iload_n 1, 1) := by decide +kernel
theorem dS_feed_1 : decode bS_feed 1 = .ok (.iconst 1, 1) := by decide +kernel
theorem dS_feed_2 : decode bS_feed 2 = .ok (.if_icmp .lt 8, 3) := by decide +kernel
theorem dS_feed_5 : decode bS_feed 5 = .ok (.iload_n 1, 1) := by decide +kernel
theorem dS_feed_6 : decode bS_feed 6 = .ok (.iconst 5, 1) := by decide +kernel
theorem dS_feed_7 : decode bS_feed 7 = .ok (.if_icmp .le 6, 3) := by decide +kernel
theorem dS_feed_10 : decode bS_feed 10 = .ok (.bipush (-2), 2) := by decide +kernel
theorem dS_feed_12 : decode bS_feed 12 = .ok (.ireturn, 1) := by decide +kernel
theorem dS_feed_13 : decode bS_feed 13 = .ok (.iload_n 2, 1) := by decide +kernel
theorem dS_feed_14 : decode bS_feed 14 = .ok (.sipush 255, 3) := by decide +kernel
theorem dS_feed_17 : decode bS_feed 17 = .ok (.invokestatic 108, 3) := by decide +kernel
theorem dS_feed_20 : decode bS_feed 20 = .ok (.ifCond .eq 46, 3) := by decide +kernel
theorem dS_feed_23 : decode bS_feed 23 = .ok (.iload_n 3, 1) := by decide +kernel
theorem dS_feed_24 : decode bS_feed 24 = .ok (.sipush 255, 3) := by decide +kernel
theorem dS_feed_27 : decode bS_feed 27 = .ok (.invokestatic 108, 3) := by decide +kernel
theorem dS_feed_30 : decode bS_feed 30 = .ok (.ifCond .eq 36, 3) := by decide +kernel
theorem dS_feed_33 : decode bS_feed 33 = .ok (.iload 4, 2) := by decide +kernel
theorem dS_feed_35 : decode bS_feed 35 = .ok (.sipush 255, 3) := by decide +kernel
theorem dS_feed_38 : decode bS_feed 38 = .ok (.invokestatic 108, 3) := by decide +kernel
theorem dS_feed_41 : decode bS_feed 41 = .ok (.ifCond .eq 25, 3) := by decide +kernel
theorem dS_feed_44 : decode bS_feed 44 = .ok (.iload 5, 2) := by decide +kernel
theorem dS_feed_46 : decode bS_feed 46 = .ok (.sipush 255, 3) := by decide +kernel
theorem dS_feed_49 : decode bS_feed 49 = .ok (.invokestatic 108, 3) := by decide +kernel
theorem dS_feed_52 : decode bS_feed 52 = .ok (.ifCond .eq 14, 3) := by decide +kernel
theorem dS_feed_55 : decode bS_feed 55 = .ok (.iload 6, 2) := by decide +kernel
theorem dS_feed_57 : decode bS_feed 57 = .ok (.sipush 255, 3) := by decide +kernel
theorem dS_feed_60 : decode bS_feed 60 = .ok (.invokestatic 108, 3) := by decide +kernel
theorem dS_feed_63 : decode bS_feed 63 = .ok (.ifCond .ne 6, 3) := by decide +kernel
theorem dS_feed_66 : decode bS_feed 66 = .ok (.bipush (-2), 2) := by decide +kernel
theorem dS_feed_68 : decode bS_feed 68 = .ok (.ireturn, 1) := by decide +kernel
theorem dS_feed_69 : decode bS_feed 69 = .ok (.aload_n 0, 1) := by decide +kernel
theorem dS_feed_70 : decode bS_feed 70 = .ok (.getfield 24, 3) := by decide +kernel
theorem dS_feed_73 : decode bS_feed 73 = .ok (.getfield 105, 3) := by decide +kernel
theorem dS_feed_76 : decode bS_feed 76 = .ok (.iload_n 1, 1) := by decide +kernel
theorem dS_feed_77 : decode bS_feed 77 = .ok (.iadd, 1) := by decide +kernel
theorem dS_feed_78 : decode bS_feed 78 = .ok (.sipush 160, 3) := by decide +kernel
theorem dS_feed_81 : decode bS_feed 81 = .ok (.if_icmp .le 6, 3) := by decide +kernel
theorem dS_feed_84 : decode bS_feed 84 = .ok (.bipush (-4), 2) := by decide +kernel
theorem dS_feed_86 : decode bS_feed 86 = .ok (.ireturn, 1) := by decide +kernel
theorem dS_feed_87 : decode bS_feed 87 = .ok (.iconst 0, 1) := by decide +kernel
theorem dS_feed_88 : decode bS_feed 88 = .ok (.istore 7, 2) := by decide +kernel
theorem dS_feed_90 : decode bS_feed 90 = .ok (.iload 7, 2) := by decide +kernel
theorem dS_feed_92 : decode bS_feed 92 = .ok (.iload_n 1, 1) := by decide +kernel
theorem dS_feed_93 : decode bS_feed 93 = .ok (.if_icmp .ge 59, 3) := by decide +kernel
theorem dS_feed_96 : decode bS_feed 96 = .ok (.aload_n 0, 1) := by decide +kernel
theorem dS_feed_97 : decode bS_feed 97 = .ok (.getfield 24, 3) := by decide +kernel
theorem dS_feed_100 : decode bS_feed 100 = .ok (.iload 7, 2) := by decide +kernel
theorem dS_feed_102 : decode bS_feed 102 = .ok (.ifCond .ne 7, 3) := by decide +kernel
theorem dS_feed_105 : decode bS_feed 105 = .ok (.iload_n 2, 1) := by decide +kernel
theorem dS_feed_106 : decode bS_feed 106 = .ok (.goto 37, 3) := by decide +kernel
theorem dS_feed_109 : decode bS_feed 109 = .ok (.iload 7, 2) := by decide +kernel
theorem dS_feed_111 : decode bS_feed 111 = .ok (.iconst 1, 1) := by decide +kernel
theorem dS_feed_112 : decode bS_feed 112 = .ok (.if_icmp .ne 7, 3) := by decide +kernel
theorem dS_feed_115 : decode bS_feed 115 = .ok (.iload_n 3, 1) := by decide +kernel
theorem dS_feed_116 : decode bS_feed 116 = .ok (.goto 27, 3) := by decide +kernel
theorem dS_feed_119 : decode bS_feed 119 = .ok (.iload 7, 2) := by decide +kernel
theorem dS_feed_121 : decode bS_feed 121 = .ok (.iconst 2, 1) := by decide +kernel
theorem dS_feed_122 : decode bS_feed 122 = .ok (.if_icmp .ne 8, 3) := by decide +kernel
theorem dS_feed_125 : decode bS_feed 125 = .ok (.iload 4, 2) := by decide +kernel
theorem dS_feed_127 : decode bS_feed 127 = .ok (.goto 16, 3) := by decide +kernel
theorem dS_feed_130 : decode bS_feed 130 = .ok (.iload 7, 2) := by decide +kernel
theorem dS_feed_132 : decode bS_feed 132 = .ok (.iconst 3, 1) := by decide +kernel
theorem dS_feed_133 : decode bS_feed 133 = .ok (.if_icmp .ne 8, 3) := by decide +kernel
theorem dS_feed_136 : decode bS_feed 136 = .ok (.iload 5, 2) := by decide +kernel
theorem dS_feed_138 : decode bS_feed 138 = .ok (.goto 5, 3) := by decide +kernel
theorem dS_feed_141 : decode bS_feed 141 = .ok (.iload 6, 2) := by decide +kernel
theorem dS_feed_143 : decode bS_feed 143 = .ok (.invokevirtual 71, 3) := by decide +kernel
theorem dS_feed_146 : decode bS_feed 146 = .ok (.iinc 7 1, 3) := by decide +kernel
theorem dS_feed_149 : decode bS_feed 149 = .ok (.goto (-59), 3) := by decide +kernel
theorem dS_feed_152 : decode bS_feed 152 = .ok (.aload_n 0, 1) := by decide +kernel
theorem dS_feed_153 : decode bS_feed 153 = .ok (.getfield 24, 3) := by decide +kernel
theorem dS_feed_156 : decode bS_feed 156 = .ok (.getfield 105, 3) := by decide +kernel
theorem dS_feed_159 : decode bS_feed 159 = .ok (.ireturn, 1) := by decide +kernel
theorem wS_feed_143 {p : Program} {l : Launch} {e : Env} {s : State} {m : MethodId} {args : Array Value} {below : List Frame} {meth : Method} {c : Code} {G : GT} {I : List Nat} (C : CX p s m args meth c NS bS_feed 8 (some .int) G I) (hI : cI I) {fu : Nat} {R1 : Int32} {Z : Sg} {rc90 : Int32 → Int32 → Int32 → Int32 → Int32 → Int32 → Int32 → Sg → Option (Int32 × Sg)} (hr90 : ∀ {v1 : Int32} {v2 : Int32} {v3 : Int32} {v4 : Int32} {v5 : Int32} {v6 : Int32} {v7 : Int32} {z : Sg} {H : Heap} {locs : List Loc} {ls : Array Slot}, rc90 v1 v2 v3 v4 v5 v6 v7 z = some (R1, Z) → GW G I z s.heap H locs → lv_has ls 8 [(0, .ref (gA G 0)), (1, .int v1), (2, .int v2), (3, .int v3), (4, .int v4), (5, .int v5), (6, .int v6), (7, .int v7)] → W p l e rmS_feed s m args below meth c H locs 0 0 (MQ below (Qi G I R1 Z) args s 0 0 (AD G I)) (F0 m 90 ls [])) {v1 : Int32} {v2 : Int32} {v3 : Int32} {v4 : Int32} {v5 : Int32} {v6 : Int32} {v7 : Int32} {t1 : Int32} {z : Sg} {H : Heap} {locs : List Loc} {ls : Array Slot} (h : pS_feed_143 fu rc90 v1 v2 v3 v4 v5 v6 v7 t1 z = some (R1, Z)) (hG : GW G I z s.heap H locs) (hl : lv_has ls 8 [(0, .ref (gA G 0)), (1, .int v1), (2, .int v2), (3, .int v3), (4, .int v4), (5, .int v5), (6, .int v6), (7, .int v7)]) : W p l e rmS_feed s m args below meth c H locs 0 0 (MQ below (Qi G I R1 Z) args s 0 0 (AD G I)) (F0 m 143 ls [.int t1, .ref (gA G 3)]) := by
  unfold pS_feed_143 at h
  refine rCVv [.int t1] [] C hG h (fun h => cD_take hI h) mvD_take k_221 ⟨Nat.le_of_ble_eq_true rfl, Nat.le_of_ble_eq_true rfl⟩ ⟨rfl, rfl⟩ (rRecv C hG (hI 3 (by decide)) e_3 rfl) rfl hl.1 (Nat.le_of_ble_eq_true rfl) dS_feed_143 ⟨Nat.zero_le _, Nat.zero_le _⟩ rfl (fun H locs z11 h hG => ?_)
  refine rIinc C dS_feed_146 hl 7 rfl (d := 1) (by decide) h (by decide) [(0, .ref (gA G 0)), (1, .int v1), (2, .int v2), (3, .int v3), (4, .int v4), (5, .int v5), (6, .int v6)] rfl (fun x12 ls h hl => ?_)
  refine lv_goto (tgt := 90) C.1 C.2.1 dS_feed_149 (by decide) ?_
  exact hr90 h hG (lv_sub hl [1, 2, 3, 4, 5, 6, 7, 0] rfl)
theorem wS_feed_90 {p : Program} {l : Launch} {e : Env} {s : State} {m : MethodId} {args : Array Value} {below : List Frame} {meth : Method} {c : Code} {G : GT} {I : List Nat} (C : CX p s m args meth c NS bS_feed 8 (some .int) G I) (hI : cI I) {fu : Nat} {R1 : Int32} {Z : Sg} : ∀ (k : Nat) {v1 : Int32} {v2 : Int32} {v3 : Int32} {v4 : Int32} {v5 : Int32} {v6 : Int32} {v7 : Int32} {z : Sg} {H : Heap} {locs : List Loc} {ls : Array Slot}, pS_feed_90 fu k v1 v2 v3 v4 v5 v6 v7 z = some (R1, Z) → GW G I z s.heap H locs → lv_has ls 8 [(0, .ref (gA G 0)), (1, .int v1), (2, .int v2), (3, .int v3), (4, .int v4), (5, .int v5), (6, .int v6), (7, .int v7)] → W p l e rmS_feed s m args below meth c H locs 0 0 (MQ below (Qi G I R1 Z) args s 0 0 (AD G I)) (F0 m 90 ls []) := by
  intro k
  induction k with
  | zero => intro v1 v2 v3 v4 v5 v6 v7 z H locs ls h hG hl; rw [pS_feed_90] at h; cases h
  | succ k ih =>
    intro v1 v2 v3 v4 v5 v6 v7 z H locs ls h hG hl
    rw [pS_feed_90] at h
    refine rIload C dS_feed_90 hl 7 rfl ?_
    refine rIload_n C dS_feed_92 hl 1 rfl ?_
    refine rIcmpge C (tgt := 152) h dS_feed_93 (by decide) (fun h => ?_) (fun h => ?_)
    · refine rAload_n C dS_feed_152 hl 0 rfl ?_
      refine rGet C hG (hI 0 (by decide)) e_0 fiS_2 (v := .ref (gA G 3)) rfl k_371 dS_feed_153 ?_
      refine rGet C hG (hI 3 (by decide)) e_3 fiD_1 (v := .int (z 3 1)) rfl k_58 dS_feed_156 ?_
      exact rReti C hG h dS_feed_159
    · refine rAload_n C dS_feed_96 hl 0 rfl ?_
      refine rGet C hG (hI 0 (by decide)) e_0 fiS_2 (v := .ref (gA G 3)) rfl k_371 dS_feed_97 ?_
      refine rIload C dS_feed_100 hl 7 rfl ?_
      refine rIfne C (tgt := 109) h dS_feed_102 (by decide) (fun h => ?_) (fun h => ?_)
      · refine rIload C dS_feed_109 hl 7 rfl ?_
        refine lv_iconst (v := 1) C.1 C.2.1 dS_feed_111 (by decide) ?_
        refine rIcmpne C (tgt := 119) h dS_feed_112 (by decide) (fun h => ?_) (fun h => ?_)
        · refine rIload C dS_feed_119 hl 7 rfl ?_
          refine lv_iconst (v := 2) C.1 C.2.1 dS_feed_121 (by decide) ?_
          refine rIcmpne C (tgt := 130) h dS_feed_122 (by decide) (fun h => ?_) (fun h => ?_)
          · refine rIload C dS_feed_130 hl 7 rfl ?_
            refine lv_iconst (v := 3) C.1 C.2.1 dS_feed_132 (by decide) ?_
            refine rIcmpne C (tgt := 141) h dS_feed_133 (by decide) (fun h => ?_) (fun h => ?_)
            · refine rIload C dS_feed_141 hl 6 rfl ?_
              exact wS_feed_143 C hI ih h hG (lv_sub hl [0, 1, 2, 3, 4, 5, 6, 7] rfl)
            · refine rIload C dS_feed_136 hl 5 rfl ?_
              refine lv_goto (tgt := 143) C.1 C.2.1 dS_feed_138 (by decide) ?_
              exact wS_feed_143 C hI ih h hG (lv_sub hl [0, 1, 2, 3, 4, 5, 6, 7] rfl)
          · refine rIload C dS_feed_125 hl 4 rfl ?_
            refine lv_goto (tgt := 143) C.1 C.2.1 dS_feed_127 (by decide) ?_
            exact wS_feed_143 C hI ih h hG (lv_sub hl [0, 1, 2, 3, 4, 5, 6, 7] rfl)
        · refine rIload_n C dS_feed_115 hl 3 rfl ?_
          refine lv_goto (tgt := 143) C.1 C.2.1 dS_feed_116 (by decide) ?_
          exact wS_feed_143 C hI ih h hG (lv_sub hl [0, 1, 2, 3, 4, 5, 6, 7] rfl)
      · refine rIload_n C dS_feed_105 hl 2 rfl ?_
        refine lv_goto (tgt := 143) C.1 C.2.1 dS_feed_106 (by decide) ?_
        exact wS_feed_143 C hI ih h hG (lv_sub hl [0, 1, 2, 3, 4, 5, 6, 7] rfl)
theorem cS_feed {l : Launch} {G : GT} {I : List Nat} (hI : cI I) {fu : Nat} {v1 : Int32} {v2 : Int32} {v3 : Int32} {v4 : Int32} {v5 : Int32} {v6 : Int32} {z : Sg} {R1 : Int32} {Z : Sg} (h : pS_feed fu v1 v2 v3 v4 v5 v6 z = some (R1, Z)) : Mt l yS_feed rmS_feed bS_feed 8 (some .int) G I z [.ref (gA G 0), .int v1, .int v2, .int v3, .int v4, .int v5, .int v6] (Qi G I R1 Z) := by
  refine entM (by decide +kernel) (Nat.le_of_ble_eq_true rfl) ?_
  intro p e s m below meth c C hG ls hl
  have hl : lv_has ls 8 [(0, .ref (gA G 0)), (1, .int v1), (2, .int v2), (3, .int v3), (4, .int v4), (5, .int v5), (6, .int v6)] := hl
  unfold pS_feed at h
  refine rIload_n C dS_feed_0 hl 1 rfl ?_
  refine lv_iconst (v := 1) C.1 C.2.1 dS_feed_1 (by decide) ?_
  refine rIcmplt C (tgt := 10) h dS_feed_2 (by decide) (fun h => ?_) (fun h => ?_)
  · refine lv_bipush (v := (-2)) C.1 C.2.1 dS_feed_10 (by decide) ?_
    exact rReti C hG h dS_feed_12
  · refine rIload_n C dS_feed_5 hl 1 rfl ?_
    refine lv_iconst (v := 5) C.1 C.2.1 dS_feed_6 (by decide) ?_
    refine rIcmple C (tgt := 13) h dS_feed_7 (by decide) (fun h => ?_) (fun h => ?_)
    · refine rIload_n C dS_feed_13 hl 2 rfl ?_
      refine lv_sipush (v := 255) C.1 C.2.1 dS_feed_14 (by decide) ?_
      refine rCSi [.int v2, .int 255] [] C hG h (fun h => cS_within hI h) mvS_within k_423 ⟨Nat.le_of_ble_eq_true rfl, Nat.le_of_ble_eq_true rfl⟩ ⟨rfl, rfl⟩ rfl hl.1 (Nat.le_of_ble_eq_true rfl) dS_feed_17 ⟨Nat.zero_le _, Nat.zero_le _⟩ rfl (fun H locs x2 z1 h hG => ?_)
      refine rIfeq C (tgt := 66) h dS_feed_20 (by decide) (fun h => ?_) (fun h => ?_)
      · refine lv_bipush (v := (-2)) C.1 C.2.1 dS_feed_66 (by decide) ?_
        exact rReti C hG h dS_feed_68
      · refine rIload_n C dS_feed_23 hl 3 rfl ?_
        refine lv_sipush (v := 255) C.1 C.2.1 dS_feed_24 (by decide) ?_
        refine rCSi [.int v3, .int 255] [] C hG h (fun h => cS_within hI h) mvS_within k_423 ⟨Nat.le_of_ble_eq_true rfl, Nat.le_of_ble_eq_true rfl⟩ ⟨rfl, rfl⟩ rfl hl.1 (Nat.le_of_ble_eq_true rfl) dS_feed_27 ⟨Nat.zero_le _, Nat.zero_le _⟩ rfl (fun H locs x4 z3 h hG => ?_)
        refine rIfeq C (tgt := 66) h dS_feed_30 (by decide) (fun h => ?_) (fun h => ?_)
        · refine lv_bipush (v := (-2)) C.1 C.2.1 dS_feed_66 (by decide) ?_
          exact rReti C hG h dS_feed_68
        · refine rIload C dS_feed_33 hl 4 rfl ?_
          refine lv_sipush (v := 255) C.1 C.2.1 dS_feed_35 (by decide) ?_
          refine rCSi [.int v4, .int 255] [] C hG h (fun h => cS_within hI h) mvS_within k_423 ⟨Nat.le_of_ble_eq_true rfl, Nat.le_of_ble_eq_true rfl⟩ ⟨rfl, rfl⟩ rfl hl.1 (Nat.le_of_ble_eq_true rfl) dS_feed_38 ⟨Nat.zero_le _, Nat.zero_le _⟩ rfl (fun H locs x6 z5 h hG => ?_)
          refine rIfeq C (tgt := 66) h dS_feed_41 (by decide) (fun h => ?_) (fun h => ?_)
          · refine lv_bipush (v := (-2)) C.1 C.2.1 dS_feed_66 (by decide) ?_
            exact rReti C hG h dS_feed_68
          · refine rIload C dS_feed_44 hl 5 rfl ?_
            refine lv_sipush (v := 255) C.1 C.2.1 dS_feed_46 (by decide) ?_
            refine rCSi [.int v5, .int 255] [] C hG h (fun h => cS_within hI h) mvS_within k_423 ⟨Nat.le_of_ble_eq_true rfl, Nat.le_of_ble_eq_true rfl⟩ ⟨rfl, rfl⟩ rfl hl.1 (Nat.le_of_ble_eq_true rfl) dS_feed_49 ⟨Nat.zero_le _, Nat.zero_le _⟩ rfl (fun H locs x8 z7 h hG => ?_)
            refine rIfeq C (tgt := 66) h dS_feed_52 (by decide) (fun h => ?_) (fun h => ?_)
            · refine lv_bipush (v := (-2)) C.1 C.2.1 dS_feed_66 (by decide) ?_
              exact rReti C hG h dS_feed_68
            · refine rIload C dS_feed_55 hl 6 rfl ?_
              refine lv_sipush (v := 255) C.1 C.2.1 dS_feed_57 (by decide) ?_
              refine rCSi [.int v6, .int 255] [] C hG h (fun h => cS_within hI h) mvS_within k_423 ⟨Nat.le_of_ble_eq_true rfl, Nat.le_of_ble_eq_true rfl⟩ ⟨rfl, rfl⟩ rfl hl.1 (Nat.le_of_ble_eq_true rfl) dS_feed_60 ⟨Nat.zero_le _, Nat.zero_le _⟩ rfl (fun H locs x10 z9 h hG => ?_)
              refine rIfne C (tgt := 69) h dS_feed_63 (by decide) (fun h => ?_) (fun h => ?_)
              · refine rAload_n C dS_feed_69 hl 0 rfl ?_
                refine rGet C hG (hI 0 (by decide)) e_0 fiS_2 (v := .ref (gA G 3)) rfl k_371 dS_feed_70 ?_
                refine rGet C hG (hI 3 (by decide)) e_3 fiD_1 (v := .int (z9 3 1)) rfl k_58 dS_feed_73 ?_
                refine rIload_n C dS_feed_76 hl 1 rfl ?_
                refine lv_iadd C.1 C.2.1 dS_feed_77 ?_
                refine lv_sipush (v := 160) C.1 C.2.1 dS_feed_78 (by decide) ?_
                refine rIcmple C (tgt := 87) h dS_feed_81 (by decide) (fun h => ?_) (fun h => ?_)
                · refine lv_iconst (v := 0) C.1 C.2.1 dS_feed_87 (by decide) ?_
                  refine rIstoreA C dS_feed_88 hl (by decide) [(0, .ref (gA G 0)), (1, .int v1), (2, .int v2), (3, .int v3), (4, .int v4), (5, .int v5), (6, .int v6)] rfl (fun ls hl => ?_)
                  exact wS_feed_90 C hI _ h hG (lv_sub hl [1, 2, 3, 4, 5, 6, 7, 0] rfl)
                · refine lv_bipush (v := (-4)) C.1 C.2.1 dS_feed_84 (by decide) ?_
                  exact rReti C hG h dS_feed_86
              · refine lv_bipush (v := (-2)) C.1 C.2.1 dS_feed_66 (by decide) ?_
                exact rReti C hG h dS_feed_68
    · refine lv_bipush (v := (-2)) C.1 C.2.1 dS_feed_10 (by decide) ?_
      exact rReti C hG h dS_feed_12
theorem dS_text_0 : decode bS_text 0 = .ok (.aload_n 0, 1) := by decide +kernel
theorem dS_text_1 : decode bS_text 1 = .ok (.getfield 86, 3) := by decide +kernel
theorem dS_text_4 : decode bS_text 4 = .ok (.bipush 6, 2) := by decide +kernel
theorem dS_text_6 : decode bS_text 6 = .ok (.if_icmp .lt 6, 3) := by decide +kernel
theorem dS_text_9 : decode bS_text 9 = .ok (.bipush (-4), 2) := by decide +kernel
theorem dS_text_11 : decode bS_text 11 = .ok (.ireturn, 1) := by decide +kernel
theorem dS_text_12 : decode bS_text 12 = .ok (.aload_n 0, 1) := by decide +kernel
theorem dS_text_13 : decode bS_text 13 = .ok (.getfield 24, 3) := by decide +kernel
theorem dS_text_16 : decode bS_text 16 = .ok (.invokevirtual 75, 3) := by decide +kernel
theorem dS_text_19 : decode bS_text 19 = .ok (.istore_n 1, 1) := by decide +kernel
theorem dS_text_20 : decode bS_text 20 = .ok (.iload_n 1, 1) := by decide +kernel
theorem dS_text_21 : decode bS_text 21 = .ok (.iconst (-1), 1) := by decide +kernel
theorem dS_text_22 : decode bS_text 22 = .ok (.if_icmp .eq 8, 3) := by decide +kernel
theorem dS_text_25 : decode bS_text 25 = .ok (.bipush (-100), 2) := by decide +kernel
theorem dS_text_27 : decode bS_text 27 = .ok (.iload_n 1, 1) := by decide +kernel
theorem dS_text_28 : decode bS_text 28 = .ok (.isub, 1) := by decide +kernel
theorem dS_text_29 : decode bS_text 29 = .ok (.ireturn, 1) := by decide +kernel
theorem dS_text_30 : decode bS_text 30 = .ok (.aload_n 0, 1) := by decide +kernel
theorem dS_text_31 : decode bS_text 31 = .ok (.getfield 11, 3) := by decide +kernel
theorem dS_text_34 : decode bS_text 34 = .ok (.aload_n 0, 1) := by decide +kernel
theorem dS_text_35 : decode bS_text 35 = .ok (.getfield 86, 3) := by decide +kernel
theorem dS_text_38 : decode bS_text 38 = .ok (.aaload, 1) := by decide +kernel
theorem dS_text_39 : decode bS_text 39 = .ok (.aload_n 0, 1) := by decide +kernel
theorem dS_text_40 : decode bS_text 40 = .ok (.getfield 24, 3) := by decide +kernel
theorem dS_text_43 : decode bS_text 43 = .ok (.getfield 78, 3) := by decide +kernel
theorem dS_text_46 : decode bS_text 46 = .ok (.invokevirtual 82, 3) := by decide +kernel
theorem dS_text_49 : decode bS_text 49 = .ok (.aload_n 0, 1) := by decide +kernel
theorem dS_text_50 : decode bS_text 50 = .ok (.dup, 1) := by decide +kernel
theorem dS_text_51 : decode bS_text 51 = .ok (.getfield 86, 3) := by decide +kernel
theorem dS_text_54 : decode bS_text 54 = .ok (.iconst 1, 1) := by decide +kernel
theorem dS_text_55 : decode bS_text 55 = .ok (.iadd, 1) := by decide +kernel
theorem dS_text_56 : decode bS_text 56 = .ok (.putfield 86, 3) := by decide +kernel
theorem dS_text_59 : decode bS_text 59 = .ok (.aload_n 0, 1) := by decide +kernel
theorem dS_text_60 : decode bS_text 60 = .ok (.getfield 86, 3) := by decide +kernel
theorem dS_text_63 : decode bS_text 63 = .ok (.iconst 1, 1) := by decide +kernel
theorem dS_text_64 : decode bS_text 64 = .ok (.isub, 1) := by decide +kernel
theorem dS_text_65 : decode bS_text 65 = .ok (.ireturn, 1) := by decide +kernel
theorem cS_text {l : Launch} {G : GT} {I : List Nat} (hI : cI I) {fu : Nat} {z : Sg} {R1 : Int32} {Z : Sg} (h : pS_text fu z = some (R1, Z)) : Mt l yS_text rmS_text bS_text 2 (some .int) G I z [.ref (gA G 0)] (Qi G I R1 Z) := by
  refine entM (by decide +kernel) (Nat.le_of_ble_eq_true rfl) ?_
  intro p e s m below meth c C hG ls hl
  have hl : lv_has ls 2 [(0, .ref (gA G 0))] := hl
  unfold pS_text at h
  refine rAload_n C dS_text_0 hl 0 rfl ?_
  refine rGet C hG (hI 0 (by decide)) e_0 fiS_8 (v := .int (z 0 8)) rfl k_377 dS_text_1 ?_
  refine lv_bipush (v := 6) C.1 C.2.1 dS_text_4 (by decide) ?_
  refine rIcmplt C (tgt := 12) h dS_text_6 (by decide) (fun h => ?_) (fun h => ?_)
  · refine rAload_n C dS_text_12 hl 0 rfl ?_
    refine rGet C hG (hI 0 (by decide)) e_0 fiS_2 (v := .ref (gA G 3)) rfl k_371 dS_text_13 ?_
    refine rCVi [] [] C hG h (fun h => cD_readAll hI h) mvD_readAll k_225 ⟨Nat.le_of_ble_eq_true rfl, Nat.le_of_ble_eq_true rfl⟩ ⟨rfl, rfl⟩ (rRecv C hG (hI 3 (by decide)) e_3 rfl) rfl hl.1 (Nat.le_of_ble_eq_true rfl) dS_text_16 ⟨Nat.zero_le _, Nat.zero_le _⟩ rfl (fun H locs x2 z1 h hG => ?_)
    refine rIstoreA_n C dS_text_19 hl (by decide) [(0, .ref (gA G 0))] rfl (fun ls hl => ?_)
    refine rIload_n C dS_text_20 hl 0 rfl ?_
    refine lv_iconst (v := (-1)) C.1 C.2.1 dS_text_21 (by decide) ?_
    refine rIcmpeq C (tgt := 30) h dS_text_22 (by decide) (fun h => ?_) (fun h => ?_)
    · refine rAload_n C dS_text_30 hl 1 rfl ?_
      refine rGet C hG (hI 0 (by decide)) e_0 fiS_0 (v := .ref (gA G 1)) rfl k_369 dS_text_31 ?_
      refine rAload_n C dS_text_34 hl 1 rfl ?_
      refine rGet C hG (hI 0 (by decide)) e_0 fiS_8 (v := .int (z1 0 8)) rfl k_377 dS_text_35 ?_
      refine rAald C hG (hI 1 (by decide)) e_1 (t0 := 1) rfl rfl h dS_text_38 (fun hq38 h => ?_)
      refine rAload_n C dS_text_39 hl 1 rfl ?_
      refine rGet C hG (hI 0 (by decide)) e_0 fiS_2 (v := .ref (gA G 3)) rfl k_371 dS_text_40 ?_
      refine rGet C hG (hI 3 (by decide)) e_3 fiD_0 (v := .ref (gA G 66)) rfl k_56 dS_text_43 ?_
      refine rCVv [.ref (gA G 66)] [] C hG h (fun h => cL_become hI (isLaw.of hq38) law66 h) mvL_become k_362 ⟨Nat.le_of_ble_eq_true rfl, Nat.le_of_ble_eq_true rfl⟩ ⟨rfl, rfl⟩ (rRecv C hG (hI _ (isLaw.of hq38).lt0) (eL_0 (isLaw.of hq38)) rfl) rfl hl.1 (Nat.le_of_ble_eq_true rfl) dS_text_46 ⟨Nat.zero_le _, Nat.zero_le _⟩ rfl (fun H locs z3 h hG => ?_)
      refine rAload_n C dS_text_49 hl 1 rfl ?_
      refine lv_dup C.1 C.2.1 dS_text_50 rfl ?_
      refine rGet C hG (hI 0 (by decide)) e_0 fiS_8 (v := .int (z3 0 8)) rfl k_377 dS_text_51 ?_
      refine lv_iconst (v := 1) C.1 C.2.1 dS_text_54 (by decide) ?_
      refine lv_iadd C.1 C.2.1 dS_text_55 ?_
      refine rPut C hG (hI 0 (by decide)) e_0 fiS_8 tokS nmS rfl (fpS_8 _) (Nat.le_of_ble_eq_true rfl) rfl rfl k_377 h dS_text_56 (fun H locs z4 h hG => ?_)
      refine rAload_n C dS_text_59 hl 1 rfl ?_
      refine rGet C hG (hI 0 (by decide)) e_0 fiS_8 (v := .int (z4 0 8)) rfl k_377 dS_text_60 ?_
      refine lv_iconst (v := 1) C.1 C.2.1 dS_text_63 (by decide) ?_
      refine lv_isub C.1 C.2.1 dS_text_64 ?_
      exact rReti C hG h dS_text_65
    · refine lv_bipush (v := (-100)) C.1 C.2.1 dS_text_25 (by decide) ?_
      refine rIload_n C dS_text_27 hl 0 rfl ?_
      refine lv_isub C.1 C.2.1 dS_text_28 ?_
      exact rReti C hG h dS_text_29
  · refine lv_bipush (v := (-4)) C.1 C.2.1 dS_text_9 (by decide) ?_
    exact rReti C hG h dS_text_11
theorem dS_force_0 : decode bS_force 0 = .ok (.iload_n 1, 1) := by decide +kernel
theorem dS_force_1 : decode bS_force 1 = .ok (.aload_n 0, 1) := by decide +kernel
theorem dS_force_2 : decode bS_force 2 = .ok (.getfield 86, 3) := by decide +kernel
theorem dS_force_5 : decode bS_force 5 = .ok (.iconst 1, 1) := by decide +kernel
theorem dS_force_6 : decode bS_force 6 = .ok (.isub, 1) := by decide +kernel
theorem dS_force_7 : decode bS_force 7 = .ok (.invokestatic 108, 3) := by decide +kernel
theorem dS_force_10 : decode bS_force 10 = .ok (.ifCond .ne 6, 3) := by decide +kernel
theorem dS_force_13 : decode bS_force 13 = .ok (.bipush (-2), 2) := by decide +kernel
theorem dS_force_15 : decode bS_force 15 = .ok (.ireturn, 1) := by decide +kernel
theorem dS_force_16 : decode bS_force 16 = .ok (.aload_n 0, 1) := by decide +kernel
theorem dS_force_17 : decode bS_force 17 = .ok (.getfield 49, 3) := by decide +kernel
theorem dS_force_20 : decode bS_force 20 = .ok (.getfield 102, 3) := by decide +kernel
theorem dS_force_23 : decode bS_force 23 = .ok (.istore_n 2, 1) := by decide +kernel
theorem dS_force_24 : decode bS_force 24 = .ok (.aload_n 0, 1) := by decide +kernel
theorem dS_force_25 : decode bS_force 25 = .ok (.getfield 49, 3) := by decide +kernel
theorem dS_force_28 : decode bS_force 28 = .ok (.iload_n 1, 1) := by decide +kernel
theorem dS_force_29 : decode bS_force 29 = .ok (.putfield 102, 3) := by decide +kernel
theorem dS_force_32 : decode bS_force 32 = .ok (.iload_n 2, 1) := by decide +kernel
theorem dS_force_33 : decode bS_force 33 = .ok (.ireturn, 1) := by decide +kernel
theorem cS_force {l : Launch} {G : GT} {I : List Nat} (hI : cI I) {fu : Nat} {v1 : Int32} {z : Sg} {R1 : Int32} {Z : Sg} (h : pS_force fu v1 z = some (R1, Z)) : Mt l yS_force rmS_force bS_force 3 (some .int) G I z [.ref (gA G 0), .int v1] (Qi G I R1 Z) := by
  refine entM (by decide +kernel) (Nat.le_of_ble_eq_true rfl) ?_
  intro p e s m below meth c C hG ls hl
  have hl : lv_has ls 3 [(0, .ref (gA G 0)), (1, .int v1)] := hl
  unfold pS_force at h
  refine rIload_n C dS_force_0 hl 1 rfl ?_
  refine rAload_n C dS_force_1 hl 0 rfl ?_
  refine rGet C hG (hI 0 (by decide)) e_0 fiS_8 (v := .int (z 0 8)) rfl k_377 dS_force_2 ?_
  refine lv_iconst (v := 1) C.1 C.2.1 dS_force_5 (by decide) ?_
  refine lv_isub C.1 C.2.1 dS_force_6 ?_
  refine rCSi [.int v1, .int ((z 0 8) - 1)] [] C hG h (fun h => cS_within hI h) mvS_within k_423 ⟨Nat.le_of_ble_eq_true rfl, Nat.le_of_ble_eq_true rfl⟩ ⟨rfl, rfl⟩ rfl hl.1 (Nat.le_of_ble_eq_true rfl) dS_force_7 ⟨Nat.zero_le _, Nat.zero_le _⟩ rfl (fun H locs x2 z1 h hG => ?_)
  refine rIfne C (tgt := 16) h dS_force_10 (by decide) (fun h => ?_) (fun h => ?_)
  · refine rAload_n C dS_force_16 hl 0 rfl ?_
    refine rGet C hG (hI 0 (by decide)) e_0 fiS_5 (v := .ref (gA G 9)) rfl k_374 dS_force_17 ?_
    refine rGet C hG (hI 9 (by decide)) e_9 fiR_4 (v := .int (z1 9 4)) rfl k_147 dS_force_20 ?_
    refine rIstore_n C dS_force_23 hl h (by decide) [(0, .ref (gA G 0)), (1, .int v1)] rfl (fun x3 ls h hl => ?_)
    refine rAload_n C dS_force_24 hl 1 rfl ?_
    refine rGet C hG (hI 0 (by decide)) e_0 fiS_5 (v := .ref (gA G 9)) rfl k_374 dS_force_25 ?_
    refine rIload_n C dS_force_28 hl 2 rfl ?_
    refine rPut C hG (hI 9 (by decide)) e_9 fiR_4 tokR nmR rfl (fpR_4 _) (Nat.le_of_ble_eq_true rfl) rfl rfl k_147 h dS_force_29 (fun H locs z4 h hG => ?_)
    refine rIload_n C dS_force_32 hl 0 rfl ?_
    exact rReti C hG h dS_force_33
  · refine lv_bipush (v := (-2)) C.1 C.2.1 dS_force_13 (by decide) ?_
    exact rReti C hG h dS_force_15
theorem dS_asks_0 : decode bS_asks 0 = .ok (.iload_n 1, 1) := by decide +kernel
theorem dS_asks_1 : decode bS_asks 1 = .ok (.iconst 2, 1) := by decide +kernel
theorem dS_asks_2 : decode bS_asks 2 = .ok (.invokestatic 108, 3) := by decide +kernel
theorem dS_asks_5 : decode bS_asks 5 = .ok (.ifCond .eq 14, 3) := by decide +kernel
theorem dS_asks_8 : decode bS_asks 8 = .ok (.aload_n 0, 1) := by decide +kernel
theorem dS_asks_9 : decode bS_asks 9 = .ok (.getfield 49, 3) := by decide +kernel
theorem dS_asks_12 : decode bS_asks 12 = .ok (.iload_n 2, 1) := by decide +kernel
theorem dS_asks_13 : decode bS_asks 13 = .ok (.invokevirtual 122, 3) := by decide +kernel
theorem dS_asks_16 : decode bS_asks 16 = .ok (.ifCond .ne 7, 3) := by decide +kernel
theorem dS_asks_19 : decode bS_asks 19 = .ok (.sipush (-1000), 3) := by decide +kernel
theorem dS_asks_22 : decode bS_asks 22 = .ok (.ireturn, 1) := by decide +kernel
theorem dS_asks_23 : decode bS_asks 23 = .ok (.aload_n 0, 1) := by decide +kernel
theorem dS_asks_24 : decode bS_asks 24 = .ok (.getfield 49, 3) := by decide +kernel
theorem dS_asks_27 : decode bS_asks 27 = .ok (.iload_n 2, 1) := by decide +kernel
theorem dS_asks_28 : decode bS_asks 28 = .ok (.invokevirtual 126, 3) := by decide +kernel
theorem dS_asks_31 : decode bS_asks 31 = .ok (.aload_n 0, 1) := by decide +kernel
theorem dS_asks_32 : decode bS_asks 32 = .ok (.getfield 11, 3) := by decide +kernel
theorem dS_asks_35 : decode bS_asks 35 = .ok (.aload_n 0, 1) := by decide +kernel
theorem dS_asks_36 : decode bS_asks 36 = .ok (.getfield 49, 3) := by decide +kernel
theorem dS_asks_39 : decode bS_asks 39 = .ok (.getfield 102, 3) := by decide +kernel
theorem dS_asks_42 : decode bS_asks 42 = .ok (.aaload, 1) := by decide +kernel
theorem dS_asks_43 : decode bS_asks 43 = .ok (.iload_n 1, 1) := by decide +kernel
theorem dS_asks_44 : decode bS_asks 44 = .ok (.aload_n 0, 1) := by decide +kernel
theorem dS_asks_45 : decode bS_asks 45 = .ok (.getfield 49, 3) := by decide +kernel
theorem dS_asks_48 : decode bS_asks 48 = .ok (.getfield 129, 3) := by decide +kernel
theorem dS_asks_51 : decode bS_asks 51 = .ok (.invokevirtual 132, 3) := by decide +kernel
theorem dS_asks_54 : decode bS_asks 54 = .ok (.ireturn, 1) := by decide +kernel
theorem cS_asks {l : Launch} {G : GT} {I : List Nat} (hI : cI I) {fu : Nat} {v1 : Int32} {v2 : Int32} {z : Sg} {R1 : Int32} {Z : Sg} (h : pS_asks fu v1 v2 z = some (R1, Z)) : Mt l yS_asks rmS_asks bS_asks 3 (some .int) G I z [.ref (gA G 0), .int v1, .int v2] (Qi G I R1 Z) := by
  refine entM (by decide +kernel) (Nat.le_of_ble_eq_true rfl) ?_
  intro p e s m below meth c C hG ls hl
  have hl : lv_has ls 3 [(0, .ref (gA G 0)), (1, .int v1), (2, .int v2)] := hl
  unfold pS_asks at h
  refine rIload_n C dS_asks_0 hl 1 rfl ?_
  refine lv_iconst (v := 2) C.1 C.2.1 dS_asks_1 (by decide) ?_
  refine rCSi [.int v1, .int 2] [] C hG h (fun h => cS_within hI h) mvS_within k_423 ⟨Nat.le_of_ble_eq_true rfl, Nat.le_of_ble_eq_true rfl⟩ ⟨rfl, rfl⟩ rfl hl.1 (Nat.le_of_ble_eq_true rfl) dS_asks_2 ⟨Nat.zero_le _, Nat.zero_le _⟩ rfl (fun H locs x2 z1 h hG => ?_)
  refine rIfeq C (tgt := 19) h dS_asks_5 (by decide) (fun h => ?_) (fun h => ?_)
  · refine lv_sipush (v := (-1000)) C.1 C.2.1 dS_asks_19 (by decide) ?_
    exact rReti C hG h dS_asks_22
  · refine rAload_n C dS_asks_8 hl 0 rfl ?_
    refine rGet C hG (hI 0 (by decide)) e_0 fiS_5 (v := .ref (gA G 9)) rfl k_374 dS_asks_9 ?_
    refine rIload_n C dS_asks_12 hl 2 rfl ?_
    refine rCVi [.int v2] [] C hG h (fun h => cR_has hI row9 h) mvR_has k_452 ⟨Nat.le_of_ble_eq_true rfl, Nat.le_of_ble_eq_true rfl⟩ ⟨rfl, rfl⟩ (rRecv C hG (hI 9 (by decide)) e_9 rfl) rfl hl.1 (Nat.le_of_ble_eq_true rfl) dS_asks_13 ⟨Nat.zero_le _, Nat.zero_le _⟩ rfl (fun H locs x4 z3 h hG => ?_)
    refine rIfne C (tgt := 23) h dS_asks_16 (by decide) (fun h => ?_) (fun h => ?_)
    · refine rAload_n C dS_asks_23 hl 0 rfl ?_
      refine rGet C hG (hI 0 (by decide)) e_0 fiS_5 (v := .ref (gA G 9)) rfl k_374 dS_asks_24 ?_
      refine rIload_n C dS_asks_27 hl 2 rfl ?_
      refine rCVv [.int v2] [] C hG h (fun h => cR_lookAt hI row9 h) mvR_lookAt k_456 ⟨Nat.le_of_ble_eq_true rfl, Nat.le_of_ble_eq_true rfl⟩ ⟨rfl, rfl⟩ (rRecv C hG (hI 9 (by decide)) e_9 rfl) rfl hl.1 (Nat.le_of_ble_eq_true rfl) dS_asks_28 ⟨Nat.zero_le _, Nat.zero_le _⟩ rfl (fun H locs z5 h hG => ?_)
      refine rAload_n C dS_asks_31 hl 0 rfl ?_
      refine rGet C hG (hI 0 (by decide)) e_0 fiS_0 (v := .ref (gA G 1)) rfl k_369 dS_asks_32 ?_
      refine rAload_n C dS_asks_35 hl 0 rfl ?_
      refine rGet C hG (hI 0 (by decide)) e_0 fiS_5 (v := .ref (gA G 9)) rfl k_374 dS_asks_36 ?_
      refine rGet C hG (hI 9 (by decide)) e_9 fiR_4 (v := .int (z5 9 4)) rfl k_147 dS_asks_39 ?_
      refine rAald C hG (hI 1 (by decide)) e_1 (t0 := 1) rfl rfl h dS_asks_42 (fun hq42 h => ?_)
      refine rIload_n C dS_asks_43 hl 1 rfl ?_
      refine rAload_n C dS_asks_44 hl 0 rfl ?_
      refine rGet C hG (hI 0 (by decide)) e_0 fiS_5 (v := .ref (gA G 9)) rfl k_374 dS_asks_45 ?_
      refine rGet C hG (hI 9 (by decide)) e_9 fiR_5 (v := .ref (gA G 17)) rfl k_149 dS_asks_48 ?_
      refine rCVi [.int v1, .ref (gA G 17)] [] C hG h (fun h => cL_says hI (isLaw.of hq42) ⟨(hI 17 (by decide)), e_17⟩ h) mvL_says k_465 ⟨Nat.le_of_ble_eq_true rfl, Nat.le_of_ble_eq_true rfl⟩ ⟨rfl, rfl⟩ (rRecv C hG (hI _ (isLaw.of hq42).lt0) (eL_0 (isLaw.of hq42)) rfl) rfl hl.1 (Nat.le_of_ble_eq_true rfl) dS_asks_51 ⟨Nat.zero_le _, Nat.zero_le _⟩ rfl (fun H locs x7 z6 h hG => ?_)
      exact rReti C hG h dS_asks_54
    · refine lv_sipush (v := (-1000)) C.1 C.2.1 dS_asks_19 (by decide) ?_
      exact rReti C hG h dS_asks_22
theorem dS_comes_0 : decode bS_comes 0 = .ok (.iload_n 1, 1) := by decide +kernel
theorem dS_comes_1 : decode bS_comes 1 = .ok (.bipush 59, 2) := by decide +kernel
theorem dS_comes_3 : decode bS_comes 3 = .ok (.invokestatic 108, 3) := by decide +kernel
theorem dS_comes_6 : decode bS_comes 6 = .ok (.ifCond .eq 13, 3) := by decide +kernel
theorem dS_comes_9 : decode bS_comes 9 = .ok (.iload_n 2, 1) := by decide +kernel
theorem dS_comes_10 : decode bS_comes 10 = .ok (.sipush 999, 3) := by decide +kernel
theorem dS_comes_13 : decode bS_comes 13 = .ok (.invokestatic 108, 3) := by decide +kernel
theorem dS_comes_16 : decode bS_comes 16 = .ok (.ifCond .ne 6, 3) := by decide +kernel
theorem dS_comes_19 : decode bS_comes 19 = .ok (.bipush (-2), 2) := by decide +kernel
theorem dS_comes_21 : decode bS_comes 21 = .ok (.ireturn, 1) := by decide +kernel
theorem dS_comes_22 : decode bS_comes 22 = .ok (.iload_n 2, 1) := by decide +kernel
theorem dS_comes_23 : decode bS_comes 23 = .ok (.bipush 100, 2) := by decide +kernel
theorem dS_comes_25 : decode bS_comes 25 = .ok (.idiv, 1) := by decide +kernel
theorem dS_comes_26 : decode bS_comes 26 = .ok (.istore_n 3, 1) := by decide +kernel
theorem dS_comes_27 : decode bS_comes 27 = .ok (.iload_n 2, 1) := by decide +kernel
theorem dS_comes_28 : decode bS_comes 28 = .ok (.bipush 100, 2) := by decide +kernel
theorem dS_comes_30 : decode bS_comes 30 = .ok (.irem, 1) := by decide +kernel
theorem dS_comes_31 : decode bS_comes 31 = .ok (.istore 4, 2) := by decide +kernel
theorem dS_comes_33 : decode bS_comes 33 = .ok (.iload 4, 2) := by decide +kernel
theorem dS_comes_35 : decode bS_comes 35 = .ok (.bipush 11, 2) := by decide +kernel
theorem dS_comes_37 : decode bS_comes 37 = .ok (.invokestatic 108, 3) := by decide +kernel
theorem dS_comes_40 : decode bS_comes 40 = .ok (.ifCond .eq 14, 3) := by decide +kernel
theorem dS_comes_43 : decode bS_comes 43 = .ok (.aload_n 0, 1) := by decide +kernel
theorem dS_comes_44 : decode bS_comes 44 = .ok (.getfield 49, 3) := by decide +kernel
theorem dS_comes_47 : decode bS_comes 47 = .ok (.iload_n 3, 1) := by decide +kernel
theorem dS_comes_48 : decode bS_comes 48 = .ok (.invokevirtual 262, 3) := by decide +kernel
theorem dS_comes_51 : decode bS_comes 51 = .ok (.ifCond .ne 6, 3) := by decide +kernel
theorem dS_comes_54 : decode bS_comes 54 = .ok (.bipush (-2), 2) := by decide +kernel
theorem dS_comes_56 : decode bS_comes 56 = .ok (.ireturn, 1) := by decide +kernel
theorem dS_comes_57 : decode bS_comes 57 = .ok (.aload_n 0, 1) := by decide +kernel
theorem dS_comes_58 : decode bS_comes 58 = .ok (.getfield 49, 3) := by decide +kernel
theorem dS_comes_61 : decode bS_comes 61 = .ok (.getfield 90, 3) := by decide +kernel
theorem dS_comes_64 : decode bS_comes 64 = .ok (.bipush 6, 2) := by decide +kernel
theorem dS_comes_66 : decode bS_comes 66 = .ok (.if_icmp .lt 8, 3) := by decide +kernel
theorem dS_comes_69 : decode bS_comes 69 = .ok (.bipush (-4), 2) := by decide +kernel
theorem dS_comes_71 : decode bS_comes 71 = .ok (.goto 14, 3) := by decide +kernel
theorem dS_comes_74 : decode bS_comes 74 = .ok (.aload_n 0, 1) := by decide +kernel
theorem dS_comes_75 : decode bS_comes 75 = .ok (.getfield 49, 3) := by decide +kernel
theorem dS_comes_78 : decode bS_comes 78 = .ok (.iload_n 1, 1) := by decide +kernel
theorem dS_comes_79 : decode bS_comes 79 = .ok (.iload_n 3, 1) := by decide +kernel
theorem dS_comes_80 : decode bS_comes 80 = .ok (.iload 4, 2) := by decide +kernel
theorem dS_comes_82 : decode bS_comes 82 = .ok (.invokevirtual 265, 3) := by decide +kernel
theorem dS_comes_85 : decode bS_comes 85 = .ok (.ireturn, 1) := by decide +kernel
theorem cS_comes {l : Launch} {G : GT} {I : List Nat} (hI : cI I) {fu : Nat} {v1 : Int32} {v2 : Int32} {z : Sg} {R1 : Int32} {Z : Sg} (h : pS_comes fu v1 v2 z = some (R1, Z)) : Mt l yS_comes rmS_comes bS_comes 5 (some .int) G I z [.ref (gA G 0), .int v1, .int v2] (Qi G I R1 Z) := by
  refine entM (by decide +kernel) (Nat.le_of_ble_eq_true rfl) ?_
  intro p e s m below meth c C hG ls hl
  have hl : lv_has ls 5 [(0, .ref (gA G 0)), (1, .int v1), (2, .int v2)] := hl
  unfold pS_comes at h
  refine rIload_n C dS_comes_0 hl 1 rfl ?_
  refine lv_bipush (v := 59) C.1 C.2.1 dS_comes_1 (by decide) ?_
  refine rCSi [.int v1, .int 59] [] C hG h (fun h => cS_within hI h) mvS_within k_423 ⟨Nat.le_of_ble_eq_true rfl, Nat.le_of_ble_eq_true rfl⟩ ⟨rfl, rfl⟩ rfl hl.1 (Nat.le_of_ble_eq_true rfl) dS_comes_3 ⟨Nat.zero_le _, Nat.zero_le _⟩ rfl (fun H locs x2 z1 h hG => ?_)
  refine rIfeq C (tgt := 19) h dS_comes_6 (by decide) (fun h => ?_) (fun h => ?_)
  · refine lv_bipush (v := (-2)) C.1 C.2.1 dS_comes_19 (by decide) ?_
    exact rReti C hG h dS_comes_21
  · refine rIload_n C dS_comes_9 hl 2 rfl ?_
    refine lv_sipush (v := 999) C.1 C.2.1 dS_comes_10 (by decide) ?_
    refine rCSi [.int v2, .int 999] [] C hG h (fun h => cS_within hI h) mvS_within k_423 ⟨Nat.le_of_ble_eq_true rfl, Nat.le_of_ble_eq_true rfl⟩ ⟨rfl, rfl⟩ rfl hl.1 (Nat.le_of_ble_eq_true rfl) dS_comes_13 ⟨Nat.zero_le _, Nat.zero_le _⟩ rfl (fun H locs x4 z3 h hG => ?_)
    refine rIfne C (tgt := 22) h dS_comes_16 (by decide) (fun h => ?_) (fun h => ?_)
    · refine rIload_n C dS_comes_22 hl 2 rfl ?_
      refine lv_bipush (v := 100) C.1 C.2.1 dS_comes_23 (by decide) ?_
      refine lv_idiv C.1 C.2.1 dS_comes_25 (by decide) ?_
      refine rIstore_n C dS_comes_26 hl h (by decide) [(0, .ref (gA G 0)), (1, .int v1), (2, .int v2)] rfl (fun x5 ls h hl => ?_)
      refine rIload_n C dS_comes_27 hl 3 rfl ?_
      refine lv_bipush (v := 100) C.1 C.2.1 dS_comes_28 (by decide) ?_
      refine lv_irem C.1 C.2.1 dS_comes_30 (by decide) ?_
      refine rIstore C dS_comes_31 hl h (by decide) [(3, .int x5), (0, .ref (gA G 0)), (1, .int v1), (2, .int v2)] rfl (fun x6 ls h hl => ?_)
      refine rIload C dS_comes_33 hl 0 rfl ?_
      refine lv_bipush (v := 11) C.1 C.2.1 dS_comes_35 (by decide) ?_
      refine rCSi [.int x6, .int 11] [] C hG h (fun h => cS_within hI h) mvS_within k_423 ⟨Nat.le_of_ble_eq_true rfl, Nat.le_of_ble_eq_true rfl⟩ ⟨rfl, rfl⟩ rfl hl.1 (Nat.le_of_ble_eq_true rfl) dS_comes_37 ⟨Nat.zero_le _, Nat.zero_le _⟩ rfl (fun H locs x8 z7 h hG => ?_)
      refine rIfeq C (tgt := 54) h dS_comes_40 (by decide) (fun h => ?_) (fun h => ?_)
      · refine lv_bipush (v := (-2)) C.1 C.2.1 dS_comes_54 (by decide) ?_
        exact rReti C hG h dS_comes_56
      · refine rAload_n C dS_comes_43 hl 2 rfl ?_
        refine rGet C hG (hI 0 (by decide)) e_0 fiS_5 (v := .ref (gA G 9)) rfl k_374 dS_comes_44 ?_
        refine rIload_n C dS_comes_47 hl 1 rfl ?_
        refine rCVi [.int x5] [] C hG h (fun h => cR_isFree hI row9 h) mvR_isFree k_482 ⟨Nat.le_of_ble_eq_true rfl, Nat.le_of_ble_eq_true rfl⟩ ⟨rfl, rfl⟩ (rRecv C hG (hI 9 (by decide)) e_9 rfl) rfl hl.1 (Nat.le_of_ble_eq_true rfl) dS_comes_48 ⟨Nat.zero_le _, Nat.zero_le _⟩ rfl (fun H locs x10 z9 h hG => ?_)
        refine rIfne C (tgt := 57) h dS_comes_51 (by decide) (fun h => ?_) (fun h => ?_)
        · refine rAload_n C dS_comes_57 hl 2 rfl ?_
          refine rGet C hG (hI 0 (by decide)) e_0 fiS_5 (v := .ref (gA G 9)) rfl k_374 dS_comes_58 ?_
          refine rGet C hG (hI 9 (by decide)) e_9 fiR_3 (v := .int (z9 9 3)) rfl k_144 dS_comes_61 ?_
          refine lv_bipush (v := 6) C.1 C.2.1 dS_comes_64 (by decide) ?_
          refine rIcmplt C (tgt := 74) h dS_comes_66 (by decide) (fun h => ?_) (fun h => ?_)
          · refine rAload_n C dS_comes_74 hl 2 rfl ?_
            refine rGet C hG (hI 0 (by decide)) e_0 fiS_5 (v := .ref (gA G 9)) rfl k_374 dS_comes_75 ?_
            refine rIload_n C dS_comes_78 hl 3 rfl ?_
            refine rIload_n C dS_comes_79 hl 1 rfl ?_
            refine rIload C dS_comes_80 hl 0 rfl ?_
            refine rCVi [.int v1, .int x5, .int x6] [] C hG h (fun h => cR_add hI row9 h) mvR_add k_487 ⟨Nat.le_of_ble_eq_true rfl, Nat.le_of_ble_eq_true rfl⟩ ⟨rfl, rfl⟩ (rRecv C hG (hI 9 (by decide)) e_9 rfl) rfl hl.1 (Nat.le_of_ble_eq_true rfl) dS_comes_82 ⟨Nat.zero_le _, Nat.zero_le _⟩ rfl (fun H locs x12 z11 h hG => ?_)
            exact rReti C hG h dS_comes_85
          · refine lv_bipush (v := (-4)) C.1 C.2.1 dS_comes_69 (by decide) ?_
            refine lv_goto (tgt := 85) C.1 C.2.1 dS_comes_71 (by decide) ?_
            exact rReti C hG h dS_comes_85
        · refine lv_bipush (v := (-2)) C.1 C.2.1 dS_comes_54 (by decide) ?_
          exact rReti C hG h dS_comes_56
    · refine lv_bipush (v := (-2)) C.1 C.2.1 dS_comes_19 (by decide) ?_
      exact rReti C hG h dS_comes_21
theorem dS_mower_0 : decode bS_mower 0 = .ok (.aload_n 0, 1) := by decide +kernel
theorem dS_mower_1 : decode bS_mower 1 = .ok (.iload_n 1, 1) := by decide +kernel
theorem dS_mower_2 : decode bS_mower 2 = .ok (.iload_n 2, 1) := by decide +kernel
theorem dS_mower_3 : decode bS_mower 3 = .ok (.invokevirtual 136, 3) := by decide +kernel
theorem dS_mower_6 : decode bS_mower 6 = .ok (.ireturn, 1) := by decide +kernel
theorem cS_mower {l : Launch} {G : GT} {I : List Nat} (hI : cI I) {fu : Nat} {v1 : Int32} {v2 : Int32} {z : Sg} {R1 : Int32} {Z : Sg} (h : pS_mower fu v1 v2 z = some (R1, Z)) : Mt l yS_mower rmS_mower bS_mower 3 (some .int) G I z [.ref (gA G 0), .int v1, .int v2] (Qi G I R1 Z) := by
  refine entM (by decide +kernel) (Nat.le_of_ble_eq_true rfl) ?_
  intro p e s m below meth c C hG ls hl
  have hl : lv_has ls 3 [(0, .ref (gA G 0)), (1, .int v1), (2, .int v2)] := hl
  unfold pS_mower at h
  refine rAload_n C dS_mower_0 hl 0 rfl ?_
  refine rIload_n C dS_mower_1 hl 1 rfl ?_
  refine rIload_n C dS_mower_2 hl 2 rfl ?_
  refine rCVi [.int v1, .int v2] [] C hG h (fun h => cS_comes hI h) mvS_comes k_478 ⟨Nat.le_of_ble_eq_true rfl, Nat.le_of_ble_eq_true rfl⟩ ⟨rfl, rfl⟩ (rRecv C hG (hI 0 (by decide)) e_0 rfl) rfl hl.1 (Nat.le_of_ble_eq_true rfl) dS_mower_3 ⟨Nat.zero_le _, Nat.zero_le _⟩ rfl (fun H locs x2 z1 h hG => ?_)
  exact rReti C hG h dS_mower_6
theorem dS_put_0 : decode bS_put 0 = .ok (.aload_n 0, 1) := by decide +kernel
theorem dS_put_1 : decode bS_put 1 = .ok (.getfield 49, 3) := by decide +kernel
theorem dS_put_4 : decode bS_put 4 = .ok (.iload_n 1, 1) := by decide +kernel
theorem dS_put_5 : decode bS_put 5 = .ok (.invokevirtual 122, 3) := by decide +kernel
theorem dS_put_8 : decode bS_put 8 = .ok (.ifCond .ne 6, 3) := by decide +kernel
theorem dS_put_11 : decode bS_put 11 = .ok (.bipush (-5), 2) := by decide +kernel
theorem dS_put_13 : decode bS_put 13 = .ok (.ireturn, 1) := by decide +kernel
theorem dS_put_14 : decode bS_put 14 = .ok (.iconst 0, 1) := by decide +kernel
theorem dS_put_15 : decode bS_put 15 = .ok (.istore 4, 2) := by decide +kernel
theorem dS_put_17 : decode bS_put 17 = .ok (.iload_n 2, 1) := by decide +kernel
theorem dS_put_18 : decode bS_put 18 = .ok (.ifCond .ne 17, 3) := by decide +kernel
theorem dS_put_21 : decode bS_put 21 = .ok (.aload_n 0, 1) := by decide +kernel
theorem dS_put_22 : decode bS_put 22 = .ok (.getfield 49, 3) := by decide +kernel
theorem dS_put_25 : decode bS_put 25 = .ok (.iload_n 1, 1) := by decide +kernel
theorem dS_put_26 : decode bS_put 26 = .ok (.iload_n 3, 1) := by decide +kernel
theorem dS_put_27 : decode bS_put 27 = .ok (.invokevirtual 140, 3) := by decide +kernel
theorem dS_put_30 : decode bS_put 30 = .ok (.istore 4, 2) := by decide +kernel
theorem dS_put_32 : decode bS_put 32 = .ok (.goto 32, 3) := by decide +kernel
theorem dS_put_35 : decode bS_put 35 = .ok (.iload_n 2, 1) := by decide +kernel
theorem dS_put_36 : decode bS_put 36 = .ok (.iconst 1, 1) := by decide +kernel
theorem dS_put_37 : decode bS_put 37 = .ok (.if_icmp .ne 14, 3) := by decide +kernel
theorem dS_put_40 : decode bS_put 40 = .ok (.iload_n 3, 1) := by decide +kernel
theorem dS_put_41 : decode bS_put 41 = .ok (.bipush 11, 2) := by decide +kernel
theorem dS_put_43 : decode bS_put 43 = .ok (.invokestatic 108, 3) := by decide +kernel
theorem dS_put_46 : decode bS_put 46 = .ok (.istore 4, 2) := by decide +kernel
theorem dS_put_48 : decode bS_put 48 = .ok (.goto 16, 3) := by decide +kernel
theorem dS_put_51 : decode bS_put 51 = .ok (.iload_n 2, 1) := by decide +kernel
theorem dS_put_52 : decode bS_put 52 = .ok (.iconst 2, 1) := by decide +kernel
theorem dS_put_53 : decode bS_put 53 = .ok (.if_icmp .ne 11, 3) := by decide +kernel
theorem dS_put_56 : decode bS_put 56 = .ok (.iload_n 3, 1) := by decide +kernel
theorem dS_put_57 : decode bS_put 57 = .ok (.bipush 99, 2) := by decide +kernel
theorem dS_put_59 : decode bS_put 59 = .ok (.invokestatic 108, 3) := by decide +kernel
theorem dS_put_62 : decode bS_put 62 = .ok (.istore 4, 2) := by decide +kernel
theorem dS_put_64 : decode bS_put 64 = .ok (.iload 4, 2) := by decide +kernel
theorem dS_put_66 : decode bS_put 66 = .ok (.ifCond .ne 6, 3) := by decide +kernel
theorem dS_put_69 : decode bS_put 69 = .ok (.bipush (-7), 2) := by decide +kernel
theorem dS_put_71 : decode bS_put 71 = .ok (.ireturn, 1) := by decide +kernel
theorem dS_put_72 : decode bS_put 72 = .ok (.aload_n 0, 1) := by decide +kernel
theorem dS_put_73 : decode bS_put 73 = .ok (.getfield 49, 3) := by decide +kernel
theorem dS_put_76 : decode bS_put 76 = .ok (.getfield 143, 3) := by decide +kernel
theorem dS_put_79 : decode bS_put 79 = .ok (.iload_n 2, 1) := by decide +kernel
theorem dS_put_80 : decode bS_put 80 = .ok (.aaload, 1) := by decide +kernel
theorem dS_put_81 : decode bS_put 81 = .ok (.iload_n 1, 1) := by decide +kernel
theorem dS_put_82 : decode bS_put 82 = .ok (.iaload, 1) := by decide +kernel
theorem dS_put_83 : decode bS_put 83 = .ok (.istore 5, 2) := by decide +kernel
theorem dS_put_85 : decode bS_put 85 = .ok (.aload_n 0, 1) := by decide +kernel
theorem dS_put_86 : decode bS_put 86 = .ok (.getfield 49, 3) := by decide +kernel
theorem dS_put_89 : decode bS_put 89 = .ok (.getfield 143, 3) := by decide +kernel
theorem dS_put_92 : decode bS_put 92 = .ok (.iload_n 2, 1) := by decide +kernel
theorem dS_put_93 : decode bS_put 93 = .ok (.aaload, 1) := by decide +kernel
theorem dS_put_94 : decode bS_put 94 = .ok (.iload_n 1, 1) := by decide +kernel
theorem dS_put_95 : decode bS_put 95 = .ok (.iload_n 3, 1) := by decide +kernel
theorem dS_put_96 : decode bS_put 96 = .ok (.iastore, 1) := by decide +kernel
theorem dS_put_97 : decode bS_put 97 = .ok (.iload 5, 2) := by decide +kernel
theorem dS_put_99 : decode bS_put 99 = .ok (.ireturn, 1) := by decide +kernel
theorem wS_put_64 {p : Program} {l : Launch} {e : Env} {s : State} {m : MethodId} {args : Array Value} {below : List Frame} {meth : Method} {c : Code} {G : GT} {I : List Nat} (C : CX p s m args meth c NS bS_put 6 (some .int) G I) (hI : cI I) {fu : Nat} {R1 : Int32} {Z : Sg} {v1 : Int32} {v2 : Int32} {v3 : Int32} {v4 : Int32} {z : Sg} {H : Heap} {locs : List Loc} {ls : Array Slot} (h : pS_put_64 fu v1 v2 v3 v4 z = some (R1, Z)) (hG : GW G I z s.heap H locs) (hl : lv_has ls 6 [(0, .ref (gA G 0)), (1, .int v1), (2, .int v2), (3, .int v3), (4, .int v4)]) : W p l e rmS_put s m args below meth c H locs 0 0 (MQ below (Qi G I R1 Z) args s 0 0 (AD G I)) (F0 m 64 ls []) := by
  unfold pS_put_64 at h
  refine rIload C dS_put_64 hl 4 rfl ?_
  refine rIfne C (tgt := 72) h dS_put_66 (by decide) (fun h => ?_) (fun h => ?_)
  · refine rAload_n C dS_put_72 hl 0 rfl ?_
    refine rGet C hG (hI 0 (by decide)) e_0 fiS_5 (v := .ref (gA G 9)) rfl k_374 dS_put_73 ?_
    refine rGet C hG (hI 9 (by decide)) e_9 fiR_2 (v := .ref (gA G 11)) rfl k_143 dS_put_76 ?_
    refine rIload_n C dS_put_79 hl 2 rfl ?_
    refine rAald C hG (hI 11 (by decide)) e_11 (t0 := 3) rfl rfl h dS_put_80 (fun hq80 h => ?_)
    refine rIload_n C dS_put_81 hl 1 rfl ?_
    refine rIald C hG (hI _ (row9.fact hq80)) (eR_fact row9 hq80) h dS_put_82 (fun h => ?_)
    refine rIstore C dS_put_83 hl h (by decide) [(0, .ref (gA G 0)), (1, .int v1), (2, .int v2), (3, .int v3), (4, .int v4)] rfl (fun x9 ls h hl => ?_)
    refine rAload_n C dS_put_85 hl 1 rfl ?_
    refine rGet C hG (hI 0 (by decide)) e_0 fiS_5 (v := .ref (gA G 9)) rfl k_374 dS_put_86 ?_
    refine rGet C hG (hI 9 (by decide)) e_9 fiR_2 (v := .ref (gA G 11)) rfl k_143 dS_put_89 ?_
    refine rIload_n C dS_put_92 hl 3 rfl ?_
    refine rAald C hG (hI 11 (by decide)) e_11 (t0 := 3) rfl rfl h dS_put_93 (fun hq93 h => ?_)
    refine rIload_n C dS_put_94 hl 2 rfl ?_
    refine rIload_n C dS_put_95 hl 4 rfl ?_
    refine rIast C hG (hI _ (row9.fact hq93)) (eR_fact row9 hq93) h dS_put_96 (fun H locs z10 h hG => ?_)
    refine rIload C dS_put_97 hl 0 rfl ?_
    exact rReti C hG h dS_put_99
  · refine lv_bipush (v := (-7)) C.1 C.2.1 dS_put_69 (by decide) ?_
    exact rReti C hG h dS_put_71
theorem cS_put {l : Launch} {G : GT} {I : List Nat} (hI : cI I) {fu : Nat} {v1 : Int32} {v2 : Int32} {v3 : Int32} {z : Sg} {R1 : Int32} {Z : Sg} (h : pS_put fu v1 v2 v3 z = some (R1, Z)) : Mt l yS_put rmS_put bS_put 6 (some .int) G I z [.ref (gA G 0), .int v1, .int v2, .int v3] (Qi G I R1 Z) := by
  refine entM (by decide +kernel) (Nat.le_of_ble_eq_true rfl) ?_
  intro p e s m below meth c C hG ls hl
  have hl : lv_has ls 6 [(0, .ref (gA G 0)), (1, .int v1), (2, .int v2), (3, .int v3)] := hl
  unfold pS_put at h
  refine rAload_n C dS_put_0 hl 0 rfl ?_
  refine rGet C hG (hI 0 (by decide)) e_0 fiS_5 (v := .ref (gA G 9)) rfl k_374 dS_put_1 ?_
  refine rIload_n C dS_put_4 hl 1 rfl ?_
  refine rCVi [.int v1] [] C hG h (fun h => cR_has hI row9 h) mvR_has k_452 ⟨Nat.le_of_ble_eq_true rfl, Nat.le_of_ble_eq_true rfl⟩ ⟨rfl, rfl⟩ (rRecv C hG (hI 9 (by decide)) e_9 rfl) rfl hl.1 (Nat.le_of_ble_eq_true rfl) dS_put_5 ⟨Nat.zero_le _, Nat.zero_le _⟩ rfl (fun H locs x2 z1 h hG => ?_)
  refine rIfne C (tgt := 14) h dS_put_8 (by decide) (fun h => ?_) (fun h => ?_)
  · refine lv_iconst (v := 0) C.1 C.2.1 dS_put_14 (by decide) ?_
    refine rIstoreA C dS_put_15 hl (by decide) [(0, .ref (gA G 0)), (1, .int v1), (2, .int v2), (3, .int v3)] rfl (fun ls hl => ?_)
    refine rIload_n C dS_put_17 hl 3 rfl ?_
    refine rIfne C (tgt := 35) h dS_put_18 (by decide) (fun h => ?_) (fun h => ?_)
    · refine rIload_n C dS_put_35 hl 3 rfl ?_
      refine lv_iconst (v := 1) C.1 C.2.1 dS_put_36 (by decide) ?_
      refine rIcmpne C (tgt := 51) h dS_put_37 (by decide) (fun h => ?_) (fun h => ?_)
      · refine rIload_n C dS_put_51 hl 3 rfl ?_
        refine lv_iconst (v := 2) C.1 C.2.1 dS_put_52 (by decide) ?_
        refine rIcmpne C (tgt := 64) h dS_put_53 (by decide) (fun h => ?_) (fun h => ?_)
        · exact wS_put_64 C hI h hG (lv_sub hl [1, 2, 3, 4, 0] rfl)
        · refine rIload_n C dS_put_56 hl 4 rfl ?_
          refine lv_bipush (v := 99) C.1 C.2.1 dS_put_57 (by decide) ?_
          refine rCSi [.int v3, .int 99] [] C hG h (fun h => cS_within hI h) mvS_within k_423 ⟨Nat.le_of_ble_eq_true rfl, Nat.le_of_ble_eq_true rfl⟩ ⟨rfl, rfl⟩ rfl hl.1 (Nat.le_of_ble_eq_true rfl) dS_put_59 ⟨Nat.zero_le _, Nat.zero_le _⟩ rfl (fun H locs x4 z3 h hG => ?_)
          refine rIstoreA C dS_put_62 hl (by decide) [(0, .ref (gA G 0)), (1, .int v1), (2, .int v2), (3, .int v3)] rfl (fun ls hl => ?_)
          exact wS_put_64 C hI h hG (lv_sub hl [1, 2, 3, 4, 0] rfl)
      · refine rIload_n C dS_put_40 hl 4 rfl ?_
        refine lv_bipush (v := 11) C.1 C.2.1 dS_put_41 (by decide) ?_
        refine rCSi [.int v3, .int 11] [] C hG h (fun h => cS_within hI h) mvS_within k_423 ⟨Nat.le_of_ble_eq_true rfl, Nat.le_of_ble_eq_true rfl⟩ ⟨rfl, rfl⟩ rfl hl.1 (Nat.le_of_ble_eq_true rfl) dS_put_43 ⟨Nat.zero_le _, Nat.zero_le _⟩ rfl (fun H locs x6 z5 h hG => ?_)
        refine rIstoreA C dS_put_46 hl (by decide) [(0, .ref (gA G 0)), (1, .int v1), (2, .int v2), (3, .int v3)] rfl (fun ls hl => ?_)
        refine lv_goto (tgt := 64) C.1 C.2.1 dS_put_48 (by decide) ?_
        exact wS_put_64 C hI h hG (lv_sub hl [1, 2, 3, 4, 0] rfl)
    · refine rAload_n C dS_put_21 hl 1 rfl ?_
      refine rGet C hG (hI 0 (by decide)) e_0 fiS_5 (v := .ref (gA G 9)) rfl k_374 dS_put_22 ?_
      refine rIload_n C dS_put_25 hl 2 rfl ?_
      refine rIload_n C dS_put_26 hl 4 rfl ?_
      refine rCVi [.int v1, .int v3] [] C hG h (fun h => cR_isFreeFor hI row9 h) mvR_isFreeFor k_495 ⟨Nat.le_of_ble_eq_true rfl, Nat.le_of_ble_eq_true rfl⟩ ⟨rfl, rfl⟩ (rRecv C hG (hI 9 (by decide)) e_9 rfl) rfl hl.1 (Nat.le_of_ble_eq_true rfl) dS_put_27 ⟨Nat.zero_le _, Nat.zero_le _⟩ rfl (fun H locs x8 z7 h hG => ?_)
      refine rIstoreA C dS_put_30 hl (by decide) [(0, .ref (gA G 0)), (1, .int v1), (2, .int v2), (3, .int v3)] rfl (fun ls hl => ?_)
      refine lv_goto (tgt := 64) C.1 C.2.1 dS_put_32 (by decide) ?_
      exact wS_put_64 C hI h hG (lv_sub hl [1, 2, 3, 4, 0] rfl)
  · refine lv_bipush (v := (-5)) C.1 C.2.1 dS_put_11 (by decide) ?_
    exact rReti C hG h dS_put_13
theorem dS_told_0 : decode bS_told 0 = .ok (.aload_n 0, 1) := by decide +kernel
theorem dS_told_1 : decode bS_told 1 = .ok (.getfield 49, 3) := by decide +kernel
theorem dS_told_4 : decode bS_told 4 = .ok (.iload_n 1, 1) := by decide +kernel
theorem dS_told_5 : decode bS_told 5 = .ok (.invokevirtual 122, 3) := by decide +kernel
theorem dS_told_8 : decode bS_told 8 = .ok (.ifCond .ne 7, 3) := by decide +kernel
theorem dS_told_11 : decode bS_told 11 = .ok (.sipush (-5000), 3) := by decide +kernel
theorem dS_told_14 : decode bS_told 14 = .ok (.ireturn, 1) := by decide +kernel
theorem dS_told_15 : decode bS_told 15 = .ok (.iload_n 2, 1) := by decide +kernel
theorem dS_told_16 : decode bS_told 16 = .ok (.iconst 4, 1) := by decide +kernel
theorem dS_told_17 : decode bS_told 17 = .ok (.invokestatic 108, 3) := by decide +kernel
theorem dS_told_20 : decode bS_told 20 = .ok (.ifCond .eq 15, 3) := by decide +kernel
theorem dS_told_23 : decode bS_told 23 = .ok (.aload_n 0, 1) := by decide +kernel
theorem dS_told_24 : decode bS_told 24 = .ok (.getfield 49, 3) := by decide +kernel
theorem dS_told_27 : decode bS_told 27 = .ok (.getfield 143, 3) := by decide +kernel
theorem dS_told_30 : decode bS_told 30 = .ok (.iload_n 2, 1) := by decide +kernel
theorem dS_told_31 : decode bS_told 31 = .ok (.aaload, 1) := by decide +kernel
theorem dS_told_32 : decode bS_told 32 = .ok (.iload_n 1, 1) := by decide +kernel
theorem dS_told_33 : decode bS_told 33 = .ok (.iaload, 1) := by decide +kernel
theorem dS_told_34 : decode bS_told 34 = .ok (.ireturn, 1) := by decide +kernel
theorem dS_told_35 : decode bS_told 35 = .ok (.aload_n 0, 1) := by decide +kernel
theorem dS_told_36 : decode bS_told 36 = .ok (.getfield 49, 3) := by decide +kernel
theorem dS_told_39 : decode bS_told 39 = .ok (.iload_n 1, 1) := by decide +kernel
theorem dS_told_40 : decode bS_told 40 = .ok (.invokevirtual 126, 3) := by decide +kernel
theorem dS_told_43 : decode bS_told 43 = .ok (.iload_n 2, 1) := by decide +kernel
theorem dS_told_44 : decode bS_told 44 = .ok (.tableswitch 93 5 9 #[36, 44, 52, 60, 76], 36) := by decide +kernel
theorem dS_told_80 : decode bS_told 80 = .ok (.aload_n 0, 1) := by decide +kernel
theorem dS_told_81 : decode bS_told 81 = .ok (.getfield 49, 3) := by decide +kernel
theorem dS_told_84 : decode bS_told 84 = .ok (.invokevirtual 147, 3) := by decide +kernel
theorem dS_told_87 : decode bS_told 87 = .ok (.ireturn, 1) := by decide +kernel
theorem dS_told_88 : decode bS_told 88 = .ok (.aload_n 0, 1) := by decide +kernel
theorem dS_told_89 : decode bS_told 89 = .ok (.getfield 49, 3) := by decide +kernel
theorem dS_told_92 : decode bS_told 92 = .ok (.invokevirtual 150, 3) := by decide +kernel
theorem dS_told_95 : decode bS_told 95 = .ok (.ireturn, 1) := by decide +kernel
theorem dS_told_96 : decode bS_told 96 = .ok (.aload_n 0, 1) := by decide +kernel
theorem dS_told_97 : decode bS_told 97 = .ok (.getfield 49, 3) := by decide +kernel
theorem dS_told_100 : decode bS_told 100 = .ok (.invokevirtual 153, 3) := by decide +kernel
theorem dS_told_103 : decode bS_told 103 = .ok (.ireturn, 1) := by decide +kernel
theorem dS_told_104 : decode bS_told 104 = .ok (.aload_n 0, 1) := by decide +kernel
theorem dS_told_105 : decode bS_told 105 = .ok (.getfield 49, 3) := by decide +kernel
theorem dS_told_108 : decode bS_told 108 = .ok (.invokevirtual 156, 3) := by decide +kernel
theorem dS_told_111 : decode bS_told 111 = .ok (.ifCond .eq 7, 3) := by decide +kernel
theorem dS_told_114 : decode bS_told 114 = .ok (.iconst 1, 1) := by decide +kernel
theorem dS_told_115 : decode bS_told 115 = .ok (.goto 4, 3) := by decide +kernel
theorem dS_told_118 : decode bS_told 118 = .ok (.iconst 0, 1) := by decide +kernel
theorem dS_told_119 : decode bS_told 119 = .ok (.ireturn, 1) := by decide +kernel
theorem dS_told_120 : decode bS_told 120 = .ok (.aload_n 0, 1) := by decide +kernel
theorem dS_told_121 : decode bS_told 121 = .ok (.getfield 49, 3) := by decide +kernel
theorem dS_told_124 : decode bS_told 124 = .ok (.iload_n 1, 1) := by decide +kernel
theorem dS_told_125 : decode bS_told 125 = .ok (.invokevirtual 160, 3) := by decide +kernel
theorem dS_told_128 : decode bS_told 128 = .ok (.ifCond .eq 7, 3) := by decide +kernel
theorem dS_told_131 : decode bS_told 131 = .ok (.iconst 1, 1) := by decide +kernel
theorem dS_told_132 : decode bS_told 132 = .ok (.goto 4, 3) := by decide +kernel
theorem dS_told_135 : decode bS_told 135 = .ok (.iconst 0, 1) := by decide +kernel
theorem dS_told_136 : decode bS_told 136 = .ok (.ireturn, 1) := by decide +kernel
theorem dS_told_137 : decode bS_told 137 = .ok (.sipush (-7000), 3) := by decide +kernel
theorem dS_told_140 : decode bS_told 140 = .ok (.ireturn, 1) := by decide +kernel
theorem cS_told {l : Launch} {G : GT} {I : List Nat} (hI : cI I) {fu : Nat} {v1 : Int32} {v2 : Int32} {z : Sg} {R1 : Int32} {Z : Sg} (h : pS_told fu v1 v2 z = some (R1, Z)) : Mt l yS_told rmS_told bS_told 3 (some .int) G I z [.ref (gA G 0), .int v1, .int v2] (Qi G I R1 Z) := by
  refine entM (by decide +kernel) (Nat.le_of_ble_eq_true rfl) ?_
  intro p e s m below meth c C hG ls hl
  have hl : lv_has ls 3 [(0, .ref (gA G 0)), (1, .int v1), (2, .int v2)] := hl
  unfold pS_told at h
  refine rAload_n C dS_told_0 hl 0 rfl ?_
  refine rGet C hG (hI 0 (by decide)) e_0 fiS_5 (v := .ref (gA G 9)) rfl k_374 dS_told_1 ?_
  refine rIload_n C dS_told_4 hl 1 rfl ?_
  refine rCVi [.int v1] [] C hG h (fun h => cR_has hI row9 h) mvR_has k_452 ⟨Nat.le_of_ble_eq_true rfl, Nat.le_of_ble_eq_true rfl⟩ ⟨rfl, rfl⟩ (rRecv C hG (hI 9 (by decide)) e_9 rfl) rfl hl.1 (Nat.le_of_ble_eq_true rfl) dS_told_5 ⟨Nat.zero_le _, Nat.zero_le _⟩ rfl (fun H locs x2 z1 h hG => ?_)
  refine rIfne C (tgt := 15) h dS_told_8 (by decide) (fun h => ?_) (fun h => ?_)
  · refine rIload_n C dS_told_15 hl 2 rfl ?_
    refine lv_iconst (v := 4) C.1 C.2.1 dS_told_16 (by decide) ?_
    refine rCSi [.int v2, .int 4] [] C hG h (fun h => cS_within hI h) mvS_within k_423 ⟨Nat.le_of_ble_eq_true rfl, Nat.le_of_ble_eq_true rfl⟩ ⟨rfl, rfl⟩ rfl hl.1 (Nat.le_of_ble_eq_true rfl) dS_told_17 ⟨Nat.zero_le _, Nat.zero_le _⟩ rfl (fun H locs x4 z3 h hG => ?_)
    refine rIfeq C (tgt := 35) h dS_told_20 (by decide) (fun h => ?_) (fun h => ?_)
    · refine rAload_n C dS_told_35 hl 0 rfl ?_
      refine rGet C hG (hI 0 (by decide)) e_0 fiS_5 (v := .ref (gA G 9)) rfl k_374 dS_told_36 ?_
      refine rIload_n C dS_told_39 hl 1 rfl ?_
      refine rCVv [.int v1] [] C hG h (fun h => cR_lookAt hI row9 h) mvR_lookAt k_456 ⟨Nat.le_of_ble_eq_true rfl, Nat.le_of_ble_eq_true rfl⟩ ⟨rfl, rfl⟩ (rRecv C hG (hI 9 (by decide)) e_9 rfl) rfl hl.1 (Nat.le_of_ble_eq_true rfl) dS_told_40 ⟨Nat.zero_le _, Nat.zero_le _⟩ rfl (fun H locs z5 h hG => ?_)
      refine rIload_n C dS_told_43 hl 2 rfl ?_
      by_cases q44_0 : v2 = 5
      · replace h := ifP q44_0 h
        refine rSwT C dS_told_44 5 q44_0 (by decide) (off := 36) (tgt := 80) (by decide) (by decide) ?_
        refine rAload_n C dS_told_80 hl 0 rfl ?_
        refine rGet C hG (hI 0 (by decide)) e_0 fiS_5 (v := .ref (gA G 9)) rfl k_374 dS_told_81 ?_
        refine rCVi [] [] C hG h (fun h => cR_keepsTo hI row9 h) mvR_keepsTo k_504 ⟨Nat.le_of_ble_eq_true rfl, Nat.le_of_ble_eq_true rfl⟩ ⟨rfl, rfl⟩ (rRecv C hG (hI 9 (by decide)) e_9 rfl) rfl hl.1 (Nat.le_of_ble_eq_true rfl) dS_told_84 ⟨Nat.zero_le _, Nat.zero_le _⟩ rfl (fun H locs x7 z6 h hG => ?_)
        exact rReti C hG h dS_told_87
      replace h := ifN q44_0 h
      by_cases q44_1 : v2 = 6
      · replace h := ifP q44_1 h
        refine rSwT C dS_told_44 6 q44_1 (by decide) (off := 44) (tgt := 88) (by decide) (by decide) ?_
        refine rAload_n C dS_told_88 hl 0 rfl ?_
        refine rGet C hG (hI 0 (by decide)) e_0 fiS_5 (v := .ref (gA G 9)) rfl k_374 dS_told_89 ?_
        refine rCVi [] [] C hG h (fun h => cR_howFar hI row9 h) mvR_howFar k_509 ⟨Nat.le_of_ble_eq_true rfl, Nat.le_of_ble_eq_true rfl⟩ ⟨rfl, rfl⟩ (rRecv C hG (hI 9 (by decide)) e_9 rfl) rfl hl.1 (Nat.le_of_ble_eq_true rfl) dS_told_92 ⟨Nat.zero_le _, Nat.zero_le _⟩ rfl (fun H locs x9 z8 h hG => ?_)
        exact rReti C hG h dS_told_95
      replace h := ifN q44_1 h
      by_cases q44_2 : v2 = 7
      · replace h := ifP q44_2 h
        refine rSwT C dS_told_44 7 q44_2 (by decide) (off := 52) (tgt := 96) (by decide) (by decide) ?_
        refine rAload_n C dS_told_96 hl 0 rfl ?_
        refine rGet C hG (hI 0 (by decide)) e_0 fiS_5 (v := .ref (gA G 9)) rfl k_374 dS_told_97 ?_
        refine rCVi [] [] C hG h (fun h => cR_howTiring hI row9 h) mvR_howTiring k_523 ⟨Nat.le_of_ble_eq_true rfl, Nat.le_of_ble_eq_true rfl⟩ ⟨rfl, rfl⟩ (rRecv C hG (hI 9 (by decide)) e_9 rfl) rfl hl.1 (Nat.le_of_ble_eq_true rfl) dS_told_100 ⟨Nat.zero_le _, Nat.zero_le _⟩ rfl (fun H locs x11 z10 h hG => ?_)
        exact rReti C hG h dS_told_103
      replace h := ifN q44_2 h
      by_cases q44_3 : v2 = 8
      · replace h := ifP q44_3 h
        refine rSwT C dS_told_44 8 q44_3 (by decide) (off := 60) (tgt := 104) (by decide) (by decide) ?_
        refine rAload_n C dS_told_104 hl 0 rfl ?_
        refine rGet C hG (hI 0 (by decide)) e_0 fiS_5 (v := .ref (gA G 9)) rfl k_374 dS_told_105 ?_
        refine rCVi [] [] C hG h (fun h => cR_clashes hI row9 h) mvR_clashes k_534 ⟨Nat.le_of_ble_eq_true rfl, Nat.le_of_ble_eq_true rfl⟩ ⟨rfl, rfl⟩ (rRecv C hG (hI 9 (by decide)) e_9 rfl) rfl hl.1 (Nat.le_of_ble_eq_true rfl) dS_told_108 ⟨Nat.zero_le _, Nat.zero_le _⟩ rfl (fun H locs x13 z12 h hG => ?_)
        refine rIfeq C (tgt := 118) h dS_told_111 (by decide) (fun h => ?_) (fun h => ?_)
        · refine lv_iconst (v := 0) C.1 C.2.1 dS_told_118 (by decide) ?_
          exact rReti C hG h dS_told_119
        · refine lv_iconst (v := 1) C.1 C.2.1 dS_told_114 (by decide) ?_
          refine lv_goto (tgt := 119) C.1 C.2.1 dS_told_115 (by decide) ?_
          exact rReti C hG h dS_told_119
      replace h := ifN q44_3 h
      by_cases q44_4 : v2 = 9
      · replace h := ifP q44_4 h
        refine rSwT C dS_told_44 9 q44_4 (by decide) (off := 76) (tgt := 120) (by decide) (by decide) ?_
        refine rAload_n C dS_told_120 hl 0 rfl ?_
        refine rGet C hG (hI 0 (by decide)) e_0 fiS_5 (v := .ref (gA G 9)) rfl k_374 dS_told_121 ?_
        refine rIload_n C dS_told_124 hl 1 rfl ?_
        refine rCVi [.int v1] [] C hG h (fun h => cR_inStep hI row9 h) mvR_inStep k_535 ⟨Nat.le_of_ble_eq_true rfl, Nat.le_of_ble_eq_true rfl⟩ ⟨rfl, rfl⟩ (rRecv C hG (hI 9 (by decide)) e_9 rfl) rfl hl.1 (Nat.le_of_ble_eq_true rfl) dS_told_125 ⟨Nat.zero_le _, Nat.zero_le _⟩ rfl (fun H locs x15 z14 h hG => ?_)
        refine rIfeq C (tgt := 135) h dS_told_128 (by decide) (fun h => ?_) (fun h => ?_)
        · refine lv_iconst (v := 0) C.1 C.2.1 dS_told_135 (by decide) ?_
          exact rReti C hG h dS_told_136
        · refine lv_iconst (v := 1) C.1 C.2.1 dS_told_131 (by decide) ?_
          refine lv_goto (tgt := 136) C.1 C.2.1 dS_told_132 (by decide) ?_
          exact rReti C hG h dS_told_136
      replace h := ifN q44_4 h
      refine rSwD C dS_told_44 (tgt := 137) (by have q44_0n := ne_toInt (k := 5) q44_0 (by decide); have q44_1n := ne_toInt (k := 6) q44_1 (by decide); have q44_2n := ne_toInt (k := 7) q44_2 (by decide); have q44_3n := ne_toInt (k := 8) q44_3 (by decide); have q44_4n := ne_toInt (k := 9) q44_4 (by decide); omega) (by decide) ?_
      refine lv_sipush (v := (-7000)) C.1 C.2.1 dS_told_137 (by decide) ?_
      exact rReti C hG h dS_told_140
    · refine rAload_n C dS_told_23 hl 0 rfl ?_
      refine rGet C hG (hI 0 (by decide)) e_0 fiS_5 (v := .ref (gA G 9)) rfl k_374 dS_told_24 ?_
      refine rGet C hG (hI 9 (by decide)) e_9 fiR_2 (v := .ref (gA G 11)) rfl k_143 dS_told_27 ?_
      refine rIload_n C dS_told_30 hl 2 rfl ?_
      refine rAald C hG (hI 11 (by decide)) e_11 (t0 := 3) rfl rfl h dS_told_31 (fun hq31 h => ?_)
      refine rIload_n C dS_told_32 hl 1 rfl ?_
      refine rIald C hG (hI _ (row9.fact hq31)) (eR_fact row9 hq31) h dS_told_33 (fun h => ?_)
      exact rReti C hG h dS_told_34
  · refine lv_sipush (v := (-5000)) C.1 C.2.1 dS_told_11 (by decide) ?_
    exact rReti C hG h dS_told_14
theorem dS_stroke_0 : decode bS_stroke 0 = .ok (.aload_n 0, 1) := by decide +kernel
theorem dS_stroke_1 : decode bS_stroke 1 = .ok (.getfield 49, 3) := by decide +kernel
theorem dS_stroke_4 : decode bS_stroke 4 = .ok (.getfield 119, 3) := by decide +kernel
theorem dS_stroke_7 : decode bS_stroke 7 = .ok (.iconst 3, 1) := by decide +kernel
theorem dS_stroke_8 : decode bS_stroke 8 = .ok (.iaload, 1) := by decide +kernel
theorem dS_stroke_9 : decode bS_stroke 9 = .ok (.sipush 999, 3) := by decide +kernel
theorem dS_stroke_12 : decode bS_stroke 12 = .ok (.if_icmp .lt 8, 3) := by decide +kernel
theorem dS_stroke_15 : decode bS_stroke 15 = .ok (.bipush (-3), 2) := by decide +kernel
theorem dS_stroke_17 : decode bS_stroke 17 = .ok (.goto 10, 3) := by decide +kernel
theorem dS_stroke_20 : decode bS_stroke 20 = .ok (.aload_n 0, 1) := by decide +kernel
theorem dS_stroke_21 : decode bS_stroke 21 = .ok (.getfield 49, 3) := by decide +kernel
theorem dS_stroke_24 : decode bS_stroke 24 = .ok (.invokevirtual 163, 3) := by decide +kernel
theorem dS_stroke_27 : decode bS_stroke 27 = .ok (.ireturn, 1) := by decide +kernel
theorem cS_stroke {l : Launch} {G : GT} {I : List Nat} (hI : cI I) {fu : Nat} {z : Sg} {R1 : Int32} {Z : Sg} (h : pS_stroke fu z = some (R1, Z)) : Mt l yS_stroke rmS_stroke bS_stroke 1 (some .int) G I z [.ref (gA G 0)] (Qi G I R1 Z) := by
  refine entM (by decide +kernel) (Nat.le_of_ble_eq_true rfl) ?_
  intro p e s m below meth c C hG ls hl
  have hl : lv_has ls 1 [(0, .ref (gA G 0))] := hl
  unfold pS_stroke at h
  refine rAload_n C dS_stroke_0 hl 0 rfl ?_
  refine rGet C hG (hI 0 (by decide)) e_0 fiS_5 (v := .ref (gA G 9)) rfl k_374 dS_stroke_1 ?_
  refine rGet C hG (hI 9 (by decide)) e_9 fiR_1 (v := .ref (gA G 10)) rfl k_140 dS_stroke_4 ?_
  refine lv_iconst (v := 3) C.1 C.2.1 dS_stroke_7 (by decide) ?_
  refine rIaldK C hG (hI 10 (by decide)) e_10 3 (by decide) (by decide) dS_stroke_8 ?_
  refine lv_sipush (v := 999) C.1 C.2.1 dS_stroke_9 (by decide) ?_
  refine rIcmplt C (tgt := 20) h dS_stroke_12 (by decide) (fun h => ?_) (fun h => ?_)
  · refine rAload_n C dS_stroke_20 hl 0 rfl ?_
    refine rGet C hG (hI 0 (by decide)) e_0 fiS_5 (v := .ref (gA G 9)) rfl k_374 dS_stroke_21 ?_
    refine rCVi [] [] C hG h (fun h => cR_swingOn hI row9 h) mvR_swingOn k_540 ⟨Nat.le_of_ble_eq_true rfl, Nat.le_of_ble_eq_true rfl⟩ ⟨rfl, rfl⟩ (rRecv C hG (hI 9 (by decide)) e_9 rfl) rfl hl.1 (Nat.le_of_ble_eq_true rfl) dS_stroke_24 ⟨Nat.zero_le _, Nat.zero_le _⟩ rfl (fun H locs x2 z1 h hG => ?_)
    exact rReti C hG h dS_stroke_27
  · refine lv_bipush (v := (-3)) C.1 C.2.1 dS_stroke_15 (by decide) ?_
    refine lv_goto (tgt := 27) C.1 C.2.1 dS_stroke_17 (by decide) ?_
    exact rReti C hG h dS_stroke_27
theorem dS_run_0 : decode bS_run 0 = .ok (.iload_n 2, 1) := by decide +kernel
theorem dS_run_1 : decode bS_run 1 = .ok (.bipush 10, 2) := by decide +kernel
theorem dS_run_3 : decode bS_run 3 = .ok (.if_icmp .lt 21, 3) := by decide +kernel
theorem dS_run_6 : decode bS_run 6 = .ok (.aload_n 0, 1) := by decide +kernel
theorem dS_run_7 : decode bS_run 7 = .ok (.getfield 49, 3) := by decide +kernel
theorem dS_run_10 : decode bS_run 10 = .ok (.iload_n 2, 1) := by decide +kernel
theorem dS_run_11 : decode bS_run 11 = .ok (.bipush 10, 2) := by decide +kernel
theorem dS_run_13 : decode bS_run 13 = .ok (.isub, 1) := by decide +kernel
theorem dS_run_14 : decode bS_run 14 = .ok (.invokevirtual 122, 3) := by decide +kernel
theorem dS_run_17 : decode bS_run 17 = .ok (.ifCond .eq 7, 3) := by decide +kernel
theorem dS_run_20 : decode bS_run 20 = .ok (.iconst 1, 1) := by decide +kernel
theorem dS_run_21 : decode bS_run 21 = .ok (.goto 4, 3) := by decide +kernel
theorem dS_run_24 : decode bS_run 24 = .ok (.iconst 0, 1) := by decide +kernel
theorem dS_run_25 : decode bS_run 25 = .ok (.istore_n 3, 1) := by decide +kernel
theorem dS_run_26 : decode bS_run 26 = .ok (.iload_n 2, 1) := by decide +kernel
theorem dS_run_27 : decode bS_run 27 = .ok (.bipush 20, 2) := by decide +kernel
theorem dS_run_29 : decode bS_run 29 = .ok (.if_icmp .lt 21, 3) := by decide +kernel
theorem dS_run_32 : decode bS_run 32 = .ok (.aload_n 0, 1) := by decide +kernel
theorem dS_run_33 : decode bS_run 33 = .ok (.getfield 49, 3) := by decide +kernel
theorem dS_run_36 : decode bS_run 36 = .ok (.iload_n 2, 1) := by decide +kernel
theorem dS_run_37 : decode bS_run 37 = .ok (.bipush 20, 2) := by decide +kernel
theorem dS_run_39 : decode bS_run 39 = .ok (.isub, 1) := by decide +kernel
theorem dS_run_40 : decode bS_run 40 = .ok (.invokevirtual 122, 3) := by decide +kernel
theorem dS_run_43 : decode bS_run 43 = .ok (.ifCond .eq 7, 3) := by decide +kernel
theorem dS_run_46 : decode bS_run 46 = .ok (.iconst 1, 1) := by decide +kernel
theorem dS_run_47 : decode bS_run 47 = .ok (.goto 4, 3) := by decide +kernel
theorem dS_run_50 : decode bS_run 50 = .ok (.iconst 0, 1) := by decide +kernel
theorem dS_run_51 : decode bS_run 51 = .ok (.istore 4, 2) := by decide +kernel
theorem dS_run_53 : decode bS_run 53 = .ok (.iload_n 1, 1) := by decide +kernel
theorem dS_run_54 : decode bS_run 54 = .ok (.bipush 60, 2) := by decide +kernel
theorem dS_run_56 : decode bS_run 56 = .ok (.invokestatic 108, 3) := by decide +kernel
theorem dS_run_59 : decode bS_run 59 = .ok (.ifCond .eq 20, 3) := by decide +kernel
theorem dS_run_62 : decode bS_run 62 = .ok (.iload_n 2, 1) := by decide +kernel
theorem dS_run_63 : decode bS_run 63 = .ok (.iconst 3, 1) := by decide +kernel
theorem dS_run_64 : decode bS_run 64 = .ok (.invokestatic 108, 3) := by decide +kernel
theorem dS_run_67 : decode bS_run 67 = .ok (.ifCond .ne 15, 3) := by decide +kernel
theorem dS_run_70 : decode bS_run 70 = .ok (.iload_n 3, 1) := by decide +kernel
theorem dS_run_71 : decode bS_run 71 = .ok (.ifCond .ne 11, 3) := by decide +kernel
theorem dS_run_74 : decode bS_run 74 = .ok (.iload 4, 2) := by decide +kernel
theorem dS_run_76 : decode bS_run 76 = .ok (.ifCond .ne 6, 3) := by decide +kernel
theorem dS_run_79 : decode bS_run 79 = .ok (.bipush (-2), 2) := by decide +kernel
theorem dS_run_81 : decode bS_run 81 = .ok (.ireturn, 1) := by decide +kernel
theorem dS_run_82 : decode bS_run 82 = .ok (.aload_n 0, 1) := by decide +kernel
theorem dS_run_83 : decode bS_run 83 = .ok (.getfield 53, 3) := by decide +kernel
theorem dS_run_86 : decode bS_run 86 = .ok (.aload_n 0, 1) := by decide +kernel
theorem dS_run_87 : decode bS_run 87 = .ok (.getfield 49, 3) := by decide +kernel
theorem dS_run_90 : decode bS_run 90 = .ok (.invokevirtual 166, 3) := by decide +kernel
theorem dS_run_93 : decode bS_run 93 = .ok (.aload_n 0, 1) := by decide +kernel
theorem dS_run_94 : decode bS_run 94 = .ok (.getfield 53, 3) := by decide +kernel
theorem dS_run_97 : decode bS_run 97 = .ok (.iload_n 1, 1) := by decide +kernel
theorem dS_run_98 : decode bS_run 98 = .ok (.invokevirtual 169, 3) := by decide +kernel
theorem dS_run_101 : decode bS_run 101 = .ok (.istore 5, 2) := by decide +kernel
theorem dS_run_103 : decode bS_run 103 = .ok (.iload_n 2, 1) := by decide +kernel
theorem dS_run_104 : decode bS_run 104 = .ok (.tableswitch 61 0 3 #[32, 35, 43, 51], 32) := by decide +kernel
theorem dS_run_136 : decode bS_run 136 = .ok (.iload 5, 2) := by decide +kernel
theorem dS_run_138 : decode bS_run 138 = .ok (.ireturn, 1) := by decide +kernel
theorem dS_run_139 : decode bS_run 139 = .ok (.aload_n 0, 1) := by decide +kernel
theorem dS_run_140 : decode bS_run 140 = .ok (.getfield 53, 3) := by decide +kernel
theorem dS_run_143 : decode bS_run 143 = .ok (.invokevirtual 93, 3) := by decide +kernel
theorem dS_run_146 : decode bS_run 146 = .ok (.ireturn, 1) := by decide +kernel
theorem dS_run_147 : decode bS_run 147 = .ok (.aload_n 0, 1) := by decide +kernel
theorem dS_run_148 : decode bS_run 148 = .ok (.getfield 53, 3) := by decide +kernel
theorem dS_run_151 : decode bS_run 151 = .ok (.invokevirtual 172, 3) := by decide +kernel
theorem dS_run_154 : decode bS_run 154 = .ok (.ireturn, 1) := by decide +kernel
theorem dS_run_155 : decode bS_run 155 = .ok (.aload_n 0, 1) := by decide +kernel
theorem dS_run_156 : decode bS_run 156 = .ok (.getfield 53, 3) := by decide +kernel
theorem dS_run_159 : decode bS_run 159 = .ok (.getfield 119, 3) := by decide +kernel
theorem dS_run_162 : decode bS_run 162 = .ok (.iconst 1, 1) := by decide +kernel
theorem dS_run_163 : decode bS_run 163 = .ok (.iaload, 1) := by decide +kernel
theorem dS_run_164 : decode bS_run 164 = .ok (.ireturn, 1) := by decide +kernel
theorem dS_run_165 : decode bS_run 165 = .ok (.iload_n 3, 1) := by decide +kernel
theorem dS_run_166 : decode bS_run 166 = .ok (.ifCond .eq 20, 3) := by decide +kernel
theorem dS_run_169 : decode bS_run 169 = .ok (.aload_n 0, 1) := by decide +kernel
theorem dS_run_170 : decode bS_run 170 = .ok (.getfield 53, 3) := by decide +kernel
theorem dS_run_173 : decode bS_run 173 = .ok (.getfield 143, 3) := by decide +kernel
theorem dS_run_176 : decode bS_run 176 = .ok (.iconst 1, 1) := by decide +kernel
theorem dS_run_177 : decode bS_run 177 = .ok (.aaload, 1) := by decide +kernel
theorem dS_run_178 : decode bS_run 178 = .ok (.iload_n 2, 1) := by decide +kernel
theorem dS_run_179 : decode bS_run 179 = .ok (.bipush 10, 2) := by decide +kernel
theorem dS_run_181 : decode bS_run 181 = .ok (.isub, 1) := by decide +kernel
theorem dS_run_182 : decode bS_run 182 = .ok (.iaload, 1) := by decide +kernel
theorem dS_run_183 : decode bS_run 183 = .ok (.goto 17, 3) := by decide +kernel
theorem dS_run_186 : decode bS_run 186 = .ok (.aload_n 0, 1) := by decide +kernel
theorem dS_run_187 : decode bS_run 187 = .ok (.getfield 53, 3) := by decide +kernel
theorem dS_run_190 : decode bS_run 190 = .ok (.getfield 143, 3) := by decide +kernel
theorem dS_run_193 : decode bS_run 193 = .ok (.iconst 2, 1) := by decide +kernel
theorem dS_run_194 : decode bS_run 194 = .ok (.aaload, 1) := by decide +kernel
theorem dS_run_195 : decode bS_run 195 = .ok (.iload_n 2, 1) := by decide +kernel
theorem dS_run_196 : decode bS_run 196 = .ok (.bipush 20, 2) := by decide +kernel
theorem dS_run_198 : decode bS_run 198 = .ok (.isub, 1) := by decide +kernel
theorem dS_run_199 : decode bS_run 199 = .ok (.iaload, 1) := by decide +kernel
theorem dS_run_200 : decode bS_run 200 = .ok (.ireturn, 1) := by decide +kernel
theorem wS_run_82 {p : Program} {l : Launch} {e : Env} {s : State} {m : MethodId} {args : Array Value} {below : List Frame} {meth : Method} {c : Code} {G : GT} {I : List Nat} (C : CX p s m args meth c NS bS_run 6 (some .int) G I) (hI : cI I) {fu : Nat} {R1 : Int32} {Z : Sg} {v1 : Int32} {v2 : Int32} {v3 : Int32} {z : Sg} {H : Heap} {locs : List Loc} {ls : Array Slot} (h : pS_run_82 fu v1 v2 v3 z = some (R1, Z)) (hG : GW G I z s.heap H locs) (hl : lv_has ls 6 [(0, .ref (gA G 0)), (1, .int v1), (2, .int v2), (3, .int v3)]) : W p l e rmS_run s m args below meth c H locs 0 0 (MQ below (Qi G I R1 Z) args s 0 0 (AD G I)) (F0 m 82 ls []) := by
  unfold pS_run_82 at h
  refine rAload_n C dS_run_82 hl 0 rfl ?_
  refine rGet C hG (hI 0 (by decide)) e_0 fiS_6 (v := .ref (gA G 20)) rfl k_375 dS_run_83 ?_
  refine rAload_n C dS_run_86 hl 0 rfl ?_
  refine rGet C hG (hI 0 (by decide)) e_0 fiS_5 (v := .ref (gA G 9)) rfl k_374 dS_run_87 ?_
  refine rCVv [.ref (gA G 9)] [] C hG h (fun h => cR_become hI row20 row9 h) mvR_become k_552 ⟨Nat.le_of_ble_eq_true rfl, Nat.le_of_ble_eq_true rfl⟩ ⟨rfl, rfl⟩ (rRecv C hG (hI 20 (by decide)) e_20 rfl) rfl hl.1 (Nat.le_of_ble_eq_true rfl) dS_run_90 ⟨Nat.zero_le _, Nat.zero_le _⟩ rfl (fun H locs z9 h hG => ?_)
  refine rAload_n C dS_run_93 hl 0 rfl ?_
  refine rGet C hG (hI 0 (by decide)) e_0 fiS_6 (v := .ref (gA G 20)) rfl k_375 dS_run_94 ?_
  refine rIload_n C dS_run_97 hl 1 rfl ?_
  refine rCVi [.int v1] [] C hG h (fun h => cR_cutBy hI row20 h) mvR_cutBy k_557 ⟨Nat.le_of_ble_eq_true rfl, Nat.le_of_ble_eq_true rfl⟩ ⟨rfl, rfl⟩ (rRecv C hG (hI 20 (by decide)) e_20 rfl) rfl hl.1 (Nat.le_of_ble_eq_true rfl) dS_run_98 ⟨Nat.zero_le _, Nat.zero_le _⟩ rfl (fun H locs x11 z10 h hG => ?_)
  refine rIstoreA C dS_run_101 hl (by decide) [(0, .ref (gA G 0)), (1, .int v1), (2, .int v2), (3, .int v3)] rfl (fun ls hl => ?_)
  refine rIload_n C dS_run_103 hl 3 rfl ?_
  by_cases q104_0 : v2 = 0
  · replace h := ifP q104_0 h
    refine rSwT C dS_run_104 0 q104_0 (by decide) (off := 32) (tgt := 136) (by decide) (by decide) ?_
    refine rIload C dS_run_136 hl 0 rfl ?_
    exact rReti C hG h dS_run_138
  replace h := ifN q104_0 h
  by_cases q104_1 : v2 = 1
  · replace h := ifP q104_1 h
    refine rSwT C dS_run_104 1 q104_1 (by decide) (off := 35) (tgt := 139) (by decide) (by decide) ?_
    refine rAload_n C dS_run_139 hl 1 rfl ?_
    refine rGet C hG (hI 0 (by decide)) e_0 fiS_6 (v := .ref (gA G 20)) rfl k_375 dS_run_140 ?_
    refine rCVi [] [] C hG h (fun h => cR_inStepBits hI row20 h) mvR_inStepBits k_405 ⟨Nat.le_of_ble_eq_true rfl, Nat.le_of_ble_eq_true rfl⟩ ⟨rfl, rfl⟩ (rRecv C hG (hI 20 (by decide)) e_20 rfl) rfl hl.1 (Nat.le_of_ble_eq_true rfl) dS_run_143 ⟨Nat.zero_le _, Nat.zero_le _⟩ rfl (fun H locs x13 z12 h hG => ?_)
    exact rReti C hG h dS_run_146
  replace h := ifN q104_1 h
  by_cases q104_2 : v2 = 2
  · replace h := ifP q104_2 h
    refine rSwT C dS_run_104 2 q104_2 (by decide) (off := 43) (tgt := 147) (by decide) (by decide) ?_
    refine rAload_n C dS_run_147 hl 1 rfl ?_
    refine rGet C hG (hI 0 (by decide)) e_0 fiS_6 (v := .ref (gA G 20)) rfl k_375 dS_run_148 ?_
    refine rCVi [] [] C hG h (fun h => cR_clashBits hI row20 h) mvR_clashBits k_562 ⟨Nat.le_of_ble_eq_true rfl, Nat.le_of_ble_eq_true rfl⟩ ⟨rfl, rfl⟩ (rRecv C hG (hI 20 (by decide)) e_20 rfl) rfl hl.1 (Nat.le_of_ble_eq_true rfl) dS_run_151 ⟨Nat.zero_le _, Nat.zero_le _⟩ rfl (fun H locs x15 z14 h hG => ?_)
    exact rReti C hG h dS_run_154
  replace h := ifN q104_2 h
  by_cases q104_3 : v2 = 3
  · replace h := ifP q104_3 h
    refine rSwT C dS_run_104 3 q104_3 (by decide) (off := 51) (tgt := 155) (by decide) (by decide) ?_
    refine rAload_n C dS_run_155 hl 1 rfl ?_
    refine rGet C hG (hI 0 (by decide)) e_0 fiS_6 (v := .ref (gA G 20)) rfl k_375 dS_run_156 ?_
    refine rGet C hG (hI 20 (by decide)) e_20 fiR_1 (v := .ref (gA G 21)) rfl k_140 dS_run_159 ?_
    refine lv_iconst (v := 1) C.1 C.2.1 dS_run_162 (by decide) ?_
    refine rIaldK C hG (hI 21 (by decide)) e_21 1 (by decide) (by decide) dS_run_163 ?_
    exact rReti C hG h dS_run_164
  replace h := ifN q104_3 h
  refine rSwD C dS_run_104 (tgt := 165) (by have q104_0n := ne_toInt (k := 0) q104_0 (by decide); have q104_1n := ne_toInt (k := 1) q104_1 (by decide); have q104_2n := ne_toInt (k := 2) q104_2 (by decide); have q104_3n := ne_toInt (k := 3) q104_3 (by decide); omega) (by decide) ?_
  refine rIload_n C dS_run_165 hl 4 rfl ?_
  refine rIfeq C (tgt := 186) h dS_run_166 (by decide) (fun h => ?_) (fun h => ?_)
  · refine rAload_n C dS_run_186 hl 1 rfl ?_
    refine rGet C hG (hI 0 (by decide)) e_0 fiS_6 (v := .ref (gA G 20)) rfl k_375 dS_run_187 ?_
    refine rGet C hG (hI 20 (by decide)) e_20 fiR_2 (v := .ref (gA G 22)) rfl k_143 dS_run_190 ?_
    refine lv_iconst (v := 2) C.1 C.2.1 dS_run_193 (by decide) ?_
    refine rAaldK C hG (hI 22 (by decide)) e_22 (t0 := 3) rfl rfl 2 (by decide) (by decide) 25 rfl dS_run_194 ?_
    refine rIload_n C dS_run_195 hl 3 rfl ?_
    refine lv_bipush (v := 20) C.1 C.2.1 dS_run_196 (by decide) ?_
    refine lv_isub C.1 C.2.1 dS_run_198 ?_
    refine rIald C hG (hI 25 (by decide)) e_25 h dS_run_199 (fun h => ?_)
    exact rReti C hG h dS_run_200
  · refine rAload_n C dS_run_169 hl 1 rfl ?_
    refine rGet C hG (hI 0 (by decide)) e_0 fiS_6 (v := .ref (gA G 20)) rfl k_375 dS_run_170 ?_
    refine rGet C hG (hI 20 (by decide)) e_20 fiR_2 (v := .ref (gA G 22)) rfl k_143 dS_run_173 ?_
    refine lv_iconst (v := 1) C.1 C.2.1 dS_run_176 (by decide) ?_
    refine rAaldK C hG (hI 22 (by decide)) e_22 (t0 := 3) rfl rfl 1 (by decide) (by decide) 24 rfl dS_run_177 ?_
    refine rIload_n C dS_run_178 hl 3 rfl ?_
    refine lv_bipush (v := 10) C.1 C.2.1 dS_run_179 (by decide) ?_
    refine lv_isub C.1 C.2.1 dS_run_181 ?_
    refine rIald C hG (hI 24 (by decide)) e_24 h dS_run_182 (fun h => ?_)
    refine lv_goto (tgt := 200) C.1 C.2.1 dS_run_183 (by decide) ?_
    exact rReti C hG h dS_run_200
theorem wS_run_51 {p : Program} {l : Launch} {e : Env} {s : State} {m : MethodId} {args : Array Value} {below : List Frame} {meth : Method} {c : Code} {G : GT} {I : List Nat} (C : CX p s m args meth c NS bS_run 6 (some .int) G I) (hI : cI I) {fu : Nat} {R1 : Int32} {Z : Sg} {v1 : Int32} {v2 : Int32} {v3 : Int32} {t0 : Int32} {z : Sg} {H : Heap} {locs : List Loc} {ls : Array Slot} (h : pS_run_51 fu v1 v2 v3 t0 z = some (R1, Z)) (hG : GW G I z s.heap H locs) (hl : lv_has ls 6 [(0, .ref (gA G 0)), (1, .int v1), (2, .int v2), (3, .int v3)]) : W p l e rmS_run s m args below meth c H locs 0 0 (MQ below (Qi G I R1 Z) args s 0 0 (AD G I)) (F0 m 51 ls [.int t0]) := by
  unfold pS_run_51 at h
  refine rIstoreA C dS_run_51 hl (by decide) [(0, .ref (gA G 0)), (1, .int v1), (2, .int v2), (3, .int v3)] rfl (fun ls hl => ?_)
  refine rIload_n C dS_run_53 hl 2 rfl ?_
  refine lv_bipush (v := 60) C.1 C.2.1 dS_run_54 (by decide) ?_
  refine rCSi [.int v1, .int 60] [] C hG h (fun h => cS_within hI h) mvS_within k_423 ⟨Nat.le_of_ble_eq_true rfl, Nat.le_of_ble_eq_true rfl⟩ ⟨rfl, rfl⟩ rfl hl.1 (Nat.le_of_ble_eq_true rfl) dS_run_56 ⟨Nat.zero_le _, Nat.zero_le _⟩ rfl (fun H locs x6 z5 h hG => ?_)
  refine rIfeq C (tgt := 79) h dS_run_59 (by decide) (fun h => ?_) (fun h => ?_)
  · refine lv_bipush (v := (-2)) C.1 C.2.1 dS_run_79 (by decide) ?_
    exact rReti C hG h dS_run_81
  · refine rIload_n C dS_run_62 hl 3 rfl ?_
    refine lv_iconst (v := 3) C.1 C.2.1 dS_run_63 (by decide) ?_
    refine rCSi [.int v2, .int 3] [] C hG h (fun h => cS_within hI h) mvS_within k_423 ⟨Nat.le_of_ble_eq_true rfl, Nat.le_of_ble_eq_true rfl⟩ ⟨rfl, rfl⟩ rfl hl.1 (Nat.le_of_ble_eq_true rfl) dS_run_64 ⟨Nat.zero_le _, Nat.zero_le _⟩ rfl (fun H locs x8 z7 h hG => ?_)
    refine rIfne C (tgt := 82) h dS_run_67 (by decide) (fun h => ?_) (fun h => ?_)
    · exact wS_run_82 C hI h hG (lv_sub hl [1, 2, 3, 4] rfl)
    · refine rIload_n C dS_run_70 hl 4 rfl ?_
      refine rIfne C (tgt := 82) h dS_run_71 (by decide) (fun h => ?_) (fun h => ?_)
      · exact wS_run_82 C hI h hG (lv_sub hl [1, 2, 3, 4] rfl)
      · refine rIload C dS_run_74 hl 0 rfl ?_
        refine rIfne C (tgt := 82) h dS_run_76 (by decide) (fun h => ?_) (fun h => ?_)
        · exact wS_run_82 C hI h hG (lv_sub hl [1, 2, 3, 4] rfl)
        · refine lv_bipush (v := (-2)) C.1 C.2.1 dS_run_79 (by decide) ?_
          exact rReti C hG h dS_run_81
theorem wS_run_50 {p : Program} {l : Launch} {e : Env} {s : State} {m : MethodId} {args : Array Value} {below : List Frame} {meth : Method} {c : Code} {G : GT} {I : List Nat} (C : CX p s m args meth c NS bS_run 6 (some .int) G I) (hI : cI I) {fu : Nat} {R1 : Int32} {Z : Sg} {v1 : Int32} {v2 : Int32} {v3 : Int32} {z : Sg} {H : Heap} {locs : List Loc} {ls : Array Slot} (h : pS_run_50 fu v1 v2 v3 z = some (R1, Z)) (hG : GW G I z s.heap H locs) (hl : lv_has ls 6 [(0, .ref (gA G 0)), (1, .int v1), (2, .int v2), (3, .int v3)]) : W p l e rmS_run s m args below meth c H locs 0 0 (MQ below (Qi G I R1 Z) args s 0 0 (AD G I)) (F0 m 50 ls []) := by
  unfold pS_run_50 at h
  refine lv_iconst (v := 0) C.1 C.2.1 dS_run_50 (by decide) ?_
  exact wS_run_51 C hI h hG (lv_sub hl [0, 1, 2, 3] rfl)
theorem wS_run_25 {p : Program} {l : Launch} {e : Env} {s : State} {m : MethodId} {args : Array Value} {below : List Frame} {meth : Method} {c : Code} {G : GT} {I : List Nat} (C : CX p s m args meth c NS bS_run 6 (some .int) G I) (hI : cI I) {fu : Nat} {R1 : Int32} {Z : Sg} {v1 : Int32} {v2 : Int32} {t0 : Int32} {z : Sg} {H : Heap} {locs : List Loc} {ls : Array Slot} (h : pS_run_25 fu v1 v2 t0 z = some (R1, Z)) (hG : GW G I z s.heap H locs) (hl : lv_has ls 6 [(0, .ref (gA G 0)), (1, .int v1), (2, .int v2)]) : W p l e rmS_run s m args below meth c H locs 0 0 (MQ below (Qi G I R1 Z) args s 0 0 (AD G I)) (F0 m 25 ls [.int t0]) := by
  unfold pS_run_25 at h
  refine rIstoreA_n C dS_run_25 hl (by decide) [(0, .ref (gA G 0)), (1, .int v1), (2, .int v2)] rfl (fun ls hl => ?_)
  refine rIload_n C dS_run_26 hl 3 rfl ?_
  refine lv_bipush (v := 20) C.1 C.2.1 dS_run_27 (by decide) ?_
  refine rIcmplt C (tgt := 50) h dS_run_29 (by decide) (fun h => ?_) (fun h => ?_)
  · exact wS_run_50 C hI h hG (lv_sub hl [1, 2, 3, 0] rfl)
  · refine rAload_n C dS_run_32 hl 1 rfl ?_
    refine rGet C hG (hI 0 (by decide)) e_0 fiS_5 (v := .ref (gA G 9)) rfl k_374 dS_run_33 ?_
    refine rIload_n C dS_run_36 hl 3 rfl ?_
    refine lv_bipush (v := 20) C.1 C.2.1 dS_run_37 (by decide) ?_
    refine lv_isub C.1 C.2.1 dS_run_39 ?_
    refine rCVi [.int (v2 - 20)] [] C hG h (fun h => cR_has hI row9 h) mvR_has k_452 ⟨Nat.le_of_ble_eq_true rfl, Nat.le_of_ble_eq_true rfl⟩ ⟨rfl, rfl⟩ (rRecv C hG (hI 9 (by decide)) e_9 rfl) rfl hl.1 (Nat.le_of_ble_eq_true rfl) dS_run_40 ⟨Nat.zero_le _, Nat.zero_le _⟩ rfl (fun H locs x4 z3 h hG => ?_)
    refine rIfeq C (tgt := 50) h dS_run_43 (by decide) (fun h => ?_) (fun h => ?_)
    · exact wS_run_50 C hI h hG (lv_sub hl [1, 2, 3, 0] rfl)
    · refine lv_iconst (v := 1) C.1 C.2.1 dS_run_46 (by decide) ?_
      refine lv_goto (tgt := 51) C.1 C.2.1 dS_run_47 (by decide) ?_
      exact wS_run_51 C hI h hG (lv_sub hl [1, 2, 3, 0] rfl)
theorem wS_run_24 {p : Program} {l : Launch} {e : Env} {s : State} {m : MethodId} {args : Array Value} {below : List Frame} {meth : Method} {c : Code} {G : GT} {I : List Nat} (C : CX p s m args meth c NS bS_run 6 (some .int) G I) (hI : cI I) {fu : Nat} {R1 : Int32} {Z : Sg} {v1 : Int32} {v2 : Int32} {z : Sg} {H : Heap} {locs : List Loc} {ls : Array Slot} (h : pS_run_24 fu v1 v2 z = some (R1, Z)) (hG : GW G I z s.heap H locs) (hl : lv_has ls 6 [(0, .ref (gA G 0)), (1, .int v1), (2, .int v2)]) : W p l e rmS_run s m args below meth c H locs 0 0 (MQ below (Qi G I R1 Z) args s 0 0 (AD G I)) (F0 m 24 ls []) := by
  unfold pS_run_24 at h
  refine lv_iconst (v := 0) C.1 C.2.1 dS_run_24 (by decide) ?_
  exact wS_run_25 C hI h hG (lv_sub hl [0, 1, 2] rfl)
theorem cS_run {l : Launch} {G : GT} {I : List Nat} (hI : cI I) {fu : Nat} {v1 : Int32} {v2 : Int32} {z : Sg} {R1 : Int32} {Z : Sg} (h : pS_run fu v1 v2 z = some (R1, Z)) : Mt l yS_run rmS_run bS_run 6 (some .int) G I z [.ref (gA G 0), .int v1, .int v2] (Qi G I R1 Z) := by
  refine entM (by decide +kernel) (Nat.le_of_ble_eq_true rfl) ?_
  intro p e s m below meth c C hG ls hl
  have hl : lv_has ls 6 [(0, .ref (gA G 0)), (1, .int v1), (2, .int v2)] := hl
  unfold pS_run at h
  refine rIload_n C dS_run_0 hl 2 rfl ?_
  refine lv_bipush (v := 10) C.1 C.2.1 dS_run_1 (by decide) ?_
  refine rIcmplt C (tgt := 24) h dS_run_3 (by decide) (fun h => ?_) (fun h => ?_)
  · exact wS_run_24 C hI h hG (lv_sub hl [0, 1, 2] rfl)
  · refine rAload_n C dS_run_6 hl 0 rfl ?_
    refine rGet C hG (hI 0 (by decide)) e_0 fiS_5 (v := .ref (gA G 9)) rfl k_374 dS_run_7 ?_
    refine rIload_n C dS_run_10 hl 2 rfl ?_
    refine lv_bipush (v := 10) C.1 C.2.1 dS_run_11 (by decide) ?_
    refine lv_isub C.1 C.2.1 dS_run_13 ?_
    refine rCVi [.int (v2 - 10)] [] C hG h (fun h => cR_has hI row9 h) mvR_has k_452 ⟨Nat.le_of_ble_eq_true rfl, Nat.le_of_ble_eq_true rfl⟩ ⟨rfl, rfl⟩ (rRecv C hG (hI 9 (by decide)) e_9 rfl) rfl hl.1 (Nat.le_of_ble_eq_true rfl) dS_run_14 ⟨Nat.zero_le _, Nat.zero_le _⟩ rfl (fun H locs x2 z1 h hG => ?_)
    refine rIfeq C (tgt := 24) h dS_run_17 (by decide) (fun h => ?_) (fun h => ?_)
    · exact wS_run_24 C hI h hG (lv_sub hl [0, 1, 2] rfl)
    · refine lv_iconst (v := 1) C.1 C.2.1 dS_run_20 (by decide) ?_
      refine lv_goto (tgt := 25) C.1 C.2.1 dS_run_21 (by decide) ?_
      exact wS_run_25 C hI h hG (lv_sub hl [0, 1, 2] rfl)
theorem dS_happens_0 : decode bS_happens 0 = .ok (.iload_n 1, 1) := by decide +kernel
theorem dS_happens_1 : decode bS_happens 1 = .ok (.lookupswitch 69 #[(0, 27), (1, 53)], 27) := by decide +kernel
theorem dS_happens_28 : decode bS_happens 28 = .ok (.aload_n 0, 1) := by decide +kernel
theorem dS_happens_29 : decode bS_happens 29 = .ok (.getfield 53, 3) := by decide +kernel
theorem dS_happens_32 : decode bS_happens 32 = .ok (.invokevirtual 93, 3) := by decide +kernel
theorem dS_happens_35 : decode bS_happens 35 = .ok (.invokestatic 96, 3) := by decide +kernel
theorem dS_happens_38 : decode bS_happens 38 = .ok (.aload_n 0, 1) := by decide +kernel
theorem dS_happens_39 : decode bS_happens 39 = .ok (.getfield 53, 3) := by decide +kernel
theorem dS_happens_42 : decode bS_happens 42 = .ok (.getfield 90, 3) := by decide +kernel
theorem dS_happens_45 : decode bS_happens 45 = .ok (.if_icmp .ne 7, 3) := by decide +kernel
theorem dS_happens_48 : decode bS_happens 48 = .ok (.iconst 1, 1) := by decide +kernel
theorem dS_happens_49 : decode bS_happens 49 = .ok (.goto 4, 3) := by decide +kernel
theorem dS_happens_52 : decode bS_happens 52 = .ok (.iconst 0, 1) := by decide +kernel
theorem dS_happens_53 : decode bS_happens 53 = .ok (.ireturn, 1) := by decide +kernel
theorem dS_happens_54 : decode bS_happens 54 = .ok (.aload_n 0, 1) := by decide +kernel
theorem dS_happens_55 : decode bS_happens 55 = .ok (.getfield 53, 3) := by decide +kernel
theorem dS_happens_58 : decode bS_happens 58 = .ok (.invokevirtual 172, 3) := by decide +kernel
theorem dS_happens_61 : decode bS_happens 61 = .ok (.ifCond .eq 7, 3) := by decide +kernel
theorem dS_happens_64 : decode bS_happens 64 = .ok (.iconst 1, 1) := by decide +kernel
theorem dS_happens_65 : decode bS_happens 65 = .ok (.goto 4, 3) := by decide +kernel
theorem dS_happens_68 : decode bS_happens 68 = .ok (.iconst 0, 1) := by decide +kernel
theorem dS_happens_69 : decode bS_happens 69 = .ok (.ireturn, 1) := by decide +kernel
theorem dS_happens_70 : decode bS_happens 70 = .ok (.aload_n 0, 1) := by decide +kernel
theorem dS_happens_71 : decode bS_happens 71 = .ok (.getfield 53, 3) := by decide +kernel
theorem dS_happens_74 : decode bS_happens 74 = .ok (.invokevirtual 268, 3) := by decide +kernel
theorem dS_happens_77 : decode bS_happens 77 = .ok (.ireturn, 1) := by decide +kernel
theorem cS_happens {l : Launch} {G : GT} {I : List Nat} (hI : cI I) {fu : Nat} {v1 : Int32} {z : Sg} {R1 : Int32} {Z : Sg} (h : pS_happens fu v1 z = some (R1, Z)) : Mt l yS_happens rmS_happens bS_happens 2 (some .boolean) G I z [.ref (gA G 0), .int v1] (Qi G I R1 Z) := by
  refine entM (by decide +kernel) (Nat.le_of_ble_eq_true rfl) ?_
  intro p e s m below meth c C hG ls hl
  have hl : lv_has ls 2 [(0, .ref (gA G 0)), (1, .int v1)] := hl
  unfold pS_happens at h
  refine rIload_n C dS_happens_0 hl 1 rfl ?_
  by_cases q1_0 : v1 = 0
  · replace h := ifP q1_0 h
    refine lv_lookup (tgt := 28) C.1 C.2.1 dS_happens_1 (by decide) (off := 27) (by rw [q1_0]; rfl) (by decide) ?_
    refine rAload_n C dS_happens_28 hl 0 rfl ?_
    refine rGet C hG (hI 0 (by decide)) e_0 fiS_6 (v := .ref (gA G 20)) rfl k_375 dS_happens_29 ?_
    refine rCVi [] [] C hG h (fun h => cR_inStepBits hI row20 h) mvR_inStepBits k_405 ⟨Nat.le_of_ble_eq_true rfl, Nat.le_of_ble_eq_true rfl⟩ ⟨rfl, rfl⟩ (rRecv C hG (hI 20 (by decide)) e_20 rfl) rfl hl.1 (Nat.le_of_ble_eq_true rfl) dS_happens_32 ⟨Nat.zero_le _, Nat.zero_le _⟩ rfl (fun H locs x2 z1 h hG => ?_)
    refine rCSi [.int x2] [] C hG h (fun h => cJI_bitCount h) mvJI_bitCount k_413 ⟨Nat.le_of_ble_eq_true rfl, Nat.le_of_ble_eq_true rfl⟩ ⟨rfl, rfl⟩ rfl hl.1 (Nat.le_of_ble_eq_true rfl) dS_happens_35 ⟨Nat.zero_le _, Nat.zero_le _⟩ rfl (fun H locs x4 z3 h hG => ?_)
    refine rAload_n C dS_happens_38 hl 0 rfl ?_
    refine rGet C hG (hI 0 (by decide)) e_0 fiS_6 (v := .ref (gA G 20)) rfl k_375 dS_happens_39 ?_
    refine rGet C hG (hI 20 (by decide)) e_20 fiR_3 (v := .int (z3 20 3)) rfl k_144 dS_happens_42 ?_
    refine rIcmpne C (tgt := 52) h dS_happens_45 (by decide) (fun h => ?_) (fun h => ?_)
    · refine lv_iconst (v := 0) C.1 C.2.1 dS_happens_52 (by decide) ?_
      exact rRetn C hG (ty := .boolean) rfl rfl h dS_happens_53
    · refine lv_iconst (v := 1) C.1 C.2.1 dS_happens_48 (by decide) ?_
      refine lv_goto (tgt := 53) C.1 C.2.1 dS_happens_49 (by decide) ?_
      exact rRetn C hG (ty := .boolean) rfl rfl h dS_happens_53
  replace h := ifN q1_0 h
  by_cases q1_1 : v1 = 1
  · replace h := ifP q1_1 h
    refine lv_lookup (tgt := 54) C.1 C.2.1 dS_happens_1 (by decide) (off := 53) (by rw [q1_1]; rfl) (by decide) ?_
    refine rAload_n C dS_happens_54 hl 0 rfl ?_
    refine rGet C hG (hI 0 (by decide)) e_0 fiS_6 (v := .ref (gA G 20)) rfl k_375 dS_happens_55 ?_
    refine rCVi [] [] C hG h (fun h => cR_clashBits hI row20 h) mvR_clashBits k_562 ⟨Nat.le_of_ble_eq_true rfl, Nat.le_of_ble_eq_true rfl⟩ ⟨rfl, rfl⟩ (rRecv C hG (hI 20 (by decide)) e_20 rfl) rfl hl.1 (Nat.le_of_ble_eq_true rfl) dS_happens_58 ⟨Nat.zero_le _, Nat.zero_le _⟩ rfl (fun H locs x6 z5 h hG => ?_)
    refine rIfeq C (tgt := 68) h dS_happens_61 (by decide) (fun h => ?_) (fun h => ?_)
    · refine lv_iconst (v := 0) C.1 C.2.1 dS_happens_68 (by decide) ?_
      exact rRetn C hG (ty := .boolean) rfl rfl h dS_happens_69
    · refine lv_iconst (v := 1) C.1 C.2.1 dS_happens_64 (by decide) ?_
      refine lv_goto (tgt := 69) C.1 C.2.1 dS_happens_65 (by decide) ?_
      exact rRetn C hG (ty := .boolean) rfl rfl h dS_happens_69
  replace h := ifN q1_1 h
  refine lv_lookup (tgt := 70) C.1 C.2.1 dS_happens_1 (by decide) (off := 69) ((lv_osw q1_0 (by decide)).trans ((lv_osw q1_1 (by decide)).trans rfl)) (by decide) ?_
  refine rAload_n C dS_happens_70 hl 0 rfl ?_
  refine rGet C hG (hI 0 (by decide)) e_0 fiS_6 (v := .ref (gA G 20)) rfl k_375 dS_happens_71 ?_
  refine rCVi [] [] C hG h (fun h => cR_anySpent hI row20 h) mvR_anySpent k_574 ⟨Nat.le_of_ble_eq_true rfl, Nat.le_of_ble_eq_true rfl⟩ ⟨rfl, rfl⟩ (rRecv C hG (hI 20 (by decide)) e_20 rfl) rfl hl.1 (Nat.le_of_ble_eq_true rfl) dS_happens_74 ⟨Nat.zero_le _, Nat.zero_le _⟩ rfl (fun H locs x8 z7 h hG => ?_)
  exact rRetn C hG (ty := .boolean) rfl (isB_nar (chk_some h).1) (chk_some h).2 dS_happens_77
theorem dS_when_0 : decode bS_when 0 = .ok (.iload_n 1, 1) := by decide +kernel
theorem dS_when_1 : decode bS_when 1 = .ok (.iconst 2, 1) := by decide +kernel
theorem dS_when_2 : decode bS_when 2 = .ok (.invokestatic 108, 3) := by decide +kernel
theorem dS_when_5 : decode bS_when 5 = .ok (.ifCond .ne 6, 3) := by decide +kernel
theorem dS_when_8 : decode bS_when 8 = .ok (.bipush (-2), 2) := by decide +kernel
theorem dS_when_10 : decode bS_when 10 = .ok (.ireturn, 1) := by decide +kernel
theorem dS_when_11 : decode bS_when 11 = .ok (.aload_n 0, 1) := by decide +kernel
theorem dS_when_12 : decode bS_when 12 = .ok (.getfield 53, 3) := by decide +kernel
theorem dS_when_15 : decode bS_when 15 = .ok (.aload_n 0, 1) := by decide +kernel
theorem dS_when_16 : decode bS_when 16 = .ok (.getfield 49, 3) := by decide +kernel
theorem dS_when_19 : decode bS_when 19 = .ok (.invokevirtual 166, 3) := by decide +kernel
theorem dS_when_22 : decode bS_when 22 = .ok (.iconst 0, 1) := by decide +kernel
theorem dS_when_23 : decode bS_when 23 = .ok (.istore_n 2, 1) := by decide +kernel
theorem dS_when_24 : decode bS_when 24 = .ok (.iload_n 2, 1) := by decide +kernel
theorem dS_when_25 : decode bS_when 25 = .ok (.bipush 60, 2) := by decide +kernel
theorem dS_when_27 : decode bS_when 27 = .ok (.if_icmp .gt 27, 3) := by decide +kernel
theorem dS_when_30 : decode bS_when 30 = .ok (.aload_n 0, 1) := by decide +kernel
theorem dS_when_31 : decode bS_when 31 = .ok (.iload_n 1, 1) := by decide +kernel
theorem dS_when_32 : decode bS_when 32 = .ok (.invokevirtual 175, 3) := by decide +kernel
theorem dS_when_35 : decode bS_when 35 = .ok (.ifCond .eq 5, 3) := by decide +kernel
theorem dS_when_38 : decode bS_when 38 = .ok (.iload_n 2, 1) := by decide +kernel
theorem dS_when_39 : decode bS_when 39 = .ok (.ireturn, 1) := by decide +kernel
theorem dS_when_40 : decode bS_when 40 = .ok (.aload_n 0, 1) := by decide +kernel
theorem dS_when_41 : decode bS_when 41 = .ok (.getfield 53, 3) := by decide +kernel
theorem dS_when_44 : decode bS_when 44 = .ok (.invokevirtual 163, 3) := by decide +kernel
theorem dS_when_47 : decode bS_when 47 = .ok (.pop, 1) := by decide +kernel
theorem dS_when_48 : decode bS_when 48 = .ok (.iinc 2 1, 3) := by decide +kernel
theorem dS_when_51 : decode bS_when 51 = .ok (.goto (-27), 3) := by decide +kernel
theorem dS_when_54 : decode bS_when 54 = .ok (.iconst (-1), 1) := by decide +kernel
theorem dS_when_55 : decode bS_when 55 = .ok (.ireturn, 1) := by decide +kernel
theorem wS_when_24 {p : Program} {l : Launch} {e : Env} {s : State} {m : MethodId} {args : Array Value} {below : List Frame} {meth : Method} {c : Code} {G : GT} {I : List Nat} (C : CX p s m args meth c NS bS_when 3 (some .int) G I) (hI : cI I) {fu : Nat} {R1 : Int32} {Z : Sg} : ∀ (k : Nat) {v1 : Int32} {v2 : Int32} {z : Sg} {H : Heap} {locs : List Loc} {ls : Array Slot}, pS_when_24 fu k v1 v2 z = some (R1, Z) → GW G I z s.heap H locs → lv_has ls 3 [(0, .ref (gA G 0)), (1, .int v1), (2, .int v2)] → W p l e rmS_when s m args below meth c H locs 0 0 (MQ below (Qi G I R1 Z) args s 0 0 (AD G I)) (F0 m 24 ls []) := by
  intro k
  induction k with
  | zero => intro v1 v2 z H locs ls h hG hl; rw [pS_when_24] at h; cases h
  | succ k ih =>
    intro v1 v2 z H locs ls h hG hl
    rw [pS_when_24] at h
    refine rIload_n C dS_when_24 hl 2 rfl ?_
    refine lv_bipush (v := 60) C.1 C.2.1 dS_when_25 (by decide) ?_
    refine rIcmpgt C (tgt := 54) h dS_when_27 (by decide) (fun h => ?_) (fun h => ?_)
    · refine lv_iconst (v := (-1)) C.1 C.2.1 dS_when_54 (by decide) ?_
      exact rReti C hG h dS_when_55
    · refine rAload_n C dS_when_30 hl 0 rfl ?_
      refine rIload_n C dS_when_31 hl 1 rfl ?_
      refine rCVi [.int v1] [] C hG h (fun h => cS_happens hI h) mvS_happens k_570 ⟨Nat.le_of_ble_eq_true rfl, Nat.le_of_ble_eq_true rfl⟩ ⟨rfl, rfl⟩ (rRecv C hG (hI 0 (by decide)) e_0 rfl) rfl hl.1 (Nat.le_of_ble_eq_true rfl) dS_when_32 ⟨Nat.zero_le _, Nat.zero_le _⟩ rfl (fun H locs x5 z4 h hG => ?_)
      refine rIfeq C (tgt := 40) h dS_when_35 (by decide) (fun h => ?_) (fun h => ?_)
      · refine rAload_n C dS_when_40 hl 0 rfl ?_
        refine rGet C hG (hI 0 (by decide)) e_0 fiS_6 (v := .ref (gA G 20)) rfl k_375 dS_when_41 ?_
        refine rCVi [] [] C hG h (fun h => cR_swingOn hI row20 h) mvR_swingOn k_540 ⟨Nat.le_of_ble_eq_true rfl, Nat.le_of_ble_eq_true rfl⟩ ⟨rfl, rfl⟩ (rRecv C hG (hI 20 (by decide)) e_20 rfl) rfl hl.1 (Nat.le_of_ble_eq_true rfl) dS_when_44 ⟨Nat.zero_le _, Nat.zero_le _⟩ rfl (fun H locs x7 z6 h hG => ?_)
        refine lv_pop C.1 C.2.1 dS_when_47 rfl ?_
        refine rIinc C dS_when_48 hl 2 rfl (d := 1) (by decide) h (by decide) [(0, .ref (gA G 0)), (1, .int v1)] rfl (fun x8 ls h hl => ?_)
        refine lv_goto (tgt := 24) C.1 C.2.1 dS_when_51 (by decide) ?_
        exact ih h hG (lv_sub hl [1, 2, 0] rfl)
      · refine rIload_n C dS_when_38 hl 2 rfl ?_
        exact rReti C hG h dS_when_39
theorem cS_when {l : Launch} {G : GT} {I : List Nat} (hI : cI I) {fu : Nat} {v1 : Int32} {z : Sg} {R1 : Int32} {Z : Sg} (h : pS_when fu v1 z = some (R1, Z)) : Mt l yS_when rmS_when bS_when 3 (some .int) G I z [.ref (gA G 0), .int v1] (Qi G I R1 Z) := by
  refine entM (by decide +kernel) (Nat.le_of_ble_eq_true rfl) ?_
  intro p e s m below meth c C hG ls hl
  have hl : lv_has ls 3 [(0, .ref (gA G 0)), (1, .int v1)] := hl
  unfold pS_when at h
  refine rIload_n C dS_when_0 hl 1 rfl ?_
  refine lv_iconst (v := 2) C.1 C.2.1 dS_when_1 (by decide) ?_
  refine rCSi [.int v1, .int 2] [] C hG h (fun h => cS_within hI h) mvS_within k_423 ⟨Nat.le_of_ble_eq_true rfl, Nat.le_of_ble_eq_true rfl⟩ ⟨rfl, rfl⟩ rfl hl.1 (Nat.le_of_ble_eq_true rfl) dS_when_2 ⟨Nat.zero_le _, Nat.zero_le _⟩ rfl (fun H locs x2 z1 h hG => ?_)
  refine rIfne C (tgt := 11) h dS_when_5 (by decide) (fun h => ?_) (fun h => ?_)
  · refine rAload_n C dS_when_11 hl 0 rfl ?_
    refine rGet C hG (hI 0 (by decide)) e_0 fiS_6 (v := .ref (gA G 20)) rfl k_375 dS_when_12 ?_
    refine rAload_n C dS_when_15 hl 0 rfl ?_
    refine rGet C hG (hI 0 (by decide)) e_0 fiS_5 (v := .ref (gA G 9)) rfl k_374 dS_when_16 ?_
    refine rCVv [.ref (gA G 9)] [] C hG h (fun h => cR_become hI row20 row9 h) mvR_become k_552 ⟨Nat.le_of_ble_eq_true rfl, Nat.le_of_ble_eq_true rfl⟩ ⟨rfl, rfl⟩ (rRecv C hG (hI 20 (by decide)) e_20 rfl) rfl hl.1 (Nat.le_of_ble_eq_true rfl) dS_when_19 ⟨Nat.zero_le _, Nat.zero_le _⟩ rfl (fun H locs z3 h hG => ?_)
    refine lv_iconst (v := 0) C.1 C.2.1 dS_when_22 (by decide) ?_
    refine rIstoreA_n C dS_when_23 hl (by decide) [(0, .ref (gA G 0)), (1, .int v1)] rfl (fun ls hl => ?_)
    exact wS_when_24 C hI _ h hG (lv_sub hl [1, 2, 0] rfl)
  · refine lv_bipush (v := (-2)) C.1 C.2.1 dS_when_8 (by decide) ?_
    exact rReti C hG h dS_when_10
theorem dS_often_0 : decode bS_often 0 = .ok (.aload_n 0, 1) := by decide +kernel
theorem dS_often_1 : decode bS_often 1 = .ok (.getfield 49, 3) := by decide +kernel
theorem dS_often_4 : decode bS_often 4 = .ok (.iload_n 1, 1) := by decide +kernel
theorem dS_often_5 : decode bS_often 5 = .ok (.invokevirtual 122, 3) := by decide +kernel
theorem dS_often_8 : decode bS_often 8 = .ok (.ifCond .ne 6, 3) := by decide +kernel
theorem dS_often_11 : decode bS_often 11 = .ok (.bipush (-5), 2) := by decide +kernel
theorem dS_often_13 : decode bS_often 13 = .ok (.ireturn, 1) := by decide +kernel
theorem dS_often_14 : decode bS_often 14 = .ok (.iload_n 2, 1) := by decide +kernel
theorem dS_often_15 : decode bS_often 15 = .ok (.bipush 60, 2) := by decide +kernel
theorem dS_often_17 : decode bS_often 17 = .ok (.invokestatic 108, 3) := by decide +kernel
theorem dS_often_20 : decode bS_often 20 = .ok (.ifCond .eq 11, 3) := by decide +kernel
theorem dS_often_23 : decode bS_often 23 = .ok (.iload_n 3, 1) := by decide +kernel
theorem dS_often_24 : decode bS_often 24 = .ok (.iconst 1, 1) := by decide +kernel
theorem dS_often_25 : decode bS_often 25 = .ok (.invokestatic 108, 3) := by decide +kernel
theorem dS_often_28 : decode bS_often 28 = .ok (.ifCond .ne 6, 3) := by decide +kernel
theorem dS_often_31 : decode bS_often 31 = .ok (.bipush (-7), 2) := by decide +kernel
theorem dS_often_33 : decode bS_often 33 = .ok (.ireturn, 1) := by decide +kernel
theorem dS_often_34 : decode bS_often 34 = .ok (.aload_n 0, 1) := by decide +kernel
theorem dS_often_35 : decode bS_often 35 = .ok (.getfield 53, 3) := by decide +kernel
theorem dS_often_38 : decode bS_often 38 = .ok (.aload_n 0, 1) := by decide +kernel
theorem dS_often_39 : decode bS_often 39 = .ok (.getfield 49, 3) := by decide +kernel
theorem dS_often_42 : decode bS_often 42 = .ok (.invokevirtual 166, 3) := by decide +kernel
theorem dS_often_45 : decode bS_often 45 = .ok (.iconst 0, 1) := by decide +kernel
theorem dS_often_46 : decode bS_often 46 = .ok (.istore 4, 2) := by decide +kernel
theorem dS_often_48 : decode bS_often 48 = .ok (.iconst 0, 1) := by decide +kernel
theorem dS_often_49 : decode bS_often 49 = .ok (.istore 5, 2) := by decide +kernel
theorem dS_often_51 : decode bS_often 51 = .ok (.iload 5, 2) := by decide +kernel
theorem dS_often_53 : decode bS_often 53 = .ok (.iload_n 2, 1) := by decide +kernel
theorem dS_often_54 : decode bS_often 54 = .ok (.if_icmp .ge 56, 3) := by decide +kernel
theorem dS_often_57 : decode bS_often 57 = .ok (.aload_n 0, 1) := by decide +kernel
theorem dS_often_58 : decode bS_often 58 = .ok (.getfield 53, 3) := by decide +kernel
theorem dS_often_61 : decode bS_often 61 = .ok (.invokevirtual 163, 3) := by decide +kernel
theorem dS_often_64 : decode bS_often 64 = .ok (.pop, 1) := by decide +kernel
theorem dS_often_65 : decode bS_often 65 = .ok (.aload_n 0, 1) := by decide +kernel
theorem dS_often_66 : decode bS_often 66 = .ok (.getfield 53, 3) := by decide +kernel
theorem dS_often_69 : decode bS_often 69 = .ok (.iload_n 1, 1) := by decide +kernel
theorem dS_often_70 : decode bS_often 70 = .ok (.invokevirtual 126, 3) := by decide +kernel
theorem dS_often_73 : decode bS_often 73 = .ok (.iload_n 3, 1) := by decide +kernel
theorem dS_often_74 : decode bS_often 74 = .ok (.ifCond .ne 17, 3) := by decide +kernel
theorem dS_often_77 : decode bS_often 77 = .ok (.aload_n 0, 1) := by decide +kernel
theorem dS_often_78 : decode bS_often 78 = .ok (.getfield 53, 3) := by decide +kernel
theorem dS_often_81 : decode bS_often 81 = .ok (.iload_n 1, 1) := by decide +kernel
theorem dS_often_82 : decode bS_often 82 = .ok (.invokevirtual 160, 3) := by decide +kernel
theorem dS_often_85 : decode bS_often 85 = .ok (.ifCond .eq 19, 3) := by decide +kernel
theorem dS_often_88 : decode bS_often 88 = .ok (.goto 13, 3) := by decide +kernel
theorem dS_often_91 : decode bS_often 91 = .ok (.aload_n 0, 1) := by decide +kernel
theorem dS_often_92 : decode bS_often 92 = .ok (.getfield 53, 3) := by decide +kernel
theorem dS_often_95 : decode bS_often 95 = .ok (.invokevirtual 156, 3) := by decide +kernel
theorem dS_often_98 : decode bS_often 98 = .ok (.ifCond .eq 6, 3) := by decide +kernel
theorem dS_often_101 : decode bS_often 101 = .ok (.iinc 4 1, 3) := by decide +kernel
theorem dS_often_104 : decode bS_often 104 = .ok (.iinc 5 1, 3) := by decide +kernel
theorem dS_often_107 : decode bS_often 107 = .ok (.goto (-56), 3) := by decide +kernel
theorem dS_often_110 : decode bS_often 110 = .ok (.iload 4, 2) := by decide +kernel
theorem dS_often_112 : decode bS_often 112 = .ok (.ireturn, 1) := by decide +kernel
theorem wS_often_104 {p : Program} {l : Launch} {e : Env} {s : State} {m : MethodId} {args : Array Value} {below : List Frame} {meth : Method} {c : Code} {G : GT} {I : List Nat} (C : CX p s m args meth c NS bS_often 6 (some .int) G I) (hI : cI I) {fu : Nat} {R1 : Int32} {Z : Sg} {rc51 : Int32 → Int32 → Int32 → Int32 → Int32 → Sg → Option (Int32 × Sg)} (hr51 : ∀ {v1 : Int32} {v2 : Int32} {v3 : Int32} {v4 : Int32} {v5 : Int32} {z : Sg} {H : Heap} {locs : List Loc} {ls : Array Slot}, rc51 v1 v2 v3 v4 v5 z = some (R1, Z) → GW G I z s.heap H locs → lv_has ls 6 [(0, .ref (gA G 0)), (1, .int v1), (2, .int v2), (3, .int v3), (4, .int v4), (5, .int v5)] → W p l e rmS_often s m args below meth c H locs 0 0 (MQ below (Qi G I R1 Z) args s 0 0 (AD G I)) (F0 m 51 ls [])) {v1 : Int32} {v2 : Int32} {v3 : Int32} {v4 : Int32} {v5 : Int32} {z : Sg} {H : Heap} {locs : List Loc} {ls : Array Slot} (h : pS_often_104 fu rc51 v1 v2 v3 v4 v5 z = some (R1, Z)) (hG : GW G I z s.heap H locs) (hl : lv_has ls 6 [(0, .ref (gA G 0)), (1, .int v1), (2, .int v2), (3, .int v3), (4, .int v4), (5, .int v5)]) : W p l e rmS_often s m args below meth c H locs 0 0 (MQ below (Qi G I R1 Z) args s 0 0 (AD G I)) (F0 m 104 ls []) := by
  unfold pS_often_104 at h
  refine rIinc C dS_often_104 hl 5 rfl (d := 1) (by decide) h (by decide) [(0, .ref (gA G 0)), (1, .int v1), (2, .int v2), (3, .int v3), (4, .int v4)] rfl (fun x15 ls h hl => ?_)
  refine lv_goto (tgt := 51) C.1 C.2.1 dS_often_107 (by decide) ?_
  exact hr51 h hG (lv_sub hl [1, 2, 3, 4, 5, 0] rfl)
theorem wS_often_101 {p : Program} {l : Launch} {e : Env} {s : State} {m : MethodId} {args : Array Value} {below : List Frame} {meth : Method} {c : Code} {G : GT} {I : List Nat} (C : CX p s m args meth c NS bS_often 6 (some .int) G I) (hI : cI I) {fu : Nat} {R1 : Int32} {Z : Sg} {rc51 : Int32 → Int32 → Int32 → Int32 → Int32 → Sg → Option (Int32 × Sg)} (hr51 : ∀ {v1 : Int32} {v2 : Int32} {v3 : Int32} {v4 : Int32} {v5 : Int32} {z : Sg} {H : Heap} {locs : List Loc} {ls : Array Slot}, rc51 v1 v2 v3 v4 v5 z = some (R1, Z) → GW G I z s.heap H locs → lv_has ls 6 [(0, .ref (gA G 0)), (1, .int v1), (2, .int v2), (3, .int v3), (4, .int v4), (5, .int v5)] → W p l e rmS_often s m args below meth c H locs 0 0 (MQ below (Qi G I R1 Z) args s 0 0 (AD G I)) (F0 m 51 ls [])) {v1 : Int32} {v2 : Int32} {v3 : Int32} {v4 : Int32} {v5 : Int32} {z : Sg} {H : Heap} {locs : List Loc} {ls : Array Slot} (h : pS_often_101 fu rc51 v1 v2 v3 v4 v5 z = some (R1, Z)) (hG : GW G I z s.heap H locs) (hl : lv_has ls 6 [(0, .ref (gA G 0)), (1, .int v1), (2, .int v2), (3, .int v3), (4, .int v4), (5, .int v5)]) : W p l e rmS_often s m args below meth c H locs 0 0 (MQ below (Qi G I R1 Z) args s 0 0 (AD G I)) (F0 m 101 ls []) := by
  unfold pS_often_101 at h
  refine rIinc C dS_often_101 hl 4 rfl (d := 1) (by decide) h (by decide) [(0, .ref (gA G 0)), (1, .int v1), (2, .int v2), (3, .int v3), (5, .int v5)] rfl (fun x16 ls h hl => ?_)
  exact wS_often_104 C hI hr51 h hG (lv_sub hl [1, 2, 3, 4, 0, 5] rfl)
theorem wS_often_51 {p : Program} {l : Launch} {e : Env} {s : State} {m : MethodId} {args : Array Value} {below : List Frame} {meth : Method} {c : Code} {G : GT} {I : List Nat} (C : CX p s m args meth c NS bS_often 6 (some .int) G I) (hI : cI I) {fu : Nat} {R1 : Int32} {Z : Sg} : ∀ (k : Nat) {v1 : Int32} {v2 : Int32} {v3 : Int32} {v4 : Int32} {v5 : Int32} {z : Sg} {H : Heap} {locs : List Loc} {ls : Array Slot}, pS_often_51 fu k v1 v2 v3 v4 v5 z = some (R1, Z) → GW G I z s.heap H locs → lv_has ls 6 [(0, .ref (gA G 0)), (1, .int v1), (2, .int v2), (3, .int v3), (4, .int v4), (5, .int v5)] → W p l e rmS_often s m args below meth c H locs 0 0 (MQ below (Qi G I R1 Z) args s 0 0 (AD G I)) (F0 m 51 ls []) := by
  intro k
  induction k with
  | zero => intro v1 v2 v3 v4 v5 z H locs ls h hG hl; rw [pS_often_51] at h; cases h
  | succ k ih =>
    intro v1 v2 v3 v4 v5 z H locs ls h hG hl
    rw [pS_often_51] at h
    refine rIload C dS_often_51 hl 5 rfl ?_
    refine rIload_n C dS_often_53 hl 2 rfl ?_
    refine rIcmpge C (tgt := 110) h dS_often_54 (by decide) (fun h => ?_) (fun h => ?_)
    · refine rIload C dS_often_110 hl 4 rfl ?_
      exact rReti C hG h dS_often_112
    · refine rAload_n C dS_often_57 hl 0 rfl ?_
      refine rGet C hG (hI 0 (by decide)) e_0 fiS_6 (v := .ref (gA G 20)) rfl k_375 dS_often_58 ?_
      refine rCVi [] [] C hG h (fun h => cR_swingOn hI row20 h) mvR_swingOn k_540 ⟨Nat.le_of_ble_eq_true rfl, Nat.le_of_ble_eq_true rfl⟩ ⟨rfl, rfl⟩ (rRecv C hG (hI 20 (by decide)) e_20 rfl) rfl hl.1 (Nat.le_of_ble_eq_true rfl) dS_often_61 ⟨Nat.zero_le _, Nat.zero_le _⟩ rfl (fun H locs x9 z8 h hG => ?_)
      refine lv_pop C.1 C.2.1 dS_often_64 rfl ?_
      refine rAload_n C dS_often_65 hl 0 rfl ?_
      refine rGet C hG (hI 0 (by decide)) e_0 fiS_6 (v := .ref (gA G 20)) rfl k_375 dS_often_66 ?_
      refine rIload_n C dS_often_69 hl 1 rfl ?_
      refine rCVv [.int v1] [] C hG h (fun h => cR_lookAt hI row20 h) mvR_lookAt k_456 ⟨Nat.le_of_ble_eq_true rfl, Nat.le_of_ble_eq_true rfl⟩ ⟨rfl, rfl⟩ (rRecv C hG (hI 20 (by decide)) e_20 rfl) rfl hl.1 (Nat.le_of_ble_eq_true rfl) dS_often_70 ⟨Nat.zero_le _, Nat.zero_le _⟩ rfl (fun H locs z10 h hG => ?_)
      refine rIload_n C dS_often_73 hl 3 rfl ?_
      refine rIfne C (tgt := 91) h dS_often_74 (by decide) (fun h => ?_) (fun h => ?_)
      · refine rAload_n C dS_often_91 hl 0 rfl ?_
        refine rGet C hG (hI 0 (by decide)) e_0 fiS_6 (v := .ref (gA G 20)) rfl k_375 dS_often_92 ?_
        refine rCVi [] [] C hG h (fun h => cR_clashes hI row20 h) mvR_clashes k_534 ⟨Nat.le_of_ble_eq_true rfl, Nat.le_of_ble_eq_true rfl⟩ ⟨rfl, rfl⟩ (rRecv C hG (hI 20 (by decide)) e_20 rfl) rfl hl.1 (Nat.le_of_ble_eq_true rfl) dS_often_95 ⟨Nat.zero_le _, Nat.zero_le _⟩ rfl (fun H locs x12 z11 h hG => ?_)
        refine rIfeq C (tgt := 104) h dS_often_98 (by decide) (fun h => ?_) (fun h => ?_)
        · exact wS_often_104 C hI ih h hG (lv_sub hl [0, 1, 2, 3, 4, 5] rfl)
        · exact wS_often_101 C hI ih h hG (lv_sub hl [0, 1, 2, 3, 4, 5] rfl)
      · refine rAload_n C dS_often_77 hl 0 rfl ?_
        refine rGet C hG (hI 0 (by decide)) e_0 fiS_6 (v := .ref (gA G 20)) rfl k_375 dS_often_78 ?_
        refine rIload_n C dS_often_81 hl 1 rfl ?_
        refine rCVi [.int v1] [] C hG h (fun h => cR_inStep hI row20 h) mvR_inStep k_535 ⟨Nat.le_of_ble_eq_true rfl, Nat.le_of_ble_eq_true rfl⟩ ⟨rfl, rfl⟩ (rRecv C hG (hI 20 (by decide)) e_20 rfl) rfl hl.1 (Nat.le_of_ble_eq_true rfl) dS_often_82 ⟨Nat.zero_le _, Nat.zero_le _⟩ rfl (fun H locs x14 z13 h hG => ?_)
        refine rIfeq C (tgt := 104) h dS_often_85 (by decide) (fun h => ?_) (fun h => ?_)
        · exact wS_often_104 C hI ih h hG (lv_sub hl [0, 1, 2, 3, 4, 5] rfl)
        · refine lv_goto (tgt := 101) C.1 C.2.1 dS_often_88 (by decide) ?_
          exact wS_often_101 C hI ih h hG (lv_sub hl [0, 1, 2, 3, 4, 5] rfl)
theorem cS_often {l : Launch} {G : GT} {I : List Nat} (hI : cI I) {fu : Nat} {v1 : Int32} {v2 : Int32} {v3 : Int32} {z : Sg} {R1 : Int32} {Z : Sg} (h : pS_often fu v1 v2 v3 z = some (R1, Z)) : Mt l yS_often rmS_often bS_often 6 (some .int) G I z [.ref (gA G 0), .int v1, .int v2, .int v3] (Qi G I R1 Z) := by
  refine entM (by decide +kernel) (Nat.le_of_ble_eq_true rfl) ?_
  intro p e s m below meth c C hG ls hl
  have hl : lv_has ls 6 [(0, .ref (gA G 0)), (1, .int v1), (2, .int v2), (3, .int v3)] := hl
  unfold pS_often at h
  refine rAload_n C dS_often_0 hl 0 rfl ?_
  refine rGet C hG (hI 0 (by decide)) e_0 fiS_5 (v := .ref (gA G 9)) rfl k_374 dS_often_1 ?_
  refine rIload_n C dS_often_4 hl 1 rfl ?_
  refine rCVi [.int v1] [] C hG h (fun h => cR_has hI row9 h) mvR_has k_452 ⟨Nat.le_of_ble_eq_true rfl, Nat.le_of_ble_eq_true rfl⟩ ⟨rfl, rfl⟩ (rRecv C hG (hI 9 (by decide)) e_9 rfl) rfl hl.1 (Nat.le_of_ble_eq_true rfl) dS_often_5 ⟨Nat.zero_le _, Nat.zero_le _⟩ rfl (fun H locs x2 z1 h hG => ?_)
  refine rIfne C (tgt := 14) h dS_often_8 (by decide) (fun h => ?_) (fun h => ?_)
  · refine rIload_n C dS_often_14 hl 2 rfl ?_
    refine lv_bipush (v := 60) C.1 C.2.1 dS_often_15 (by decide) ?_
    refine rCSi [.int v2, .int 60] [] C hG h (fun h => cS_within hI h) mvS_within k_423 ⟨Nat.le_of_ble_eq_true rfl, Nat.le_of_ble_eq_true rfl⟩ ⟨rfl, rfl⟩ rfl hl.1 (Nat.le_of_ble_eq_true rfl) dS_often_17 ⟨Nat.zero_le _, Nat.zero_le _⟩ rfl (fun H locs x4 z3 h hG => ?_)
    refine rIfeq C (tgt := 31) h dS_often_20 (by decide) (fun h => ?_) (fun h => ?_)
    · refine lv_bipush (v := (-7)) C.1 C.2.1 dS_often_31 (by decide) ?_
      exact rReti C hG h dS_often_33
    · refine rIload_n C dS_often_23 hl 3 rfl ?_
      refine lv_iconst (v := 1) C.1 C.2.1 dS_often_24 (by decide) ?_
      refine rCSi [.int v3, .int 1] [] C hG h (fun h => cS_within hI h) mvS_within k_423 ⟨Nat.le_of_ble_eq_true rfl, Nat.le_of_ble_eq_true rfl⟩ ⟨rfl, rfl⟩ rfl hl.1 (Nat.le_of_ble_eq_true rfl) dS_often_25 ⟨Nat.zero_le _, Nat.zero_le _⟩ rfl (fun H locs x6 z5 h hG => ?_)
      refine rIfne C (tgt := 34) h dS_often_28 (by decide) (fun h => ?_) (fun h => ?_)
      · refine rAload_n C dS_often_34 hl 0 rfl ?_
        refine rGet C hG (hI 0 (by decide)) e_0 fiS_6 (v := .ref (gA G 20)) rfl k_375 dS_often_35 ?_
        refine rAload_n C dS_often_38 hl 0 rfl ?_
        refine rGet C hG (hI 0 (by decide)) e_0 fiS_5 (v := .ref (gA G 9)) rfl k_374 dS_often_39 ?_
        refine rCVv [.ref (gA G 9)] [] C hG h (fun h => cR_become hI row20 row9 h) mvR_become k_552 ⟨Nat.le_of_ble_eq_true rfl, Nat.le_of_ble_eq_true rfl⟩ ⟨rfl, rfl⟩ (rRecv C hG (hI 20 (by decide)) e_20 rfl) rfl hl.1 (Nat.le_of_ble_eq_true rfl) dS_often_42 ⟨Nat.zero_le _, Nat.zero_le _⟩ rfl (fun H locs z7 h hG => ?_)
        refine lv_iconst (v := 0) C.1 C.2.1 dS_often_45 (by decide) ?_
        refine rIstoreA C dS_often_46 hl (by decide) [(0, .ref (gA G 0)), (1, .int v1), (2, .int v2), (3, .int v3)] rfl (fun ls hl => ?_)
        refine lv_iconst (v := 0) C.1 C.2.1 dS_often_48 (by decide) ?_
        refine rIstoreA C dS_often_49 hl (by decide) [(4, .int 0), (0, .ref (gA G 0)), (1, .int v1), (2, .int v2), (3, .int v3)] rfl (fun ls hl => ?_)
        exact wS_often_51 C hI _ h hG (lv_sub hl [2, 3, 4, 5, 1, 0] rfl)
      · refine lv_bipush (v := (-7)) C.1 C.2.1 dS_often_31 (by decide) ?_
        exact rReti C hG h dS_often_33
  · refine lv_bipush (v := (-5)) C.1 C.2.1 dS_often_11 (by decide) ?_
    exact rReti C hG h dS_often_13
