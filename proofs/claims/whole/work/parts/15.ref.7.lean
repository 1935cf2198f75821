theorem dM_odds_0 : decode bM_odds 0 = .ok (.iload_n 1, 1) := by decide +kernel
theorem dM_odds_1 : decode bM_odds 1 = .ok (.iconst 0, 1) := by decide +kernel
theorem dM_odds_2 : decode bM_odds 2 = .ok (.ldc_w 272, 3) := by decide +kernel
theorem dM_odds_5 : decode bM_odds 5 = .ok (.invokestatic 81, 3) := by decide +kernel
theorem dM_odds_8 : decode bM_odds 8 = .ok (.ifCond .eq 33, 3) := by decide +kernel
theorem dM_odds_11 : decode bM_odds 11 = .ok (.iload_n 2, 1) := by decide +kernel
theorem dM_odds_12 : decode bM_odds 12 = .ok (.iconst 1, 1) := by decide +kernel
theorem dM_odds_13 : decode bM_odds 13 = .ok (.bipush 40, 2) := by decide +kernel
theorem dM_odds_15 : decode bM_odds 15 = .ok (.invokestatic 81, 3) := by decide +kernel
theorem dM_odds_18 : decode bM_odds 18 = .ok (.ifCond .eq 23, 3) := by decide +kernel
theorem dM_odds_21 : decode bM_odds 21 = .ok (.iload_n 3, 1) := by decide +kernel
theorem dM_odds_22 : decode bM_odds 22 = .ok (.iconst 0, 1) := by decide +kernel
theorem dM_odds_23 : decode bM_odds 23 = .ok (.bipush 99, 2) := by decide +kernel
theorem dM_odds_25 : decode bM_odds 25 = .ok (.invokestatic 81, 3) := by decide +kernel
theorem dM_odds_28 : decode bM_odds 28 = .ok (.ifCond .eq 13, 3) := by decide +kernel
theorem dM_odds_31 : decode bM_odds 31 = .ok (.iload 4, 2) := by decide +kernel
theorem dM_odds_33 : decode bM_odds 33 = .ok (.iconst 0, 1) := by decide +kernel
theorem dM_odds_34 : decode bM_odds 34 = .ok (.iconst 1, 1) := by decide +kernel
theorem dM_odds_35 : decode bM_odds 35 = .ok (.invokestatic 81, 3) := by decide +kernel
theorem dM_odds_38 : decode bM_odds 38 = .ok (.ifCond .ne 7, 3) := by decide +kernel
theorem dM_odds_41 : decode bM_odds 41 = .ok (.ldc2_w 237, 3) := by decide +kernel
theorem dM_odds_44 : decode bM_odds 44 = .ok (.lreturn, 1) := by decide +kernel
theorem dM_odds_45 : decode bM_odds 45 = .ok (.lconst 0, 1) := by decide +kernel
theorem dM_odds_46 : decode bM_odds 46 = .ok (.lstore 5, 2) := by decide +kernel
theorem dM_odds_48 : decode bM_odds 48 = .ok (.iconst 0, 1) := by decide +kernel
theorem dM_odds_49 : decode bM_odds 49 = .ok (.istore 7, 2) := by decide +kernel
theorem dM_odds_51 : decode bM_odds 51 = .ok (.iload 7, 2) := by decide +kernel
theorem dM_odds_53 : decode bM_odds 53 = .ok (.iload_n 2, 1) := by decide +kernel
theorem dM_odds_54 : decode bM_odds 54 = .ok (.if_icmp .ge 31, 3) := by decide +kernel
theorem dM_odds_57 : decode bM_odds 57 = .ok (.lload 5, 2) := by decide +kernel
theorem dM_odds_59 : decode bM_odds 59 = .ok (.aload_n 0, 1) := by decide +kernel
theorem dM_odds_60 : decode bM_odds 60 = .ok (.iload_n 1, 1) := by decide +kernel
theorem dM_odds_61 : decode bM_odds 61 = .ok (.iload 7, 2) := by decide +kernel
theorem dM_odds_63 : decode bM_odds 63 = .ok (.iadd, 1) := by decide +kernel
theorem dM_odds_64 : decode bM_odds 64 = .ok (.invokevirtual 273, 3) := by decide +kernel
theorem dM_odds_67 : decode bM_odds 67 = .ok (.iload_n 3, 1) := by decide +kernel
theorem dM_odds_68 : decode bM_odds 68 = .ok (.if_icmp .lt 7, 3) := by decide +kernel
theorem dM_odds_71 : decode bM_odds 71 = .ok (.lconst 1, 1) := by decide +kernel
theorem dM_odds_72 : decode bM_odds 72 = .ok (.goto 4, 3) := by decide +kernel
theorem dM_odds_75 : decode bM_odds 75 = .ok (.lconst 0, 1) := by decide +kernel
theorem dM_odds_76 : decode bM_odds 76 = .ok (.ladd, 1) := by decide +kernel
theorem dM_odds_77 : decode bM_odds 77 = .ok (.lstore 5, 2) := by decide +kernel
theorem dM_odds_79 : decode bM_odds 79 = .ok (.iinc 7 1, 3) := by decide +kernel
theorem dM_odds_82 : decode bM_odds 82 = .ok (.goto (-31), 3) := by decide +kernel
theorem dM_odds_85 : decode bM_odds 85 = .ok (.lload 5, 2) := by decide +kernel
theorem dM_odds_87 : decode bM_odds 87 = .ok (.iload_n 2, 1) := by decide +kernel
theorem dM_odds_88 : decode bM_odds 88 = .ok (.i2l, 1) := by decide +kernel
theorem dM_odds_89 : decode bM_odds 89 = .ok (.iload 4, 2) := by decide +kernel
theorem dM_odds_91 : decode bM_odds 91 = .ok (.invokestatic 239, 3) := by decide +kernel
theorem dM_odds_94 : decode bM_odds 94 = .ok (.lreturn, 1) := by decide +kernel
theorem wM_odds_76 {p : Program} {l : Launch} {e : Env} {s : State} {m : MethodId} {args : Array Value} {below : List Frame} {meth : Method} {c : Code} {G : GT} {I : List Nat} (C : CX p s m args meth c NM bM_odds 8 (some .long) G I) (hI : mI I) {fu : Nat} {R1 : Int64} {Z : Sg} {rc51 : Int32 → Int32 → Int32 → Int32 → Int64 → Int32 → Sg → Option (Int64 × Sg)} (hr51 : ∀ {v1 : Int32} {v2 : Int32} {v3 : Int32} {v4 : Int32} {v5 : Int64} {v7 : Int32} {z : Sg} {H : Heap} {locs : List Loc} {ls : Array Slot}, rc51 v1 v2 v3 v4 v5 v7 z = some (R1, Z) → GW G I z s.heap H locs → lv_has ls 8 [(0, .ref (gA G 78)), (1, .int v1), (2, .int v2), (3, .int v3), (4, .int v4), (5, .long v5), (7, .int v7)] → W p l e rmM_odds s m args below meth c H locs 0 0 (MQ below (Ql G I R1 Z) args s 0 0 (AD G I)) (F0 m 51 ls [])) {v1 : Int32} {v2 : Int32} {v3 : Int32} {v4 : Int32} {v7 : Int32} {t0 : Int64} {t1 : Int64} {z : Sg} {H : Heap} {locs : List Loc} {ls : Array Slot} (h : pM_odds_76 fu rc51 v1 v2 v3 v4 v7 t0 t1 z = some (R1, Z)) (hG : GW G I z s.heap H locs) (hl : lv_has ls 8 [(0, .ref (gA G 78)), (1, .int v1), (2, .int v2), (3, .int v3), (4, .int v4), (7, .int v7)]) : W p l e rmM_odds s m args below meth c H locs 0 0 (MQ below (Ql G I R1 Z) args s 0 0 (AD G I)) (F0 m 76 ls [.long t1, .long t0]) := by
  unfold pM_odds_76 at h
  refine lv_ladd C.1 C.2.1 dM_odds_76 ?_
  refine rLstore C dM_odds_77 hl h (by decide) [(0, .ref (gA G 78)), (1, .int v1), (2, .int v2), (3, .int v3), (4, .int v4), (7, .int v7)] rfl (fun y14 ls h hl => ?_)
  refine rIinc C dM_odds_79 hl 6 rfl (d := 1) (by decide) h (by decide) [(5, .long y14), (0, .ref (gA G 78)), (1, .int v1), (2, .int v2), (3, .int v3), (4, .int v4)] rfl (fun x15 ls h hl => ?_)
  refine lv_goto (tgt := 51) C.1 C.2.1 dM_odds_82 (by decide) ?_
  exact hr51 h hG (lv_sub hl [2, 3, 4, 5, 6, 1, 0] rfl)
theorem wM_odds_51 {p : Program} {l : Launch} {e : Env} {s : State} {m : MethodId} {args : Array Value} {below : List Frame} {meth : Method} {c : Code} {G : GT} {I : List Nat} (C : CX p s m args meth c NM bM_odds 8 (some .long) G I) (hI : mI I) {fu : Nat} {R1 : Int64} {Z : Sg} : ∀ (k : Nat) {v1 : Int32} {v2 : Int32} {v3 : Int32} {v4 : Int32} {v5 : Int64} {v7 : Int32} {z : Sg} {H : Heap} {locs : List Loc} {ls : Array Slot}, pM_odds_51 fu k v1 v2 v3 v4 v5 v7 z = some (R1, Z) → GW G I z s.heap H locs → lv_has ls 8 [(0, .ref (gA G 78)), (1, .int v1), (2, .int v2), (3, .int v3), (4, .int v4), (5, .long v5), (7, .int v7)] → W p l e rmM_odds s m args below meth c H locs 0 0 (MQ below (Ql G I R1 Z) args s 0 0 (AD G I)) (F0 m 51 ls []) := by
  intro k
  induction k with
  | zero => intro v1 v2 v3 v4 v5 v7 z H locs ls h hG hl; rw [pM_odds_51] at h; cases h
  | succ k ih =>
    intro v1 v2 v3 v4 v5 v7 z H locs ls h hG hl
    rw [pM_odds_51] at h
    refine rIload C dM_odds_51 hl 6 rfl ?_
    refine rIload_n C dM_odds_53 hl 2 rfl ?_
    refine rIcmpge C (tgt := 85) h dM_odds_54 (by decide) (fun h => ?_) (fun h => ?_)
    · refine rLload C dM_odds_85 hl 5 rfl ?_
      refine rIload_n C dM_odds_87 hl 2 rfl ?_
      refine lv_i2l C.1 C.2.1 dM_odds_88 rfl ?_
      refine rIload C dM_odds_89 hl 4 rfl ?_
      refine rCSl [.long v5, .long v2.toInt64, .int v4] [] C hG h (fun h => cM_lowest hI h) mvM_lowest k_1090 ⟨Nat.le_of_ble_eq_true rfl, Nat.le_of_ble_eq_true rfl⟩ ⟨rfl, rfl⟩ rfl hl.1 (Nat.le_of_ble_eq_true rfl) dM_odds_91 ⟨Nat.zero_le _, Nat.zero_le _⟩ rfl (fun H locs y11 z10 h hG => ?_)
      exact rRetl C hG h dM_odds_94
    · refine rLload C dM_odds_57 hl 5 rfl ?_
      refine rAload_n C dM_odds_59 hl 0 rfl ?_
      refine rIload_n C dM_odds_60 hl 1 rfl ?_
      refine rIload C dM_odds_61 hl 6 rfl ?_
      refine lv_iadd C.1 C.2.1 dM_odds_63 ?_
      refine rCVi [.int (v1 + v7)] [.long v5] C hG h (fun h => cM_gusts hI h) mvM_gusts k_1150 ⟨Nat.le_of_ble_eq_true rfl, Nat.le_of_ble_eq_true rfl⟩ ⟨rfl, rfl⟩ (rRecv C hG (hI 78 (by decide) (by decide)) e_78 rfl) rfl hl.1 (Nat.le_of_ble_eq_true rfl) dM_odds_64 ⟨Nat.zero_le _, Nat.zero_le _⟩ rfl (fun H locs x13 z12 h hG => ?_)
      refine rIload_n C dM_odds_67 hl 3 rfl ?_
      refine rIcmplt C (tgt := 75) h dM_odds_68 (by decide) (fun h => ?_) (fun h => ?_)
      · refine lv_lconst (v := 0) C.1 C.2.1 dM_odds_75 (by decide) ?_
        exact wM_odds_76 C hI ih h hG (lv_sub hl [0, 1, 2, 3, 4, 6] rfl)
      · refine lv_lconst (v := 1) C.1 C.2.1 dM_odds_71 (by decide) ?_
        refine lv_goto (tgt := 76) C.1 C.2.1 dM_odds_72 (by decide) ?_
        exact wM_odds_76 C hI ih h hG (lv_sub hl [0, 1, 2, 3, 4, 6] rfl)
theorem cM_odds {l : Launch} {G : GT} {I : List Nat} (hI : mI I) {fu : Nat} {v1 : Int32} {v2 : Int32} {v3 : Int32} {v4 : Int32} {z : Sg} {R1 : Int64} {Z : Sg} (h : pM_odds fu v1 v2 v3 v4 z = some (R1, Z)) : Mt l yM_odds rmM_odds bM_odds 8 (some .long) G I z [.ref (gA G 78), .int v1, .int v2, .int v3, .int v4] (Ql G I R1 Z) := by
  refine entM (by decide +kernel) (Nat.le_of_ble_eq_true rfl) ?_
  intro p e s m below meth c C hG ls hl
  have hl : lv_has ls 8 [(0, .ref (gA G 78)), (1, .int v1), (2, .int v2), (3, .int v3), (4, .int v4)] := hl
  unfold pM_odds at h
  refine rIload_n C dM_odds_0 hl 1 rfl ?_
  refine lv_iconst (v := 0) C.1 C.2.1 dM_odds_1 (by decide) ?_
  refine lv_ldcw C.1 C.2.1 C.2.2.2.1 (C.2.2.2.2.1 _ k_1149) dM_odds_2 ?_
  refine rCSi [.int v1, .int 0, .int 99999] [] C hG h (fun h => cM_in hI h) mvM_in k_767 ⟨Nat.le_of_ble_eq_true rfl, Nat.le_of_ble_eq_true rfl⟩ ⟨rfl, rfl⟩ rfl hl.1 (Nat.le_of_ble_eq_true rfl) dM_odds_5 ⟨Nat.zero_le _, Nat.zero_le _⟩ rfl (fun H locs x2 z1 h hG => ?_)
  refine rIfeq C (tgt := 41) h dM_odds_8 (by decide) (fun h => ?_) (fun h => ?_)
  · refine lv_ldc2 C.1 C.2.1 C.2.2.2.1 (C.2.2.2.2.1 _ k_1089) dM_odds_41 ?_
    exact rRetl C hG h dM_odds_44
  · refine rIload_n C dM_odds_11 hl 2 rfl ?_
    refine lv_iconst (v := 1) C.1 C.2.1 dM_odds_12 (by decide) ?_
    refine lv_bipush (v := 40) C.1 C.2.1 dM_odds_13 (by decide) ?_
    refine rCSi [.int v2, .int 1, .int 40] [] C hG h (fun h => cM_in hI h) mvM_in k_767 ⟨Nat.le_of_ble_eq_true rfl, Nat.le_of_ble_eq_true rfl⟩ ⟨rfl, rfl⟩ rfl hl.1 (Nat.le_of_ble_eq_true rfl) dM_odds_15 ⟨Nat.zero_le _, Nat.zero_le _⟩ rfl (fun H locs x4 z3 h hG => ?_)
    refine rIfeq C (tgt := 41) h dM_odds_18 (by decide) (fun h => ?_) (fun h => ?_)
    · refine lv_ldc2 C.1 C.2.1 C.2.2.2.1 (C.2.2.2.2.1 _ k_1089) dM_odds_41 ?_
      exact rRetl C hG h dM_odds_44
    · refine rIload_n C dM_odds_21 hl 3 rfl ?_
      refine lv_iconst (v := 0) C.1 C.2.1 dM_odds_22 (by decide) ?_
      refine lv_bipush (v := 99) C.1 C.2.1 dM_odds_23 (by decide) ?_
      refine rCSi [.int v3, .int 0, .int 99] [] C hG h (fun h => cM_in hI h) mvM_in k_767 ⟨Nat.le_of_ble_eq_true rfl, Nat.le_of_ble_eq_true rfl⟩ ⟨rfl, rfl⟩ rfl hl.1 (Nat.le_of_ble_eq_true rfl) dM_odds_25 ⟨Nat.zero_le _, Nat.zero_le _⟩ rfl (fun H locs x6 z5 h hG => ?_)
      refine rIfeq C (tgt := 41) h dM_odds_28 (by decide) (fun h => ?_) (fun h => ?_)
      · refine lv_ldc2 C.1 C.2.1 C.2.2.2.1 (C.2.2.2.2.1 _ k_1089) dM_odds_41 ?_
        exact rRetl C hG h dM_odds_44
      · refine rIload C dM_odds_31 hl 4 rfl ?_
        refine lv_iconst (v := 0) C.1 C.2.1 dM_odds_33 (by decide) ?_
        refine lv_iconst (v := 1) C.1 C.2.1 dM_odds_34 (by decide) ?_
        refine rCSi [.int v4, .int 0, .int 1] [] C hG h (fun h => cM_in hI h) mvM_in k_767 ⟨Nat.le_of_ble_eq_true rfl, Nat.le_of_ble_eq_true rfl⟩ ⟨rfl, rfl⟩ rfl hl.1 (Nat.le_of_ble_eq_true rfl) dM_odds_35 ⟨Nat.zero_le _, Nat.zero_le _⟩ rfl (fun H locs x8 z7 h hG => ?_)
        refine rIfne C (tgt := 45) h dM_odds_38 (by decide) (fun h => ?_) (fun h => ?_)
        · refine lv_lconst (v := 0) C.1 C.2.1 dM_odds_45 (by decide) ?_
          refine rLstore C dM_odds_46 hl h (by decide) [(0, .ref (gA G 78)), (1, .int v1), (2, .int v2), (3, .int v3), (4, .int v4)] rfl (fun y9 ls h hl => ?_)
          refine lv_iconst (v := 0) C.1 C.2.1 dM_odds_48 (by decide) ?_
          refine rIstoreA C dM_odds_49 hl (by decide) [(5, .long y9), (0, .ref (gA G 78)), (1, .int v1), (2, .int v2), (3, .int v3), (4, .int v4)] rfl (fun ls hl => ?_)
          exact wM_odds_51 C hI _ h hG (lv_sub hl [2, 3, 4, 5, 6, 1, 0] rfl)
        · refine lv_ldc2 C.1 C.2.1 C.2.2.2.1 (C.2.2.2.2.1 _ k_1089) dM_odds_41 ?_
          exact rRetl C hG h dM_odds_44
theorem dM_image_0 : decode bM_image 0 = .ok (.aload_n 0, 1) := by decide +kernel
theorem dM_image_1 : decode bM_image 1 = .ok (.iconst 1, 1) := by decide +kernel
theorem dM_image_2 : decode bM_image 2 = .ok (.putfield 276, 3) := by decide +kernel
theorem dM_image_5 : decode bM_image 5 = .ok (.iconst 0, 1) := by decide +kernel
theorem dM_image_6 : decode bM_image 6 = .ok (.istore_n 1, 1) := by decide +kernel
theorem dM_image_7 : decode bM_image 7 = .ok (.iload_n 1, 1) := by decide +kernel
theorem dM_image_8 : decode bM_image 8 = .ok (.bipush 18, 2) := by decide +kernel
theorem dM_image_10 : decode bM_image 10 = .ok (.if_icmp .ge 21, 3) := by decide +kernel
theorem dM_image_13 : decode bM_image 13 = .ok (.aload_n 0, 1) := by decide +kernel
theorem dM_image_14 : decode bM_image 14 = .ok (.getfield 31, 3) := by decide +kernel
theorem dM_image_17 : decode bM_image 17 = .ok (.iload_n 1, 1) := by decide +kernel
theorem dM_image_18 : decode bM_image 18 = .ok (.aload_n 0, 1) := by decide +kernel
theorem dM_image_19 : decode bM_image 19 = .ok (.getfield 16, 3) := by decide +kernel
theorem dM_image_22 : decode bM_image 22 = .ok (.iload_n 1, 1) := by decide +kernel
theorem dM_image_23 : decode bM_image 23 = .ok (.iaload, 1) := by decide +kernel
theorem dM_image_24 : decode bM_image 24 = .ok (.iastore, 1) := by decide +kernel
theorem dM_image_25 : decode bM_image 25 = .ok (.iinc 1 1, 3) := by decide +kernel
theorem dM_image_28 : decode bM_image 28 = .ok (.goto (-21), 3) := by decide +kernel
theorem dM_image_31 : decode bM_image 31 = .ok (.iconst 0, 1) := by decide +kernel
theorem dM_image_32 : decode bM_image 32 = .ok (.istore_n 1, 1) := by decide +kernel
theorem dM_image_33 : decode bM_image 33 = .ok (.iload_n 1, 1) := by decide +kernel
theorem dM_image_34 : decode bM_image 34 = .ok (.iconst 5, 1) := by decide +kernel
theorem dM_image_35 : decode bM_image 35 = .ok (.if_icmp .ge 24, 3) := by decide +kernel
theorem dM_image_38 : decode bM_image 38 = .ok (.aload_n 0, 1) := by decide +kernel
theorem dM_image_39 : decode bM_image 39 = .ok (.getfield 31, 3) := by decide +kernel
theorem dM_image_42 : decode bM_image 42 = .ok (.bipush 18, 2) := by decide +kernel
theorem dM_image_44 : decode bM_image 44 = .ok (.iload_n 1, 1) := by decide +kernel
theorem dM_image_45 : decode bM_image 45 = .ok (.iadd, 1) := by decide +kernel
theorem dM_image_46 : decode bM_image 46 = .ok (.aload_n 0, 1) := by decide +kernel
theorem dM_image_47 : decode bM_image 47 = .ok (.getfield 19, 3) := by decide +kernel
theorem dM_image_50 : decode bM_image 50 = .ok (.iload_n 1, 1) := by decide +kernel
theorem dM_image_51 : decode bM_image 51 = .ok (.iaload, 1) := by decide +kernel
theorem dM_image_52 : decode bM_image 52 = .ok (.iastore, 1) := by decide +kernel
theorem dM_image_53 : decode bM_image 53 = .ok (.iinc 1 1, 3) := by decide +kernel
theorem dM_image_56 : decode bM_image 56 = .ok (.goto (-23), 3) := by decide +kernel
theorem dM_image_59 : decode bM_image 59 = .ok (.aload_n 0, 1) := by decide +kernel
theorem dM_image_60 : decode bM_image 60 = .ok (.getfield 34, 3) := by decide +kernel
theorem dM_image_63 : decode bM_image 63 = .ok (.iconst 0, 1) := by decide +kernel
theorem dM_image_64 : decode bM_image 64 = .ok (.aload_n 0, 1) := by decide +kernel
theorem dM_image_65 : decode bM_image 65 = .ok (.getfield 78, 3) := by decide +kernel
theorem dM_image_68 : decode bM_image 68 = .ok (.iastore, 1) := by decide +kernel
theorem dM_image_69 : decode bM_image 69 = .ok (.aload_n 0, 1) := by decide +kernel
theorem dM_image_70 : decode bM_image 70 = .ok (.getfield 34, 3) := by decide +kernel
theorem dM_image_73 : decode bM_image 73 = .ok (.iconst 1, 1) := by decide +kernel
theorem dM_image_74 : decode bM_image 74 = .ok (.aload_n 0, 1) := by decide +kernel
theorem dM_image_75 : decode bM_image 75 = .ok (.getfield 116, 3) := by decide +kernel
theorem dM_image_78 : decode bM_image 78 = .ok (.iastore, 1) := by decide +kernel
theorem dM_image_79 : decode bM_image 79 = .ok (.aload_n 0, 1) := by decide +kernel
theorem dM_image_80 : decode bM_image 80 = .ok (.getfield 78, 3) := by decide +kernel
theorem dM_image_83 : decode bM_image 83 = .ok (.ireturn, 1) := by decide +kernel
theorem wM_image_33 {p : Program} {l : Launch} {e : Env} {s : State} {m : MethodId} {args : Array Value} {below : List Frame} {meth : Method} {c : Code} {G : GT} {I : List Nat} (C : CX p s m args meth c NM bM_image 2 (some .int) G I) (hI : mI I) {fu : Nat} {R1 : Int32} {Z : Sg} : ∀ (k : Nat) {v1 : Int32} {z : Sg} {H : Heap} {locs : List Loc} {ls : Array Slot}, pM_image_33 fu k v1 z = some (R1, Z) → GW G I z s.heap H locs → lv_has ls 2 [(0, .ref (gA G 78)), (1, .int v1)] → W p l e rmM_image s m args below meth c H locs 0 0 (MQ below (Qi G I R1 Z) args s 0 0 (AD G I)) (F0 m 33 ls []) := by
  intro k
  induction k with
  | zero => intro v1 z H locs ls h hG hl; rw [pM_image_33] at h; cases h
  | succ k ih =>
    intro v1 z H locs ls h hG hl
    rw [pM_image_33] at h
    refine rIload_n C dM_image_33 hl 1 rfl ?_
    refine lv_iconst (v := 5) C.1 C.2.1 dM_image_34 (by decide) ?_
    refine rIcmpge C (tgt := 59) h dM_image_35 (by decide) (fun h => ?_) (fun h => ?_)
    · refine rAload_n C dM_image_59 hl 0 rfl ?_
      refine rGet C hG (hI 78 (by decide) (by decide)) e_78 fiM_13 (v := .ref (gA G 87)) rfl k_819 dM_image_60 ?_
      refine lv_iconst (v := 0) C.1 C.2.1 dM_image_63 (by decide) ?_
      refine rAload_n C dM_image_64 hl 0 rfl ?_
      refine rGet C hG (hI 78 (by decide) (by decide)) e_78 fiM_0 (v := .int (z 78 0)) rfl k_806 dM_image_65 ?_
      refine rIastK C hG (hI 87 (by decide) (by decide)) e_87 0 (by decide) (by decide) h dM_image_68 (fun H locs z4 h hG => ?_)
      refine rAload_n C dM_image_69 hl 0 rfl ?_
      refine rGet C hG (hI 78 (by decide) (by decide)) e_78 fiM_13 (v := .ref (gA G 87)) rfl k_819 dM_image_70 ?_
      refine lv_iconst (v := 1) C.1 C.2.1 dM_image_73 (by decide) ?_
      refine rAload_n C dM_image_74 hl 0 rfl ?_
      refine rGet C hG (hI 78 (by decide) (by decide)) e_78 fiM_10 (v := .int (z4 78 10)) rfl k_816 dM_image_75 ?_
      refine rIastK C hG (hI 87 (by decide) (by decide)) e_87 1 (by decide) (by decide) h dM_image_78 (fun H locs z5 h hG => ?_)
      refine rAload_n C dM_image_79 hl 0 rfl ?_
      refine rGet C hG (hI 78 (by decide) (by decide)) e_78 fiM_0 (v := .int (z5 78 0)) rfl k_806 dM_image_80 ?_
      exact rReti C hG h dM_image_83
    · refine rAload_n C dM_image_38 hl 0 rfl ?_
      refine rGet C hG (hI 78 (by decide) (by decide)) e_78 fiM_12 (v := .ref (gA G 86)) rfl k_818 dM_image_39 ?_
      refine lv_bipush (v := 18) C.1 C.2.1 dM_image_42 (by decide) ?_
      refine rIload_n C dM_image_44 hl 1 rfl ?_
      refine lv_iadd C.1 C.2.1 dM_image_45 ?_
      refine rAload_n C dM_image_46 hl 0 rfl ?_
      refine rGet C hG (hI 78 (by decide) (by decide)) e_78 fiM_4 (v := .ref (gA G 82)) rfl k_810 dM_image_47 ?_
      refine rIload_n C dM_image_50 hl 1 rfl ?_
      refine rIald C hG (hI 82 (by decide) (by decide)) e_82 h dM_image_51 (fun h => ?_)
      refine rIast C hG (hI 86 (by decide) (by decide)) e_86 h dM_image_52 (fun H locs z6 h hG => ?_)
      refine rIinc C dM_image_53 hl 1 rfl (d := 1) (by decide) h (by decide) [(0, .ref (gA G 78))] rfl (fun x7 ls h hl => ?_)
      refine lv_goto (tgt := 33) C.1 C.2.1 dM_image_56 (by decide) ?_
      exact ih h hG (lv_sub hl [1, 0] rfl)
theorem wM_image_7 {p : Program} {l : Launch} {e : Env} {s : State} {m : MethodId} {args : Array Value} {below : List Frame} {meth : Method} {c : Code} {G : GT} {I : List Nat} (C : CX p s m args meth c NM bM_image 2 (some .int) G I) (hI : mI I) {fu : Nat} {R1 : Int32} {Z : Sg} : ∀ (k : Nat) {v1 : Int32} {z : Sg} {H : Heap} {locs : List Loc} {ls : Array Slot}, pM_image_7 fu k v1 z = some (R1, Z) → GW G I z s.heap H locs → lv_has ls 2 [(0, .ref (gA G 78)), (1, .int v1)] → W p l e rmM_image s m args below meth c H locs 0 0 (MQ below (Qi G I R1 Z) args s 0 0 (AD G I)) (F0 m 7 ls []) := by
  intro k
  induction k with
  | zero => intro v1 z H locs ls h hG hl; rw [pM_image_7] at h; cases h
  | succ k ih =>
    intro v1 z H locs ls h hG hl
    rw [pM_image_7] at h
    refine rIload_n C dM_image_7 hl 1 rfl ?_
    refine lv_bipush (v := 18) C.1 C.2.1 dM_image_8 (by decide) ?_
    refine rIcmpge C (tgt := 31) h dM_image_10 (by decide) (fun h => ?_) (fun h => ?_)
    · refine lv_iconst (v := 0) C.1 C.2.1 dM_image_31 (by decide) ?_
      refine rIstoreA_n C dM_image_32 hl (by decide) [(0, .ref (gA G 78))] rfl (fun ls hl => ?_)
      exact wM_image_33 C hI _ h hG (lv_sub hl [1, 0] rfl)
    · refine rAload_n C dM_image_13 hl 0 rfl ?_
      refine rGet C hG (hI 78 (by decide) (by decide)) e_78 fiM_12 (v := .ref (gA G 86)) rfl k_818 dM_image_14 ?_
      refine rIload_n C dM_image_17 hl 1 rfl ?_
      refine rAload_n C dM_image_18 hl 0 rfl ?_
      refine rGet C hG (hI 78 (by decide) (by decide)) e_78 fiM_3 (v := .ref (gA G 81)) rfl k_809 dM_image_19 ?_
      refine rIload_n C dM_image_22 hl 1 rfl ?_
      refine rIald C hG (hI 81 (by decide) (by decide)) e_81 h dM_image_23 (fun h => ?_)
      refine rIast C hG (hI 86 (by decide) (by decide)) e_86 h dM_image_24 (fun H locs z2 h hG => ?_)
      refine rIinc C dM_image_25 hl 1 rfl (d := 1) (by decide) h (by decide) [(0, .ref (gA G 78))] rfl (fun x3 ls h hl => ?_)
      refine lv_goto (tgt := 7) C.1 C.2.1 dM_image_28 (by decide) ?_
      exact ih h hG (lv_sub hl [1, 0] rfl)
theorem cM_image {l : Launch} {G : GT} {I : List Nat} (hI : mI I) {fu : Nat} {z : Sg} {R1 : Int32} {Z : Sg} (h : pM_image fu z = some (R1, Z)) : Mt l yM_image rmM_image bM_image 2 (some .int) G I z [.ref (gA G 78)] (Qi G I R1 Z) := by
  refine entM (by decide +kernel) (Nat.le_of_ble_eq_true rfl) ?_
  intro p e s m below meth c C hG ls hl
  have hl : lv_has ls 2 [(0, .ref (gA G 78))] := hl
  unfold pM_image at h
  refine rAload_n C dM_image_0 hl 0 rfl ?_
  refine lv_iconst (v := 1) C.1 C.2.1 dM_image_1 (by decide) ?_
  refine rPut C hG (hI 78 (by decide) (by decide)) e_78 fiM_11 tokM nmM rfl (fpM_11 _) (Nat.le_of_ble_eq_true rfl) rfl rfl k_817 h dM_image_2 (fun H locs z1 h hG => ?_)
  refine lv_iconst (v := 0) C.1 C.2.1 dM_image_5 (by decide) ?_
  refine rIstoreA_n C dM_image_6 hl (by decide) [(0, .ref (gA G 78))] rfl (fun ls hl => ?_)
  exact wM_image_7 C hI _ h hG (lv_sub hl [1, 0] rfl)
theorem dM_back_0 : decode bM_back 0 = .ok (.aload_n 0, 1) := by decide +kernel
theorem dM_back_1 : decode bM_back 1 = .ok (.getfield 276, 3) := by decide +kernel
theorem dM_back_4 : decode bM_back 4 = .ok (.ifCond .ne 6, 3) := by decide +kernel
theorem dM_back_7 : decode bM_back 7 = .ok (.bipush (-3), 2) := by decide +kernel
theorem dM_back_9 : decode bM_back 9 = .ok (.ireturn, 1) := by decide +kernel
theorem dM_back_10 : decode bM_back 10 = .ok (.iconst 0, 1) := by decide +kernel
theorem dM_back_11 : decode bM_back 11 = .ok (.istore_n 1, 1) := by decide +kernel
theorem dM_back_12 : decode bM_back 12 = .ok (.iload_n 1, 1) := by decide +kernel
theorem dM_back_13 : decode bM_back 13 = .ok (.bipush 18, 2) := by decide +kernel
theorem dM_back_15 : decode bM_back 15 = .ok (.if_icmp .ge 21, 3) := by decide +kernel
theorem dM_back_18 : decode bM_back 18 = .ok (.aload_n 0, 1) := by decide +kernel
theorem dM_back_19 : decode bM_back 19 = .ok (.getfield 16, 3) := by decide +kernel
theorem dM_back_22 : decode bM_back 22 = .ok (.iload_n 1, 1) := by decide +kernel
theorem dM_back_23 : decode bM_back 23 = .ok (.aload_n 0, 1) := by decide +kernel
theorem dM_back_24 : decode bM_back 24 = .ok (.getfield 31, 3) := by decide +kernel
theorem dM_back_27 : decode bM_back 27 = .ok (.iload_n 1, 1) := by decide +kernel
theorem dM_back_28 : decode bM_back 28 = .ok (.iaload, 1) := by decide +kernel
theorem dM_back_29 : decode bM_back 29 = .ok (.iastore, 1) := by decide +kernel
theorem dM_back_30 : decode bM_back 30 = .ok (.iinc 1 1, 3) := by decide +kernel
theorem dM_back_33 : decode bM_back 33 = .ok (.goto (-21), 3) := by decide +kernel
theorem dM_back_36 : decode bM_back 36 = .ok (.iconst 0, 1) := by decide +kernel
theorem dM_back_37 : decode bM_back 37 = .ok (.istore_n 1, 1) := by decide +kernel
theorem dM_back_38 : decode bM_back 38 = .ok (.iload_n 1, 1) := by decide +kernel
theorem dM_back_39 : decode bM_back 39 = .ok (.iconst 5, 1) := by decide +kernel
theorem dM_back_40 : decode bM_back 40 = .ok (.if_icmp .ge 24, 3) := by decide +kernel
theorem dM_back_43 : decode bM_back 43 = .ok (.aload_n 0, 1) := by decide +kernel
theorem dM_back_44 : decode bM_back 44 = .ok (.getfield 19, 3) := by decide +kernel
theorem dM_back_47 : decode bM_back 47 = .ok (.iload_n 1, 1) := by decide +kernel
theorem dM_back_48 : decode bM_back 48 = .ok (.aload_n 0, 1) := by decide +kernel
theorem dM_back_49 : decode bM_back 49 = .ok (.getfield 31, 3) := by decide +kernel
theorem dM_back_52 : decode bM_back 52 = .ok (.bipush 18, 2) := by decide +kernel
theorem dM_back_54 : decode bM_back 54 = .ok (.iload_n 1, 1) := by decide +kernel
theorem dM_back_55 : decode bM_back 55 = .ok (.iadd, 1) := by decide +kernel
theorem dM_back_56 : decode bM_back 56 = .ok (.iaload, 1) := by decide +kernel
theorem dM_back_57 : decode bM_back 57 = .ok (.iastore, 1) := by decide +kernel
theorem dM_back_58 : decode bM_back 58 = .ok (.iinc 1 1, 3) := by decide +kernel
theorem dM_back_61 : decode bM_back 61 = .ok (.goto (-23), 3) := by decide +kernel
theorem dM_back_64 : decode bM_back 64 = .ok (.aload_n 0, 1) := by decide +kernel
theorem dM_back_65 : decode bM_back 65 = .ok (.aload_n 0, 1) := by decide +kernel
theorem dM_back_66 : decode bM_back 66 = .ok (.getfield 34, 3) := by decide +kernel
theorem dM_back_69 : decode bM_back 69 = .ok (.iconst 0, 1) := by decide +kernel
theorem dM_back_70 : decode bM_back 70 = .ok (.iaload, 1) := by decide +kernel
theorem dM_back_71 : decode bM_back 71 = .ok (.putfield 78, 3) := by decide +kernel
theorem dM_back_74 : decode bM_back 74 = .ok (.aload_n 0, 1) := by decide +kernel
theorem dM_back_75 : decode bM_back 75 = .ok (.aload_n 0, 1) := by decide +kernel
theorem dM_back_76 : decode bM_back 76 = .ok (.getfield 34, 3) := by decide +kernel
theorem dM_back_79 : decode bM_back 79 = .ok (.iconst 1, 1) := by decide +kernel
theorem dM_back_80 : decode bM_back 80 = .ok (.iaload, 1) := by decide +kernel
theorem dM_back_81 : decode bM_back 81 = .ok (.putfield 116, 3) := by decide +kernel
theorem dM_back_84 : decode bM_back 84 = .ok (.aload_n 0, 1) := by decide +kernel
theorem dM_back_85 : decode bM_back 85 = .ok (.getfield 78, 3) := by decide +kernel
theorem dM_back_88 : decode bM_back 88 = .ok (.ireturn, 1) := by decide +kernel
theorem wM_back_38 {p : Program} {l : Launch} {e : Env} {s : State} {m : MethodId} {args : Array Value} {below : List Frame} {meth : Method} {c : Code} {G : GT} {I : List Nat} (C : CX p s m args meth c NM bM_back 2 (some .int) G I) (hI : mI I) {fu : Nat} {R1 : Int32} {Z : Sg} : ∀ (k : Nat) {v1 : Int32} {z : Sg} {H : Heap} {locs : List Loc} {ls : Array Slot}, pM_back_38 fu k v1 z = some (R1, Z) → GW G I z s.heap H locs → lv_has ls 2 [(0, .ref (gA G 78)), (1, .int v1)] → W p l e rmM_back s m args below meth c H locs 0 0 (MQ below (Qi G I R1 Z) args s 0 0 (AD G I)) (F0 m 38 ls []) := by
  intro k
  induction k with
  | zero => intro v1 z H locs ls h hG hl; rw [pM_back_38] at h; cases h
  | succ k ih =>
    intro v1 z H locs ls h hG hl
    rw [pM_back_38] at h
    refine rIload_n C dM_back_38 hl 1 rfl ?_
    refine lv_iconst (v := 5) C.1 C.2.1 dM_back_39 (by decide) ?_
    refine rIcmpge C (tgt := 64) h dM_back_40 (by decide) (fun h => ?_) (fun h => ?_)
    · refine rAload_n C dM_back_64 hl 0 rfl ?_
      refine rAload_n C dM_back_65 hl 0 rfl ?_
      refine rGet C hG (hI 78 (by decide) (by decide)) e_78 fiM_13 (v := .ref (gA G 87)) rfl k_819 dM_back_66 ?_
      refine lv_iconst (v := 0) C.1 C.2.1 dM_back_69 (by decide) ?_
      refine rIaldK C hG (hI 87 (by decide) (by decide)) e_87 0 (by decide) (by decide) dM_back_70 ?_
      refine rPut C hG (hI 78 (by decide) (by decide)) e_78 fiM_0 tokM nmM rfl (fpM_0 _) (Nat.le_of_ble_eq_true rfl) rfl rfl k_806 h dM_back_71 (fun H locs z3 h hG => ?_)
      refine rAload_n C dM_back_74 hl 0 rfl ?_
      refine rAload_n C dM_back_75 hl 0 rfl ?_
      refine rGet C hG (hI 78 (by decide) (by decide)) e_78 fiM_13 (v := .ref (gA G 87)) rfl k_819 dM_back_76 ?_
      refine lv_iconst (v := 1) C.1 C.2.1 dM_back_79 (by decide) ?_
      refine rIaldK C hG (hI 87 (by decide) (by decide)) e_87 1 (by decide) (by decide) dM_back_80 ?_
      refine rPut C hG (hI 78 (by decide) (by decide)) e_78 fiM_10 tokM nmM rfl (fpM_10 _) (Nat.le_of_ble_eq_true rfl) rfl rfl k_816 h dM_back_81 (fun H locs z4 h hG => ?_)
      refine rAload_n C dM_back_84 hl 0 rfl ?_
      refine rGet C hG (hI 78 (by decide) (by decide)) e_78 fiM_0 (v := .int (z4 78 0)) rfl k_806 dM_back_85 ?_
      exact rReti C hG h dM_back_88
    · refine rAload_n C dM_back_43 hl 0 rfl ?_
      refine rGet C hG (hI 78 (by decide) (by decide)) e_78 fiM_4 (v := .ref (gA G 82)) rfl k_810 dM_back_44 ?_
      refine rIload_n C dM_back_47 hl 1 rfl ?_
      refine rAload_n C dM_back_48 hl 0 rfl ?_
      refine rGet C hG (hI 78 (by decide) (by decide)) e_78 fiM_12 (v := .ref (gA G 86)) rfl k_818 dM_back_49 ?_
      refine lv_bipush (v := 18) C.1 C.2.1 dM_back_52 (by decide) ?_
      refine rIload_n C dM_back_54 hl 1 rfl ?_
      refine lv_iadd C.1 C.2.1 dM_back_55 ?_
      refine rIald C hG (hI 86 (by decide) (by decide)) e_86 h dM_back_56 (fun h => ?_)
      refine rIast C hG (hI 82 (by decide) (by decide)) e_82 h dM_back_57 (fun H locs z5 h hG => ?_)
      refine rIinc C dM_back_58 hl 1 rfl (d := 1) (by decide) h (by decide) [(0, .ref (gA G 78))] rfl (fun x6 ls h hl => ?_)
      refine lv_goto (tgt := 38) C.1 C.2.1 dM_back_61 (by decide) ?_
      exact ih h hG (lv_sub hl [1, 0] rfl)
theorem wM_back_12 {p : Program} {l : Launch} {e : Env} {s : State} {m : MethodId} {args : Array Value} {below : List Frame} {meth : Method} {c : Code} {G : GT} {I : List Nat} (C : CX p s m args meth c NM bM_back 2 (some .int) G I) (hI : mI I) {fu : Nat} {R1 : Int32} {Z : Sg} : ∀ (k : Nat) {v1 : Int32} {z : Sg} {H : Heap} {locs : List Loc} {ls : Array Slot}, pM_back_12 fu k v1 z = some (R1, Z) → GW G I z s.heap H locs → lv_has ls 2 [(0, .ref (gA G 78)), (1, .int v1)] → W p l e rmM_back s m args below meth c H locs 0 0 (MQ below (Qi G I R1 Z) args s 0 0 (AD G I)) (F0 m 12 ls []) := by
  intro k
  induction k with
  | zero => intro v1 z H locs ls h hG hl; rw [pM_back_12] at h; cases h
  | succ k ih =>
    intro v1 z H locs ls h hG hl
    rw [pM_back_12] at h
    refine rIload_n C dM_back_12 hl 1 rfl ?_
    refine lv_bipush (v := 18) C.1 C.2.1 dM_back_13 (by decide) ?_
    refine rIcmpge C (tgt := 36) h dM_back_15 (by decide) (fun h => ?_) (fun h => ?_)
    · refine lv_iconst (v := 0) C.1 C.2.1 dM_back_36 (by decide) ?_
      refine rIstoreA_n C dM_back_37 hl (by decide) [(0, .ref (gA G 78))] rfl (fun ls hl => ?_)
      exact wM_back_38 C hI _ h hG (lv_sub hl [1, 0] rfl)
    · refine rAload_n C dM_back_18 hl 0 rfl ?_
      refine rGet C hG (hI 78 (by decide) (by decide)) e_78 fiM_3 (v := .ref (gA G 81)) rfl k_809 dM_back_19 ?_
      refine rIload_n C dM_back_22 hl 1 rfl ?_
      refine rAload_n C dM_back_23 hl 0 rfl ?_
      refine rGet C hG (hI 78 (by decide) (by decide)) e_78 fiM_12 (v := .ref (gA G 86)) rfl k_818 dM_back_24 ?_
      refine rIload_n C dM_back_27 hl 1 rfl ?_
      refine rIald C hG (hI 86 (by decide) (by decide)) e_86 h dM_back_28 (fun h => ?_)
      refine rIast C hG (hI 81 (by decide) (by decide)) e_81 h dM_back_29 (fun H locs z1 h hG => ?_)
      refine rIinc C dM_back_30 hl 1 rfl (d := 1) (by decide) h (by decide) [(0, .ref (gA G 78))] rfl (fun x2 ls h hl => ?_)
      refine lv_goto (tgt := 12) C.1 C.2.1 dM_back_33 (by decide) ?_
      exact ih h hG (lv_sub hl [1, 0] rfl)
theorem cM_back {l : Launch} {G : GT} {I : List Nat} (hI : mI I) {fu : Nat} {z : Sg} {R1 : Int32} {Z : Sg} (h : pM_back fu z = some (R1, Z)) : Mt l yM_back rmM_back bM_back 2 (some .int) G I z [.ref (gA G 78)] (Qi G I R1 Z) := by
  refine entM (by decide +kernel) (Nat.le_of_ble_eq_true rfl) ?_
  intro p e s m below meth c C hG ls hl
  have hl : lv_has ls 2 [(0, .ref (gA G 78))] := hl
  unfold pM_back at h
  refine rAload_n C dM_back_0 hl 0 rfl ?_
  refine rGet C hG (hI 78 (by decide) (by decide)) e_78 fiM_11 (v := .int (z 78 11)) rfl k_817 dM_back_1 ?_
  refine rIfne C (tgt := 10) h dM_back_4 (by decide) (fun h => ?_) (fun h => ?_)
  · refine lv_iconst (v := 0) C.1 C.2.1 dM_back_10 (by decide) ?_
    refine rIstoreA_n C dM_back_11 hl (by decide) [(0, .ref (gA G 78))] rfl (fun ls hl => ?_)
    exact wM_back_12 C hI _ h hG (lv_sub hl [1, 0] rfl)
  · refine lv_bipush (v := (-3)) C.1 C.2.1 dM_back_7 (by decide) ?_
    exact rReti C hG h dM_back_9
theorem dM_sheet_0 : decode bM_sheet 0 = .ok (.iload_n 1, 1) := by decide +kernel
theorem dM_sheet_1 : decode bM_sheet 1 = .ok (.iconst 0, 1) := by decide +kernel
theorem dM_sheet_2 : decode bM_sheet 2 = .ok (.iconst 3, 1) := by decide +kernel
theorem dM_sheet_3 : decode bM_sheet 3 = .ok (.invokestatic 81, 3) := by decide +kernel
theorem dM_sheet_6 : decode bM_sheet 6 = .ok (.ifCond .eq 23, 3) := by decide +kernel
theorem dM_sheet_9 : decode bM_sheet 9 = .ok (.iload_n 2, 1) := by decide +kernel
theorem dM_sheet_10 : decode bM_sheet 10 = .ok (.iconst (-1), 1) := by decide +kernel
theorem dM_sheet_11 : decode bM_sheet 11 = .ok (.iconst 2, 1) := by decide +kernel
theorem dM_sheet_12 : decode bM_sheet 12 = .ok (.invokestatic 81, 3) := by decide +kernel
theorem dM_sheet_15 : decode bM_sheet 15 = .ok (.ifCond .eq 14, 3) := by decide +kernel
theorem dM_sheet_18 : decode bM_sheet 18 = .ok (.iload_n 2, 1) := by decide +kernel
theorem dM_sheet_19 : decode bM_sheet 19 = .ok (.iconst (-1), 1) := by decide +kernel
theorem dM_sheet_20 : decode bM_sheet 20 = .ok (.if_icmp .eq 12, 3) := by decide +kernel
theorem dM_sheet_23 : decode bM_sheet 23 = .ok (.iload_n 3, 1) := by decide +kernel
theorem dM_sheet_24 : decode bM_sheet 24 = .ok (.bipush 40, 2) := by decide +kernel
theorem dM_sheet_26 : decode bM_sheet 26 = .ok (.if_icmp .le 6, 3) := by decide +kernel
theorem dM_sheet_29 : decode bM_sheet 29 = .ok (.bipush (-2), 2) := by decide +kernel
theorem dM_sheet_31 : decode bM_sheet 31 = .ok (.ireturn, 1) := by decide +kernel
theorem dM_sheet_32 : decode bM_sheet 32 = .ok (.iload_n 2, 1) := by decide +kernel
theorem dM_sheet_33 : decode bM_sheet 33 = .ok (.iconst (-1), 1) := by decide +kernel
theorem dM_sheet_34 : decode bM_sheet 34 = .ok (.if_icmp .eq 10, 3) := by decide +kernel
theorem dM_sheet_37 : decode bM_sheet 37 = .ok (.iload_n 3, 1) := by decide +kernel
theorem dM_sheet_38 : decode bM_sheet 38 = .ok (.ifCond .ge 6, 3) := by decide +kernel
theorem dM_sheet_41 : decode bM_sheet 41 = .ok (.bipush (-14), 2) := by decide +kernel
theorem dM_sheet_43 : decode bM_sheet 43 = .ok (.ireturn, 1) := by decide +kernel
theorem dM_sheet_44 : decode bM_sheet 44 = .ok (.aload_n 0, 1) := by decide +kernel
theorem dM_sheet_45 : decode bM_sheet 45 = .ok (.getfield 37, 3) := by decide +kernel
theorem dM_sheet_48 : decode bM_sheet 48 = .ok (.iload_n 1, 1) := by decide +kernel
theorem dM_sheet_49 : decode bM_sheet 49 = .ok (.iload_n 2, 1) := by decide +kernel
theorem dM_sheet_50 : decode bM_sheet 50 = .ok (.iastore, 1) := by decide +kernel
theorem dM_sheet_51 : decode bM_sheet 51 = .ok (.aload_n 0, 1) := by decide +kernel
theorem dM_sheet_52 : decode bM_sheet 52 = .ok (.getfield 40, 3) := by decide +kernel
theorem dM_sheet_55 : decode bM_sheet 55 = .ok (.iload_n 1, 1) := by decide +kernel
theorem dM_sheet_56 : decode bM_sheet 56 = .ok (.iload_n 2, 1) := by decide +kernel
theorem dM_sheet_57 : decode bM_sheet 57 = .ok (.iconst (-1), 1) := by decide +kernel
theorem dM_sheet_58 : decode bM_sheet 58 = .ok (.if_icmp .ne 7, 3) := by decide +kernel
theorem dM_sheet_61 : decode bM_sheet 61 = .ok (.iconst 0, 1) := by decide +kernel
theorem dM_sheet_62 : decode bM_sheet 62 = .ok (.goto 4, 3) := by decide +kernel
theorem dM_sheet_65 : decode bM_sheet 65 = .ok (.iload_n 3, 1) := by decide +kernel
theorem dM_sheet_66 : decode bM_sheet 66 = .ok (.iastore, 1) := by decide +kernel
theorem dM_sheet_67 : decode bM_sheet 67 = .ok (.iconst 0, 1) := by decide +kernel
theorem dM_sheet_68 : decode bM_sheet 68 = .ok (.istore 4, 2) := by decide +kernel
theorem dM_sheet_70 : decode bM_sheet 70 = .ok (.iload 4, 2) := by decide +kernel
theorem dM_sheet_72 : decode bM_sheet 72 = .ok (.bipush 40, 2) := by decide +kernel
theorem dM_sheet_74 : decode bM_sheet 74 = .ok (.if_icmp .ge 22, 3) := by decide +kernel
theorem dM_sheet_77 : decode bM_sheet 77 = .ok (.aload_n 0, 1) := by decide +kernel
theorem dM_sheet_78 : decode bM_sheet 78 = .ok (.getfield 43, 3) := by decide +kernel
theorem dM_sheet_81 : decode bM_sheet 81 = .ok (.bipush 40, 2) := by decide +kernel
theorem dM_sheet_83 : decode bM_sheet 83 = .ok (.iload_n 1, 1) := by decide +kernel
theorem dM_sheet_84 : decode bM_sheet 84 = .ok (.imul, 1) := by decide +kernel
theorem dM_sheet_85 : decode bM_sheet 85 = .ok (.iload 4, 2) := by decide +kernel
theorem dM_sheet_87 : decode bM_sheet 87 = .ok (.iadd, 1) := by decide +kernel
theorem dM_sheet_88 : decode bM_sheet 88 = .ok (.iconst 0, 1) := by decide +kernel
theorem dM_sheet_89 : decode bM_sheet 89 = .ok (.iastore, 1) := by decide +kernel
theorem dM_sheet_90 : decode bM_sheet 90 = .ok (.iinc 4 1, 3) := by decide +kernel
theorem dM_sheet_93 : decode bM_sheet 93 = .ok (.goto (-23), 3) := by decide +kernel
theorem dM_sheet_96 : decode bM_sheet 96 = .ok (.iconst 1, 1) := by decide +kernel
theorem dM_sheet_97 : decode bM_sheet 97 = .ok (.ireturn, 1) := by decide +kernel
theorem wM_sheet_70 {p : Program} {l : Launch} {e : Env} {s : State} {m : MethodId} {args : Array Value} {below : List Frame} {meth : Method} {c : Code} {G : GT} {I : List Nat} (C : CX p s m args meth c NM bM_sheet 5 (some .int) G I) (hI : mI I) {fu : Nat} {R1 : Int32} {Z : Sg} : ∀ (k : Nat) {v1 : Int32} {v4 : Int32} {z : Sg} {H : Heap} {locs : List Loc} {ls : Array Slot}, pM_sheet_70 fu k v1 v4 z = some (R1, Z) → GW G I z s.heap H locs → lv_has ls 5 [(0, .ref (gA G 78)), (1, .int v1), (4, .int v4)] → W p l e rmM_sheet s m args below meth c H locs 0 0 (MQ below (Qi G I R1 Z) args s 0 0 (AD G I)) (F0 m 70 ls []) := by
  intro k
  induction k with
  | zero => intro v1 v4 z H locs ls h hG hl; rw [pM_sheet_70] at h; cases h
  | succ k ih =>
    intro v1 v4 z H locs ls h hG hl
    rw [pM_sheet_70] at h
    refine rIload C dM_sheet_70 hl 2 rfl ?_
    refine lv_bipush (v := 40) C.1 C.2.1 dM_sheet_72 (by decide) ?_
    refine rIcmpge C (tgt := 96) h dM_sheet_74 (by decide) (fun h => ?_) (fun h => ?_)
    · refine lv_iconst (v := 1) C.1 C.2.1 dM_sheet_96 (by decide) ?_
      exact rReti C hG h dM_sheet_97
    · refine rAload_n C dM_sheet_77 hl 0 rfl ?_
      refine rGet C hG (hI 78 (by decide) (by decide)) e_78 fiM_16 (v := .ref (gA G 90)) rfl k_822 dM_sheet_78 ?_
      refine lv_bipush (v := 40) C.1 C.2.1 dM_sheet_81 (by decide) ?_
      refine rIload_n C dM_sheet_83 hl 1 rfl ?_
      refine lv_imul C.1 C.2.1 dM_sheet_84 ?_
      refine rIload C dM_sheet_85 hl 2 rfl ?_
      refine lv_iadd C.1 C.2.1 dM_sheet_87 ?_
      refine lv_iconst (v := 0) C.1 C.2.1 dM_sheet_88 (by decide) ?_
      refine rIast C hG (hI 90 (by decide) (by decide)) e_90 h dM_sheet_89 (fun H locs z7 h hG => ?_)
      refine rIinc C dM_sheet_90 hl 2 rfl (d := 1) (by decide) h (by decide) [(0, .ref (gA G 78)), (1, .int v1)] rfl (fun x8 ls h hl => ?_)
      refine lv_goto (tgt := 70) C.1 C.2.1 dM_sheet_93 (by decide) ?_
      exact ih h hG (lv_sub hl [1, 2, 0] rfl)
theorem wM_sheet_66 {p : Program} {l : Launch} {e : Env} {s : State} {m : MethodId} {args : Array Value} {below : List Frame} {meth : Method} {c : Code} {G : GT} {I : List Nat} (C : CX p s m args meth c NM bM_sheet 5 (some .int) G I) (hI : mI I) {fu : Nat} {R1 : Int32} {Z : Sg} {v1 : Int32} {t1 : Int32} {t2 : Int32} {z : Sg} {H : Heap} {locs : List Loc} {ls : Array Slot} (h : pM_sheet_66 fu v1 t1 t2 z = some (R1, Z)) (hG : GW G I z s.heap H locs) (hl : lv_has ls 5 [(0, .ref (gA G 78)), (1, .int v1)]) : W p l e rmM_sheet s m args below meth c H locs 0 0 (MQ below (Qi G I R1 Z) args s 0 0 (AD G I)) (F0 m 66 ls [.int t2, .int t1, .ref (gA G 89)]) := by
  unfold pM_sheet_66 at h
  refine rIast C hG (hI 89 (by decide) (by decide)) e_89 h dM_sheet_66 (fun H locs z6 h hG => ?_)
  refine lv_iconst (v := 0) C.1 C.2.1 dM_sheet_67 (by decide) ?_
  refine rIstoreA C dM_sheet_68 hl (by decide) [(0, .ref (gA G 78)), (1, .int v1)] rfl (fun ls hl => ?_)
  exact wM_sheet_70 C hI _ h hG (lv_sub hl [1, 2, 0] rfl)
theorem wM_sheet_44 {p : Program} {l : Launch} {e : Env} {s : State} {m : MethodId} {args : Array Value} {below : List Frame} {meth : Method} {c : Code} {G : GT} {I : List Nat} (C : CX p s m args meth c NM bM_sheet 5 (some .int) G I) (hI : mI I) {fu : Nat} {R1 : Int32} {Z : Sg} {v1 : Int32} {v2 : Int32} {v3 : Int32} {z : Sg} {H : Heap} {locs : List Loc} {ls : Array Slot} (h : pM_sheet_44 fu v1 v2 v3 z = some (R1, Z)) (hG : GW G I z s.heap H locs) (hl : lv_has ls 5 [(0, .ref (gA G 78)), (1, .int v1), (2, .int v2), (3, .int v3)]) : W p l e rmM_sheet s m args below meth c H locs 0 0 (MQ below (Qi G I R1 Z) args s 0 0 (AD G I)) (F0 m 44 ls []) := by
  unfold pM_sheet_44 at h
  refine rAload_n C dM_sheet_44 hl 0 rfl ?_
  refine rGet C hG (hI 78 (by decide) (by decide)) e_78 fiM_14 (v := .ref (gA G 88)) rfl k_820 dM_sheet_45 ?_
  refine rIload_n C dM_sheet_48 hl 1 rfl ?_
  refine rIload_n C dM_sheet_49 hl 2 rfl ?_
  refine rIast C hG (hI 88 (by decide) (by decide)) e_88 h dM_sheet_50 (fun H locs z5 h hG => ?_)
  refine rAload_n C dM_sheet_51 hl 0 rfl ?_
  refine rGet C hG (hI 78 (by decide) (by decide)) e_78 fiM_15 (v := .ref (gA G 89)) rfl k_821 dM_sheet_52 ?_
  refine rIload_n C dM_sheet_55 hl 1 rfl ?_
  refine rIload_n C dM_sheet_56 hl 2 rfl ?_
  refine lv_iconst (v := (-1)) C.1 C.2.1 dM_sheet_57 (by decide) ?_
  refine rIcmpne C (tgt := 65) h dM_sheet_58 (by decide) (fun h => ?_) (fun h => ?_)
  · refine rIload_n C dM_sheet_65 hl 3 rfl ?_
    exact wM_sheet_66 C hI h hG (lv_sub hl [0, 1] rfl)
  · refine lv_iconst (v := 0) C.1 C.2.1 dM_sheet_61 (by decide) ?_
    refine lv_goto (tgt := 66) C.1 C.2.1 dM_sheet_62 (by decide) ?_
    exact wM_sheet_66 C hI h hG (lv_sub hl [0, 1] rfl)
theorem wM_sheet_32 {p : Program} {l : Launch} {e : Env} {s : State} {m : MethodId} {args : Array Value} {below : List Frame} {meth : Method} {c : Code} {G : GT} {I : List Nat} (C : CX p s m args meth c NM bM_sheet 5 (some .int) G I) (hI : mI I) {fu : Nat} {R1 : Int32} {Z : Sg} {v1 : Int32} {v2 : Int32} {v3 : Int32} {z : Sg} {H : Heap} {locs : List Loc} {ls : Array Slot} (h : pM_sheet_32 fu v1 v2 v3 z = some (R1, Z)) (hG : GW G I z s.heap H locs) (hl : lv_has ls 5 [(0, .ref (gA G 78)), (1, .int v1), (2, .int v2), (3, .int v3)]) : W p l e rmM_sheet s m args below meth c H locs 0 0 (MQ below (Qi G I R1 Z) args s 0 0 (AD G I)) (F0 m 32 ls []) := by
  unfold pM_sheet_32 at h
  refine rIload_n C dM_sheet_32 hl 2 rfl ?_
  refine lv_iconst (v := (-1)) C.1 C.2.1 dM_sheet_33 (by decide) ?_
  refine rIcmpeq C (tgt := 44) h dM_sheet_34 (by decide) (fun h => ?_) (fun h => ?_)
  · exact wM_sheet_44 C hI h hG (lv_sub hl [0, 1, 2, 3] rfl)
  · refine rIload_n C dM_sheet_37 hl 3 rfl ?_
    refine rIfge C (tgt := 44) h dM_sheet_38 (by decide) (fun h => ?_) (fun h => ?_)
    · exact wM_sheet_44 C hI h hG (lv_sub hl [0, 1, 2, 3] rfl)
    · refine lv_bipush (v := (-14)) C.1 C.2.1 dM_sheet_41 (by decide) ?_
      exact rReti C hG h dM_sheet_43
theorem cM_sheet {l : Launch} {G : GT} {I : List Nat} (hI : mI I) {fu : Nat} {v1 : Int32} {v2 : Int32} {v3 : Int32} {z : Sg} {R1 : Int32} {Z : Sg} (h : pM_sheet fu v1 v2 v3 z = some (R1, Z)) : Mt l yM_sheet rmM_sheet bM_sheet 5 (some .int) G I z [.ref (gA G 78), .int v1, .int v2, .int v3] (Qi G I R1 Z) := by
  refine entM (by decide +kernel) (Nat.le_of_ble_eq_true rfl) ?_
  intro p e s m below meth c C hG ls hl
  have hl : lv_has ls 5 [(0, .ref (gA G 78)), (1, .int v1), (2, .int v2), (3, .int v3)] := hl
  unfold pM_sheet at h
  refine rIload_n C dM_sheet_0 hl 1 rfl ?_
  refine lv_iconst (v := 0) C.1 C.2.1 dM_sheet_1 (by decide) ?_
  refine lv_iconst (v := 3) C.1 C.2.1 dM_sheet_2 (by decide) ?_
  refine rCSi [.int v1, .int 0, .int 3] [] C hG h (fun h => cM_in hI h) mvM_in k_767 ⟨Nat.le_of_ble_eq_true rfl, Nat.le_of_ble_eq_true rfl⟩ ⟨rfl, rfl⟩ rfl hl.1 (Nat.le_of_ble_eq_true rfl) dM_sheet_3 ⟨Nat.zero_le _, Nat.zero_le _⟩ rfl (fun H locs x2 z1 h hG => ?_)
  refine rIfeq C (tgt := 29) h dM_sheet_6 (by decide) (fun h => ?_) (fun h => ?_)
  · refine lv_bipush (v := (-2)) C.1 C.2.1 dM_sheet_29 (by decide) ?_
    exact rReti C hG h dM_sheet_31
  · refine rIload_n C dM_sheet_9 hl 2 rfl ?_
    refine lv_iconst (v := (-1)) C.1 C.2.1 dM_sheet_10 (by decide) ?_
    refine lv_iconst (v := 2) C.1 C.2.1 dM_sheet_11 (by decide) ?_
    refine rCSi [.int v2, .int (-1), .int 2] [] C hG h (fun h => cM_in hI h) mvM_in k_767 ⟨Nat.le_of_ble_eq_true rfl, Nat.le_of_ble_eq_true rfl⟩ ⟨rfl, rfl⟩ rfl hl.1 (Nat.le_of_ble_eq_true rfl) dM_sheet_12 ⟨Nat.zero_le _, Nat.zero_le _⟩ rfl (fun H locs x4 z3 h hG => ?_)
    refine rIfeq C (tgt := 29) h dM_sheet_15 (by decide) (fun h => ?_) (fun h => ?_)
    · refine lv_bipush (v := (-2)) C.1 C.2.1 dM_sheet_29 (by decide) ?_
      exact rReti C hG h dM_sheet_31
    · refine rIload_n C dM_sheet_18 hl 2 rfl ?_
      refine lv_iconst (v := (-1)) C.1 C.2.1 dM_sheet_19 (by decide) ?_
      refine rIcmpeq C (tgt := 32) h dM_sheet_20 (by decide) (fun h => ?_) (fun h => ?_)
      · exact wM_sheet_32 C hI h hG (lv_sub hl [0, 1, 2, 3] rfl)
      · refine rIload_n C dM_sheet_23 hl 3 rfl ?_
        refine lv_bipush (v := 40) C.1 C.2.1 dM_sheet_24 (by decide) ?_
        refine rIcmple C (tgt := 32) h dM_sheet_26 (by decide) (fun h => ?_) (fun h => ?_)
        · exact wM_sheet_32 C hI h hG (lv_sub hl [0, 1, 2, 3] rfl)
        · refine lv_bipush (v := (-2)) C.1 C.2.1 dM_sheet_29 (by decide) ?_
          exact rReti C hG h dM_sheet_31
theorem dM_cell_0 : decode bM_cell 0 = .ok (.iload_n 1, 1) := by decide +kernel
theorem dM_cell_1 : decode bM_cell 1 = .ok (.iconst 0, 1) := by decide +kernel
theorem dM_cell_2 : decode bM_cell 2 = .ok (.iconst 3, 1) := by decide +kernel
theorem dM_cell_3 : decode bM_cell 3 = .ok (.invokestatic 81, 3) := by decide +kernel
theorem dM_cell_6 : decode bM_cell 6 = .ok (.ifCond .ne 6, 3) := by decide +kernel
theorem dM_cell_9 : decode bM_cell 9 = .ok (.bipush (-2), 2) := by decide +kernel
theorem dM_cell_11 : decode bM_cell 11 = .ok (.ireturn, 1) := by decide +kernel
theorem dM_cell_12 : decode bM_cell 12 = .ok (.aload_n 0, 1) := by decide +kernel
theorem dM_cell_13 : decode bM_cell 13 = .ok (.getfield 37, 3) := by decide +kernel
theorem dM_cell_16 : decode bM_cell 16 = .ok (.iload_n 1, 1) := by decide +kernel
theorem dM_cell_17 : decode bM_cell 17 = .ok (.iaload, 1) := by decide +kernel
theorem dM_cell_18 : decode bM_cell 18 = .ok (.iconst (-1), 1) := by decide +kernel
theorem dM_cell_19 : decode bM_cell 19 = .ok (.if_icmp .ne 6, 3) := by decide +kernel
theorem dM_cell_22 : decode bM_cell 22 = .ok (.bipush (-11), 2) := by decide +kernel
theorem dM_cell_24 : decode bM_cell 24 = .ok (.ireturn, 1) := by decide +kernel
theorem dM_cell_25 : decode bM_cell 25 = .ok (.iload_n 2, 1) := by decide +kernel
theorem dM_cell_26 : decode bM_cell 26 = .ok (.iconst 0, 1) := by decide +kernel
theorem dM_cell_27 : decode bM_cell 27 = .ok (.aload_n 0, 1) := by decide +kernel
theorem dM_cell_28 : decode bM_cell 28 = .ok (.getfield 40, 3) := by decide +kernel
theorem dM_cell_31 : decode bM_cell 31 = .ok (.iload_n 1, 1) := by decide +kernel
theorem dM_cell_32 : decode bM_cell 32 = .ok (.iaload, 1) := by decide +kernel
theorem dM_cell_33 : decode bM_cell 33 = .ok (.iconst 1, 1) := by decide +kernel
theorem dM_cell_34 : decode bM_cell 34 = .ok (.isub, 1) := by decide +kernel
theorem dM_cell_35 : decode bM_cell 35 = .ok (.invokestatic 81, 3) := by decide +kernel
theorem dM_cell_38 : decode bM_cell 38 = .ok (.ifCond .ne 6, 3) := by decide +kernel
theorem dM_cell_41 : decode bM_cell 41 = .ok (.bipush (-12), 2) := by decide +kernel
theorem dM_cell_43 : decode bM_cell 43 = .ok (.ireturn, 1) := by decide +kernel
theorem dM_cell_44 : decode bM_cell 44 = .ok (.aload_n 0, 1) := by decide +kernel
theorem dM_cell_45 : decode bM_cell 45 = .ok (.getfield 43, 3) := by decide +kernel
theorem dM_cell_48 : decode bM_cell 48 = .ok (.bipush 40, 2) := by decide +kernel
theorem dM_cell_50 : decode bM_cell 50 = .ok (.iload_n 1, 1) := by decide +kernel
theorem dM_cell_51 : decode bM_cell 51 = .ok (.imul, 1) := by decide +kernel
theorem dM_cell_52 : decode bM_cell 52 = .ok (.iload_n 2, 1) := by decide +kernel
theorem dM_cell_53 : decode bM_cell 53 = .ok (.iadd, 1) := by decide +kernel
theorem dM_cell_54 : decode bM_cell 54 = .ok (.aload_n 0, 1) := by decide +kernel
theorem dM_cell_55 : decode bM_cell 55 = .ok (.getfield 37, 3) := by decide +kernel
theorem dM_cell_58 : decode bM_cell 58 = .ok (.iload_n 1, 1) := by decide +kernel
theorem dM_cell_59 : decode bM_cell 59 = .ok (.iaload, 1) := by decide +kernel
theorem dM_cell_60 : decode bM_cell 60 = .ok (.ifCond .ne 8, 3) := by decide +kernel
theorem dM_cell_63 : decode bM_cell 63 = .ok (.iload_n 3, 1) := by decide +kernel
theorem dM_cell_64 : decode bM_cell 64 = .ok (.i2b, 1) := by decide +kernel
theorem dM_cell_65 : decode bM_cell 65 = .ok (.goto 19, 3) := by decide +kernel
theorem dM_cell_68 : decode bM_cell 68 = .ok (.aload_n 0, 1) := by decide +kernel
theorem dM_cell_69 : decode bM_cell 69 = .ok (.getfield 37, 3) := by decide +kernel
theorem dM_cell_72 : decode bM_cell 72 = .ok (.iload_n 1, 1) := by decide +kernel
theorem dM_cell_73 : decode bM_cell 73 = .ok (.iaload, 1) := by decide +kernel
theorem dM_cell_74 : decode bM_cell 74 = .ok (.iconst 1, 1) := by decide +kernel
theorem dM_cell_75 : decode bM_cell 75 = .ok (.if_icmp .ne 8, 3) := by decide +kernel
theorem dM_cell_78 : decode bM_cell 78 = .ok (.iload_n 3, 1) := by decide +kernel
theorem dM_cell_79 : decode bM_cell 79 = .ok (.i2s, 1) := by decide +kernel
theorem dM_cell_80 : decode bM_cell 80 = .ok (.goto 4, 3) := by decide +kernel
theorem dM_cell_83 : decode bM_cell 83 = .ok (.iload_n 3, 1) := by decide +kernel
theorem dM_cell_84 : decode bM_cell 84 = .ok (.iastore, 1) := by decide +kernel
theorem dM_cell_85 : decode bM_cell 85 = .ok (.iconst 1, 1) := by decide +kernel
theorem dM_cell_86 : decode bM_cell 86 = .ok (.ireturn, 1) := by decide +kernel
theorem wM_cell_84 {p : Program} {l : Launch} {e : Env} {s : State} {m : MethodId} {args : Array Value} {below : List Frame} {meth : Method} {c : Code} {G : GT} {I : List Nat} (C : CX p s m args meth c NM bM_cell 4 (some .int) G I) (hI : mI I) {fu : Nat} {R1 : Int32} {Z : Sg} {t1 : Int32} {t2 : Int32} {z : Sg} {H : Heap} {locs : List Loc} {ls : Array Slot} (h : pM_cell_84 fu t1 t2 z = some (R1, Z)) (hG : GW G I z s.heap H locs) (hl : lv_has ls 4 []) : W p l e rmM_cell s m args below meth c H locs 0 0 (MQ below (Qi G I R1 Z) args s 0 0 (AD G I)) (F0 m 84 ls [.int t2, .int t1, .ref (gA G 90)]) := by
  unfold pM_cell_84 at h
  refine rIast C hG (hI 90 (by decide) (by decide)) e_90 h dM_cell_84 (fun H locs z5 h hG => ?_)
  refine lv_iconst (v := 1) C.1 C.2.1 dM_cell_85 (by decide) ?_
  exact rReti C hG h dM_cell_86
theorem cM_cell {l : Launch} {G : GT} {I : List Nat} (hI : mI I) {fu : Nat} {v1 : Int32} {v2 : Int32} {v3 : Int32} {z : Sg} {R1 : Int32} {Z : Sg} (h : pM_cell fu v1 v2 v3 z = some (R1, Z)) : Mt l yM_cell rmM_cell bM_cell 4 (some .int) G I z [.ref (gA G 78), .int v1, .int v2, .int v3] (Qi G I R1 Z) := by
  refine entM (by decide +kernel) (Nat.le_of_ble_eq_true rfl) ?_
  intro p e s m below meth c C hG ls hl
  have hl : lv_has ls 4 [(0, .ref (gA G 78)), (1, .int v1), (2, .int v2), (3, .int v3)] := hl
  unfold pM_cell at h
  refine rIload_n C dM_cell_0 hl 1 rfl ?_
  refine lv_iconst (v := 0) C.1 C.2.1 dM_cell_1 (by decide) ?_
  refine lv_iconst (v := 3) C.1 C.2.1 dM_cell_2 (by decide) ?_
  refine rCSi [.int v1, .int 0, .int 3] [] C hG h (fun h => cM_in hI h) mvM_in k_767 ⟨Nat.le_of_ble_eq_true rfl, Nat.le_of_ble_eq_true rfl⟩ ⟨rfl, rfl⟩ rfl hl.1 (Nat.le_of_ble_eq_true rfl) dM_cell_3 ⟨Nat.zero_le _, Nat.zero_le _⟩ rfl (fun H locs x2 z1 h hG => ?_)
  refine rIfne C (tgt := 12) h dM_cell_6 (by decide) (fun h => ?_) (fun h => ?_)
  · refine rAload_n C dM_cell_12 hl 0 rfl ?_
    refine rGet C hG (hI 78 (by decide) (by decide)) e_78 fiM_14 (v := .ref (gA G 88)) rfl k_820 dM_cell_13 ?_
    refine rIload_n C dM_cell_16 hl 1 rfl ?_
    refine rIald C hG (hI 88 (by decide) (by decide)) e_88 h dM_cell_17 (fun h => ?_)
    refine lv_iconst (v := (-1)) C.1 C.2.1 dM_cell_18 (by decide) ?_
    refine rIcmpne C (tgt := 25) h dM_cell_19 (by decide) (fun h => ?_) (fun h => ?_)
    · refine rIload_n C dM_cell_25 hl 2 rfl ?_
      refine lv_iconst (v := 0) C.1 C.2.1 dM_cell_26 (by decide) ?_
      refine rAload_n C dM_cell_27 hl 0 rfl ?_
      refine rGet C hG (hI 78 (by decide) (by decide)) e_78 fiM_15 (v := .ref (gA G 89)) rfl k_821 dM_cell_28 ?_
      refine rIload_n C dM_cell_31 hl 1 rfl ?_
      refine rIald C hG (hI 89 (by decide) (by decide)) e_89 h dM_cell_32 (fun h => ?_)
      refine lv_iconst (v := 1) C.1 C.2.1 dM_cell_33 (by decide) ?_
      refine lv_isub C.1 C.2.1 dM_cell_34 ?_
      refine rCSi [.int v2, .int 0, .int ((ga z1 89 v1) - 1)] [] C hG h (fun h => cM_in hI h) mvM_in k_767 ⟨Nat.le_of_ble_eq_true rfl, Nat.le_of_ble_eq_true rfl⟩ ⟨rfl, rfl⟩ rfl hl.1 (Nat.le_of_ble_eq_true rfl) dM_cell_35 ⟨Nat.zero_le _, Nat.zero_le _⟩ rfl (fun H locs x4 z3 h hG => ?_)
      refine rIfne C (tgt := 44) h dM_cell_38 (by decide) (fun h => ?_) (fun h => ?_)
      · refine rAload_n C dM_cell_44 hl 0 rfl ?_
        refine rGet C hG (hI 78 (by decide) (by decide)) e_78 fiM_16 (v := .ref (gA G 90)) rfl k_822 dM_cell_45 ?_
        refine lv_bipush (v := 40) C.1 C.2.1 dM_cell_48 (by decide) ?_
        refine rIload_n C dM_cell_50 hl 1 rfl ?_
        refine lv_imul C.1 C.2.1 dM_cell_51 ?_
        refine rIload_n C dM_cell_52 hl 2 rfl ?_
        refine lv_iadd C.1 C.2.1 dM_cell_53 ?_
        refine rAload_n C dM_cell_54 hl 0 rfl ?_
        refine rGet C hG (hI 78 (by decide) (by decide)) e_78 fiM_14 (v := .ref (gA G 88)) rfl k_820 dM_cell_55 ?_
        refine rIload_n C dM_cell_58 hl 1 rfl ?_
        refine rIald C hG (hI 88 (by decide) (by decide)) e_88 h dM_cell_59 (fun h => ?_)
        refine rIfne C (tgt := 68) h dM_cell_60 (by decide) (fun h => ?_) (fun h => ?_)
        · refine rAload_n C dM_cell_68 hl 0 rfl ?_
          refine rGet C hG (hI 78 (by decide) (by decide)) e_78 fiM_14 (v := .ref (gA G 88)) rfl k_820 dM_cell_69 ?_
          refine rIload_n C dM_cell_72 hl 1 rfl ?_
          refine rIald C hG (hI 88 (by decide) (by decide)) e_88 h dM_cell_73 (fun h => ?_)
          refine lv_iconst (v := 1) C.1 C.2.1 dM_cell_74 (by decide) ?_
          refine rIcmpne C (tgt := 83) h dM_cell_75 (by decide) (fun h => ?_) (fun h => ?_)
          · refine rIload_n C dM_cell_83 hl 3 rfl ?_
            exact wM_cell_84 C hI h hG (lv_sub hl [] rfl)
          · refine rIload_n C dM_cell_78 hl 3 rfl ?_
            refine lv_i2s C.1 C.2.1 dM_cell_79 rfl ?_
            refine lv_goto (tgt := 84) C.1 C.2.1 dM_cell_80 (by decide) ?_
            exact wM_cell_84 C hI h hG (lv_sub hl [] rfl)
        · refine rIload_n C dM_cell_63 hl 3 rfl ?_
          refine lv_i2b C.1 C.2.1 dM_cell_64 rfl ?_
          refine lv_goto (tgt := 84) C.1 C.2.1 dM_cell_65 (by decide) ?_
          exact wM_cell_84 C hI h hG (lv_sub hl [] rfl)
      · refine lv_bipush (v := (-12)) C.1 C.2.1 dM_cell_41 (by decide) ?_
        exact rReti C hG h dM_cell_43
    · refine lv_bipush (v := (-11)) C.1 C.2.1 dM_cell_22 (by decide) ?_
      exact rReti C hG h dM_cell_24
  · refine lv_bipush (v := (-2)) C.1 C.2.1 dM_cell_9 (by decide) ?_
    exact rReti C hG h dM_cell_11
theorem dM_copy_0 : decode bM_copy 0 = .ok (.iload_n 1, 1) := by decide +kernel
theorem dM_copy_1 : decode bM_copy 1 = .ok (.iconst 0, 1) := by decide +kernel
theorem dM_copy_2 : decode bM_copy 2 = .ok (.iconst 3, 1) := by decide +kernel
theorem dM_copy_3 : decode bM_copy 3 = .ok (.invokestatic 81, 3) := by decide +kernel
theorem dM_copy_6 : decode bM_copy 6 = .ok (.ifCond .eq 12, 3) := by decide +kernel
theorem dM_copy_9 : decode bM_copy 9 = .ok (.iload_n 3, 1) := by decide +kernel
theorem dM_copy_10 : decode bM_copy 10 = .ok (.iconst 0, 1) := by decide +kernel
theorem dM_copy_11 : decode bM_copy 11 = .ok (.iconst 3, 1) := by decide +kernel
theorem dM_copy_12 : decode bM_copy 12 = .ok (.invokestatic 81, 3) := by decide +kernel
theorem dM_copy_15 : decode bM_copy 15 = .ok (.ifCond .ne 6, 3) := by decide +kernel
theorem dM_copy_18 : decode bM_copy 18 = .ok (.bipush (-2), 2) := by decide +kernel
theorem dM_copy_20 : decode bM_copy 20 = .ok (.ireturn, 1) := by decide +kernel
theorem dM_copy_21 : decode bM_copy 21 = .ok (.aload_n 0, 1) := by decide +kernel
theorem dM_copy_22 : decode bM_copy 22 = .ok (.getfield 37, 3) := by decide +kernel
theorem dM_copy_25 : decode bM_copy 25 = .ok (.iload_n 1, 1) := by decide +kernel
theorem dM_copy_26 : decode bM_copy 26 = .ok (.iaload, 1) := by decide +kernel
theorem dM_copy_27 : decode bM_copy 27 = .ok (.iconst (-1), 1) := by decide +kernel
theorem dM_copy_28 : decode bM_copy 28 = .ok (.if_icmp .eq 13, 3) := by decide +kernel
theorem dM_copy_31 : decode bM_copy 31 = .ok (.aload_n 0, 1) := by decide +kernel
theorem dM_copy_32 : decode bM_copy 32 = .ok (.getfield 37, 3) := by decide +kernel
theorem dM_copy_35 : decode bM_copy 35 = .ok (.iload_n 3, 1) := by decide +kernel
theorem dM_copy_36 : decode bM_copy 36 = .ok (.iaload, 1) := by decide +kernel
theorem dM_copy_37 : decode bM_copy 37 = .ok (.iconst (-1), 1) := by decide +kernel
theorem dM_copy_38 : decode bM_copy 38 = .ok (.if_icmp .ne 6, 3) := by decide +kernel
theorem dM_copy_41 : decode bM_copy 41 = .ok (.bipush (-11), 2) := by decide +kernel
theorem dM_copy_43 : decode bM_copy 43 = .ok (.ireturn, 1) := by decide +kernel
theorem dM_copy_44 : decode bM_copy 44 = .ok (.aload_n 0, 1) := by decide +kernel
theorem dM_copy_45 : decode bM_copy 45 = .ok (.getfield 37, 3) := by decide +kernel
theorem dM_copy_48 : decode bM_copy 48 = .ok (.iload_n 1, 1) := by decide +kernel
theorem dM_copy_49 : decode bM_copy 49 = .ok (.iaload, 1) := by decide +kernel
theorem dM_copy_50 : decode bM_copy 50 = .ok (.aload_n 0, 1) := by decide +kernel
theorem dM_copy_51 : decode bM_copy 51 = .ok (.getfield 37, 3) := by decide +kernel
theorem dM_copy_54 : decode bM_copy 54 = .ok (.iload_n 3, 1) := by decide +kernel
theorem dM_copy_55 : decode bM_copy 55 = .ok (.iaload, 1) := by decide +kernel
theorem dM_copy_56 : decode bM_copy 56 = .ok (.if_icmp .eq 6, 3) := by decide +kernel
theorem dM_copy_59 : decode bM_copy 59 = .ok (.bipush (-13), 2) := by decide +kernel
theorem dM_copy_61 : decode bM_copy 61 = .ok (.ireturn, 1) := by decide +kernel
theorem dM_copy_62 : decode bM_copy 62 = .ok (.iload 5, 2) := by decide +kernel
theorem dM_copy_64 : decode bM_copy 64 = .ok (.ifCond .lt 60, 3) := by decide +kernel
theorem dM_copy_67 : decode bM_copy 67 = .ok (.iload_n 2, 1) := by decide +kernel
theorem dM_copy_68 : decode bM_copy 68 = .ok (.ifCond .lt 56, 3) := by decide +kernel
theorem dM_copy_71 : decode bM_copy 71 = .ok (.iload 4, 2) := by decide +kernel
theorem dM_copy_73 : decode bM_copy 73 = .ok (.ifCond .lt 51, 3) := by decide +kernel
theorem dM_copy_76 : decode bM_copy 76 = .ok (.iload_n 2, 1) := by decide +kernel
theorem dM_copy_77 : decode bM_copy 77 = .ok (.aload_n 0, 1) := by decide +kernel
theorem dM_copy_78 : decode bM_copy 78 = .ok (.getfield 40, 3) := by decide +kernel
theorem dM_copy_81 : decode bM_copy 81 = .ok (.iload_n 1, 1) := by decide +kernel
theorem dM_copy_82 : decode bM_copy 82 = .ok (.iaload, 1) := by decide +kernel
theorem dM_copy_83 : decode bM_copy 83 = .ok (.if_icmp .gt 41, 3) := by decide +kernel
theorem dM_copy_86 : decode bM_copy 86 = .ok (.iload 4, 2) := by decide +kernel
theorem dM_copy_88 : decode bM_copy 88 = .ok (.aload_n 0, 1) := by decide +kernel
theorem dM_copy_89 : decode bM_copy 89 = .ok (.getfield 40, 3) := by decide +kernel
theorem dM_copy_92 : decode bM_copy 92 = .ok (.iload_n 3, 1) := by decide +kernel
theorem dM_copy_93 : decode bM_copy 93 = .ok (.iaload, 1) := by decide +kernel
theorem dM_copy_94 : decode bM_copy 94 = .ok (.if_icmp .gt 30, 3) := by decide +kernel
theorem dM_copy_97 : decode bM_copy 97 = .ok (.iload 5, 2) := by decide +kernel
theorem dM_copy_99 : decode bM_copy 99 = .ok (.aload_n 0, 1) := by decide +kernel
theorem dM_copy_100 : decode bM_copy 100 = .ok (.getfield 40, 3) := by decide +kernel
theorem dM_copy_103 : decode bM_copy 103 = .ok (.iload_n 1, 1) := by decide +kernel
theorem dM_copy_104 : decode bM_copy 104 = .ok (.iaload, 1) := by decide +kernel
theorem dM_copy_105 : decode bM_copy 105 = .ok (.iload_n 2, 1) := by decide +kernel
theorem dM_copy_106 : decode bM_copy 106 = .ok (.isub, 1) := by decide +kernel
theorem dM_copy_107 : decode bM_copy 107 = .ok (.if_icmp .gt 17, 3) := by decide +kernel
theorem dM_copy_110 : decode bM_copy 110 = .ok (.iload 5, 2) := by decide +kernel
theorem dM_copy_112 : decode bM_copy 112 = .ok (.aload_n 0, 1) := by decide +kernel
theorem dM_copy_113 : decode bM_copy 113 = .ok (.getfield 40, 3) := by decide +kernel
theorem dM_copy_116 : decode bM_copy 116 = .ok (.iload_n 3, 1) := by decide +kernel
theorem dM_copy_117 : decode bM_copy 117 = .ok (.iaload, 1) := by decide +kernel
theorem dM_copy_118 : decode bM_copy 118 = .ok (.iload 4, 2) := by decide +kernel
theorem dM_copy_120 : decode bM_copy 120 = .ok (.isub, 1) := by decide +kernel
theorem dM_copy_121 : decode bM_copy 121 = .ok (.if_icmp .le 6, 3) := by decide +kernel
theorem dM_copy_124 : decode bM_copy 124 = .ok (.bipush (-12), 2) := by decide +kernel
theorem dM_copy_126 : decode bM_copy 126 = .ok (.ireturn, 1) := by decide +kernel
theorem dM_copy_127 : decode bM_copy 127 = .ok (.bipush 40, 2) := by decide +kernel
theorem dM_copy_129 : decode bM_copy 129 = .ok (.iload_n 1, 1) := by decide +kernel
theorem dM_copy_130 : decode bM_copy 130 = .ok (.imul, 1) := by decide +kernel
theorem dM_copy_131 : decode bM_copy 131 = .ok (.iload_n 2, 1) := by decide +kernel
theorem dM_copy_132 : decode bM_copy 132 = .ok (.iadd, 1) := by decide +kernel
theorem dM_copy_133 : decode bM_copy 133 = .ok (.istore 6, 2) := by decide +kernel
theorem dM_copy_135 : decode bM_copy 135 = .ok (.bipush 40, 2) := by decide +kernel
theorem dM_copy_137 : decode bM_copy 137 = .ok (.iload_n 3, 1) := by decide +kernel
theorem dM_copy_138 : decode bM_copy 138 = .ok (.imul, 1) := by decide +kernel
theorem dM_copy_139 : decode bM_copy 139 = .ok (.iload 4, 2) := by decide +kernel
theorem dM_copy_141 : decode bM_copy 141 = .ok (.iadd, 1) := by decide +kernel
theorem dM_copy_142 : decode bM_copy 142 = .ok (.istore 7, 2) := by decide +kernel
theorem dM_copy_144 : decode bM_copy 144 = .ok (.iconst 0, 1) := by decide +kernel
theorem dM_copy_145 : decode bM_copy 145 = .ok (.istore 8, 2) := by decide +kernel
theorem dM_copy_147 : decode bM_copy 147 = .ok (.iload 8, 2) := by decide +kernel
theorem dM_copy_149 : decode bM_copy 149 = .ok (.iload 5, 2) := by decide +kernel
theorem dM_copy_151 : decode bM_copy 151 = .ok (.if_icmp .ge 50, 3) := by decide +kernel
theorem dM_copy_154 : decode bM_copy 154 = .ok (.iload 6, 2) := by decide +kernel
theorem dM_copy_156 : decode bM_copy 156 = .ok (.iload 7, 2) := by decide +kernel
theorem dM_copy_158 : decode bM_copy 158 = .ok (.if_icmp .ge 13, 3) := by decide +kernel
theorem dM_copy_161 : decode bM_copy 161 = .ok (.iload 5, 2) := by decide +kernel
theorem dM_copy_163 : decode bM_copy 163 = .ok (.iconst 1, 1) := by decide +kernel
theorem dM_copy_164 : decode bM_copy 164 = .ok (.isub, 1) := by decide +kernel
theorem dM_copy_165 : decode bM_copy 165 = .ok (.iload 8, 2) := by decide +kernel
theorem dM_copy_167 : decode bM_copy 167 = .ok (.isub, 1) := by decide +kernel
theorem dM_copy_168 : decode bM_copy 168 = .ok (.goto 5, 3) := by decide +kernel
theorem dM_copy_171 : decode bM_copy 171 = .ok (.iload 8, 2) := by decide +kernel
theorem dM_copy_173 : decode bM_copy 173 = .ok (.istore 9, 2) := by decide +kernel
theorem dM_copy_175 : decode bM_copy 175 = .ok (.aload_n 0, 1) := by decide +kernel
theorem dM_copy_176 : decode bM_copy 176 = .ok (.getfield 43, 3) := by decide +kernel
theorem dM_copy_179 : decode bM_copy 179 = .ok (.iload 7, 2) := by decide +kernel
theorem dM_copy_181 : decode bM_copy 181 = .ok (.iload 9, 2) := by decide +kernel
theorem dM_copy_183 : decode bM_copy 183 = .ok (.iadd, 1) := by decide +kernel
theorem dM_copy_184 : decode bM_copy 184 = .ok (.aload_n 0, 1) := by decide +kernel
theorem dM_copy_185 : decode bM_copy 185 = .ok (.getfield 43, 3) := by decide +kernel
theorem dM_copy_188 : decode bM_copy 188 = .ok (.iload 6, 2) := by decide +kernel
theorem dM_copy_190 : decode bM_copy 190 = .ok (.iload 9, 2) := by decide +kernel
theorem dM_copy_192 : decode bM_copy 192 = .ok (.iadd, 1) := by decide +kernel
theorem dM_copy_193 : decode bM_copy 193 = .ok (.iaload, 1) := by decide +kernel
theorem dM_copy_194 : decode bM_copy 194 = .ok (.iastore, 1) := by decide +kernel
theorem dM_copy_195 : decode bM_copy 195 = .ok (.iinc 8 1, 3) := by decide +kernel
theorem dM_copy_198 : decode bM_copy 198 = .ok (.goto (-51), 3) := by decide +kernel
theorem dM_copy_201 : decode bM_copy 201 = .ok (.iload 5, 2) := by decide +kernel
theorem dM_copy_203 : decode bM_copy 203 = .ok (.ireturn, 1) := by decide +kernel
theorem wM_copy_173 {p : Program} {l : Launch} {e : Env} {s : State} {m : MethodId} {args : Array Value} {below : List Frame} {meth : Method} {c : Code} {G : GT} {I : List Nat} (C : CX p s m args meth c NM bM_copy 10 (some .int) G I) (hI : mI I) {fu : Nat} {R1 : Int32} {Z : Sg} {rc147 : Int32 → Int32 → Int32 → Int32 → Sg → Option (Int32 × Sg)} (hr147 : ∀ {v5 : Int32} {v6 : Int32} {v7 : Int32} {v8 : Int32} {z : Sg} {H : Heap} {locs : List Loc} {ls : Array Slot}, rc147 v5 v6 v7 v8 z = some (R1, Z) → GW G I z s.heap H locs → lv_has ls 10 [(0, .ref (gA G 78)), (5, .int v5), (6, .int v6), (7, .int v7), (8, .int v8)] → W p l e rmM_copy s m args below meth c H locs 0 0 (MQ below (Qi G I R1 Z) args s 0 0 (AD G I)) (F0 m 147 ls [])) {v5 : Int32} {v6 : Int32} {v7 : Int32} {v8 : Int32} {t0 : Int32} {z : Sg} {H : Heap} {locs : List Loc} {ls : Array Slot} (h : pM_copy_173 fu rc147 v5 v6 v7 v8 t0 z = some (R1, Z)) (hG : GW G I z s.heap H locs) (hl : lv_has ls 10 [(0, .ref (gA G 78)), (5, .int v5), (6, .int v6), (7, .int v7), (8, .int v8)]) : W p l e rmM_copy s m args below meth c H locs 0 0 (MQ below (Qi G I R1 Z) args s 0 0 (AD G I)) (F0 m 173 ls [.int t0]) := by
  unfold pM_copy_173 at h
  refine rIstoreA C dM_copy_173 hl (by decide) [(0, .ref (gA G 78)), (5, .int v5), (6, .int v6), (7, .int v7), (8, .int v8)] rfl (fun ls hl => ?_)
  refine rAload_n C dM_copy_175 hl 1 rfl ?_
  refine rGet C hG (hI 78 (by decide) (by decide)) e_78 fiM_16 (v := .ref (gA G 90)) rfl k_822 dM_copy_176 ?_
  refine rIload C dM_copy_179 hl 4 rfl ?_
  refine rIload C dM_copy_181 hl 0 rfl ?_
  refine lv_iadd C.1 C.2.1 dM_copy_183 ?_
  refine rAload_n C dM_copy_184 hl 1 rfl ?_
  refine rGet C hG (hI 78 (by decide) (by decide)) e_78 fiM_16 (v := .ref (gA G 90)) rfl k_822 dM_copy_185 ?_
  refine rIload C dM_copy_188 hl 3 rfl ?_
  refine rIload C dM_copy_190 hl 0 rfl ?_
  refine lv_iadd C.1 C.2.1 dM_copy_192 ?_
  refine rIald C hG (hI 90 (by decide) (by decide)) e_90 h dM_copy_193 (fun h => ?_)
  refine rIast C hG (hI 90 (by decide) (by decide)) e_90 h dM_copy_194 (fun H locs z7 h hG => ?_)
  refine rIinc C dM_copy_195 hl 5 rfl (d := 1) (by decide) h (by decide) [(9, .int t0), (0, .ref (gA G 78)), (5, .int v5), (6, .int v6), (7, .int v7)] rfl (fun x8 ls h hl => ?_)
  refine lv_goto (tgt := 147) C.1 C.2.1 dM_copy_198 (by decide) ?_
  exact hr147 h hG (lv_sub hl [2, 3, 4, 5, 0] rfl)
theorem wM_copy_147 {p : Program} {l : Launch} {e : Env} {s : State} {m : MethodId} {args : Array Value} {below : List Frame} {meth : Method} {c : Code} {G : GT} {I : List Nat} (C : CX p s m args meth c NM bM_copy 10 (some .int) G I) (hI : mI I) {fu : Nat} {R1 : Int32} {Z : Sg} : ∀ (k : Nat) {v5 : Int32} {v6 : Int32} {v7 : Int32} {v8 : Int32} {z : Sg} {H : Heap} {locs : List Loc} {ls : Array Slot}, pM_copy_147 fu k v5 v6 v7 v8 z = some (R1, Z) → GW G I z s.heap H locs → lv_has ls 10 [(0, .ref (gA G 78)), (5, .int v5), (6, .int v6), (7, .int v7), (8, .int v8)] → W p l e rmM_copy s m args below meth c H locs 0 0 (MQ below (Qi G I R1 Z) args s 0 0 (AD G I)) (F0 m 147 ls []) := by
  intro k
  induction k with
  | zero => intro v5 v6 v7 v8 z H locs ls h hG hl; rw [pM_copy_147] at h; cases h
  | succ k ih =>
    intro v5 v6 v7 v8 z H locs ls h hG hl
    rw [pM_copy_147] at h
    refine rIload C dM_copy_147 hl 4 rfl ?_
    refine rIload C dM_copy_149 hl 1 rfl ?_
    refine rIcmpge C (tgt := 201) h dM_copy_151 (by decide) (fun h => ?_) (fun h => ?_)
    · refine rIload C dM_copy_201 hl 1 rfl ?_
      exact rReti C hG h dM_copy_203
    · refine rIload C dM_copy_154 hl 2 rfl ?_
      refine rIload C dM_copy_156 hl 3 rfl ?_
      refine rIcmpge C (tgt := 171) h dM_copy_158 (by decide) (fun h => ?_) (fun h => ?_)
      · refine rIload C dM_copy_171 hl 4 rfl ?_
        exact wM_copy_173 C hI ih h hG (lv_sub hl [0, 1, 2, 3, 4] rfl)
      · refine rIload C dM_copy_161 hl 1 rfl ?_
        refine lv_iconst (v := 1) C.1 C.2.1 dM_copy_163 (by decide) ?_
        refine lv_isub C.1 C.2.1 dM_copy_164 ?_
        refine rIload C dM_copy_165 hl 4 rfl ?_
        refine lv_isub C.1 C.2.1 dM_copy_167 ?_
        refine lv_goto (tgt := 173) C.1 C.2.1 dM_copy_168 (by decide) ?_
        exact wM_copy_173 C hI ih h hG (lv_sub hl [0, 1, 2, 3, 4] rfl)
theorem cM_copy {l : Launch} {G : GT} {I : List Nat} (hI : mI I) {fu : Nat} {v1 : Int32} {v2 : Int32} {v3 : Int32} {v4 : Int32} {v5 : Int32} {z : Sg} {R1 : Int32} {Z : Sg} (h : pM_copy fu v1 v2 v3 v4 v5 z = some (R1, Z)) : Mt l yM_copy rmM_copy bM_copy 10 (some .int) G I z [.ref (gA G 78), .int v1, .int v2, .int v3, .int v4, .int v5] (Qi G I R1 Z) := by
  refine entM (by decide +kernel) (Nat.le_of_ble_eq_true rfl) ?_
  intro p e s m below meth c C hG ls hl
  have hl : lv_has ls 10 [(0, .ref (gA G 78)), (1, .int v1), (2, .int v2), (3, .int v3), (4, .int v4), (5, .int v5)] := hl
  unfold pM_copy at h
  refine rIload_n C dM_copy_0 hl 1 rfl ?_
  refine lv_iconst (v := 0) C.1 C.2.1 dM_copy_1 (by decide) ?_
  refine lv_iconst (v := 3) C.1 C.2.1 dM_copy_2 (by decide) ?_
  refine rCSi [.int v1, .int 0, .int 3] [] C hG h (fun h => cM_in hI h) mvM_in k_767 ⟨Nat.le_of_ble_eq_true rfl, Nat.le_of_ble_eq_true rfl⟩ ⟨rfl, rfl⟩ rfl hl.1 (Nat.le_of_ble_eq_true rfl) dM_copy_3 ⟨Nat.zero_le _, Nat.zero_le _⟩ rfl (fun H locs x2 z1 h hG => ?_)
  refine rIfeq C (tgt := 18) h dM_copy_6 (by decide) (fun h => ?_) (fun h => ?_)
  · refine lv_bipush (v := (-2)) C.1 C.2.1 dM_copy_18 (by decide) ?_
    exact rReti C hG h dM_copy_20
  · refine rIload_n C dM_copy_9 hl 3 rfl ?_
    refine lv_iconst (v := 0) C.1 C.2.1 dM_copy_10 (by decide) ?_
    refine lv_iconst (v := 3) C.1 C.2.1 dM_copy_11 (by decide) ?_
    refine rCSi [.int v3, .int 0, .int 3] [] C hG h (fun h => cM_in hI h) mvM_in k_767 ⟨Nat.le_of_ble_eq_true rfl, Nat.le_of_ble_eq_true rfl⟩ ⟨rfl, rfl⟩ rfl hl.1 (Nat.le_of_ble_eq_true rfl) dM_copy_12 ⟨Nat.zero_le _, Nat.zero_le _⟩ rfl (fun H locs x4 z3 h hG => ?_)
    refine rIfne C (tgt := 21) h dM_copy_15 (by decide) (fun h => ?_) (fun h => ?_)
    · refine rAload_n C dM_copy_21 hl 0 rfl ?_
      refine rGet C hG (hI 78 (by decide) (by decide)) e_78 fiM_14 (v := .ref (gA G 88)) rfl k_820 dM_copy_22 ?_
      refine rIload_n C dM_copy_25 hl 1 rfl ?_
      refine rIald C hG (hI 88 (by decide) (by decide)) e_88 h dM_copy_26 (fun h => ?_)
      refine lv_iconst (v := (-1)) C.1 C.2.1 dM_copy_27 (by decide) ?_
      refine rIcmpeq C (tgt := 41) h dM_copy_28 (by decide) (fun h => ?_) (fun h => ?_)
      · refine lv_bipush (v := (-11)) C.1 C.2.1 dM_copy_41 (by decide) ?_
        exact rReti C hG h dM_copy_43
      · refine rAload_n C dM_copy_31 hl 0 rfl ?_
        refine rGet C hG (hI 78 (by decide) (by decide)) e_78 fiM_14 (v := .ref (gA G 88)) rfl k_820 dM_copy_32 ?_
        refine rIload_n C dM_copy_35 hl 3 rfl ?_
        refine rIald C hG (hI 88 (by decide) (by decide)) e_88 h dM_copy_36 (fun h => ?_)
        refine lv_iconst (v := (-1)) C.1 C.2.1 dM_copy_37 (by decide) ?_
        refine rIcmpne C (tgt := 44) h dM_copy_38 (by decide) (fun h => ?_) (fun h => ?_)
        · refine rAload_n C dM_copy_44 hl 0 rfl ?_
          refine rGet C hG (hI 78 (by decide) (by decide)) e_78 fiM_14 (v := .ref (gA G 88)) rfl k_820 dM_copy_45 ?_
          refine rIload_n C dM_copy_48 hl 1 rfl ?_
          refine rIald C hG (hI 88 (by decide) (by decide)) e_88 h dM_copy_49 (fun h => ?_)
          refine rAload_n C dM_copy_50 hl 0 rfl ?_
          refine rGet C hG (hI 78 (by decide) (by decide)) e_78 fiM_14 (v := .ref (gA G 88)) rfl k_820 dM_copy_51 ?_
          refine rIload_n C dM_copy_54 hl 3 rfl ?_
          refine rIald C hG (hI 88 (by decide) (by decide)) e_88 h dM_copy_55 (fun h => ?_)
          refine rIcmpeq C (tgt := 62) h dM_copy_56 (by decide) (fun h => ?_) (fun h => ?_)
          · refine rIload C dM_copy_62 hl 5 rfl ?_
            refine rIflt C (tgt := 124) h dM_copy_64 (by decide) (fun h => ?_) (fun h => ?_)
            · refine lv_bipush (v := (-12)) C.1 C.2.1 dM_copy_124 (by decide) ?_
              exact rReti C hG h dM_copy_126
            · refine rIload_n C dM_copy_67 hl 2 rfl ?_
              refine rIflt C (tgt := 124) h dM_copy_68 (by decide) (fun h => ?_) (fun h => ?_)
              · refine lv_bipush (v := (-12)) C.1 C.2.1 dM_copy_124 (by decide) ?_
                exact rReti C hG h dM_copy_126
              · refine rIload C dM_copy_71 hl 4 rfl ?_
                refine rIflt C (tgt := 124) h dM_copy_73 (by decide) (fun h => ?_) (fun h => ?_)
                · refine lv_bipush (v := (-12)) C.1 C.2.1 dM_copy_124 (by decide) ?_
                  exact rReti C hG h dM_copy_126
                · refine rIload_n C dM_copy_76 hl 2 rfl ?_
                  refine rAload_n C dM_copy_77 hl 0 rfl ?_
                  refine rGet C hG (hI 78 (by decide) (by decide)) e_78 fiM_15 (v := .ref (gA G 89)) rfl k_821 dM_copy_78 ?_
                  refine rIload_n C dM_copy_81 hl 1 rfl ?_
                  refine rIald C hG (hI 89 (by decide) (by decide)) e_89 h dM_copy_82 (fun h => ?_)
                  refine rIcmpgt C (tgt := 124) h dM_copy_83 (by decide) (fun h => ?_) (fun h => ?_)
                  · refine lv_bipush (v := (-12)) C.1 C.2.1 dM_copy_124 (by decide) ?_
                    exact rReti C hG h dM_copy_126
                  · refine rIload C dM_copy_86 hl 4 rfl ?_
                    refine rAload_n C dM_copy_88 hl 0 rfl ?_
                    refine rGet C hG (hI 78 (by decide) (by decide)) e_78 fiM_15 (v := .ref (gA G 89)) rfl k_821 dM_copy_89 ?_
                    refine rIload_n C dM_copy_92 hl 3 rfl ?_
                    refine rIald C hG (hI 89 (by decide) (by decide)) e_89 h dM_copy_93 (fun h => ?_)
                    refine rIcmpgt C (tgt := 124) h dM_copy_94 (by decide) (fun h => ?_) (fun h => ?_)
                    · refine lv_bipush (v := (-12)) C.1 C.2.1 dM_copy_124 (by decide) ?_
                      exact rReti C hG h dM_copy_126
                    · refine rIload C dM_copy_97 hl 5 rfl ?_
                      refine rAload_n C dM_copy_99 hl 0 rfl ?_
                      refine rGet C hG (hI 78 (by decide) (by decide)) e_78 fiM_15 (v := .ref (gA G 89)) rfl k_821 dM_copy_100 ?_
                      refine rIload_n C dM_copy_103 hl 1 rfl ?_
                      refine rIald C hG (hI 89 (by decide) (by decide)) e_89 h dM_copy_104 (fun h => ?_)
                      refine rIload_n C dM_copy_105 hl 2 rfl ?_
                      refine lv_isub C.1 C.2.1 dM_copy_106 ?_
                      refine rIcmpgt C (tgt := 124) h dM_copy_107 (by decide) (fun h => ?_) (fun h => ?_)
                      · refine lv_bipush (v := (-12)) C.1 C.2.1 dM_copy_124 (by decide) ?_
                        exact rReti C hG h dM_copy_126
                      · refine rIload C dM_copy_110 hl 5 rfl ?_
                        refine rAload_n C dM_copy_112 hl 0 rfl ?_
                        refine rGet C hG (hI 78 (by decide) (by decide)) e_78 fiM_15 (v := .ref (gA G 89)) rfl k_821 dM_copy_113 ?_
                        refine rIload_n C dM_copy_116 hl 3 rfl ?_
                        refine rIald C hG (hI 89 (by decide) (by decide)) e_89 h dM_copy_117 (fun h => ?_)
                        refine rIload C dM_copy_118 hl 4 rfl ?_
                        refine lv_isub C.1 C.2.1 dM_copy_120 ?_
                        refine rIcmple C (tgt := 127) h dM_copy_121 (by decide) (fun h => ?_) (fun h => ?_)
                        · refine lv_bipush (v := 40) C.1 C.2.1 dM_copy_127 (by decide) ?_
                          refine rIload_n C dM_copy_129 hl 1 rfl ?_
                          refine lv_imul C.1 C.2.1 dM_copy_130 ?_
                          refine rIload_n C dM_copy_131 hl 2 rfl ?_
                          refine lv_iadd C.1 C.2.1 dM_copy_132 ?_
                          refine rIstore C dM_copy_133 hl h (by decide) [(0, .ref (gA G 78)), (1, .int v1), (2, .int v2), (3, .int v3), (4, .int v4), (5, .int v5)] rfl (fun x5 ls h hl => ?_)
                          refine lv_bipush (v := 40) C.1 C.2.1 dM_copy_135 (by decide) ?_
                          refine rIload_n C dM_copy_137 hl 4 rfl ?_
                          refine lv_imul C.1 C.2.1 dM_copy_138 ?_
                          refine rIload C dM_copy_139 hl 5 rfl ?_
                          refine lv_iadd C.1 C.2.1 dM_copy_141 ?_
                          refine rIstore C dM_copy_142 hl h (by decide) [(6, .int x5), (0, .ref (gA G 78)), (1, .int v1), (2, .int v2), (3, .int v3), (4, .int v4), (5, .int v5)] rfl (fun x6 ls h hl => ?_)
                          refine lv_iconst (v := 0) C.1 C.2.1 dM_copy_144 (by decide) ?_
                          refine rIstoreA C dM_copy_145 hl (by decide) [(7, .int x6), (6, .int x5), (0, .ref (gA G 78)), (1, .int v1), (2, .int v2), (3, .int v3), (4, .int v4), (5, .int v5)] rfl (fun ls hl => ?_)
                          exact wM_copy_147 C hI _ h hG (lv_sub hl [3, 8, 2, 1, 0] rfl)
                        · refine lv_bipush (v := (-12)) C.1 C.2.1 dM_copy_124 (by decide) ?_
                          exact rReti C hG h dM_copy_126
          · refine lv_bipush (v := (-13)) C.1 C.2.1 dM_copy_59 (by decide) ?_
            exact rReti C hG h dM_copy_61
        · refine lv_bipush (v := (-11)) C.1 C.2.1 dM_copy_41 (by decide) ?_
          exact rReti C hG h dM_copy_43
    · refine lv_bipush (v := (-2)) C.1 C.2.1 dM_copy_18 (by decide) ?_
      exact rReti C hG h dM_copy_20
theorem dM_mowersBy_0 : decode bM_mowersBy 0 = .ok (.iload_n 1, 1) := by decide +kernel
theorem dM_mowersBy_1 : decode bM_mowersBy 1 = .ok (.iconst 0, 1) := by decide +kernel
theorem dM_mowersBy_2 : decode bM_mowersBy 2 = .ok (.iconst 3, 1) := by decide +kernel
theorem dM_mowersBy_3 : decode bM_mowersBy 3 = .ok (.invokestatic 81, 3) := by decide +kernel
theorem dM_mowersBy_6 : decode bM_mowersBy 6 = .ok (.ifCond .eq 23, 3) := by decide +kernel
theorem dM_mowersBy_9 : decode bM_mowersBy 9 = .ok (.iload_n 2, 1) := by decide +kernel
theorem dM_mowersBy_10 : decode bM_mowersBy 10 = .ok (.iconst 0, 1) := by decide +kernel
theorem dM_mowersBy_11 : decode bM_mowersBy 11 = .ok (.iconst 2, 1) := by decide +kernel
theorem dM_mowersBy_12 : decode bM_mowersBy 12 = .ok (.invokestatic 81, 3) := by decide +kernel
theorem dM_mowersBy_15 : decode bM_mowersBy 15 = .ok (.ifCond .eq 14, 3) := by decide +kernel
theorem dM_mowersBy_18 : decode bM_mowersBy 18 = .ok (.iload 4, 2) := by decide +kernel
theorem dM_mowersBy_20 : decode bM_mowersBy 20 = .ok (.iconst 0, 1) := by decide +kernel
theorem dM_mowersBy_21 : decode bM_mowersBy 21 = .ok (.bipush 6, 2) := by decide +kernel
theorem dM_mowersBy_23 : decode bM_mowersBy 23 = .ok (.invokestatic 81, 3) := by decide +kernel
theorem dM_mowersBy_26 : decode bM_mowersBy 26 = .ok (.ifCond .ne 6, 3) := by decide +kernel
theorem dM_mowersBy_29 : decode bM_mowersBy 29 = .ok (.bipush (-2), 2) := by decide +kernel
theorem dM_mowersBy_31 : decode bM_mowersBy 31 = .ok (.ireturn, 1) := by decide +kernel
theorem dM_mowersBy_32 : decode bM_mowersBy 32 = .ok (.aload_n 0, 1) := by decide +kernel
theorem dM_mowersBy_33 : decode bM_mowersBy 33 = .ok (.getfield 37, 3) := by decide +kernel
theorem dM_mowersBy_36 : decode bM_mowersBy 36 = .ok (.iload_n 1, 1) := by decide +kernel
theorem dM_mowersBy_37 : decode bM_mowersBy 37 = .ok (.iaload, 1) := by decide +kernel
theorem dM_mowersBy_38 : decode bM_mowersBy 38 = .ok (.iconst (-1), 1) := by decide +kernel
theorem dM_mowersBy_39 : decode bM_mowersBy 39 = .ok (.if_icmp .ne 6, 3) := by decide +kernel
theorem dM_mowersBy_42 : decode bM_mowersBy 42 = .ok (.bipush (-11), 2) := by decide +kernel
theorem dM_mowersBy_44 : decode bM_mowersBy 44 = .ok (.ireturn, 1) := by decide +kernel
theorem dM_mowersBy_45 : decode bM_mowersBy 45 = .ok (.aload_n 0, 1) := by decide +kernel
theorem dM_mowersBy_46 : decode bM_mowersBy 46 = .ok (.getfield 37, 3) := by decide +kernel
theorem dM_mowersBy_49 : decode bM_mowersBy 49 = .ok (.iload_n 1, 1) := by decide +kernel
theorem dM_mowersBy_50 : decode bM_mowersBy 50 = .ok (.iaload, 1) := by decide +kernel
theorem dM_mowersBy_51 : decode bM_mowersBy 51 = .ok (.iload_n 2, 1) := by decide +kernel
theorem dM_mowersBy_52 : decode bM_mowersBy 52 = .ok (.if_icmp .eq 6, 3) := by decide +kernel
theorem dM_mowersBy_55 : decode bM_mowersBy 55 = .ok (.bipush (-13), 2) := by decide +kernel
theorem dM_mowersBy_57 : decode bM_mowersBy 57 = .ok (.ireturn, 1) := by decide +kernel
theorem dM_mowersBy_58 : decode bM_mowersBy 58 = .ok (.iconst 0, 1) := by decide +kernel
theorem dM_mowersBy_59 : decode bM_mowersBy 59 = .ok (.istore 5, 2) := by decide +kernel
theorem dM_mowersBy_61 : decode bM_mowersBy 61 = .ok (.iconst 0, 1) := by decide +kernel
theorem dM_mowersBy_62 : decode bM_mowersBy 62 = .ok (.istore 6, 2) := by decide +kernel
theorem dM_mowersBy_64 : decode bM_mowersBy 64 = .ok (.iload 6, 2) := by decide +kernel
theorem dM_mowersBy_66 : decode bM_mowersBy 66 = .ok (.iload 4, 2) := by decide +kernel
theorem dM_mowersBy_68 : decode bM_mowersBy 68 = .ok (.if_icmp .ge 85, 3) := by decide +kernel
theorem dM_mowersBy_71 : decode bM_mowersBy 71 = .ok (.iload_n 3, 1) := by decide +kernel
theorem dM_mowersBy_72 : decode bM_mowersBy 72 = .ok (.iconst 2, 1) := by decide +kernel
theorem dM_mowersBy_73 : decode bM_mowersBy 73 = .ok (.iload 6, 2) := by decide +kernel
theorem dM_mowersBy_75 : decode bM_mowersBy 75 = .ok (.imul, 1) := by decide +kernel
theorem dM_mowersBy_76 : decode bM_mowersBy 76 = .ok (.iadd, 1) := by decide +kernel
theorem dM_mowersBy_77 : decode bM_mowersBy 77 = .ok (.istore 7, 2) := by decide +kernel
theorem dM_mowersBy_79 : decode bM_mowersBy 79 = .ok (.iload_n 3, 1) := by decide +kernel
theorem dM_mowersBy_80 : decode bM_mowersBy 80 = .ok (.ifCond .lt 22, 3) := by decide +kernel
theorem dM_mowersBy_83 : decode bM_mowersBy 83 = .ok (.iload 7, 2) := by decide +kernel
theorem dM_mowersBy_85 : decode bM_mowersBy 85 = .ok (.iload_n 3, 1) := by decide +kernel
theorem dM_mowersBy_86 : decode bM_mowersBy 86 = .ok (.if_icmp .lt 16, 3) := by decide +kernel
theorem dM_mowersBy_89 : decode bM_mowersBy 89 = .ok (.iload 7, 2) := by decide +kernel
theorem dM_mowersBy_91 : decode bM_mowersBy 91 = .ok (.aload_n 0, 1) := by decide +kernel
theorem dM_mowersBy_92 : decode bM_mowersBy 92 = .ok (.getfield 40, 3) := by decide +kernel
theorem dM_mowersBy_95 : decode bM_mowersBy 95 = .ok (.iload_n 1, 1) := by decide +kernel
theorem dM_mowersBy_96 : decode bM_mowersBy 96 = .ok (.iaload, 1) := by decide +kernel
theorem dM_mowersBy_97 : decode bM_mowersBy 97 = .ok (.iconst 2, 1) := by decide +kernel
theorem dM_mowersBy_98 : decode bM_mowersBy 98 = .ok (.isub, 1) := by decide +kernel
theorem dM_mowersBy_99 : decode bM_mowersBy 99 = .ok (.if_icmp .le 6, 3) := by decide +kernel
theorem dM_mowersBy_102 : decode bM_mowersBy 102 = .ok (.bipush (-12), 2) := by decide +kernel
theorem dM_mowersBy_104 : decode bM_mowersBy 104 = .ok (.ireturn, 1) := by decide +kernel
theorem dM_mowersBy_105 : decode bM_mowersBy 105 = .ok (.bipush 40, 2) := by decide +kernel
theorem dM_mowersBy_107 : decode bM_mowersBy 107 = .ok (.iload_n 1, 1) := by decide +kernel
theorem dM_mowersBy_108 : decode bM_mowersBy 108 = .ok (.imul, 1) := by decide +kernel
theorem dM_mowersBy_109 : decode bM_mowersBy 109 = .ok (.iload 7, 2) := by decide +kernel
theorem dM_mowersBy_111 : decode bM_mowersBy 111 = .ok (.iadd, 1) := by decide +kernel
theorem dM_mowersBy_112 : decode bM_mowersBy 112 = .ok (.istore 8, 2) := by decide +kernel
theorem dM_mowersBy_114 : decode bM_mowersBy 114 = .ok (.iload 5, 2) := by decide +kernel
theorem dM_mowersBy_116 : decode bM_mowersBy 116 = .ok (.aload_n 0, 1) := by decide +kernel
theorem dM_mowersBy_117 : decode bM_mowersBy 117 = .ok (.aload_n 0, 1) := by decide +kernel
theorem dM_mowersBy_118 : decode bM_mowersBy 118 = .ok (.getfield 43, 3) := by decide +kernel
theorem dM_mowersBy_121 : decode bM_mowersBy 121 = .ok (.iload 8, 2) := by decide +kernel
theorem dM_mowersBy_123 : decode bM_mowersBy 123 = .ok (.iaload, 1) := by decide +kernel
theorem dM_mowersBy_124 : decode bM_mowersBy 124 = .ok (.aload_n 0, 1) := by decide +kernel
theorem dM_mowersBy_125 : decode bM_mowersBy 125 = .ok (.getfield 43, 3) := by decide +kernel
theorem dM_mowersBy_128 : decode bM_mowersBy 128 = .ok (.iload 8, 2) := by decide +kernel
theorem dM_mowersBy_130 : decode bM_mowersBy 130 = .ok (.iconst 1, 1) := by decide +kernel
theorem dM_mowersBy_131 : decode bM_mowersBy 131 = .ok (.iadd, 1) := by decide +kernel
theorem dM_mowersBy_132 : decode bM_mowersBy 132 = .ok (.iaload, 1) := by decide +kernel
theorem dM_mowersBy_133 : decode bM_mowersBy 133 = .ok (.invokevirtual 280, 3) := by decide +kernel
theorem dM_mowersBy_136 : decode bM_mowersBy 136 = .ok (.ifCond .lt 7, 3) := by decide +kernel
theorem dM_mowersBy_139 : decode bM_mowersBy 139 = .ok (.iconst 1, 1) := by decide +kernel
theorem dM_mowersBy_140 : decode bM_mowersBy 140 = .ok (.goto 4, 3) := by decide +kernel
theorem dM_mowersBy_143 : decode bM_mowersBy 143 = .ok (.iconst 0, 1) := by decide +kernel
theorem dM_mowersBy_144 : decode bM_mowersBy 144 = .ok (.iadd, 1) := by decide +kernel
theorem dM_mowersBy_145 : decode bM_mowersBy 145 = .ok (.istore 5, 2) := by decide +kernel
theorem dM_mowersBy_147 : decode bM_mowersBy 147 = .ok (.iinc 6 1, 3) := by decide +kernel
theorem dM_mowersBy_150 : decode bM_mowersBy 150 = .ok (.goto (-86), 3) := by decide +kernel
theorem dM_mowersBy_153 : decode bM_mowersBy 153 = .ok (.iload 5, 2) := by decide +kernel
theorem dM_mowersBy_155 : decode bM_mowersBy 155 = .ok (.ireturn, 1) := by decide +kernel
theorem wM_mowersBy_144 {p : Program} {l : Launch} {e : Env} {s : State} {m : MethodId} {args : Array Value} {below : List Frame} {meth : Method} {c : Code} {G : GT} {I : List Nat} (C : CX p s m args meth c NM bM_mowersBy 9 (some .int) G I) (hI : mI I) {fu : Nat} {R1 : Int32} {Z : Sg} {rc64 : Int32 → Int32 → Int32 → Int32 → Int32 → Sg → Option (Int32 × Sg)} (hr64 : ∀ {v1 : Int32} {v3 : Int32} {v4 : Int32} {v5 : Int32} {v6 : Int32} {z : Sg} {H : Heap} {locs : List Loc} {ls : Array Slot}, rc64 v1 v3 v4 v5 v6 z = some (R1, Z) → GW G I z s.heap H locs → lv_has ls 9 [(0, .ref (gA G 78)), (1, .int v1), (3, .int v3), (4, .int v4), (5, .int v5), (6, .int v6)] → W p l e rmM_mowersBy s m args below meth c H locs 0 0 (MQ below (Qi G I R1 Z) args s 0 0 (AD G I)) (F0 m 64 ls [])) {v1 : Int32} {v3 : Int32} {v4 : Int32} {v6 : Int32} {t0 : Int32} {t1 : Int32} {z : Sg} {H : Heap} {locs : List Loc} {ls : Array Slot} (h : pM_mowersBy_144 fu rc64 v1 v3 v4 v6 t0 t1 z = some (R1, Z)) (hG : GW G I z s.heap H locs) (hl : lv_has ls 9 [(0, .ref (gA G 78)), (1, .int v1), (3, .int v3), (4, .int v4), (6, .int v6)]) : W p l e rmM_mowersBy s m args below meth c H locs 0 0 (MQ below (Qi G I R1 Z) args s 0 0 (AD G I)) (F0 m 144 ls [.int t1, .int t0]) := by
  unfold pM_mowersBy_144 at h
  refine lv_iadd C.1 C.2.1 dM_mowersBy_144 ?_
  refine rIstore C dM_mowersBy_145 hl h (by decide) [(0, .ref (gA G 78)), (1, .int v1), (3, .int v3), (4, .int v4), (6, .int v6)] rfl (fun x11 ls h hl => ?_)
  refine rIinc C dM_mowersBy_147 hl 5 rfl (d := 1) (by decide) h (by decide) [(5, .int x11), (0, .ref (gA G 78)), (1, .int v1), (3, .int v3), (4, .int v4)] rfl (fun x12 ls h hl => ?_)
  refine lv_goto (tgt := 64) C.1 C.2.1 dM_mowersBy_150 (by decide) ?_
  exact hr64 h hG (lv_sub hl [2, 3, 4, 5, 1, 0] rfl)
theorem wM_mowersBy_64 {p : Program} {l : Launch} {e : Env} {s : State} {m : MethodId} {args : Array Value} {below : List Frame} {meth : Method} {c : Code} {G : GT} {I : List Nat} (C : CX p s m args meth c NM bM_mowersBy 9 (some .int) G I) (hI : mI I) {fu : Nat} {R1 : Int32} {Z : Sg} : ∀ (k : Nat) {v1 : Int32} {v3 : Int32} {v4 : Int32} {v5 : Int32} {v6 : Int32} {z : Sg} {H : Heap} {locs : List Loc} {ls : Array Slot}, pM_mowersBy_64 fu k v1 v3 v4 v5 v6 z = some (R1, Z) → GW G I z s.heap H locs → lv_has ls 9 [(0, .ref (gA G 78)), (1, .int v1), (3, .int v3), (4, .int v4), (5, .int v5), (6, .int v6)] → W p l e rmM_mowersBy s m args below meth c H locs 0 0 (MQ below (Qi G I R1 Z) args s 0 0 (AD G I)) (F0 m 64 ls []) := by
  intro k
  induction k with
  | zero => intro v1 v3 v4 v5 v6 z H locs ls h hG hl; rw [pM_mowersBy_64] at h; cases h
  | succ k ih =>
    intro v1 v3 v4 v5 v6 z H locs ls h hG hl
    rw [pM_mowersBy_64] at h
    refine rIload C dM_mowersBy_64 hl 5 rfl ?_
    refine rIload C dM_mowersBy_66 hl 3 rfl ?_
    refine rIcmpge C (tgt := 153) h dM_mowersBy_68 (by decide) (fun h => ?_) (fun h => ?_)
    · refine rIload C dM_mowersBy_153 hl 4 rfl ?_
      exact rReti C hG h dM_mowersBy_155
    · refine rIload_n C dM_mowersBy_71 hl 2 rfl ?_
      refine lv_iconst (v := 2) C.1 C.2.1 dM_mowersBy_72 (by decide) ?_
      refine rIload C dM_mowersBy_73 hl 5 rfl ?_
      refine lv_imul C.1 C.2.1 dM_mowersBy_75 ?_
      refine lv_iadd C.1 C.2.1 dM_mowersBy_76 ?_
      refine rIstore C dM_mowersBy_77 hl h (by decide) [(0, .ref (gA G 78)), (1, .int v1), (3, .int v3), (4, .int v4), (5, .int v5), (6, .int v6)] rfl (fun x7 ls h hl => ?_)
      refine rIload_n C dM_mowersBy_79 hl 3 rfl ?_
      refine rIflt C (tgt := 102) h dM_mowersBy_80 (by decide) (fun h => ?_) (fun h => ?_)
      · refine lv_bipush (v := (-12)) C.1 C.2.1 dM_mowersBy_102 (by decide) ?_
        exact rReti C hG h dM_mowersBy_104
      · refine rIload C dM_mowersBy_83 hl 0 rfl ?_
        refine rIload_n C dM_mowersBy_85 hl 3 rfl ?_
        refine rIcmplt C (tgt := 102) h dM_mowersBy_86 (by decide) (fun h => ?_) (fun h => ?_)
        · refine lv_bipush (v := (-12)) C.1 C.2.1 dM_mowersBy_102 (by decide) ?_
          exact rReti C hG h dM_mowersBy_104
        · refine rIload C dM_mowersBy_89 hl 0 rfl ?_
          refine rAload_n C dM_mowersBy_91 hl 1 rfl ?_
          refine rGet C hG (hI 78 (by decide) (by decide)) e_78 fiM_15 (v := .ref (gA G 89)) rfl k_821 dM_mowersBy_92 ?_
          refine rIload_n C dM_mowersBy_95 hl 2 rfl ?_
          refine rIald C hG (hI 89 (by decide) (by decide)) e_89 h dM_mowersBy_96 (fun h => ?_)
          refine lv_iconst (v := 2) C.1 C.2.1 dM_mowersBy_97 (by decide) ?_
          refine lv_isub C.1 C.2.1 dM_mowersBy_98 ?_
          refine rIcmple C (tgt := 105) h dM_mowersBy_99 (by decide) (fun h => ?_) (fun h => ?_)
          · refine lv_bipush (v := 40) C.1 C.2.1 dM_mowersBy_105 (by decide) ?_
            refine rIload_n C dM_mowersBy_107 hl 2 rfl ?_
            refine lv_imul C.1 C.2.1 dM_mowersBy_108 ?_
            refine rIload C dM_mowersBy_109 hl 0 rfl ?_
            refine lv_iadd C.1 C.2.1 dM_mowersBy_111 ?_
            refine rIstore C dM_mowersBy_112 hl h (by decide) [(7, .int x7), (0, .ref (gA G 78)), (1, .int v1), (3, .int v3), (4, .int v4), (5, .int v5), (6, .int v6)] rfl (fun x8 ls h hl => ?_)
            refine rIload C dM_mowersBy_114 hl 6 rfl ?_
            refine rAload_n C dM_mowersBy_116 hl 2 rfl ?_
            refine rAload_n C dM_mowersBy_117 hl 2 rfl ?_
            refine rGet C hG (hI 78 (by decide) (by decide)) e_78 fiM_16 (v := .ref (gA G 90)) rfl k_822 dM_mowersBy_118 ?_
            refine rIload C dM_mowersBy_121 hl 0 rfl ?_
            refine rIald C hG (hI 90 (by decide) (by decide)) e_90 h dM_mowersBy_123 (fun h => ?_)
            refine rAload_n C dM_mowersBy_124 hl 2 rfl ?_
            refine rGet C hG (hI 78 (by decide) (by decide)) e_78 fiM_16 (v := .ref (gA G 90)) rfl k_822 dM_mowersBy_125 ?_
            refine rIload C dM_mowersBy_128 hl 0 rfl ?_
            refine lv_iconst (v := 1) C.1 C.2.1 dM_mowersBy_130 (by decide) ?_
            refine lv_iadd C.1 C.2.1 dM_mowersBy_131 ?_
            refine rIald C hG (hI 90 (by decide) (by decide)) e_90 h dM_mowersBy_132 (fun h => ?_)
            refine rCVi [.int (ga z 90 x8), .int (ga z 90 (x8 + 1))] [.int v5] C hG h (fun h => cM_mower hI h) mvM_mower k_1186 ⟨Nat.le_of_ble_eq_true rfl, Nat.le_of_ble_eq_true rfl⟩ ⟨rfl, rfl⟩ (rRecv C hG (hI 78 (by decide) (by decide)) e_78 rfl) rfl hl.1 (Nat.le_of_ble_eq_true rfl) dM_mowersBy_133 ⟨Nat.zero_le _, Nat.zero_le _⟩ rfl (fun H locs x10 z9 h hG => ?_)
            refine rIflt C (tgt := 143) h dM_mowersBy_136 (by decide) (fun h => ?_) (fun h => ?_)
            · refine lv_iconst (v := 0) C.1 C.2.1 dM_mowersBy_143 (by decide) ?_
              exact wM_mowersBy_144 C hI ih h hG (lv_sub hl [2, 3, 4, 5, 7] rfl)
            · refine lv_iconst (v := 1) C.1 C.2.1 dM_mowersBy_139 (by decide) ?_
              refine lv_goto (tgt := 144) C.1 C.2.1 dM_mowersBy_140 (by decide) ?_
              exact wM_mowersBy_144 C hI ih h hG (lv_sub hl [2, 3, 4, 5, 7] rfl)
          · refine lv_bipush (v := (-12)) C.1 C.2.1 dM_mowersBy_102 (by decide) ?_
            exact rReti C hG h dM_mowersBy_104
theorem cM_mowersBy {l : Launch} {G : GT} {I : List Nat} (hI : mI I) {fu : Nat} {v1 : Int32} {v2 : Int32} {v3 : Int32} {v4 : Int32} {z : Sg} {R1 : Int32} {Z : Sg} (h : pM_mowersBy fu v1 v2 v3 v4 z = some (R1, Z)) : Mt l yM_mowersBy rmM_mowersBy bM_mowersBy 9 (some .int) G I z [.ref (gA G 78), .int v1, .int v2, .int v3, .int v4] (Qi G I R1 Z) := by
  refine entM (by decide +kernel) (Nat.le_of_ble_eq_true rfl) ?_
  intro p e s m below meth c C hG ls hl
  have hl : lv_has ls 9 [(0, .ref (gA G 78)), (1, .int v1), (2, .int v2), (3, .int v3), (4, .int v4)] := hl
  unfold pM_mowersBy at h
  refine rIload_n C dM_mowersBy_0 hl 1 rfl ?_
  refine lv_iconst (v := 0) C.1 C.2.1 dM_mowersBy_1 (by decide) ?_
  refine lv_iconst (v := 3) C.1 C.2.1 dM_mowersBy_2 (by decide) ?_
  refine rCSi [.int v1, .int 0, .int 3] [] C hG h (fun h => cM_in hI h) mvM_in k_767 ⟨Nat.le_of_ble_eq_true rfl, Nat.le_of_ble_eq_true rfl⟩ ⟨rfl, rfl⟩ rfl hl.1 (Nat.le_of_ble_eq_true rfl) dM_mowersBy_3 ⟨Nat.zero_le _, Nat.zero_le _⟩ rfl (fun H locs x2 z1 h hG => ?_)
  refine rIfeq C (tgt := 29) h dM_mowersBy_6 (by decide) (fun h => ?_) (fun h => ?_)
  · refine lv_bipush (v := (-2)) C.1 C.2.1 dM_mowersBy_29 (by decide) ?_
    exact rReti C hG h dM_mowersBy_31
  · refine rIload_n C dM_mowersBy_9 hl 2 rfl ?_
    refine lv_iconst (v := 0) C.1 C.2.1 dM_mowersBy_10 (by decide) ?_
    refine lv_iconst (v := 2) C.1 C.2.1 dM_mowersBy_11 (by decide) ?_
    refine rCSi [.int v2, .int 0, .int 2] [] C hG h (fun h => cM_in hI h) mvM_in k_767 ⟨Nat.le_of_ble_eq_true rfl, Nat.le_of_ble_eq_true rfl⟩ ⟨rfl, rfl⟩ rfl hl.1 (Nat.le_of_ble_eq_true rfl) dM_mowersBy_12 ⟨Nat.zero_le _, Nat.zero_le _⟩ rfl (fun H locs x4 z3 h hG => ?_)
    refine rIfeq C (tgt := 29) h dM_mowersBy_15 (by decide) (fun h => ?_) (fun h => ?_)
    · refine lv_bipush (v := (-2)) C.1 C.2.1 dM_mowersBy_29 (by decide) ?_
      exact rReti C hG h dM_mowersBy_31
    · refine rIload C dM_mowersBy_18 hl 4 rfl ?_
      refine lv_iconst (v := 0) C.1 C.2.1 dM_mowersBy_20 (by decide) ?_
      refine lv_bipush (v := 6) C.1 C.2.1 dM_mowersBy_21 (by decide) ?_
      refine rCSi [.int v4, .int 0, .int 6] [] C hG h (fun h => cM_in hI h) mvM_in k_767 ⟨Nat.le_of_ble_eq_true rfl, Nat.le_of_ble_eq_true rfl⟩ ⟨rfl, rfl⟩ rfl hl.1 (Nat.le_of_ble_eq_true rfl) dM_mowersBy_23 ⟨Nat.zero_le _, Nat.zero_le _⟩ rfl (fun H locs x6 z5 h hG => ?_)
      refine rIfne C (tgt := 32) h dM_mowersBy_26 (by decide) (fun h => ?_) (fun h => ?_)
      · refine rAload_n C dM_mowersBy_32 hl 0 rfl ?_
        refine rGet C hG (hI 78 (by decide) (by decide)) e_78 fiM_14 (v := .ref (gA G 88)) rfl k_820 dM_mowersBy_33 ?_
        refine rIload_n C dM_mowersBy_36 hl 1 rfl ?_
        refine rIald C hG (hI 88 (by decide) (by decide)) e_88 h dM_mowersBy_37 (fun h => ?_)
        refine lv_iconst (v := (-1)) C.1 C.2.1 dM_mowersBy_38 (by decide) ?_
        refine rIcmpne C (tgt := 45) h dM_mowersBy_39 (by decide) (fun h => ?_) (fun h => ?_)
        · refine rAload_n C dM_mowersBy_45 hl 0 rfl ?_
          refine rGet C hG (hI 78 (by decide) (by decide)) e_78 fiM_14 (v := .ref (gA G 88)) rfl k_820 dM_mowersBy_46 ?_
          refine rIload_n C dM_mowersBy_49 hl 1 rfl ?_
          refine rIald C hG (hI 88 (by decide) (by decide)) e_88 h dM_mowersBy_50 (fun h => ?_)
          refine rIload_n C dM_mowersBy_51 hl 2 rfl ?_
          refine rIcmpeq C (tgt := 58) h dM_mowersBy_52 (by decide) (fun h => ?_) (fun h => ?_)
          · refine lv_iconst (v := 0) C.1 C.2.1 dM_mowersBy_58 (by decide) ?_
            refine rIstoreA C dM_mowersBy_59 hl (by decide) [(0, .ref (gA G 78)), (1, .int v1), (2, .int v2), (3, .int v3), (4, .int v4)] rfl (fun ls hl => ?_)
            refine lv_iconst (v := 0) C.1 C.2.1 dM_mowersBy_61 (by decide) ?_
            refine rIstoreA C dM_mowersBy_62 hl (by decide) [(5, .int 0), (0, .ref (gA G 78)), (1, .int v1), (2, .int v2), (3, .int v3), (4, .int v4)] rfl (fun ls hl => ?_)
            exact wM_mowersBy_64 C hI _ h hG (lv_sub hl [2, 3, 5, 6, 1, 0] rfl)
          · refine lv_bipush (v := (-13)) C.1 C.2.1 dM_mowersBy_55 (by decide) ?_
            exact rReti C hG h dM_mowersBy_57
        · refine lv_bipush (v := (-11)) C.1 C.2.1 dM_mowersBy_42 (by decide) ?_
          exact rReti C hG h dM_mowersBy_44
      · refine lv_bipush (v := (-2)) C.1 C.2.1 dM_mowersBy_29 (by decide) ?_
        exact rReti C hG h dM_mowersBy_31
theorem dM_isUnder_0 : decode bM_isUnder 0 = .ok (.iload_n 1, 1) := by decide +kernel
theorem dM_isUnder_1 : decode bM_isUnder 1 = .ok (.ifCond .eq 28, 3) := by decide +kernel
theorem dM_isUnder_4 : decode bM_isUnder 4 = .ok (.iload_n 0, 1) := by decide +kernel
theorem dM_isUnder_5 : decode bM_isUnder 5 = .ok (.iload_n 1, 1) := by decide +kernel
theorem dM_isUnder_6 : decode bM_isUnder 6 = .ok (.if_icmp .eq 23, 3) := by decide +kernel
theorem dM_isUnder_9 : decode bM_isUnder 9 = .ok (.iload_n 1, 1) := by decide +kernel
theorem dM_isUnder_10 : decode bM_isUnder 10 = .ok (.iconst 1, 1) := by decide +kernel
theorem dM_isUnder_11 : decode bM_isUnder 11 = .ok (.if_icmp .ne 8, 3) := by decide +kernel
theorem dM_isUnder_14 : decode bM_isUnder 14 = .ok (.iload_n 0, 1) := by decide +kernel
theorem dM_isUnder_15 : decode bM_isUnder 15 = .ok (.iconst 3, 1) := by decide +kernel
theorem dM_isUnder_16 : decode bM_isUnder 16 = .ok (.if_icmp .eq 13, 3) := by decide +kernel
theorem dM_isUnder_19 : decode bM_isUnder 19 = .ok (.iload_n 1, 1) := by decide +kernel
theorem dM_isUnder_20 : decode bM_isUnder 20 = .ok (.iconst 2, 1) := by decide +kernel
theorem dM_isUnder_21 : decode bM_isUnder 21 = .ok (.if_icmp .ne 12, 3) := by decide +kernel
theorem dM_isUnder_24 : decode bM_isUnder 24 = .ok (.iload_n 0, 1) := by decide +kernel
theorem dM_isUnder_25 : decode bM_isUnder 25 = .ok (.iconst 4, 1) := by decide +kernel
theorem dM_isUnder_26 : decode bM_isUnder 26 = .ok (.if_icmp .ne 7, 3) := by decide +kernel
theorem dM_isUnder_29 : decode bM_isUnder 29 = .ok (.iconst 1, 1) := by decide +kernel
theorem dM_isUnder_30 : decode bM_isUnder 30 = .ok (.goto 4, 3) := by decide +kernel
theorem dM_isUnder_33 : decode bM_isUnder 33 = .ok (.iconst 0, 1) := by decide +kernel
theorem dM_isUnder_34 : decode bM_isUnder 34 = .ok (.ireturn, 1) := by decide +kernel
theorem wM_isUnder_29 {p : Program} {l : Launch} {e : Env} {s : State} {m : MethodId} {args : Array Value} {below : List Frame} {meth : Method} {c : Code} {G : GT} {I : List Nat} (C : CX p s m args meth c NM bM_isUnder 2 (some .boolean) G I) (hI : mI I) {fu : Nat} {R1 : Int32} {Z : Sg} {z : Sg} {H : Heap} {locs : List Loc} {ls : Array Slot} (h : pM_isUnder_29 fu z = some (R1, Z)) (hG : GW G I z s.heap H locs) (hl : lv_has ls 2 []) : W p l e rmM_isUnder s m args below meth c H locs 0 0 (MQ below (Qi G I R1 Z) args s 0 0 (AD G I)) (F0 m 29 ls []) := by
  unfold pM_isUnder_29 at h
  refine lv_iconst (v := 1) C.1 C.2.1 dM_isUnder_29 (by decide) ?_
  refine lv_goto (tgt := 34) C.1 C.2.1 dM_isUnder_30 (by decide) ?_
  exact rRetn C hG (ty := .boolean) rfl rfl h dM_isUnder_34
theorem wM_isUnder_19 {p : Program} {l : Launch} {e : Env} {s : State} {m : MethodId} {args : Array Value} {below : List Frame} {meth : Method} {c : Code} {G : GT} {I : List Nat} (C : CX p s m args meth c NM bM_isUnder 2 (some .boolean) G I) (hI : mI I) {fu : Nat} {R1 : Int32} {Z : Sg} {v0 : Int32} {v1 : Int32} {z : Sg} {H : Heap} {locs : List Loc} {ls : Array Slot} (h : pM_isUnder_19 fu v0 v1 z = some (R1, Z)) (hG : GW G I z s.heap H locs) (hl : lv_has ls 2 [(0, .int v0), (1, .int v1)]) : W p l e rmM_isUnder s m args below meth c H locs 0 0 (MQ below (Qi G I R1 Z) args s 0 0 (AD G I)) (F0 m 19 ls []) := by
  unfold pM_isUnder_19 at h
  refine rIload_n C dM_isUnder_19 hl 1 rfl ?_
  refine lv_iconst (v := 2) C.1 C.2.1 dM_isUnder_20 (by decide) ?_
  refine rIcmpne C (tgt := 33) h dM_isUnder_21 (by decide) (fun h => ?_) (fun h => ?_)
  · refine lv_iconst (v := 0) C.1 C.2.1 dM_isUnder_33 (by decide) ?_
    exact rRetn C hG (ty := .boolean) rfl rfl h dM_isUnder_34
  · refine rIload_n C dM_isUnder_24 hl 0 rfl ?_
    refine lv_iconst (v := 4) C.1 C.2.1 dM_isUnder_25 (by decide) ?_
    refine rIcmpne C (tgt := 33) h dM_isUnder_26 (by decide) (fun h => ?_) (fun h => ?_)
    · refine lv_iconst (v := 0) C.1 C.2.1 dM_isUnder_33 (by decide) ?_
      exact rRetn C hG (ty := .boolean) rfl rfl h dM_isUnder_34
    · exact wM_isUnder_29 C hI h hG (lv_sub hl [] rfl)
theorem cM_isUnder {l : Launch} {G : GT} {I : List Nat} (hI : mI I) {fu : Nat} {v0 : Int32} {v1 : Int32} {z : Sg} {R1 : Int32} {Z : Sg} (h : pM_isUnder fu v0 v1 z = some (R1, Z)) : Mt l yM_isUnder rmM_isUnder bM_isUnder 2 (some .boolean) G I z [.int v0, .int v1] (Qi G I R1 Z) := by
  refine entM (by decide +kernel) (Nat.le_of_ble_eq_true rfl) ?_
  intro p e s m below meth c C hG ls hl
  have hl : lv_has ls 2 [(0, .int v0), (1, .int v1)] := hl
  unfold pM_isUnder at h
  refine rIload_n C dM_isUnder_0 hl 1 rfl ?_
  refine rIfeq C (tgt := 29) h dM_isUnder_1 (by decide) (fun h => ?_) (fun h => ?_)
  · exact wM_isUnder_29 C hI h hG (lv_sub hl [] rfl)
  · refine rIload_n C dM_isUnder_4 hl 0 rfl ?_
    refine rIload_n C dM_isUnder_5 hl 1 rfl ?_
    refine rIcmpeq C (tgt := 29) h dM_isUnder_6 (by decide) (fun h => ?_) (fun h => ?_)
    · exact wM_isUnder_29 C hI h hG (lv_sub hl [] rfl)
    · refine rIload_n C dM_isUnder_9 hl 1 rfl ?_
      refine lv_iconst (v := 1) C.1 C.2.1 dM_isUnder_10 (by decide) ?_
      refine rIcmpne C (tgt := 19) h dM_isUnder_11 (by decide) (fun h => ?_) (fun h => ?_)
      · exact wM_isUnder_19 C hI h hG (lv_sub hl [0, 1] rfl)
      · refine rIload_n C dM_isUnder_14 hl 0 rfl ?_
        refine lv_iconst (v := 3) C.1 C.2.1 dM_isUnder_15 (by decide) ?_
        refine rIcmpeq C (tgt := 29) h dM_isUnder_16 (by decide) (fun h => ?_) (fun h => ?_)
        · exact wM_isUnder_29 C hI h hG (lv_sub hl [] rfl)
        · exact wM_isUnder_19 C hI h hG (lv_sub hl [0, 1] rfl)
theorem dM_taken_0 : decode bM_taken 0 = .ok (.iload_n 2, 1) := by decide +kernel
theorem dM_taken_1 : decode bM_taken 1 = .ok (.iconst 0, 1) := by decide +kernel
theorem dM_taken_2 : decode bM_taken 2 = .ok (.bipush 6, 2) := by decide +kernel
theorem dM_taken_4 : decode bM_taken 4 = .ok (.invokestatic 81, 3) := by decide +kernel
theorem dM_taken_7 : decode bM_taken 7 = .ok (.ifCond .ne 6, 3) := by decide +kernel
theorem dM_taken_10 : decode bM_taken 10 = .ok (.bipush (-2), 2) := by decide +kernel
theorem dM_taken_12 : decode bM_taken 12 = .ok (.ireturn, 1) := by decide +kernel
theorem dM_taken_13 : decode bM_taken 13 = .ok (.iload_n 1, 1) := by decide +kernel
theorem dM_taken_14 : decode bM_taken 14 = .ok (.iconst 0, 1) := by decide +kernel
theorem dM_taken_15 : decode bM_taken 15 = .ok (.bipush 11, 2) := by decide +kernel
theorem dM_taken_17 : decode bM_taken 17 = .ok (.invokestatic 81, 3) := by decide +kernel
theorem dM_taken_20 : decode bM_taken 20 = .ok (.ifCond .ne 6, 3) := by decide +kernel
theorem dM_taken_23 : decode bM_taken 23 = .ok (.bipush (-12), 2) := by decide +kernel
theorem dM_taken_25 : decode bM_taken 25 = .ok (.ireturn, 1) := by decide +kernel
theorem dM_taken_26 : decode bM_taken 26 = .ok (.iload_n 1, 1) := by decide +kernel
theorem dM_taken_27 : decode bM_taken 27 = .ok (.bipush 6, 2) := by decide +kernel
theorem dM_taken_29 : decode bM_taken 29 = .ok (.irem, 1) := by decide +kernel
theorem dM_taken_30 : decode bM_taken 30 = .ok (.aload_n 0, 1) := by decide +kernel
theorem dM_taken_31 : decode bM_taken 31 = .ok (.getfield 78, 3) := by decide +kernel
theorem dM_taken_34 : decode bM_taken 34 = .ok (.if_icmp .lt 6, 3) := by decide +kernel
theorem dM_taken_37 : decode bM_taken 37 = .ok (.bipush (-11), 2) := by decide +kernel
theorem dM_taken_39 : decode bM_taken 39 = .ok (.ireturn, 1) := by decide +kernel
theorem dM_taken_40 : decode bM_taken 40 = .ok (.iload_n 1, 1) := by decide +kernel
theorem dM_taken_41 : decode bM_taken 41 = .ok (.bipush 6, 2) := by decide +kernel
theorem dM_taken_43 : decode bM_taken 43 = .ok (.if_icmp .lt 28, 3) := by decide +kernel
theorem dM_taken_46 : decode bM_taken 46 = .ok (.iload_n 2, 1) := by decide +kernel
theorem dM_taken_47 : decode bM_taken 47 = .ok (.bipush 6, 2) := by decide +kernel
theorem dM_taken_49 : decode bM_taken 49 = .ok (.if_icmp .ne 19, 3) := by decide +kernel
theorem dM_taken_52 : decode bM_taken 52 = .ok (.aload_n 0, 1) := by decide +kernel
theorem dM_taken_53 : decode bM_taken 53 = .ok (.getfield 16, 3) := by decide +kernel
theorem dM_taken_56 : decode bM_taken 56 = .ok (.iconst 3, 1) := by decide +kernel
theorem dM_taken_57 : decode bM_taken 57 = .ok (.iload_n 1, 1) := by decide +kernel
theorem dM_taken_58 : decode bM_taken 58 = .ok (.bipush 6, 2) := by decide +kernel
theorem dM_taken_60 : decode bM_taken 60 = .ok (.isub, 1) := by decide +kernel
theorem dM_taken_61 : decode bM_taken 61 = .ok (.imul, 1) := by decide +kernel
theorem dM_taken_62 : decode bM_taken 62 = .ok (.iconst 1, 1) := by decide +kernel
theorem dM_taken_63 : decode bM_taken 63 = .ok (.iadd, 1) := by decide +kernel
theorem dM_taken_64 : decode bM_taken 64 = .ok (.iaload, 1) := by decide +kernel
theorem dM_taken_65 : decode bM_taken 65 = .ok (.goto 5, 3) := by decide +kernel
theorem dM_taken_68 : decode bM_taken 68 = .ok (.bipush (-13), 2) := by decide +kernel
theorem dM_taken_70 : decode bM_taken 70 = .ok (.ireturn, 1) := by decide +kernel
theorem dM_taken_71 : decode bM_taken 71 = .ok (.iload_n 2, 1) := by decide +kernel
theorem dM_taken_72 : decode bM_taken 72 = .ok (.bipush 6, 2) := by decide +kernel
theorem dM_taken_74 : decode bM_taken 74 = .ok (.if_icmp .ge 20, 3) := by decide +kernel
theorem dM_taken_77 : decode bM_taken 77 = .ok (.aload_n 0, 1) := by decide +kernel
theorem dM_taken_78 : decode bM_taken 78 = .ok (.getfield 7, 3) := by decide +kernel
theorem dM_taken_81 : decode bM_taken 81 = .ok (.iload_n 1, 1) := by decide +kernel
theorem dM_taken_82 : decode bM_taken 82 = .ok (.iaload, 1) := by decide +kernel
theorem dM_taken_83 : decode bM_taken 83 = .ok (.iload_n 2, 1) := by decide +kernel
theorem dM_taken_84 : decode bM_taken 84 = .ok (.invokestatic 283, 3) := by decide +kernel
theorem dM_taken_87 : decode bM_taken 87 = .ok (.ifCond .eq 7, 3) := by decide +kernel
theorem dM_taken_90 : decode bM_taken 90 = .ok (.iload_n 1, 1) := by decide +kernel
theorem dM_taken_91 : decode bM_taken 91 = .ok (.goto 5, 3) := by decide +kernel
theorem dM_taken_94 : decode bM_taken 94 = .ok (.bipush (-13), 2) := by decide +kernel
theorem dM_taken_96 : decode bM_taken 96 = .ok (.ireturn, 1) := by decide +kernel
theorem cM_taken {l : Launch} {G : GT} {I : List Nat} (hI : mI I) {fu : Nat} {v1 : Int32} {v2 : Int32} {z : Sg} {R1 : Int32} {Z : Sg} (h : pM_taken fu v1 v2 z = some (R1, Z)) : Mt l yM_taken rmM_taken bM_taken 3 (some .int) G I z [.ref (gA G 78), .int v1, .int v2] (Qi G I R1 Z) := by
  refine entM (by decide +kernel) (Nat.le_of_ble_eq_true rfl) ?_
  intro p e s m below meth c C hG ls hl
  have hl : lv_has ls 3 [(0, .ref (gA G 78)), (1, .int v1), (2, .int v2)] := hl
  unfold pM_taken at h
  refine rIload_n C dM_taken_0 hl 2 rfl ?_
  refine lv_iconst (v := 0) C.1 C.2.1 dM_taken_1 (by decide) ?_
  refine lv_bipush (v := 6) C.1 C.2.1 dM_taken_2 (by decide) ?_
  refine rCSi [.int v2, .int 0, .int 6] [] C hG h (fun h => cM_in hI h) mvM_in k_767 ⟨Nat.le_of_ble_eq_true rfl, Nat.le_of_ble_eq_true rfl⟩ ⟨rfl, rfl⟩ rfl hl.1 (Nat.le_of_ble_eq_true rfl) dM_taken_4 ⟨Nat.zero_le _, Nat.zero_le _⟩ rfl (fun H locs x2 z1 h hG => ?_)
  refine rIfne C (tgt := 13) h dM_taken_7 (by decide) (fun h => ?_) (fun h => ?_)
  · refine rIload_n C dM_taken_13 hl 1 rfl ?_
    refine lv_iconst (v := 0) C.1 C.2.1 dM_taken_14 (by decide) ?_
    refine lv_bipush (v := 11) C.1 C.2.1 dM_taken_15 (by decide) ?_
    refine rCSi [.int v1, .int 0, .int 11] [] C hG h (fun h => cM_in hI h) mvM_in k_767 ⟨Nat.le_of_ble_eq_true rfl, Nat.le_of_ble_eq_true rfl⟩ ⟨rfl, rfl⟩ rfl hl.1 (Nat.le_of_ble_eq_true rfl) dM_taken_17 ⟨Nat.zero_le _, Nat.zero_le _⟩ rfl (fun H locs x4 z3 h hG => ?_)
    refine rIfne C (tgt := 26) h dM_taken_20 (by decide) (fun h => ?_) (fun h => ?_)
    · refine rIload_n C dM_taken_26 hl 1 rfl ?_
      refine lv_bipush (v := 6) C.1 C.2.1 dM_taken_27 (by decide) ?_
      refine lv_irem C.1 C.2.1 dM_taken_29 (by decide) ?_
      refine rAload_n C dM_taken_30 hl 0 rfl ?_
      refine rGet C hG (hI 78 (by decide) (by decide)) e_78 fiM_0 (v := .int (z3 78 0)) rfl k_806 dM_taken_31 ?_
      refine rIcmplt C (tgt := 40) h dM_taken_34 (by decide) (fun h => ?_) (fun h => ?_)
      · refine rIload_n C dM_taken_40 hl 1 rfl ?_
        refine lv_bipush (v := 6) C.1 C.2.1 dM_taken_41 (by decide) ?_
        refine rIcmplt C (tgt := 71) h dM_taken_43 (by decide) (fun h => ?_) (fun h => ?_)
        · refine rIload_n C dM_taken_71 hl 2 rfl ?_
          refine lv_bipush (v := 6) C.1 C.2.1 dM_taken_72 (by decide) ?_
          refine rIcmpge C (tgt := 94) h dM_taken_74 (by decide) (fun h => ?_) (fun h => ?_)
          · refine lv_bipush (v := (-13)) C.1 C.2.1 dM_taken_94 (by decide) ?_
            exact rReti C hG h dM_taken_96
          · refine rAload_n C dM_taken_77 hl 0 rfl ?_
            refine rGet C hG (hI 78 (by decide) (by decide)) e_78 fiM_1 (v := .ref (gA G 79)) rfl k_807 dM_taken_78 ?_
            refine rIload_n C dM_taken_81 hl 1 rfl ?_
            refine rIald C hG (hI 79 (by decide) (by decide)) e_79 h dM_taken_82 (fun h => ?_)
            refine rIload_n C dM_taken_83 hl 2 rfl ?_
            refine rCSi [.int (ga z3 79 v1), .int v2] [] C hG h (fun h => cM_isUnder hI h) mvM_isUnder k_1191 ⟨Nat.le_of_ble_eq_true rfl, Nat.le_of_ble_eq_true rfl⟩ ⟨rfl, rfl⟩ rfl hl.1 (Nat.le_of_ble_eq_true rfl) dM_taken_84 ⟨Nat.zero_le _, Nat.zero_le _⟩ rfl (fun H locs x6 z5 h hG => ?_)
            refine rIfeq C (tgt := 94) h dM_taken_87 (by decide) (fun h => ?_) (fun h => ?_)
            · refine lv_bipush (v := (-13)) C.1 C.2.1 dM_taken_94 (by decide) ?_
              exact rReti C hG h dM_taken_96
            · refine rIload_n C dM_taken_90 hl 1 rfl ?_
              refine lv_goto (tgt := 96) C.1 C.2.1 dM_taken_91 (by decide) ?_
              exact rReti C hG h dM_taken_96
        · refine rIload_n C dM_taken_46 hl 2 rfl ?_
          refine lv_bipush (v := 6) C.1 C.2.1 dM_taken_47 (by decide) ?_
          refine rIcmpne C (tgt := 68) h dM_taken_49 (by decide) (fun h => ?_) (fun h => ?_)
          · refine lv_bipush (v := (-13)) C.1 C.2.1 dM_taken_68 (by decide) ?_
            exact rReti C hG h dM_taken_70
          · refine rAload_n C dM_taken_52 hl 0 rfl ?_
            refine rGet C hG (hI 78 (by decide) (by decide)) e_78 fiM_3 (v := .ref (gA G 81)) rfl k_809 dM_taken_53 ?_
            refine lv_iconst (v := 3) C.1 C.2.1 dM_taken_56 (by decide) ?_
            refine rIload_n C dM_taken_57 hl 1 rfl ?_
            refine lv_bipush (v := 6) C.1 C.2.1 dM_taken_58 (by decide) ?_
            refine lv_isub C.1 C.2.1 dM_taken_60 ?_
            refine lv_imul C.1 C.2.1 dM_taken_61 ?_
            refine lv_iconst (v := 1) C.1 C.2.1 dM_taken_62 (by decide) ?_
            refine lv_iadd C.1 C.2.1 dM_taken_63 ?_
            refine rIald C hG (hI 81 (by decide) (by decide)) e_81 h dM_taken_64 (fun h => ?_)
            refine lv_goto (tgt := 70) C.1 C.2.1 dM_taken_65 (by decide) ?_
            exact rReti C hG h dM_taken_70
      · refine lv_bipush (v := (-11)) C.1 C.2.1 dM_taken_37 (by decide) ?_
        exact rReti C hG h dM_taken_39
    · refine lv_bipush (v := (-12)) C.1 C.2.1 dM_taken_23 (by decide) ?_
      exact rReti C hG h dM_taken_25
  · refine lv_bipush (v := (-2)) C.1 C.2.1 dM_taken_10 (by decide) ?_
    exact rReti C hG h dM_taken_12
