theorem dS_gap_0 : decode bS_gap 0 = .ok (.iload_n 1, 1) := by decide +kernel
theorem dS_gap_1 : decode bS_gap 1 = .ok (.bipush 40, 2) := by decide +kernel
theorem dS_gap_3 : decode bS_gap 3 = .ok (.invokestatic 108, 3) := by decide +kernel
theorem dS_gap_6 : decode bS_gap 6 = .ok (.ifCond .eq 11, 3) := by decide +kernel
theorem dS_gap_9 : decode bS_gap 9 = .ok (.iload_n 2, 1) := by decide +kernel
theorem dS_gap_10 : decode bS_gap 10 = .ok (.iconst 1, 1) := by decide +kernel
theorem dS_gap_11 : decode bS_gap 11 = .ok (.invokestatic 108, 3) := by decide +kernel
theorem dS_gap_14 : decode bS_gap 14 = .ok (.ifCond .ne 6, 3) := by decide +kernel
theorem dS_gap_17 : decode bS_gap 17 = .ok (.bipush (-2), 2) := by decide +kernel
theorem dS_gap_19 : decode bS_gap 19 = .ok (.ireturn, 1) := by decide +kernel
theorem dS_gap_20 : decode bS_gap 20 = .ok (.aload_n 0, 1) := by decide +kernel
theorem dS_gap_21 : decode bS_gap 21 = .ok (.getfield 31, 3) := by decide +kernel
theorem dS_gap_24 : decode bS_gap 24 = .ok (.invokevirtual 178, 3) := by decide +kernel
theorem dS_gap_27 : decode bS_gap 27 = .ok (.iconst 0, 1) := by decide +kernel
theorem dS_gap_28 : decode bS_gap 28 = .ok (.istore_n 3, 1) := by decide +kernel
theorem dS_gap_29 : decode bS_gap 29 = .ok (.iload_n 3, 1) := by decide +kernel
theorem dS_gap_30 : decode bS_gap 30 = .ok (.bipush 10, 2) := by decide +kernel
theorem dS_gap_32 : decode bS_gap 32 = .ok (.if_icmp .ge 57, 3) := by decide +kernel
theorem dS_gap_35 : decode bS_gap 35 = .ok (.aload_n 0, 1) := by decide +kernel
theorem dS_gap_36 : decode bS_gap 36 = .ok (.getfield 49, 3) := by decide +kernel
theorem dS_gap_39 : decode bS_gap 39 = .ok (.iload_n 3, 1) := by decide +kernel
theorem dS_gap_40 : decode bS_gap 40 = .ok (.invokevirtual 116, 3) := by decide +kernel
theorem dS_gap_43 : decode bS_gap 43 = .ok (.ifCond .ge 40, 3) := by decide +kernel
theorem dS_gap_46 : decode bS_gap 46 = .ok (.aload_n 0, 1) := by decide +kernel
theorem dS_gap_47 : decode bS_gap 47 = .ok (.getfield 53, 3) := by decide +kernel
theorem dS_gap_50 : decode bS_gap 50 = .ok (.aload_n 0, 1) := by decide +kernel
theorem dS_gap_51 : decode bS_gap 51 = .ok (.getfield 49, 3) := by decide +kernel
theorem dS_gap_54 : decode bS_gap 54 = .ok (.invokevirtual 166, 3) := by decide +kernel
theorem dS_gap_57 : decode bS_gap 57 = .ok (.aload_n 0, 1) := by decide +kernel
theorem dS_gap_58 : decode bS_gap 58 = .ok (.getfield 53, 3) := by decide +kernel
theorem dS_gap_61 : decode bS_gap 61 = .ok (.getfield 119, 3) := by decide +kernel
theorem dS_gap_64 : decode bS_gap 64 = .ok (.iconst 0, 1) := by decide +kernel
theorem dS_gap_65 : decode bS_gap 65 = .ok (.iload_n 3, 1) := by decide +kernel
theorem dS_gap_66 : decode bS_gap 66 = .ok (.iastore, 1) := by decide +kernel
theorem dS_gap_67 : decode bS_gap 67 = .ok (.aload_n 0, 1) := by decide +kernel
theorem dS_gap_68 : decode bS_gap 68 = .ok (.getfield 31, 3) := by decide +kernel
theorem dS_gap_71 : decode bS_gap 71 = .ok (.iload_n 3, 1) := by decide +kernel
theorem dS_gap_72 : decode bS_gap 72 = .ok (.aload_n 0, 1) := by decide +kernel
theorem dS_gap_73 : decode bS_gap 73 = .ok (.getfield 53, 3) := by decide +kernel
theorem dS_gap_76 : decode bS_gap 76 = .ok (.iload_n 1, 1) := by decide +kernel
theorem dS_gap_77 : decode bS_gap 77 = .ok (.invokevirtual 169, 3) := by decide +kernel
theorem dS_gap_80 : decode bS_gap 80 = .ok (.invokevirtual 181, 3) := by decide +kernel
theorem dS_gap_83 : decode bS_gap 83 = .ok (.iinc 3 1, 3) := by decide +kernel
theorem dS_gap_86 : decode bS_gap 86 = .ok (.goto (-57), 3) := by decide +kernel
theorem dS_gap_89 : decode bS_gap 89 = .ok (.aload_n 0, 1) := by decide +kernel
theorem dS_gap_90 : decode bS_gap 90 = .ok (.getfield 31, 3) := by decide +kernel
theorem dS_gap_93 : decode bS_gap 93 = .ok (.iload_n 2, 1) := by decide +kernel
theorem dS_gap_94 : decode bS_gap 94 = .ok (.invokevirtual 185, 3) := by decide +kernel
theorem dS_gap_97 : decode bS_gap 97 = .ok (.ireturn, 1) := by decide +kernel
theorem wS_gap_83 {p : Program} {l : Launch} {e : Env} {s : State} {m : MethodId} {args : Array Value} {below : List Frame} {meth : Method} {c : Code} {G : GT} {I : List Nat} (C : CX p s m args meth c NS bS_gap 4 (some .int) G I) (hI : cI I) {fu : Nat} {R1 : Int32} {Z : Sg} {rc29 : Int32 → Int32 → Int32 → Sg → Option (Int32 × Sg)} (hr29 : ∀ {v1 : Int32} {v2 : Int32} {v3 : Int32} {z : Sg} {H : Heap} {locs : List Loc} {ls : Array Slot}, rc29 v1 v2 v3 z = some (R1, Z) → GW G I z s.heap H locs → lv_has ls 4 [(0, .ref (gA G 0)), (1, .int v1), (2, .int v2), (3, .int v3)] → W p l e rmS_gap s m args below meth c H locs 0 0 (MQ below (Qi G I R1 Z) args s 0 0 (AD G I)) (F0 m 29 ls [])) {v1 : Int32} {v2 : Int32} {v3 : Int32} {z : Sg} {H : Heap} {locs : List Loc} {ls : Array Slot} (h : pS_gap_83 fu rc29 v1 v2 v3 z = some (R1, Z)) (hG : GW G I z s.heap H locs) (hl : lv_has ls 4 [(0, .ref (gA G 0)), (1, .int v1), (2, .int v2), (3, .int v3)]) : W p l e rmS_gap s m args below meth c H locs 0 0 (MQ below (Qi G I R1 Z) args s 0 0 (AD G I)) (F0 m 83 ls []) := by
  unfold pS_gap_83 at h
  refine rIinc C dS_gap_83 hl 3 rfl (d := 1) (by decide) h (by decide) [(0, .ref (gA G 0)), (1, .int v1), (2, .int v2)] rfl (fun x15 ls h hl => ?_)
  refine lv_goto (tgt := 29) C.1 C.2.1 dS_gap_86 (by decide) ?_
  exact hr29 h hG (lv_sub hl [1, 2, 3, 0] rfl)
theorem wS_gap_29 {p : Program} {l : Launch} {e : Env} {s : State} {m : MethodId} {args : Array Value} {below : List Frame} {meth : Method} {c : Code} {G : GT} {I : List Nat} (C : CX p s m args meth c NS bS_gap 4 (some .int) G I) (hI : cI I) {fu : Nat} {R1 : Int32} {Z : Sg} : ∀ (k : Nat) {v1 : Int32} {v2 : Int32} {v3 : Int32} {z : Sg} {H : Heap} {locs : List Loc} {ls : Array Slot}, pS_gap_29 fu k v1 v2 v3 z = some (R1, Z) → GW G I z s.heap H locs → lv_has ls 4 [(0, .ref (gA G 0)), (1, .int v1), (2, .int v2), (3, .int v3)] → W p l e rmS_gap s m args below meth c H locs 0 0 (MQ below (Qi G I R1 Z) args s 0 0 (AD G I)) (F0 m 29 ls []) := by
  intro k
  induction k with
  | zero => intro v1 v2 v3 z H locs ls h hG hl; rw [pS_gap_29] at h; cases h
  | succ k ih =>
    intro v1 v2 v3 z H locs ls h hG hl
    rw [pS_gap_29] at h
    refine rIload_n C dS_gap_29 hl 3 rfl ?_
    refine lv_bipush (v := 10) C.1 C.2.1 dS_gap_30 (by decide) ?_
    refine rIcmpge C (tgt := 89) h dS_gap_32 (by decide) (fun h => ?_) (fun h => ?_)
    · refine rAload_n C dS_gap_89 hl 0 rfl ?_
      refine rGet C hG (hI 0 (by decide)) e_0 fiS_3 (v := .ref (gA G 5)) rfl k_372 dS_gap_90 ?_
      refine rIload_n C dS_gap_93 hl 2 rfl ?_
      refine rCVi [.int v2] [] C hG h (fun h => cB_tells hI h) mvB_tells k_594 ⟨Nat.le_of_ble_eq_true rfl, Nat.le_of_ble_eq_true rfl⟩ ⟨rfl, rfl⟩ (rRecv C hG (hI 5 (by decide)) e_5 rfl) rfl hl.1 (Nat.le_of_ble_eq_true rfl) dS_gap_94 ⟨Nat.zero_le _, Nat.zero_le _⟩ rfl (fun H locs x7 z6 h hG => ?_)
      exact rReti C hG h dS_gap_97
    · refine rAload_n C dS_gap_35 hl 0 rfl ?_
      refine rGet C hG (hI 0 (by decide)) e_0 fiS_5 (v := .ref (gA G 9)) rfl k_374 dS_gap_36 ?_
      refine rIload_n C dS_gap_39 hl 3 rfl ?_
      refine rCVi [.int v3] [] C hG h (fun h => cR_whoAt hI row9 h) mvR_whoAt k_428 ⟨Nat.le_of_ble_eq_true rfl, Nat.le_of_ble_eq_true rfl⟩ ⟨rfl, rfl⟩ (rRecv C hG (hI 9 (by decide)) e_9 rfl) rfl hl.1 (Nat.le_of_ble_eq_true rfl) dS_gap_40 ⟨Nat.zero_le _, Nat.zero_le _⟩ rfl (fun H locs x9 z8 h hG => ?_)
      refine rIfge C (tgt := 83) h dS_gap_43 (by decide) (fun h => ?_) (fun h => ?_)
      · exact wS_gap_83 C hI ih h hG (lv_sub hl [0, 1, 2, 3] rfl)
      · refine rAload_n C dS_gap_46 hl 0 rfl ?_
        refine rGet C hG (hI 0 (by decide)) e_0 fiS_6 (v := .ref (gA G 20)) rfl k_375 dS_gap_47 ?_
        refine rAload_n C dS_gap_50 hl 0 rfl ?_
        refine rGet C hG (hI 0 (by decide)) e_0 fiS_5 (v := .ref (gA G 9)) rfl k_374 dS_gap_51 ?_
        refine rCVv [.ref (gA G 9)] [] C hG h (fun h => cR_become hI row20 row9 h) mvR_become k_552 ⟨Nat.le_of_ble_eq_true rfl, Nat.le_of_ble_eq_true rfl⟩ ⟨rfl, rfl⟩ (rRecv C hG (hI 20 (by decide)) e_20 rfl) rfl hl.1 (Nat.le_of_ble_eq_true rfl) dS_gap_54 ⟨Nat.zero_le _, Nat.zero_le _⟩ rfl (fun H locs z10 h hG => ?_)
        refine rAload_n C dS_gap_57 hl 0 rfl ?_
        refine rGet C hG (hI 0 (by decide)) e_0 fiS_6 (v := .ref (gA G 20)) rfl k_375 dS_gap_58 ?_
        refine rGet C hG (hI 20 (by decide)) e_20 fiR_1 (v := .ref (gA G 21)) rfl k_140 dS_gap_61 ?_
        refine lv_iconst (v := 0) C.1 C.2.1 dS_gap_64 (by decide) ?_
        refine rIload_n C dS_gap_65 hl 3 rfl ?_
        refine rIastK C hG (hI 21 (by decide)) e_21 0 (by decide) (by decide) h dS_gap_66 (fun H locs z11 h hG => ?_)
        refine rAload_n C dS_gap_67 hl 0 rfl ?_
        refine rGet C hG (hI 0 (by decide)) e_0 fiS_3 (v := .ref (gA G 5)) rfl k_372 dS_gap_68 ?_
        refine rIload_n C dS_gap_71 hl 3 rfl ?_
        refine rAload_n C dS_gap_72 hl 0 rfl ?_
        refine rGet C hG (hI 0 (by decide)) e_0 fiS_6 (v := .ref (gA G 20)) rfl k_375 dS_gap_73 ?_
        refine rIload_n C dS_gap_76 hl 1 rfl ?_
        refine rCVi [.int v1] [.int v3, .ref (gA G 5)] C hG h (fun h => cR_cutBy hI row20 h) mvR_cutBy k_557 ⟨Nat.le_of_ble_eq_true rfl, Nat.le_of_ble_eq_true rfl⟩ ⟨rfl, rfl⟩ (rRecv C hG (hI 20 (by decide)) e_20 rfl) rfl hl.1 (Nat.le_of_ble_eq_true rfl) dS_gap_77 ⟨Nat.zero_le _, Nat.zero_le _⟩ rfl (fun H locs x13 z12 h hG => ?_)
        refine rCVv [.int v3, .int x13] [] C hG h (fun h => cB_offer hI h) mvB_offer k_590 ⟨Nat.le_of_ble_eq_true rfl, Nat.le_of_ble_eq_true rfl⟩ ⟨rfl, rfl⟩ (rRecv C hG (hI 5 (by decide)) e_5 rfl) rfl hl.1 (Nat.le_of_ble_eq_true rfl) dS_gap_80 ⟨Nat.zero_le _, Nat.zero_le _⟩ rfl (fun H locs z14 h hG => ?_)
        exact wS_gap_83 C hI ih h hG (lv_sub hl [0, 1, 2, 3] rfl)
theorem cS_gap {l : Launch} {G : GT} {I : List Nat} (hI : cI I) {fu : Nat} {v1 : Int32} {v2 : Int32} {z : Sg} {R1 : Int32} {Z : Sg} (h : pS_gap fu v1 v2 z = some (R1, Z)) : Mt l yS_gap rmS_gap bS_gap 4 (some .int) G I z [.ref (gA G 0), .int v1, .int v2] (Qi G I R1 Z) := by
  refine entM (by decide +kernel) (Nat.le_of_ble_eq_true rfl) ?_
  intro p e s m below meth c C hG ls hl
  have hl : lv_has ls 4 [(0, .ref (gA G 0)), (1, .int v1), (2, .int v2)] := hl
  unfold pS_gap at h
  refine rIload_n C dS_gap_0 hl 1 rfl ?_
  refine lv_bipush (v := 40) C.1 C.2.1 dS_gap_1 (by decide) ?_
  refine rCSi [.int v1, .int 40] [] C hG h (fun h => cS_within hI h) mvS_within k_423 ⟨Nat.le_of_ble_eq_true rfl, Nat.le_of_ble_eq_true rfl⟩ ⟨rfl, rfl⟩ rfl hl.1 (Nat.le_of_ble_eq_true rfl) dS_gap_3 ⟨Nat.zero_le _, Nat.zero_le _⟩ rfl (fun H locs x2 z1 h hG => ?_)
  refine rIfeq C (tgt := 17) h dS_gap_6 (by decide) (fun h => ?_) (fun h => ?_)
  · refine lv_bipush (v := (-2)) C.1 C.2.1 dS_gap_17 (by decide) ?_
    exact rReti C hG h dS_gap_19
  · refine rIload_n C dS_gap_9 hl 2 rfl ?_
    refine lv_iconst (v := 1) C.1 C.2.1 dS_gap_10 (by decide) ?_
    refine rCSi [.int v2, .int 1] [] C hG h (fun h => cS_within hI h) mvS_within k_423 ⟨Nat.le_of_ble_eq_true rfl, Nat.le_of_ble_eq_true rfl⟩ ⟨rfl, rfl⟩ rfl hl.1 (Nat.le_of_ble_eq_true rfl) dS_gap_11 ⟨Nat.zero_le _, Nat.zero_le _⟩ rfl (fun H locs x4 z3 h hG => ?_)
    refine rIfne C (tgt := 20) h dS_gap_14 (by decide) (fun h => ?_) (fun h => ?_)
    · refine rAload_n C dS_gap_20 hl 0 rfl ?_
      refine rGet C hG (hI 0 (by decide)) e_0 fiS_3 (v := .ref (gA G 5)) rfl k_372 dS_gap_21 ?_
      refine rCVv [] [] C hG h (fun h => cB_clear hI h) mvB_clear k_586 ⟨Nat.le_of_ble_eq_true rfl, Nat.le_of_ble_eq_true rfl⟩ ⟨rfl, rfl⟩ (rRecv C hG (hI 5 (by decide)) e_5 rfl) rfl hl.1 (Nat.le_of_ble_eq_true rfl) dS_gap_24 ⟨Nat.zero_le _, Nat.zero_le _⟩ rfl (fun H locs z5 h hG => ?_)
      refine lv_iconst (v := 0) C.1 C.2.1 dS_gap_27 (by decide) ?_
      refine rIstoreA_n C dS_gap_28 hl (by decide) [(0, .ref (gA G 0)), (1, .int v1), (2, .int v2)] rfl (fun ls hl => ?_)
      exact wS_gap_29 C hI _ h hG (lv_sub hl [1, 2, 3, 0] rfl)
    · refine lv_bipush (v := (-2)) C.1 C.2.1 dS_gap_17 (by decide) ?_
      exact rReti C hG h dS_gap_19
theorem dS_stands_0 : decode bS_stands 0 = .ok (.aload_n 0, 1) := by decide +kernel
theorem dS_stands_1 : decode bS_stands 1 = .ok (.getfield 49, 3) := by decide +kernel
theorem dS_stands_4 : decode bS_stands 4 = .ok (.iload_n 1, 1) := by decide +kernel
theorem dS_stands_5 : decode bS_stands 5 = .ok (.invokevirtual 122, 3) := by decide +kernel
theorem dS_stands_8 : decode bS_stands 8 = .ok (.ifCond .ne 6, 3) := by decide +kernel
theorem dS_stands_11 : decode bS_stands 11 = .ok (.bipush (-5), 2) := by decide +kernel
theorem dS_stands_13 : decode bS_stands 13 = .ok (.ireturn, 1) := by decide +kernel
theorem dS_stands_14 : decode bS_stands 14 = .ok (.iload_n 2, 1) := by decide +kernel
theorem dS_stands_15 : decode bS_stands 15 = .ok (.bipush 40, 2) := by decide +kernel
theorem dS_stands_17 : decode bS_stands 17 = .ok (.invokestatic 108, 3) := by decide +kernel
theorem dS_stands_20 : decode bS_stands 20 = .ok (.ifCond .eq 11, 3) := by decide +kernel
theorem dS_stands_23 : decode bS_stands 23 = .ok (.iload_n 3, 1) := by decide +kernel
theorem dS_stands_24 : decode bS_stands 24 = .ok (.iconst 1, 1) := by decide +kernel
theorem dS_stands_25 : decode bS_stands 25 = .ok (.invokestatic 108, 3) := by decide +kernel
theorem dS_stands_28 : decode bS_stands 28 = .ok (.ifCond .ne 6, 3) := by decide +kernel
theorem dS_stands_31 : decode bS_stands 31 = .ok (.bipush (-7), 2) := by decide +kernel
theorem dS_stands_33 : decode bS_stands 33 = .ok (.ireturn, 1) := by decide +kernel
theorem dS_stands_34 : decode bS_stands 34 = .ok (.aload_n 0, 1) := by decide +kernel
theorem dS_stands_35 : decode bS_stands 35 = .ok (.getfield 31, 3) := by decide +kernel
theorem dS_stands_38 : decode bS_stands 38 = .ok (.invokevirtual 178, 3) := by decide +kernel
theorem dS_stands_41 : decode bS_stands 41 = .ok (.iconst 0, 1) := by decide +kernel
theorem dS_stands_42 : decode bS_stands 42 = .ok (.istore 4, 2) := by decide +kernel
theorem dS_stands_44 : decode bS_stands 44 = .ok (.iload 4, 2) := by decide +kernel
theorem dS_stands_46 : decode bS_stands 46 = .ok (.bipush 10, 2) := by decide +kernel
theorem dS_stands_48 : decode bS_stands 48 = .ok (.if_icmp .ge 63, 3) := by decide +kernel
theorem dS_stands_51 : decode bS_stands 51 = .ok (.aload_n 0, 1) := by decide +kernel
theorem dS_stands_52 : decode bS_stands 52 = .ok (.getfield 49, 3) := by decide +kernel
theorem dS_stands_55 : decode bS_stands 55 = .ok (.iload_n 1, 1) := by decide +kernel
theorem dS_stands_56 : decode bS_stands 56 = .ok (.iload 4, 2) := by decide +kernel
theorem dS_stands_58 : decode bS_stands 58 = .ok (.invokevirtual 140, 3) := by decide +kernel
theorem dS_stands_61 : decode bS_stands 61 = .ok (.ifCond .eq 44, 3) := by decide +kernel
theorem dS_stands_64 : decode bS_stands 64 = .ok (.aload_n 0, 1) := by decide +kernel
theorem dS_stands_65 : decode bS_stands 65 = .ok (.getfield 53, 3) := by decide +kernel
theorem dS_stands_68 : decode bS_stands 68 = .ok (.aload_n 0, 1) := by decide +kernel
theorem dS_stands_69 : decode bS_stands 69 = .ok (.getfield 49, 3) := by decide +kernel
theorem dS_stands_72 : decode bS_stands 72 = .ok (.invokevirtual 166, 3) := by decide +kernel
theorem dS_stands_75 : decode bS_stands 75 = .ok (.aload_n 0, 1) := by decide +kernel
theorem dS_stands_76 : decode bS_stands 76 = .ok (.getfield 53, 3) := by decide +kernel
theorem dS_stands_79 : decode bS_stands 79 = .ok (.getfield 143, 3) := by decide +kernel
theorem dS_stands_82 : decode bS_stands 82 = .ok (.iconst 0, 1) := by decide +kernel
theorem dS_stands_83 : decode bS_stands 83 = .ok (.aaload, 1) := by decide +kernel
theorem dS_stands_84 : decode bS_stands 84 = .ok (.iload_n 1, 1) := by decide +kernel
theorem dS_stands_85 : decode bS_stands 85 = .ok (.iload 4, 2) := by decide +kernel
theorem dS_stands_87 : decode bS_stands 87 = .ok (.iastore, 1) := by decide +kernel
theorem dS_stands_88 : decode bS_stands 88 = .ok (.aload_n 0, 1) := by decide +kernel
theorem dS_stands_89 : decode bS_stands 89 = .ok (.getfield 31, 3) := by decide +kernel
theorem dS_stands_92 : decode bS_stands 92 = .ok (.iload 4, 2) := by decide +kernel
theorem dS_stands_94 : decode bS_stands 94 = .ok (.aload_n 0, 1) := by decide +kernel
theorem dS_stands_95 : decode bS_stands 95 = .ok (.getfield 53, 3) := by decide +kernel
theorem dS_stands_98 : decode bS_stands 98 = .ok (.iload_n 2, 1) := by decide +kernel
theorem dS_stands_99 : decode bS_stands 99 = .ok (.invokevirtual 169, 3) := by decide +kernel
theorem dS_stands_102 : decode bS_stands 102 = .ok (.invokevirtual 181, 3) := by decide +kernel
theorem dS_stands_105 : decode bS_stands 105 = .ok (.iinc 4 1, 3) := by decide +kernel
theorem dS_stands_108 : decode bS_stands 108 = .ok (.goto (-64), 3) := by decide +kernel
theorem dS_stands_111 : decode bS_stands 111 = .ok (.aload_n 0, 1) := by decide +kernel
theorem dS_stands_112 : decode bS_stands 112 = .ok (.getfield 31, 3) := by decide +kernel
theorem dS_stands_115 : decode bS_stands 115 = .ok (.iload_n 3, 1) := by decide +kernel
theorem dS_stands_116 : decode bS_stands 116 = .ok (.invokevirtual 185, 3) := by decide +kernel
theorem dS_stands_119 : decode bS_stands 119 = .ok (.ireturn, 1) := by decide +kernel
theorem wS_stands_105 {p : Program} {l : Launch} {e : Env} {s : State} {m : MethodId} {args : Array Value} {below : List Frame} {meth : Method} {c : Code} {G : GT} {I : List Nat} (C : CX p s m args meth c NS bS_stands 5 (some .int) G I) (hI : cI I) {fu : Nat} {R1 : Int32} {Z : Sg} {rc44 : Int32 → Int32 → Int32 → Int32 → Sg → Option (Int32 × Sg)} (hr44 : ∀ {v1 : Int32} {v2 : Int32} {v3 : Int32} {v4 : Int32} {z : Sg} {H : Heap} {locs : List Loc} {ls : Array Slot}, rc44 v1 v2 v3 v4 z = some (R1, Z) → GW G I z s.heap H locs → lv_has ls 5 [(0, .ref (gA G 0)), (1, .int v1), (2, .int v2), (3, .int v3), (4, .int v4)] → W p l e rmS_stands s m args below meth c H locs 0 0 (MQ below (Qi G I R1 Z) args s 0 0 (AD G I)) (F0 m 44 ls [])) {v1 : Int32} {v2 : Int32} {v3 : Int32} {v4 : Int32} {z : Sg} {H : Heap} {locs : List Loc} {ls : Array Slot} (h : pS_stands_105 fu rc44 v1 v2 v3 v4 z = some (R1, Z)) (hG : GW G I z s.heap H locs) (hl : lv_has ls 5 [(0, .ref (gA G 0)), (1, .int v1), (2, .int v2), (3, .int v3), (4, .int v4)]) : W p l e rmS_stands s m args below meth c H locs 0 0 (MQ below (Qi G I R1 Z) args s 0 0 (AD G I)) (F0 m 105 ls []) := by
  unfold pS_stands_105 at h
  refine rIinc C dS_stands_105 hl 4 rfl (d := 1) (by decide) h (by decide) [(0, .ref (gA G 0)), (1, .int v1), (2, .int v2), (3, .int v3)] rfl (fun x17 ls h hl => ?_)
  refine lv_goto (tgt := 44) C.1 C.2.1 dS_stands_108 (by decide) ?_
  exact hr44 h hG (lv_sub hl [1, 2, 3, 4, 0] rfl)
theorem wS_stands_44 {p : Program} {l : Launch} {e : Env} {s : State} {m : MethodId} {args : Array Value} {below : List Frame} {meth : Method} {c : Code} {G : GT} {I : List Nat} (C : CX p s m args meth c NS bS_stands 5 (some .int) G I) (hI : cI I) {fu : Nat} {R1 : Int32} {Z : Sg} : ∀ (k : Nat) {v1 : Int32} {v2 : Int32} {v3 : Int32} {v4 : Int32} {z : Sg} {H : Heap} {locs : List Loc} {ls : Array Slot}, pS_stands_44 fu k v1 v2 v3 v4 z = some (R1, Z) → GW G I z s.heap H locs → lv_has ls 5 [(0, .ref (gA G 0)), (1, .int v1), (2, .int v2), (3, .int v3), (4, .int v4)] → W p l e rmS_stands s m args below meth c H locs 0 0 (MQ below (Qi G I R1 Z) args s 0 0 (AD G I)) (F0 m 44 ls []) := by
  intro k
  induction k with
  | zero => intro v1 v2 v3 v4 z H locs ls h hG hl; rw [pS_stands_44] at h; cases h
  | succ k ih =>
    intro v1 v2 v3 v4 z H locs ls h hG hl
    rw [pS_stands_44] at h
    refine rIload C dS_stands_44 hl 4 rfl ?_
    refine lv_bipush (v := 10) C.1 C.2.1 dS_stands_46 (by decide) ?_
    refine rIcmpge C (tgt := 111) h dS_stands_48 (by decide) (fun h => ?_) (fun h => ?_)
    · refine rAload_n C dS_stands_111 hl 0 rfl ?_
      refine rGet C hG (hI 0 (by decide)) e_0 fiS_3 (v := .ref (gA G 5)) rfl k_372 dS_stands_112 ?_
      refine rIload_n C dS_stands_115 hl 3 rfl ?_
      refine rCVi [.int v3] [] C hG h (fun h => cB_tells hI h) mvB_tells k_594 ⟨Nat.le_of_ble_eq_true rfl, Nat.le_of_ble_eq_true rfl⟩ ⟨rfl, rfl⟩ (rRecv C hG (hI 5 (by decide)) e_5 rfl) rfl hl.1 (Nat.le_of_ble_eq_true rfl) dS_stands_116 ⟨Nat.zero_le _, Nat.zero_le _⟩ rfl (fun H locs x9 z8 h hG => ?_)
      exact rReti C hG h dS_stands_119
    · refine rAload_n C dS_stands_51 hl 0 rfl ?_
      refine rGet C hG (hI 0 (by decide)) e_0 fiS_5 (v := .ref (gA G 9)) rfl k_374 dS_stands_52 ?_
      refine rIload_n C dS_stands_55 hl 1 rfl ?_
      refine rIload C dS_stands_56 hl 4 rfl ?_
      refine rCVi [.int v1, .int v4] [] C hG h (fun h => cR_isFreeFor hI row9 h) mvR_isFreeFor k_495 ⟨Nat.le_of_ble_eq_true rfl, Nat.le_of_ble_eq_true rfl⟩ ⟨rfl, rfl⟩ (rRecv C hG (hI 9 (by decide)) e_9 rfl) rfl hl.1 (Nat.le_of_ble_eq_true rfl) dS_stands_58 ⟨Nat.zero_le _, Nat.zero_le _⟩ rfl (fun H locs x11 z10 h hG => ?_)
      refine rIfeq C (tgt := 105) h dS_stands_61 (by decide) (fun h => ?_) (fun h => ?_)
      · exact wS_stands_105 C hI ih h hG (lv_sub hl [0, 1, 2, 3, 4] rfl)
      · refine rAload_n C dS_stands_64 hl 0 rfl ?_
        refine rGet C hG (hI 0 (by decide)) e_0 fiS_6 (v := .ref (gA G 20)) rfl k_375 dS_stands_65 ?_
        refine rAload_n C dS_stands_68 hl 0 rfl ?_
        refine rGet C hG (hI 0 (by decide)) e_0 fiS_5 (v := .ref (gA G 9)) rfl k_374 dS_stands_69 ?_
        refine rCVv [.ref (gA G 9)] [] C hG h (fun h => cR_become hI row20 row9 h) mvR_become k_552 ⟨Nat.le_of_ble_eq_true rfl, Nat.le_of_ble_eq_true rfl⟩ ⟨rfl, rfl⟩ (rRecv C hG (hI 20 (by decide)) e_20 rfl) rfl hl.1 (Nat.le_of_ble_eq_true rfl) dS_stands_72 ⟨Nat.zero_le _, Nat.zero_le _⟩ rfl (fun H locs z12 h hG => ?_)
        refine rAload_n C dS_stands_75 hl 0 rfl ?_
        refine rGet C hG (hI 0 (by decide)) e_0 fiS_6 (v := .ref (gA G 20)) rfl k_375 dS_stands_76 ?_
        refine rGet C hG (hI 20 (by decide)) e_20 fiR_2 (v := .ref (gA G 22)) rfl k_143 dS_stands_79 ?_
        refine lv_iconst (v := 0) C.1 C.2.1 dS_stands_82 (by decide) ?_
        refine rAaldK C hG (hI 22 (by decide)) e_22 (t0 := 3) rfl rfl 0 (by decide) (by decide) 23 rfl dS_stands_83 ?_
        refine rIload_n C dS_stands_84 hl 1 rfl ?_
        refine rIload C dS_stands_85 hl 4 rfl ?_
        refine rIast C hG (hI 23 (by decide)) e_23 h dS_stands_87 (fun H locs z13 h hG => ?_)
        refine rAload_n C dS_stands_88 hl 0 rfl ?_
        refine rGet C hG (hI 0 (by decide)) e_0 fiS_3 (v := .ref (gA G 5)) rfl k_372 dS_stands_89 ?_
        refine rIload C dS_stands_92 hl 4 rfl ?_
        refine rAload_n C dS_stands_94 hl 0 rfl ?_
        refine rGet C hG (hI 0 (by decide)) e_0 fiS_6 (v := .ref (gA G 20)) rfl k_375 dS_stands_95 ?_
        refine rIload_n C dS_stands_98 hl 2 rfl ?_
        refine rCVi [.int v2] [.int v4, .ref (gA G 5)] C hG h (fun h => cR_cutBy hI row20 h) mvR_cutBy k_557 ⟨Nat.le_of_ble_eq_true rfl, Nat.le_of_ble_eq_true rfl⟩ ⟨rfl, rfl⟩ (rRecv C hG (hI 20 (by decide)) e_20 rfl) rfl hl.1 (Nat.le_of_ble_eq_true rfl) dS_stands_99 ⟨Nat.zero_le _, Nat.zero_le _⟩ rfl (fun H locs x15 z14 h hG => ?_)
        refine rCVv [.int v4, .int x15] [] C hG h (fun h => cB_offer hI h) mvB_offer k_590 ⟨Nat.le_of_ble_eq_true rfl, Nat.le_of_ble_eq_true rfl⟩ ⟨rfl, rfl⟩ (rRecv C hG (hI 5 (by decide)) e_5 rfl) rfl hl.1 (Nat.le_of_ble_eq_true rfl) dS_stands_102 ⟨Nat.zero_le _, Nat.zero_le _⟩ rfl (fun H locs z16 h hG => ?_)
        exact wS_stands_105 C hI ih h hG (lv_sub hl [0, 1, 2, 3, 4] rfl)
theorem cS_stands {l : Launch} {G : GT} {I : List Nat} (hI : cI I) {fu : Nat} {v1 : Int32} {v2 : Int32} {v3 : Int32} {z : Sg} {R1 : Int32} {Z : Sg} (h : pS_stands fu v1 v2 v3 z = some (R1, Z)) : Mt l yS_stands rmS_stands bS_stands 5 (some .int) G I z [.ref (gA G 0), .int v1, .int v2, .int v3] (Qi G I R1 Z) := by
  refine entM (by decide +kernel) (Nat.le_of_ble_eq_true rfl) ?_
  intro p e s m below meth c C hG ls hl
  have hl : lv_has ls 5 [(0, .ref (gA G 0)), (1, .int v1), (2, .int v2), (3, .int v3)] := hl
  unfold pS_stands at h
  refine rAload_n C dS_stands_0 hl 0 rfl ?_
  refine rGet C hG (hI 0 (by decide)) e_0 fiS_5 (v := .ref (gA G 9)) rfl k_374 dS_stands_1 ?_
  refine rIload_n C dS_stands_4 hl 1 rfl ?_
  refine rCVi [.int v1] [] C hG h (fun h => cR_has hI row9 h) mvR_has k_452 ⟨Nat.le_of_ble_eq_true rfl, Nat.le_of_ble_eq_true rfl⟩ ⟨rfl, rfl⟩ (rRecv C hG (hI 9 (by decide)) e_9 rfl) rfl hl.1 (Nat.le_of_ble_eq_true rfl) dS_stands_5 ⟨Nat.zero_le _, Nat.zero_le _⟩ rfl (fun H locs x2 z1 h hG => ?_)
  refine rIfne C (tgt := 14) h dS_stands_8 (by decide) (fun h => ?_) (fun h => ?_)
  · refine rIload_n C dS_stands_14 hl 2 rfl ?_
    refine lv_bipush (v := 40) C.1 C.2.1 dS_stands_15 (by decide) ?_
    refine rCSi [.int v2, .int 40] [] C hG h (fun h => cS_within hI h) mvS_within k_423 ⟨Nat.le_of_ble_eq_true rfl, Nat.le_of_ble_eq_true rfl⟩ ⟨rfl, rfl⟩ rfl hl.1 (Nat.le_of_ble_eq_true rfl) dS_stands_17 ⟨Nat.zero_le _, Nat.zero_le _⟩ rfl (fun H locs x4 z3 h hG => ?_)
    refine rIfeq C (tgt := 31) h dS_stands_20 (by decide) (fun h => ?_) (fun h => ?_)
    · refine lv_bipush (v := (-7)) C.1 C.2.1 dS_stands_31 (by decide) ?_
      exact rReti C hG h dS_stands_33
    · refine rIload_n C dS_stands_23 hl 3 rfl ?_
      refine lv_iconst (v := 1) C.1 C.2.1 dS_stands_24 (by decide) ?_
      refine rCSi [.int v3, .int 1] [] C hG h (fun h => cS_within hI h) mvS_within k_423 ⟨Nat.le_of_ble_eq_true rfl, Nat.le_of_ble_eq_true rfl⟩ ⟨rfl, rfl⟩ rfl hl.1 (Nat.le_of_ble_eq_true rfl) dS_stands_25 ⟨Nat.zero_le _, Nat.zero_le _⟩ rfl (fun H locs x6 z5 h hG => ?_)
      refine rIfne C (tgt := 34) h dS_stands_28 (by decide) (fun h => ?_) (fun h => ?_)
      · refine rAload_n C dS_stands_34 hl 0 rfl ?_
        refine rGet C hG (hI 0 (by decide)) e_0 fiS_3 (v := .ref (gA G 5)) rfl k_372 dS_stands_35 ?_
        refine rCVv [] [] C hG h (fun h => cB_clear hI h) mvB_clear k_586 ⟨Nat.le_of_ble_eq_true rfl, Nat.le_of_ble_eq_true rfl⟩ ⟨rfl, rfl⟩ (rRecv C hG (hI 5 (by decide)) e_5 rfl) rfl hl.1 (Nat.le_of_ble_eq_true rfl) dS_stands_38 ⟨Nat.zero_le _, Nat.zero_le _⟩ rfl (fun H locs z7 h hG => ?_)
        refine lv_iconst (v := 0) C.1 C.2.1 dS_stands_41 (by decide) ?_
        refine rIstoreA C dS_stands_42 hl (by decide) [(0, .ref (gA G 0)), (1, .int v1), (2, .int v2), (3, .int v3)] rfl (fun ls hl => ?_)
        exact wS_stands_44 C hI _ h hG (lv_sub hl [1, 2, 3, 4, 0] rfl)
      · refine lv_bipush (v := (-7)) C.1 C.2.1 dS_stands_31 (by decide) ?_
        exact rReti C hG h dS_stands_33
  · refine lv_bipush (v := (-5)) C.1 C.2.1 dS_stands_11 (by decide) ?_
    exact rReti C hG h dS_stands_13
theorem dS_tempo_0 : decode bS_tempo 0 = .ok (.iload_n 1, 1) := by decide +kernel
theorem dS_tempo_1 : decode bS_tempo 1 = .ok (.bipush 40, 2) := by decide +kernel
theorem dS_tempo_3 : decode bS_tempo 3 = .ok (.invokestatic 108, 3) := by decide +kernel
theorem dS_tempo_6 : decode bS_tempo 6 = .ok (.ifCond .eq 11, 3) := by decide +kernel
theorem dS_tempo_9 : decode bS_tempo 9 = .ok (.iload_n 2, 1) := by decide +kernel
theorem dS_tempo_10 : decode bS_tempo 10 = .ok (.iconst 1, 1) := by decide +kernel
theorem dS_tempo_11 : decode bS_tempo 11 = .ok (.invokestatic 108, 3) := by decide +kernel
theorem dS_tempo_14 : decode bS_tempo 14 = .ok (.ifCond .ne 6, 3) := by decide +kernel
theorem dS_tempo_17 : decode bS_tempo 17 = .ok (.bipush (-2), 2) := by decide +kernel
theorem dS_tempo_19 : decode bS_tempo 19 = .ok (.ireturn, 1) := by decide +kernel
theorem dS_tempo_20 : decode bS_tempo 20 = .ok (.aload_n 0, 1) := by decide +kernel
theorem dS_tempo_21 : decode bS_tempo 21 = .ok (.getfield 31, 3) := by decide +kernel
theorem dS_tempo_24 : decode bS_tempo 24 = .ok (.invokevirtual 178, 3) := by decide +kernel
theorem dS_tempo_27 : decode bS_tempo 27 = .ok (.iconst 0, 1) := by decide +kernel
theorem dS_tempo_28 : decode bS_tempo 28 = .ok (.istore_n 3, 1) := by decide +kernel
theorem dS_tempo_29 : decode bS_tempo 29 = .ok (.iload_n 3, 1) := by decide +kernel
theorem dS_tempo_30 : decode bS_tempo 30 = .ok (.bipush 12, 2) := by decide +kernel
theorem dS_tempo_32 : decode bS_tempo 32 = .ok (.if_icmp .ge 46, 3) := by decide +kernel
theorem dS_tempo_35 : decode bS_tempo 35 = .ok (.aload_n 0, 1) := by decide +kernel
theorem dS_tempo_36 : decode bS_tempo 36 = .ok (.getfield 53, 3) := by decide +kernel
theorem dS_tempo_39 : decode bS_tempo 39 = .ok (.aload_n 0, 1) := by decide +kernel
theorem dS_tempo_40 : decode bS_tempo 40 = .ok (.getfield 49, 3) := by decide +kernel
theorem dS_tempo_43 : decode bS_tempo 43 = .ok (.invokevirtual 166, 3) := by decide +kernel
theorem dS_tempo_46 : decode bS_tempo 46 = .ok (.aload_n 0, 1) := by decide +kernel
theorem dS_tempo_47 : decode bS_tempo 47 = .ok (.getfield 53, 3) := by decide +kernel
theorem dS_tempo_50 : decode bS_tempo 50 = .ok (.getfield 119, 3) := by decide +kernel
theorem dS_tempo_53 : decode bS_tempo 53 = .ok (.iconst 2, 1) := by decide +kernel
theorem dS_tempo_54 : decode bS_tempo 54 = .ok (.iload_n 3, 1) := by decide +kernel
theorem dS_tempo_55 : decode bS_tempo 55 = .ok (.iastore, 1) := by decide +kernel
theorem dS_tempo_56 : decode bS_tempo 56 = .ok (.aload_n 0, 1) := by decide +kernel
theorem dS_tempo_57 : decode bS_tempo 57 = .ok (.getfield 31, 3) := by decide +kernel
theorem dS_tempo_60 : decode bS_tempo 60 = .ok (.iload_n 3, 1) := by decide +kernel
theorem dS_tempo_61 : decode bS_tempo 61 = .ok (.aload_n 0, 1) := by decide +kernel
theorem dS_tempo_62 : decode bS_tempo 62 = .ok (.getfield 53, 3) := by decide +kernel
theorem dS_tempo_65 : decode bS_tempo 65 = .ok (.iload_n 1, 1) := by decide +kernel
theorem dS_tempo_66 : decode bS_tempo 66 = .ok (.invokevirtual 169, 3) := by decide +kernel
theorem dS_tempo_69 : decode bS_tempo 69 = .ok (.invokevirtual 181, 3) := by decide +kernel
theorem dS_tempo_72 : decode bS_tempo 72 = .ok (.iinc 3 1, 3) := by decide +kernel
theorem dS_tempo_75 : decode bS_tempo 75 = .ok (.goto (-46), 3) := by decide +kernel
theorem dS_tempo_78 : decode bS_tempo 78 = .ok (.aload_n 0, 1) := by decide +kernel
theorem dS_tempo_79 : decode bS_tempo 79 = .ok (.getfield 31, 3) := by decide +kernel
theorem dS_tempo_82 : decode bS_tempo 82 = .ok (.iload_n 2, 1) := by decide +kernel
theorem dS_tempo_83 : decode bS_tempo 83 = .ok (.invokevirtual 185, 3) := by decide +kernel
theorem dS_tempo_86 : decode bS_tempo 86 = .ok (.ireturn, 1) := by decide +kernel
theorem wS_tempo_29 {p : Program} {l : Launch} {e : Env} {s : State} {m : MethodId} {args : Array Value} {below : List Frame} {meth : Method} {c : Code} {G : GT} {I : List Nat} (C : CX p s m args meth c NS bS_tempo 4 (some .int) G I) (hI : cI I) {fu : Nat} {R1 : Int32} {Z : Sg} : ∀ (k : Nat) {v1 : Int32} {v2 : Int32} {v3 : Int32} {z : Sg} {H : Heap} {locs : List Loc} {ls : Array Slot}, pS_tempo_29 fu k v1 v2 v3 z = some (R1, Z) → GW G I z s.heap H locs → lv_has ls 4 [(0, .ref (gA G 0)), (1, .int v1), (2, .int v2), (3, .int v3)] → W p l e rmS_tempo s m args below meth c H locs 0 0 (MQ below (Qi G I R1 Z) args s 0 0 (AD G I)) (F0 m 29 ls []) := by
  intro k
  induction k with
  | zero => intro v1 v2 v3 z H locs ls h hG hl; rw [pS_tempo_29] at h; cases h
  | succ k ih =>
    intro v1 v2 v3 z H locs ls h hG hl
    rw [pS_tempo_29] at h
    refine rIload_n C dS_tempo_29 hl 3 rfl ?_
    refine lv_bipush (v := 12) C.1 C.2.1 dS_tempo_30 (by decide) ?_
    refine rIcmpge C (tgt := 78) h dS_tempo_32 (by decide) (fun h => ?_) (fun h => ?_)
    · refine rAload_n C dS_tempo_78 hl 0 rfl ?_
      refine rGet C hG (hI 0 (by decide)) e_0 fiS_3 (v := .ref (gA G 5)) rfl k_372 dS_tempo_79 ?_
      refine rIload_n C dS_tempo_82 hl 2 rfl ?_
      refine rCVi [.int v2] [] C hG h (fun h => cB_tells hI h) mvB_tells k_594 ⟨Nat.le_of_ble_eq_true rfl, Nat.le_of_ble_eq_true rfl⟩ ⟨rfl, rfl⟩ (rRecv C hG (hI 5 (by decide)) e_5 rfl) rfl hl.1 (Nat.le_of_ble_eq_true rfl) dS_tempo_83 ⟨Nat.zero_le _, Nat.zero_le _⟩ rfl (fun H locs x7 z6 h hG => ?_)
      exact rReti C hG h dS_tempo_86
    · refine rAload_n C dS_tempo_35 hl 0 rfl ?_
      refine rGet C hG (hI 0 (by decide)) e_0 fiS_6 (v := .ref (gA G 20)) rfl k_375 dS_tempo_36 ?_
      refine rAload_n C dS_tempo_39 hl 0 rfl ?_
      refine rGet C hG (hI 0 (by decide)) e_0 fiS_5 (v := .ref (gA G 9)) rfl k_374 dS_tempo_40 ?_
      refine rCVv [.ref (gA G 9)] [] C hG h (fun h => cR_become hI row20 row9 h) mvR_become k_552 ⟨Nat.le_of_ble_eq_true rfl, Nat.le_of_ble_eq_true rfl⟩ ⟨rfl, rfl⟩ (rRecv C hG (hI 20 (by decide)) e_20 rfl) rfl hl.1 (Nat.le_of_ble_eq_true rfl) dS_tempo_43 ⟨Nat.zero_le _, Nat.zero_le _⟩ rfl (fun H locs z8 h hG => ?_)
      refine rAload_n C dS_tempo_46 hl 0 rfl ?_
      refine rGet C hG (hI 0 (by decide)) e_0 fiS_6 (v := .ref (gA G 20)) rfl k_375 dS_tempo_47 ?_
      refine rGet C hG (hI 20 (by decide)) e_20 fiR_1 (v := .ref (gA G 21)) rfl k_140 dS_tempo_50 ?_
      refine lv_iconst (v := 2) C.1 C.2.1 dS_tempo_53 (by decide) ?_
      refine rIload_n C dS_tempo_54 hl 3 rfl ?_
      refine rIastK C hG (hI 21 (by decide)) e_21 2 (by decide) (by decide) h dS_tempo_55 (fun H locs z9 h hG => ?_)
      refine rAload_n C dS_tempo_56 hl 0 rfl ?_
      refine rGet C hG (hI 0 (by decide)) e_0 fiS_3 (v := .ref (gA G 5)) rfl k_372 dS_tempo_57 ?_
      refine rIload_n C dS_tempo_60 hl 3 rfl ?_
      refine rAload_n C dS_tempo_61 hl 0 rfl ?_
      refine rGet C hG (hI 0 (by decide)) e_0 fiS_6 (v := .ref (gA G 20)) rfl k_375 dS_tempo_62 ?_
      refine rIload_n C dS_tempo_65 hl 1 rfl ?_
      refine rCVi [.int v1] [.int v3, .ref (gA G 5)] C hG h (fun h => cR_cutBy hI row20 h) mvR_cutBy k_557 ⟨Nat.le_of_ble_eq_true rfl, Nat.le_of_ble_eq_true rfl⟩ ⟨rfl, rfl⟩ (rRecv C hG (hI 20 (by decide)) e_20 rfl) rfl hl.1 (Nat.le_of_ble_eq_true rfl) dS_tempo_66 ⟨Nat.zero_le _, Nat.zero_le _⟩ rfl (fun H locs x11 z10 h hG => ?_)
      refine rCVv [.int v3, .int x11] [] C hG h (fun h => cB_offer hI h) mvB_offer k_590 ⟨Nat.le_of_ble_eq_true rfl, Nat.le_of_ble_eq_true rfl⟩ ⟨rfl, rfl⟩ (rRecv C hG (hI 5 (by decide)) e_5 rfl) rfl hl.1 (Nat.le_of_ble_eq_true rfl) dS_tempo_69 ⟨Nat.zero_le _, Nat.zero_le _⟩ rfl (fun H locs z12 h hG => ?_)
      refine rIinc C dS_tempo_72 hl 3 rfl (d := 1) (by decide) h (by decide) [(0, .ref (gA G 0)), (1, .int v1), (2, .int v2)] rfl (fun x13 ls h hl => ?_)
      refine lv_goto (tgt := 29) C.1 C.2.1 dS_tempo_75 (by decide) ?_
      exact ih h hG (lv_sub hl [1, 2, 3, 0] rfl)
theorem cS_tempo {l : Launch} {G : GT} {I : List Nat} (hI : cI I) {fu : Nat} {v1 : Int32} {v2 : Int32} {z : Sg} {R1 : Int32} {Z : Sg} (h : pS_tempo fu v1 v2 z = some (R1, Z)) : Mt l yS_tempo rmS_tempo bS_tempo 4 (some .int) G I z [.ref (gA G 0), .int v1, .int v2] (Qi G I R1 Z) := by
  refine entM (by decide +kernel) (Nat.le_of_ble_eq_true rfl) ?_
  intro p e s m below meth c C hG ls hl
  have hl : lv_has ls 4 [(0, .ref (gA G 0)), (1, .int v1), (2, .int v2)] := hl
  unfold pS_tempo at h
  refine rIload_n C dS_tempo_0 hl 1 rfl ?_
  refine lv_bipush (v := 40) C.1 C.2.1 dS_tempo_1 (by decide) ?_
  refine rCSi [.int v1, .int 40] [] C hG h (fun h => cS_within hI h) mvS_within k_423 ⟨Nat.le_of_ble_eq_true rfl, Nat.le_of_ble_eq_true rfl⟩ ⟨rfl, rfl⟩ rfl hl.1 (Nat.le_of_ble_eq_true rfl) dS_tempo_3 ⟨Nat.zero_le _, Nat.zero_le _⟩ rfl (fun H locs x2 z1 h hG => ?_)
  refine rIfeq C (tgt := 17) h dS_tempo_6 (by decide) (fun h => ?_) (fun h => ?_)
  · refine lv_bipush (v := (-2)) C.1 C.2.1 dS_tempo_17 (by decide) ?_
    exact rReti C hG h dS_tempo_19
  · refine rIload_n C dS_tempo_9 hl 2 rfl ?_
    refine lv_iconst (v := 1) C.1 C.2.1 dS_tempo_10 (by decide) ?_
    refine rCSi [.int v2, .int 1] [] C hG h (fun h => cS_within hI h) mvS_within k_423 ⟨Nat.le_of_ble_eq_true rfl, Nat.le_of_ble_eq_true rfl⟩ ⟨rfl, rfl⟩ rfl hl.1 (Nat.le_of_ble_eq_true rfl) dS_tempo_11 ⟨Nat.zero_le _, Nat.zero_le _⟩ rfl (fun H locs x4 z3 h hG => ?_)
    refine rIfne C (tgt := 20) h dS_tempo_14 (by decide) (fun h => ?_) (fun h => ?_)
    · refine rAload_n C dS_tempo_20 hl 0 rfl ?_
      refine rGet C hG (hI 0 (by decide)) e_0 fiS_3 (v := .ref (gA G 5)) rfl k_372 dS_tempo_21 ?_
      refine rCVv [] [] C hG h (fun h => cB_clear hI h) mvB_clear k_586 ⟨Nat.le_of_ble_eq_true rfl, Nat.le_of_ble_eq_true rfl⟩ ⟨rfl, rfl⟩ (rRecv C hG (hI 5 (by decide)) e_5 rfl) rfl hl.1 (Nat.le_of_ble_eq_true rfl) dS_tempo_24 ⟨Nat.zero_le _, Nat.zero_le _⟩ rfl (fun H locs z5 h hG => ?_)
      refine lv_iconst (v := 0) C.1 C.2.1 dS_tempo_27 (by decide) ?_
      refine rIstoreA_n C dS_tempo_28 hl (by decide) [(0, .ref (gA G 0)), (1, .int v1), (2, .int v2)] rfl (fun ls hl => ?_)
      exact wS_tempo_29 C hI _ h hG (lv_sub hl [1, 2, 3, 0] rfl)
    · refine lv_bipush (v := (-2)) C.1 C.2.1 dS_tempo_17 (by decide) ?_
      exact rReti C hG h dS_tempo_19
theorem dS_order_0 : decode bS_order 0 = .ok (.iload_n 1, 1) := by decide +kernel
theorem dS_order_1 : decode bS_order 1 = .ok (.bipush 6, 2) := by decide +kernel
theorem dS_order_3 : decode bS_order 3 = .ok (.invokestatic 108, 3) := by decide +kernel
theorem dS_order_6 : decode bS_order 6 = .ok (.ifCond .eq 11, 3) := by decide +kernel
theorem dS_order_9 : decode bS_order 9 = .ok (.iload_n 2, 1) := by decide +kernel
theorem dS_order_10 : decode bS_order 10 = .ok (.iconst 1, 1) := by decide +kernel
theorem dS_order_11 : decode bS_order 11 = .ok (.invokestatic 108, 3) := by decide +kernel
theorem dS_order_14 : decode bS_order 14 = .ok (.ifCond .ne 6, 3) := by decide +kernel
theorem dS_order_17 : decode bS_order 17 = .ok (.bipush (-2), 2) := by decide +kernel
theorem dS_order_19 : decode bS_order 19 = .ok (.ireturn, 1) := by decide +kernel
theorem dS_order_20 : decode bS_order 20 = .ok (.aload_n 0, 1) := by decide +kernel
theorem dS_order_21 : decode bS_order 21 = .ok (.getfield 31, 3) := by decide +kernel
theorem dS_order_24 : decode bS_order 24 = .ok (.invokevirtual 178, 3) := by decide +kernel
theorem dS_order_27 : decode bS_order 27 = .ok (.aload_n 0, 1) := by decide +kernel
theorem dS_order_28 : decode bS_order 28 = .ok (.getfield 38, 3) := by decide +kernel
theorem dS_order_31 : decode bS_order 31 = .ok (.aload_n 0, 1) := by decide +kernel
theorem dS_order_32 : decode bS_order 32 = .ok (.getfield 49, 3) := by decide +kernel
theorem dS_order_35 : decode bS_order 35 = .ok (.invokevirtual 188, 3) := by decide +kernel
theorem dS_order_38 : decode bS_order 38 = .ok (.iconst 1, 1) := by decide +kernel
theorem dS_order_39 : decode bS_order 39 = .ok (.istore_n 3, 1) := by decide +kernel
theorem dS_order_40 : decode bS_order 40 = .ok (.iconst 0, 1) := by decide +kernel
theorem dS_order_41 : decode bS_order 41 = .ok (.istore 4, 2) := by decide +kernel
theorem dS_order_43 : decode bS_order 43 = .ok (.iload 4, 2) := by decide +kernel
theorem dS_order_45 : decode bS_order 45 = .ok (.sipush 720, 3) := by decide +kernel
theorem dS_order_48 : decode bS_order 48 = .ok (.if_icmp .ge 65, 3) := by decide +kernel
theorem dS_order_51 : decode bS_order 51 = .ok (.iload_n 3, 1) := by decide +kernel
theorem dS_order_52 : decode bS_order 52 = .ok (.ifCond .eq 61, 3) := by decide +kernel
theorem dS_order_55 : decode bS_order 55 = .ok (.aload_n 0, 1) := by decide +kernel
theorem dS_order_56 : decode bS_order 56 = .ok (.getfield 53, 3) := by decide +kernel
theorem dS_order_59 : decode bS_order 59 = .ok (.aload_n 0, 1) := by decide +kernel
theorem dS_order_60 : decode bS_order 60 = .ok (.getfield 49, 3) := by decide +kernel
theorem dS_order_63 : decode bS_order 63 = .ok (.invokevirtual 166, 3) := by decide +kernel
theorem dS_order_66 : decode bS_order 66 = .ok (.aload_n 0, 1) := by decide +kernel
theorem dS_order_67 : decode bS_order 67 = .ok (.getfield 38, 3) := by decide +kernel
theorem dS_order_70 : decode bS_order 70 = .ok (.aload_n 0, 1) := by decide +kernel
theorem dS_order_71 : decode bS_order 71 = .ok (.getfield 53, 3) := by decide +kernel
theorem dS_order_74 : decode bS_order 74 = .ok (.invokevirtual 191, 3) := by decide +kernel
theorem dS_order_77 : decode bS_order 77 = .ok (.aload_n 0, 1) := by decide +kernel
theorem dS_order_78 : decode bS_order 78 = .ok (.getfield 31, 3) := by decide +kernel
theorem dS_order_81 : decode bS_order 81 = .ok (.aload_n 0, 1) := by decide +kernel
theorem dS_order_82 : decode bS_order 82 = .ok (.getfield 38, 3) := by decide +kernel
theorem dS_order_85 : decode bS_order 85 = .ok (.invokevirtual 194, 3) := by decide +kernel
theorem dS_order_88 : decode bS_order 88 = .ok (.aload_n 0, 1) := by decide +kernel
theorem dS_order_89 : decode bS_order 89 = .ok (.getfield 53, 3) := by decide +kernel
theorem dS_order_92 : decode bS_order 92 = .ok (.iload_n 1, 1) := by decide +kernel
theorem dS_order_93 : decode bS_order 93 = .ok (.invokevirtual 169, 3) := by decide +kernel
theorem dS_order_96 : decode bS_order 96 = .ok (.invokevirtual 181, 3) := by decide +kernel
theorem dS_order_99 : decode bS_order 99 = .ok (.aload_n 0, 1) := by decide +kernel
theorem dS_order_100 : decode bS_order 100 = .ok (.getfield 38, 3) := by decide +kernel
theorem dS_order_103 : decode bS_order 103 = .ok (.invokevirtual 197, 3) := by decide +kernel
theorem dS_order_106 : decode bS_order 106 = .ok (.istore_n 3, 1) := by decide +kernel
theorem dS_order_107 : decode bS_order 107 = .ok (.iinc 4 1, 3) := by decide +kernel
theorem dS_order_110 : decode bS_order 110 = .ok (.goto (-67), 3) := by decide +kernel
theorem dS_order_113 : decode bS_order 113 = .ok (.aload_n 0, 1) := by decide +kernel
theorem dS_order_114 : decode bS_order 114 = .ok (.getfield 31, 3) := by decide +kernel
theorem dS_order_117 : decode bS_order 117 = .ok (.iload_n 2, 1) := by decide +kernel
theorem dS_order_118 : decode bS_order 118 = .ok (.invokevirtual 185, 3) := by decide +kernel
theorem dS_order_121 : decode bS_order 121 = .ok (.ireturn, 1) := by decide +kernel
theorem wS_order_113 {p : Program} {l : Launch} {e : Env} {s : State} {m : MethodId} {args : Array Value} {below : List Frame} {meth : Method} {c : Code} {G : GT} {I : List Nat} (C : CX p s m args meth c NS bS_order 5 (some .int) G I) (hI : cI I) {fu : Nat} {R1 : Int32} {Z : Sg} {v2 : Int32} {z : Sg} {H : Heap} {locs : List Loc} {ls : Array Slot} (h : pS_order_113 fu v2 z = some (R1, Z)) (hG : GW G I z s.heap H locs) (hl : lv_has ls 5 [(0, .ref (gA G 0)), (2, .int v2)]) : W p l e rmS_order s m args below meth c H locs 0 0 (MQ below (Qi G I R1 Z) args s 0 0 (AD G I)) (F0 m 113 ls []) := by
  unfold pS_order_113 at h
  refine rAload_n C dS_order_113 hl 0 rfl ?_
  refine rGet C hG (hI 0 (by decide)) e_0 fiS_3 (v := .ref (gA G 5)) rfl k_372 dS_order_114 ?_
  refine rIload_n C dS_order_117 hl 1 rfl ?_
  refine rCVi [.int v2] [] C hG h (fun h => cB_tells hI h) mvB_tells k_594 ⟨Nat.le_of_ble_eq_true rfl, Nat.le_of_ble_eq_true rfl⟩ ⟨rfl, rfl⟩ (rRecv C hG (hI 5 (by decide)) e_5 rfl) rfl hl.1 (Nat.le_of_ble_eq_true rfl) dS_order_118 ⟨Nat.zero_le _, Nat.zero_le _⟩ rfl (fun H locs x18 z17 h hG => ?_)
  exact rReti C hG h dS_order_121
theorem wS_order_43 {p : Program} {l : Launch} {e : Env} {s : State} {m : MethodId} {args : Array Value} {below : List Frame} {meth : Method} {c : Code} {G : GT} {I : List Nat} (C : CX p s m args meth c NS bS_order 5 (some .int) G I) (hI : cI I) {fu : Nat} {R1 : Int32} {Z : Sg} : ∀ (k : Nat) {v1 : Int32} {v2 : Int32} {v3 : Int32} {v4 : Int32} {z : Sg} {H : Heap} {locs : List Loc} {ls : Array Slot}, pS_order_43 fu k v1 v2 v3 v4 z = some (R1, Z) → GW G I z s.heap H locs → lv_has ls 5 [(0, .ref (gA G 0)), (1, .int v1), (2, .int v2), (3, .int v3), (4, .int v4)] → W p l e rmS_order s m args below meth c H locs 0 0 (MQ below (Qi G I R1 Z) args s 0 0 (AD G I)) (F0 m 43 ls []) := by
  intro k
  induction k with
  | zero => intro v1 v2 v3 v4 z H locs ls h hG hl; rw [pS_order_43] at h; cases h
  | succ k ih =>
    intro v1 v2 v3 v4 z H locs ls h hG hl
    rw [pS_order_43] at h
    refine rIload C dS_order_43 hl 4 rfl ?_
    refine lv_sipush (v := 720) C.1 C.2.1 dS_order_45 (by decide) ?_
    refine rIcmpge C (tgt := 113) h dS_order_48 (by decide) (fun h => ?_) (fun h => ?_)
    · exact wS_order_113 C hI h hG (lv_sub hl [0, 2] rfl)
    · refine rIload_n C dS_order_51 hl 3 rfl ?_
      refine rIfeq C (tgt := 113) h dS_order_52 (by decide) (fun h => ?_) (fun h => ?_)
      · exact wS_order_113 C hI h hG (lv_sub hl [0, 2] rfl)
      · refine rAload_n C dS_order_55 hl 0 rfl ?_
        refine rGet C hG (hI 0 (by decide)) e_0 fiS_6 (v := .ref (gA G 20)) rfl k_375 dS_order_56 ?_
        refine rAload_n C dS_order_59 hl 0 rfl ?_
        refine rGet C hG (hI 0 (by decide)) e_0 fiS_5 (v := .ref (gA G 9)) rfl k_374 dS_order_60 ?_
        refine rCVv [.ref (gA G 9)] [] C hG h (fun h => cR_become hI row20 row9 h) mvR_become k_552 ⟨Nat.le_of_ble_eq_true rfl, Nat.le_of_ble_eq_true rfl⟩ ⟨rfl, rfl⟩ (rRecv C hG (hI 20 (by decide)) e_20 rfl) rfl hl.1 (Nat.le_of_ble_eq_true rfl) dS_order_63 ⟨Nat.zero_le _, Nat.zero_le _⟩ rfl (fun H locs z7 h hG => ?_)
        refine rAload_n C dS_order_66 hl 0 rfl ?_
        refine rGet C hG (hI 0 (by decide)) e_0 fiS_4 (v := .ref (gA G 6)) rfl k_373 dS_order_67 ?_
        refine rAload_n C dS_order_70 hl 0 rfl ?_
        refine rGet C hG (hI 0 (by decide)) e_0 fiS_6 (v := .ref (gA G 20)) rfl k_375 dS_order_71 ?_
        refine rCVv [.ref (gA G 20)] [] C hG h (fun h => cO_seat hI row20 h) mvO_seat k_615 ⟨Nat.le_of_ble_eq_true rfl, Nat.le_of_ble_eq_true rfl⟩ ⟨rfl, rfl⟩ (rRecv C hG (hI 6 (by decide)) e_6 rfl) rfl hl.1 (Nat.le_of_ble_eq_true rfl) dS_order_74 ⟨Nat.zero_le _, Nat.zero_le _⟩ rfl (fun H locs z8 h hG => ?_)
        refine rAload_n C dS_order_77 hl 0 rfl ?_
        refine rGet C hG (hI 0 (by decide)) e_0 fiS_3 (v := .ref (gA G 5)) rfl k_372 dS_order_78 ?_
        refine rAload_n C dS_order_81 hl 0 rfl ?_
        refine rGet C hG (hI 0 (by decide)) e_0 fiS_4 (v := .ref (gA G 6)) rfl k_373 dS_order_82 ?_
        refine rCVi [] [.ref (gA G 5)] C hG h (fun h => cO_digits hI h) mvO_digits k_619 ⟨Nat.le_of_ble_eq_true rfl, Nat.le_of_ble_eq_true rfl⟩ ⟨rfl, rfl⟩ (rRecv C hG (hI 6 (by decide)) e_6 rfl) rfl hl.1 (Nat.le_of_ble_eq_true rfl) dS_order_85 ⟨Nat.zero_le _, Nat.zero_le _⟩ rfl (fun H locs x10 z9 h hG => ?_)
        refine rAload_n C dS_order_88 hl 0 rfl ?_
        refine rGet C hG (hI 0 (by decide)) e_0 fiS_6 (v := .ref (gA G 20)) rfl k_375 dS_order_89 ?_
        refine rIload_n C dS_order_92 hl 1 rfl ?_
        refine rCVi [.int v1] [.int x10, .ref (gA G 5)] C hG h (fun h => cR_cutBy hI row20 h) mvR_cutBy k_557 ⟨Nat.le_of_ble_eq_true rfl, Nat.le_of_ble_eq_true rfl⟩ ⟨rfl, rfl⟩ (rRecv C hG (hI 20 (by decide)) e_20 rfl) rfl hl.1 (Nat.le_of_ble_eq_true rfl) dS_order_93 ⟨Nat.zero_le _, Nat.zero_le _⟩ rfl (fun H locs x12 z11 h hG => ?_)
        refine rCVv [.int x10, .int x12] [] C hG h (fun h => cB_offer hI h) mvB_offer k_590 ⟨Nat.le_of_ble_eq_true rfl, Nat.le_of_ble_eq_true rfl⟩ ⟨rfl, rfl⟩ (rRecv C hG (hI 5 (by decide)) e_5 rfl) rfl hl.1 (Nat.le_of_ble_eq_true rfl) dS_order_96 ⟨Nat.zero_le _, Nat.zero_le _⟩ rfl (fun H locs z13 h hG => ?_)
        refine rAload_n C dS_order_99 hl 0 rfl ?_
        refine rGet C hG (hI 0 (by decide)) e_0 fiS_4 (v := .ref (gA G 6)) rfl k_373 dS_order_100 ?_
        refine rCVi [] [] C hG h (fun h => cO_goesOn hI h) mvO_goesOn k_623 ⟨Nat.le_of_ble_eq_true rfl, Nat.le_of_ble_eq_true rfl⟩ ⟨rfl, rfl⟩ (rRecv C hG (hI 6 (by decide)) e_6 rfl) rfl hl.1 (Nat.le_of_ble_eq_true rfl) dS_order_103 ⟨Nat.zero_le _, Nat.zero_le _⟩ rfl (fun H locs x15 z14 h hG => ?_)
        refine rIstoreA_n C dS_order_106 hl (by decide) [(0, .ref (gA G 0)), (1, .int v1), (2, .int v2), (4, .int v4)] rfl (fun ls hl => ?_)
        refine rIinc C dS_order_107 hl 4 rfl (d := 1) (by decide) h (by decide) [(3, .int x15), (0, .ref (gA G 0)), (1, .int v1), (2, .int v2)] rfl (fun x16 ls h hl => ?_)
        refine lv_goto (tgt := 43) C.1 C.2.1 dS_order_110 (by decide) ?_
        exact ih h hG (lv_sub hl [2, 3, 4, 1, 0] rfl)
theorem cS_order {l : Launch} {G : GT} {I : List Nat} (hI : cI I) {fu : Nat} {v1 : Int32} {v2 : Int32} {z : Sg} {R1 : Int32} {Z : Sg} (h : pS_order fu v1 v2 z = some (R1, Z)) : Mt l yS_order rmS_order bS_order 5 (some .int) G I z [.ref (gA G 0), .int v1, .int v2] (Qi G I R1 Z) := by
  refine entM (by decide +kernel) (Nat.le_of_ble_eq_true rfl) ?_
  intro p e s m below meth c C hG ls hl
  have hl : lv_has ls 5 [(0, .ref (gA G 0)), (1, .int v1), (2, .int v2)] := hl
  unfold pS_order at h
  refine rIload_n C dS_order_0 hl 1 rfl ?_
  refine lv_bipush (v := 6) C.1 C.2.1 dS_order_1 (by decide) ?_
  refine rCSi [.int v1, .int 6] [] C hG h (fun h => cS_within hI h) mvS_within k_423 ⟨Nat.le_of_ble_eq_true rfl, Nat.le_of_ble_eq_true rfl⟩ ⟨rfl, rfl⟩ rfl hl.1 (Nat.le_of_ble_eq_true rfl) dS_order_3 ⟨Nat.zero_le _, Nat.zero_le _⟩ rfl (fun H locs x2 z1 h hG => ?_)
  refine rIfeq C (tgt := 17) h dS_order_6 (by decide) (fun h => ?_) (fun h => ?_)
  · refine lv_bipush (v := (-2)) C.1 C.2.1 dS_order_17 (by decide) ?_
    exact rReti C hG h dS_order_19
  · refine rIload_n C dS_order_9 hl 2 rfl ?_
    refine lv_iconst (v := 1) C.1 C.2.1 dS_order_10 (by decide) ?_
    refine rCSi [.int v2, .int 1] [] C hG h (fun h => cS_within hI h) mvS_within k_423 ⟨Nat.le_of_ble_eq_true rfl, Nat.le_of_ble_eq_true rfl⟩ ⟨rfl, rfl⟩ rfl hl.1 (Nat.le_of_ble_eq_true rfl) dS_order_11 ⟨Nat.zero_le _, Nat.zero_le _⟩ rfl (fun H locs x4 z3 h hG => ?_)
    refine rIfne C (tgt := 20) h dS_order_14 (by decide) (fun h => ?_) (fun h => ?_)
    · refine rAload_n C dS_order_20 hl 0 rfl ?_
      refine rGet C hG (hI 0 (by decide)) e_0 fiS_3 (v := .ref (gA G 5)) rfl k_372 dS_order_21 ?_
      refine rCVv [] [] C hG h (fun h => cB_clear hI h) mvB_clear k_586 ⟨Nat.le_of_ble_eq_true rfl, Nat.le_of_ble_eq_true rfl⟩ ⟨rfl, rfl⟩ (rRecv C hG (hI 5 (by decide)) e_5 rfl) rfl hl.1 (Nat.le_of_ble_eq_true rfl) dS_order_24 ⟨Nat.zero_le _, Nat.zero_le _⟩ rfl (fun H locs z5 h hG => ?_)
      refine rAload_n C dS_order_27 hl 0 rfl ?_
      refine rGet C hG (hI 0 (by decide)) e_0 fiS_4 (v := .ref (gA G 6)) rfl k_373 dS_order_28 ?_
      refine rAload_n C dS_order_31 hl 0 rfl ?_
      refine rGet C hG (hI 0 (by decide)) e_0 fiS_5 (v := .ref (gA G 9)) rfl k_374 dS_order_32 ?_
      refine rCVv [.ref (gA G 9)] [] C hG h (fun h => cO_begin hI row9 h) mvO_begin k_610 ⟨Nat.le_of_ble_eq_true rfl, Nat.le_of_ble_eq_true rfl⟩ ⟨rfl, rfl⟩ (rRecv C hG (hI 6 (by decide)) e_6 rfl) rfl hl.1 (Nat.le_of_ble_eq_true rfl) dS_order_35 ⟨Nat.zero_le _, Nat.zero_le _⟩ rfl (fun H locs z6 h hG => ?_)
      refine lv_iconst (v := 1) C.1 C.2.1 dS_order_38 (by decide) ?_
      refine rIstoreA_n C dS_order_39 hl (by decide) [(0, .ref (gA G 0)), (1, .int v1), (2, .int v2)] rfl (fun ls hl => ?_)
      refine lv_iconst (v := 0) C.1 C.2.1 dS_order_40 (by decide) ?_
      refine rIstoreA C dS_order_41 hl (by decide) [(3, .int 1), (0, .ref (gA G 0)), (1, .int v1), (2, .int v2)] rfl (fun ls hl => ?_)
      exact wS_order_43 C hI _ h hG (lv_sub hl [2, 3, 4, 1, 0] rfl)
    · refine lv_bipush (v := (-2)) C.1 C.2.1 dS_order_17 (by decide) ?_
      exact rReti C hG h dS_order_19
theorem dS_lowestTerm_0 : decode bS_lowestTerm 0 = .ok (.iload_n 1, 1) := by decide +kernel
theorem dS_lowestTerm_1 : decode bS_lowestTerm 1 = .ok (.istore_n 3, 1) := by decide +kernel
theorem dS_lowestTerm_2 : decode bS_lowestTerm 2 = .ok (.iload_n 0, 1) := by decide +kernel
theorem dS_lowestTerm_3 : decode bS_lowestTerm 3 = .ok (.istore 4, 2) := by decide +kernel
theorem dS_lowestTerm_5 : decode bS_lowestTerm 5 = .ok (.iconst 0, 1) := by decide +kernel
theorem dS_lowestTerm_6 : decode bS_lowestTerm 6 = .ok (.istore 5, 2) := by decide +kernel
theorem dS_lowestTerm_8 : decode bS_lowestTerm 8 = .ok (.iload 5, 2) := by decide +kernel
theorem dS_lowestTerm_10 : decode bS_lowestTerm 10 = .ok (.bipush 64, 2) := by decide +kernel
theorem dS_lowestTerm_12 : decode bS_lowestTerm 12 = .ok (.if_icmp .ge 27, 3) := by decide +kernel
theorem dS_lowestTerm_15 : decode bS_lowestTerm 15 = .ok (.iload 4, 2) := by decide +kernel
theorem dS_lowestTerm_17 : decode bS_lowestTerm 17 = .ok (.ifCond .eq 22, 3) := by decide +kernel
theorem dS_lowestTerm_20 : decode bS_lowestTerm 20 = .ok (.iload_n 3, 1) := by decide +kernel
theorem dS_lowestTerm_21 : decode bS_lowestTerm 21 = .ok (.iload 4, 2) := by decide +kernel
theorem dS_lowestTerm_23 : decode bS_lowestTerm 23 = .ok (.irem, 1) := by decide +kernel
theorem dS_lowestTerm_24 : decode bS_lowestTerm 24 = .ok (.istore 6, 2) := by decide +kernel
theorem dS_lowestTerm_26 : decode bS_lowestTerm 26 = .ok (.iload 4, 2) := by decide +kernel
theorem dS_lowestTerm_28 : decode bS_lowestTerm 28 = .ok (.istore_n 3, 1) := by decide +kernel
theorem dS_lowestTerm_29 : decode bS_lowestTerm 29 = .ok (.iload 6, 2) := by decide +kernel
theorem dS_lowestTerm_31 : decode bS_lowestTerm 31 = .ok (.istore 4, 2) := by decide +kernel
theorem dS_lowestTerm_33 : decode bS_lowestTerm 33 = .ok (.iinc 5 1, 3) := by decide +kernel
theorem dS_lowestTerm_36 : decode bS_lowestTerm 36 = .ok (.goto (-28), 3) := by decide +kernel
theorem dS_lowestTerm_39 : decode bS_lowestTerm 39 = .ok (.iload_n 3, 1) := by decide +kernel
theorem dS_lowestTerm_40 : decode bS_lowestTerm 40 = .ok (.ifCond .ne 7, 3) := by decide +kernel
theorem dS_lowestTerm_43 : decode bS_lowestTerm 43 = .ok (.ldc2_w 200, 3) := by decide +kernel
theorem dS_lowestTerm_46 : decode bS_lowestTerm 46 = .ok (.lreturn, 1) := by decide +kernel
theorem dS_lowestTerm_47 : decode bS_lowestTerm 47 = .ok (.iload_n 2, 1) := by decide +kernel
theorem dS_lowestTerm_48 : decode bS_lowestTerm 48 = .ok (.ifCond .ne 7, 3) := by decide +kernel
theorem dS_lowestTerm_51 : decode bS_lowestTerm 51 = .ok (.iload_n 0, 1) := by decide +kernel
theorem dS_lowestTerm_52 : decode bS_lowestTerm 52 = .ok (.goto 4, 3) := by decide +kernel
theorem dS_lowestTerm_55 : decode bS_lowestTerm 55 = .ok (.iload_n 1, 1) := by decide +kernel
theorem dS_lowestTerm_56 : decode bS_lowestTerm 56 = .ok (.iload_n 3, 1) := by decide +kernel
theorem dS_lowestTerm_57 : decode bS_lowestTerm 57 = .ok (.idiv, 1) := by decide +kernel
theorem dS_lowestTerm_58 : decode bS_lowestTerm 58 = .ok (.i2l, 1) := by decide +kernel
theorem dS_lowestTerm_59 : decode bS_lowestTerm 59 = .ok (.lreturn, 1) := by decide +kernel
theorem wS_lowestTerm_39 {p : Program} {l : Launch} {e : Env} {s : State} {m : MethodId} {args : Array Value} {below : List Frame} {meth : Method} {c : Code} {G : GT} {I : List Nat} (C : CX p s m args meth c NS bS_lowestTerm 7 (some .long) G I) (hI : cI I) {fu : Nat} {R1 : Int64} {Z : Sg} {v0 : Int32} {v1 : Int32} {v2 : Int32} {v3 : Int32} {z : Sg} {H : Heap} {locs : List Loc} {ls : Array Slot} (h : pS_lowestTerm_39 fu v0 v1 v2 v3 z = some (R1, Z)) (hG : GW G I z s.heap H locs) (hl : lv_has ls 7 [(0, .int v0), (1, .int v1), (2, .int v2), (3, .int v3)]) : W p l e rmS_lowestTerm s m args below meth c H locs 0 0 (MQ below (Ql G I R1 Z) args s 0 0 (AD G I)) (F0 m 39 ls []) := by
  unfold pS_lowestTerm_39 at h
  refine rIload_n C dS_lowestTerm_39 hl 3 rfl ?_
  refine rIfne C (tgt := 47) h dS_lowestTerm_40 (by decide) (fun h => ?_) (fun h => ?_)
  · refine rIload_n C dS_lowestTerm_47 hl 2 rfl ?_
    refine rIfne C (tgt := 55) h dS_lowestTerm_48 (by decide) (fun h => ?_) (fun h => ?_)
    · refine rIload_n C dS_lowestTerm_55 hl 1 rfl ?_
      refine rIload_n C dS_lowestTerm_56 hl 3 rfl ?_
      refine rIdiv C h dS_lowestTerm_57 (fun h => ?_)
      refine lv_i2l C.1 C.2.1 dS_lowestTerm_58 rfl ?_
      exact rRetl C hG h dS_lowestTerm_59
    · refine rIload_n C dS_lowestTerm_51 hl 0 rfl ?_
      refine lv_goto (tgt := 56) C.1 C.2.1 dS_lowestTerm_52 (by decide) ?_
      refine rIload_n C dS_lowestTerm_56 hl 3 rfl ?_
      refine rIdiv C h dS_lowestTerm_57 (fun h => ?_)
      refine lv_i2l C.1 C.2.1 dS_lowestTerm_58 rfl ?_
      exact rRetl C hG h dS_lowestTerm_59
  · refine lv_ldc2 C.1 C.2.1 C.2.2.2.1 (C.2.2.2.2.1 _ k_635) dS_lowestTerm_43 ?_
    exact rRetl C hG h dS_lowestTerm_46
theorem wS_lowestTerm_8 {p : Program} {l : Launch} {e : Env} {s : State} {m : MethodId} {args : Array Value} {below : List Frame} {meth : Method} {c : Code} {G : GT} {I : List Nat} (C : CX p s m args meth c NS bS_lowestTerm 7 (some .long) G I) (hI : cI I) {fu : Nat} {R1 : Int64} {Z : Sg} : ∀ (k : Nat) {v0 : Int32} {v1 : Int32} {v2 : Int32} {v3 : Int32} {v4 : Int32} {v5 : Int32} {z : Sg} {H : Heap} {locs : List Loc} {ls : Array Slot}, pS_lowestTerm_8 fu k v0 v1 v2 v3 v4 v5 z = some (R1, Z) → GW G I z s.heap H locs → lv_has ls 7 [(0, .int v0), (1, .int v1), (2, .int v2), (3, .int v3), (4, .int v4), (5, .int v5)] → W p l e rmS_lowestTerm s m args below meth c H locs 0 0 (MQ below (Ql G I R1 Z) args s 0 0 (AD G I)) (F0 m 8 ls []) := by
  intro k
  induction k with
  | zero => intro v0 v1 v2 v3 v4 v5 z H locs ls h hG hl; rw [pS_lowestTerm_8] at h; cases h
  | succ k ih =>
    intro v0 v1 v2 v3 v4 v5 z H locs ls h hG hl
    rw [pS_lowestTerm_8] at h
    refine rIload C dS_lowestTerm_8 hl 5 rfl ?_
    refine lv_bipush (v := 64) C.1 C.2.1 dS_lowestTerm_10 (by decide) ?_
    refine rIcmpge C (tgt := 39) h dS_lowestTerm_12 (by decide) (fun h => ?_) (fun h => ?_)
    · exact wS_lowestTerm_39 C hI h hG (lv_sub hl [0, 1, 2, 3] rfl)
    · refine rIload C dS_lowestTerm_15 hl 4 rfl ?_
      refine rIfeq C (tgt := 39) h dS_lowestTerm_17 (by decide) (fun h => ?_) (fun h => ?_)
      · exact wS_lowestTerm_39 C hI h hG (lv_sub hl [0, 1, 2, 3] rfl)
      · refine rIload_n C dS_lowestTerm_20 hl 3 rfl ?_
        refine rIload C dS_lowestTerm_21 hl 4 rfl ?_
        refine rIrem C h dS_lowestTerm_23 (fun h => ?_)
        refine rIstore C dS_lowestTerm_24 hl h (by decide) [(0, .int v0), (1, .int v1), (2, .int v2), (3, .int v3), (4, .int v4), (5, .int v5)] rfl (fun x1 ls h hl => ?_)
        refine rIload C dS_lowestTerm_26 hl 5 rfl ?_
        refine rIstoreA_n C dS_lowestTerm_28 hl (by decide) [(6, .int x1), (0, .int v0), (1, .int v1), (2, .int v2), (4, .int v4), (5, .int v5)] rfl (fun ls hl => ?_)
        refine rIload C dS_lowestTerm_29 hl 1 rfl ?_
        refine rIstoreA C dS_lowestTerm_31 hl (by decide) [(3, .int v4), (6, .int x1), (0, .int v0), (1, .int v1), (2, .int v2), (5, .int v5)] rfl (fun ls hl => ?_)
        refine rIinc C dS_lowestTerm_33 hl 6 rfl (d := 1) (by decide) h (by decide) [(4, .int x1), (3, .int v4), (6, .int x1), (0, .int v0), (1, .int v1), (2, .int v2)] rfl (fun x2 ls h hl => ?_)
        refine lv_goto (tgt := 8) C.1 C.2.1 dS_lowestTerm_36 (by decide) ?_
        exact ih h hG (lv_sub hl [4, 5, 6, 2, 1, 0] rfl)
theorem cS_lowestTerm {l : Launch} {G : GT} {I : List Nat} (hI : cI I) {fu : Nat} {v0 : Int32} {v1 : Int32} {v2 : Int32} {z : Sg} {R1 : Int64} {Z : Sg} (h : pS_lowestTerm fu v0 v1 v2 z = some (R1, Z)) : Mt l yS_lowestTerm rmS_lowestTerm bS_lowestTerm 7 (some .long) G I z [.int v0, .int v1, .int v2] (Ql G I R1 Z) := by
  refine entM (by decide +kernel) (Nat.le_of_ble_eq_true rfl) ?_
  intro p e s m below meth c C hG ls hl
  have hl : lv_has ls 7 [(0, .int v0), (1, .int v1), (2, .int v2)] := hl
  unfold pS_lowestTerm at h
  refine rIload_n C dS_lowestTerm_0 hl 1 rfl ?_
  refine rIstoreA_n C dS_lowestTerm_1 hl (by decide) [(0, .int v0), (1, .int v1), (2, .int v2)] rfl (fun ls hl => ?_)
  refine rIload_n C dS_lowestTerm_2 hl 1 rfl ?_
  refine rIstoreA C dS_lowestTerm_3 hl (by decide) [(3, .int v1), (0, .int v0), (1, .int v1), (2, .int v2)] rfl (fun ls hl => ?_)
  refine lv_iconst (v := 0) C.1 C.2.1 dS_lowestTerm_5 (by decide) ?_
  refine rIstoreA C dS_lowestTerm_6 hl (by decide) [(4, .int v0), (3, .int v1), (0, .int v0), (1, .int v1), (2, .int v2)] rfl (fun ls hl => ?_)
  exact wS_lowestTerm_8 C hI _ h hG (lv_sub hl [3, 4, 5, 2, 1, 0] rfl)
theorem dS_mean_0 : decode bS_mean 0 = .ok (.iload_n 1, 1) := by decide +kernel
theorem dS_mean_1 : decode bS_mean 1 = .ok (.iconst 1, 1) := by decide +kernel
theorem dS_mean_2 : decode bS_mean 2 = .ok (.if_icmp .lt 27, 3) := by decide +kernel
theorem dS_mean_5 : decode bS_mean 5 = .ok (.iload_n 1, 1) := by decide +kernel
theorem dS_mean_6 : decode bS_mean 6 = .ok (.bipush 60, 2) := by decide +kernel
theorem dS_mean_8 : decode bS_mean 8 = .ok (.if_icmp .gt 21, 3) := by decide +kernel
theorem dS_mean_11 : decode bS_mean 11 = .ok (.iload_n 2, 1) := by decide +kernel
theorem dS_mean_12 : decode bS_mean 12 = .ok (.iconst 1, 1) := by decide +kernel
theorem dS_mean_13 : decode bS_mean 13 = .ok (.invokestatic 108, 3) := by decide +kernel
theorem dS_mean_16 : decode bS_mean 16 = .ok (.ifCond .eq 13, 3) := by decide +kernel
theorem dS_mean_19 : decode bS_mean 19 = .ok (.aload_n 0, 1) := by decide +kernel
theorem dS_mean_20 : decode bS_mean 20 = .ok (.getfield 49, 3) := by decide +kernel
theorem dS_mean_23 : decode bS_mean 23 = .ok (.getfield 90, 3) := by decide +kernel
theorem dS_mean_26 : decode bS_mean 26 = .ok (.ifCond .ne 7, 3) := by decide +kernel
theorem dS_mean_29 : decode bS_mean 29 = .ok (.ldc2_w 200, 3) := by decide +kernel
theorem dS_mean_32 : decode bS_mean 32 = .ok (.lreturn, 1) := by decide +kernel
theorem dS_mean_33 : decode bS_mean 33 = .ok (.aload_n 0, 1) := by decide +kernel
theorem dS_mean_34 : decode bS_mean 34 = .ok (.getfield 53, 3) := by decide +kernel
theorem dS_mean_37 : decode bS_mean 37 = .ok (.aload_n 0, 1) := by decide +kernel
theorem dS_mean_38 : decode bS_mean 38 = .ok (.getfield 49, 3) := by decide +kernel
theorem dS_mean_41 : decode bS_mean 41 = .ok (.invokevirtual 166, 3) := by decide +kernel
theorem dS_mean_44 : decode bS_mean 44 = .ok (.aload_n 0, 1) := by decide +kernel
theorem dS_mean_45 : decode bS_mean 45 = .ok (.getfield 53, 3) := by decide +kernel
theorem dS_mean_48 : decode bS_mean 48 = .ok (.iload_n 1, 1) := by decide +kernel
theorem dS_mean_49 : decode bS_mean 49 = .ok (.invokevirtual 169, 3) := by decide +kernel
theorem dS_mean_52 : decode bS_mean 52 = .ok (.iload_n 1, 1) := by decide +kernel
theorem dS_mean_53 : decode bS_mean 53 = .ok (.aload_n 0, 1) := by decide +kernel
theorem dS_mean_54 : decode bS_mean 54 = .ok (.getfield 49, 3) := by decide +kernel
theorem dS_mean_57 : decode bS_mean 57 = .ok (.getfield 90, 3) := by decide +kernel
theorem dS_mean_60 : decode bS_mean 60 = .ok (.imul, 1) := by decide +kernel
theorem dS_mean_61 : decode bS_mean 61 = .ok (.iload_n 2, 1) := by decide +kernel
theorem dS_mean_62 : decode bS_mean 62 = .ok (.invokestatic 202, 3) := by decide +kernel
theorem dS_mean_65 : decode bS_mean 65 = .ok (.lreturn, 1) := by decide +kernel
theorem cS_mean {l : Launch} {G : GT} {I : List Nat} (hI : cI I) {fu : Nat} {v1 : Int32} {v2 : Int32} {z : Sg} {R1 : Int64} {Z : Sg} (h : pS_mean fu v1 v2 z = some (R1, Z)) : Mt l yS_mean rmS_mean bS_mean 3 (some .long) G I z [.ref (gA G 0), .int v1, .int v2] (Ql G I R1 Z) := by
  refine entM (by decide +kernel) (Nat.le_of_ble_eq_true rfl) ?_
  intro p e s m below meth c C hG ls hl
  have hl : lv_has ls 3 [(0, .ref (gA G 0)), (1, .int v1), (2, .int v2)] := hl
  unfold pS_mean at h
  refine rIload_n C dS_mean_0 hl 1 rfl ?_
  refine lv_iconst (v := 1) C.1 C.2.1 dS_mean_1 (by decide) ?_
  refine rIcmplt C (tgt := 29) h dS_mean_2 (by decide) (fun h => ?_) (fun h => ?_)
  · refine lv_ldc2 C.1 C.2.1 C.2.2.2.1 (C.2.2.2.2.1 _ k_635) dS_mean_29 ?_
    exact rRetl C hG h dS_mean_32
  · refine rIload_n C dS_mean_5 hl 1 rfl ?_
    refine lv_bipush (v := 60) C.1 C.2.1 dS_mean_6 (by decide) ?_
    refine rIcmpgt C (tgt := 29) h dS_mean_8 (by decide) (fun h => ?_) (fun h => ?_)
    · refine lv_ldc2 C.1 C.2.1 C.2.2.2.1 (C.2.2.2.2.1 _ k_635) dS_mean_29 ?_
      exact rRetl C hG h dS_mean_32
    · refine rIload_n C dS_mean_11 hl 2 rfl ?_
      refine lv_iconst (v := 1) C.1 C.2.1 dS_mean_12 (by decide) ?_
      refine rCSi [.int v2, .int 1] [] C hG h (fun h => cS_within hI h) mvS_within k_423 ⟨Nat.le_of_ble_eq_true rfl, Nat.le_of_ble_eq_true rfl⟩ ⟨rfl, rfl⟩ rfl hl.1 (Nat.le_of_ble_eq_true rfl) dS_mean_13 ⟨Nat.zero_le _, Nat.zero_le _⟩ rfl (fun H locs x2 z1 h hG => ?_)
      refine rIfeq C (tgt := 29) h dS_mean_16 (by decide) (fun h => ?_) (fun h => ?_)
      · refine lv_ldc2 C.1 C.2.1 C.2.2.2.1 (C.2.2.2.2.1 _ k_635) dS_mean_29 ?_
        exact rRetl C hG h dS_mean_32
      · refine rAload_n C dS_mean_19 hl 0 rfl ?_
        refine rGet C hG (hI 0 (by decide)) e_0 fiS_5 (v := .ref (gA G 9)) rfl k_374 dS_mean_20 ?_
        refine rGet C hG (hI 9 (by decide)) e_9 fiR_3 (v := .int (z1 9 3)) rfl k_144 dS_mean_23 ?_
        refine rIfne C (tgt := 33) h dS_mean_26 (by decide) (fun h => ?_) (fun h => ?_)
        · refine rAload_n C dS_mean_33 hl 0 rfl ?_
          refine rGet C hG (hI 0 (by decide)) e_0 fiS_6 (v := .ref (gA G 20)) rfl k_375 dS_mean_34 ?_
          refine rAload_n C dS_mean_37 hl 0 rfl ?_
          refine rGet C hG (hI 0 (by decide)) e_0 fiS_5 (v := .ref (gA G 9)) rfl k_374 dS_mean_38 ?_
          refine rCVv [.ref (gA G 9)] [] C hG h (fun h => cR_become hI row20 row9 h) mvR_become k_552 ⟨Nat.le_of_ble_eq_true rfl, Nat.le_of_ble_eq_true rfl⟩ ⟨rfl, rfl⟩ (rRecv C hG (hI 20 (by decide)) e_20 rfl) rfl hl.1 (Nat.le_of_ble_eq_true rfl) dS_mean_41 ⟨Nat.zero_le _, Nat.zero_le _⟩ rfl (fun H locs z3 h hG => ?_)
          refine rAload_n C dS_mean_44 hl 0 rfl ?_
          refine rGet C hG (hI 0 (by decide)) e_0 fiS_6 (v := .ref (gA G 20)) rfl k_375 dS_mean_45 ?_
          refine rIload_n C dS_mean_48 hl 1 rfl ?_
          refine rCVi [.int v1] [] C hG h (fun h => cR_cutBy hI row20 h) mvR_cutBy k_557 ⟨Nat.le_of_ble_eq_true rfl, Nat.le_of_ble_eq_true rfl⟩ ⟨rfl, rfl⟩ (rRecv C hG (hI 20 (by decide)) e_20 rfl) rfl hl.1 (Nat.le_of_ble_eq_true rfl) dS_mean_49 ⟨Nat.zero_le _, Nat.zero_le _⟩ rfl (fun H locs x5 z4 h hG => ?_)
          refine rIload_n C dS_mean_52 hl 1 rfl ?_
          refine rAload_n C dS_mean_53 hl 0 rfl ?_
          refine rGet C hG (hI 0 (by decide)) e_0 fiS_5 (v := .ref (gA G 9)) rfl k_374 dS_mean_54 ?_
          refine rGet C hG (hI 9 (by decide)) e_9 fiR_3 (v := .int (z4 9 3)) rfl k_144 dS_mean_57 ?_
          refine lv_imul C.1 C.2.1 dS_mean_60 ?_
          refine rIload_n C dS_mean_61 hl 2 rfl ?_
          refine rCSl [.int x5, .int (v1 * (z4 9 3)), .int v2] [] C hG h (fun h => cS_lowestTerm hI h) mvS_lowestTerm k_636 ⟨Nat.le_of_ble_eq_true rfl, Nat.le_of_ble_eq_true rfl⟩ ⟨rfl, rfl⟩ rfl hl.1 (Nat.le_of_ble_eq_true rfl) dS_mean_62 ⟨Nat.zero_le _, Nat.zero_le _⟩ rfl (fun H locs y7 z6 h hG => ?_)
          exact rRetl C hG h dS_mean_65
        · refine lv_ldc2 C.1 C.2.1 C.2.2.2.1 (C.2.2.2.2.1 _ k_635) dS_mean_29 ?_
          exact rRetl C hG h dS_mean_32
theorem dS_refusalOfTold_0 : decode bS_refusalOfTold 0 = .ok (.iload_n 1, 1) := by decide +kernel
theorem dS_refusalOfTold_1 : decode bS_refusalOfTold 1 = .ok (.iconst 3, 1) := by decide +kernel
theorem dS_refusalOfTold_2 : decode bS_refusalOfTold 2 = .ok (.invokestatic 108, 3) := by decide +kernel
theorem dS_refusalOfTold_5 : decode bS_refusalOfTold 5 = .ok (.ifCond .ne 6, 3) := by decide +kernel
theorem dS_refusalOfTold_8 : decode bS_refusalOfTold 8 = .ok (.bipush (-2), 2) := by decide +kernel
theorem dS_refusalOfTold_10 : decode bS_refusalOfTold 10 = .ok (.ireturn, 1) := by decide +kernel
theorem dS_refusalOfTold_11 : decode bS_refusalOfTold 11 = .ok (.aload_n 0, 1) := by decide +kernel
theorem dS_refusalOfTold_12 : decode bS_refusalOfTold 12 = .ok (.getfield 17, 3) := by decide +kernel
theorem dS_refusalOfTold_15 : decode bS_refusalOfTold 15 = .ok (.iload_n 1, 1) := by decide +kernel
theorem dS_refusalOfTold_16 : decode bS_refusalOfTold 16 = .ok (.aaload, 1) := by decide +kernel
theorem dS_refusalOfTold_17 : decode bS_refusalOfTold 17 = .ok (.invokevirtual 237, 3) := by decide +kernel
theorem dS_refusalOfTold_20 : decode bS_refusalOfTold 20 = .ok (.ifCond .eq 6, 3) := by decide +kernel
theorem dS_refusalOfTold_23 : decode bS_refusalOfTold 23 = .ok (.bipush (-11), 2) := by decide +kernel
theorem dS_refusalOfTold_25 : decode bS_refusalOfTold 25 = .ok (.ireturn, 1) := by decide +kernel
theorem dS_refusalOfTold_26 : decode bS_refusalOfTold 26 = .ok (.aload_n 0, 1) := by decide +kernel
theorem dS_refusalOfTold_27 : decode bS_refusalOfTold 27 = .ok (.getfield 17, 3) := by decide +kernel
theorem dS_refusalOfTold_30 : decode bS_refusalOfTold 30 = .ok (.iload_n 1, 1) := by decide +kernel
theorem dS_refusalOfTold_31 : decode bS_refusalOfTold 31 = .ok (.aaload, 1) := by decide +kernel
theorem dS_refusalOfTold_32 : decode bS_refusalOfTold 32 = .ok (.getfield 240, 3) := by decide +kernel
theorem dS_refusalOfTold_35 : decode bS_refusalOfTold 35 = .ok (.bipush 20, 2) := by decide +kernel
theorem dS_refusalOfTold_37 : decode bS_refusalOfTold 37 = .ok (.if_icmp .le 8, 3) := by decide +kernel
theorem dS_refusalOfTold_40 : decode bS_refusalOfTold 40 = .ok (.bipush (-2), 2) := by decide +kernel
theorem dS_refusalOfTold_42 : decode bS_refusalOfTold 42 = .ok (.goto 4, 3) := by decide +kernel
theorem dS_refusalOfTold_45 : decode bS_refusalOfTold 45 = .ok (.iconst 0, 1) := by decide +kernel
theorem dS_refusalOfTold_46 : decode bS_refusalOfTold 46 = .ok (.ireturn, 1) := by decide +kernel
theorem cS_refusalOfTold {l : Launch} {G : GT} {I : List Nat} (hI : cI I) {fu : Nat} {v1 : Int32} {z : Sg} {R1 : Int32} {Z : Sg} (h : pS_refusalOfTold fu v1 z = some (R1, Z)) : Mt l yS_refusalOfTold rmS_refusalOfTold bS_refusalOfTold 2 (some .int) G I z [.ref (gA G 0), .int v1] (Qi G I R1 Z) := by
  refine entM (by decide +kernel) (Nat.le_of_ble_eq_true rfl) ?_
  intro p e s m below meth c C hG ls hl
  have hl : lv_has ls 2 [(0, .ref (gA G 0)), (1, .int v1)] := hl
  unfold pS_refusalOfTold at h
  refine rIload_n C dS_refusalOfTold_0 hl 1 rfl ?_
  refine lv_iconst (v := 3) C.1 C.2.1 dS_refusalOfTold_1 (by decide) ?_
  refine rCSi [.int v1, .int 3] [] C hG h (fun h => cS_within hI h) mvS_within k_423 ⟨Nat.le_of_ble_eq_true rfl, Nat.le_of_ble_eq_true rfl⟩ ⟨rfl, rfl⟩ rfl hl.1 (Nat.le_of_ble_eq_true rfl) dS_refusalOfTold_2 ⟨Nat.zero_le _, Nat.zero_le _⟩ rfl (fun H locs x2 z1 h hG => ?_)
  refine rIfne C (tgt := 11) h dS_refusalOfTold_5 (by decide) (fun h => ?_) (fun h => ?_)
  · refine rAload_n C dS_refusalOfTold_11 hl 0 rfl ?_
    refine rGet C hG (hI 0 (by decide)) e_0 fiS_1 (v := .ref (gA G 2)) rfl k_370 dS_refusalOfTold_12 ?_
    refine rIload_n C dS_refusalOfTold_15 hl 1 rfl ?_
    refine rAald C hG (hI 2 (by decide)) e_2 (t0 := 2) rfl rfl h dS_refusalOfTold_16 (fun hq16 h => ?_)
    refine rCVi [] [] C hG h (fun h => cH_isMissing hI (isSheet.of hq16) h) mvH_isMissing k_651 ⟨Nat.le_of_ble_eq_true rfl, Nat.le_of_ble_eq_true rfl⟩ ⟨rfl, rfl⟩ (rRecv C hG (hI _ (isSheet.of hq16).lt0) (eH_0 (isSheet.of hq16)) rfl) rfl hl.1 (Nat.le_of_ble_eq_true rfl) dS_refusalOfTold_17 ⟨Nat.zero_le _, Nat.zero_le _⟩ rfl (fun H locs x4 z3 h hG => ?_)
    refine rIfeq C (tgt := 26) h dS_refusalOfTold_20 (by decide) (fun h => ?_) (fun h => ?_)
    · refine rAload_n C dS_refusalOfTold_26 hl 0 rfl ?_
      refine rGet C hG (hI 0 (by decide)) e_0 fiS_1 (v := .ref (gA G 2)) rfl k_370 dS_refusalOfTold_27 ?_
      refine rIload_n C dS_refusalOfTold_30 hl 1 rfl ?_
      refine rAald C hG (hI 2 (by decide)) e_2 (t0 := 2) rfl rfl h dS_refusalOfTold_31 (fun hq31 h => ?_)
      refine rGet C hG (hI _ (isSheet.of hq31).lt0) (eH_0 (isSheet.of hq31)) fiH_2 (v := .int (z3 (70 + 2 * v1.toNatClampNeg) 2)) rfl k_122 dS_refusalOfTold_32 ?_
      refine lv_bipush (v := 20) C.1 C.2.1 dS_refusalOfTold_35 (by decide) ?_
      refine rIcmple C (tgt := 45) h dS_refusalOfTold_37 (by decide) (fun h => ?_) (fun h => ?_)
      · refine lv_iconst (v := 0) C.1 C.2.1 dS_refusalOfTold_45 (by decide) ?_
        exact rReti C hG h dS_refusalOfTold_46
      · refine lv_bipush (v := (-2)) C.1 C.2.1 dS_refusalOfTold_40 (by decide) ?_
        refine lv_goto (tgt := 46) C.1 C.2.1 dS_refusalOfTold_42 (by decide) ?_
        exact rReti C hG h dS_refusalOfTold_46
    · refine lv_bipush (v := (-11)) C.1 C.2.1 dS_refusalOfTold_23 (by decide) ?_
      exact rReti C hG h dS_refusalOfTold_25
  · refine lv_bipush (v := (-2)) C.1 C.2.1 dS_refusalOfTold_8 (by decide) ?_
    exact rReti C hG h dS_refusalOfTold_10
theorem dS_refusalOfOne_0 : decode bS_refusalOfOne 0 = .ok (.aload_n 0, 1) := by decide +kernel
theorem dS_refusalOfOne_1 : decode bS_refusalOfOne 1 = .ok (.iload_n 1, 1) := by decide +kernel
theorem dS_refusalOfOne_2 : decode bS_refusalOfOne 2 = .ok (.invokevirtual 220, 3) := by decide +kernel
theorem dS_refusalOfOne_5 : decode bS_refusalOfOne 5 = .ok (.istore_n 3, 1) := by decide +kernel
theorem dS_refusalOfOne_6 : decode bS_refusalOfOne 6 = .ok (.iload_n 3, 1) := by decide +kernel
theorem dS_refusalOfOne_7 : decode bS_refusalOfOne 7 = .ok (.ifCond .eq 5, 3) := by decide +kernel
theorem dS_refusalOfOne_10 : decode bS_refusalOfOne 10 = .ok (.iload_n 3, 1) := by decide +kernel
theorem dS_refusalOfOne_11 : decode bS_refusalOfOne 11 = .ok (.ireturn, 1) := by decide +kernel
theorem dS_refusalOfOne_12 : decode bS_refusalOfOne 12 = .ok (.aload_n 0, 1) := by decide +kernel
theorem dS_refusalOfOne_13 : decode bS_refusalOfOne 13 = .ok (.getfield 49, 3) := by decide +kernel
theorem dS_refusalOfOne_16 : decode bS_refusalOfOne 16 = .ok (.iload_n 2, 1) := by decide +kernel
theorem dS_refusalOfOne_17 : decode bS_refusalOfOne 17 = .ok (.invokevirtual 122, 3) := by decide +kernel
theorem dS_refusalOfOne_20 : decode bS_refusalOfOne 20 = .ok (.ifCond .eq 7, 3) := by decide +kernel
theorem dS_refusalOfOne_23 : decode bS_refusalOfOne 23 = .ok (.iconst 0, 1) := by decide +kernel
theorem dS_refusalOfOne_24 : decode bS_refusalOfOne 24 = .ok (.goto 5, 3) := by decide +kernel
theorem dS_refusalOfOne_27 : decode bS_refusalOfOne 27 = .ok (.bipush (-5), 2) := by decide +kernel
theorem dS_refusalOfOne_29 : decode bS_refusalOfOne 29 = .ok (.ireturn, 1) := by decide +kernel
theorem cS_refusalOfOne {l : Launch} {G : GT} {I : List Nat} (hI : cI I) {fu : Nat} {v1 : Int32} {v2 : Int32} {z : Sg} {R1 : Int32} {Z : Sg} (h : pS_refusalOfOne fu v1 v2 z = some (R1, Z)) : Mt l yS_refusalOfOne rmS_refusalOfOne bS_refusalOfOne 4 (some .int) G I z [.ref (gA G 0), .int v1, .int v2] (Qi G I R1 Z) := by
  refine entM (by decide +kernel) (Nat.le_of_ble_eq_true rfl) ?_
  intro p e s m below meth c C hG ls hl
  have hl : lv_has ls 4 [(0, .ref (gA G 0)), (1, .int v1), (2, .int v2)] := hl
  unfold pS_refusalOfOne at h
  refine rAload_n C dS_refusalOfOne_0 hl 0 rfl ?_
  refine rIload_n C dS_refusalOfOne_1 hl 1 rfl ?_
  refine rCVi [.int v1] [] C hG h (fun h => cS_refusalOfTold hI h) mvS_refusalOfTold k_647 ⟨Nat.le_of_ble_eq_true rfl, Nat.le_of_ble_eq_true rfl⟩ ⟨rfl, rfl⟩ (rRecv C hG (hI 0 (by decide)) e_0 rfl) rfl hl.1 (Nat.le_of_ble_eq_true rfl) dS_refusalOfOne_2 ⟨Nat.zero_le _, Nat.zero_le _⟩ rfl (fun H locs x2 z1 h hG => ?_)
  refine rIstoreA_n C dS_refusalOfOne_5 hl (by decide) [(0, .ref (gA G 0)), (1, .int v1), (2, .int v2)] rfl (fun ls hl => ?_)
  refine rIload_n C dS_refusalOfOne_6 hl 0 rfl ?_
  refine rIfeq C (tgt := 12) h dS_refusalOfOne_7 (by decide) (fun h => ?_) (fun h => ?_)
  · refine rAload_n C dS_refusalOfOne_12 hl 1 rfl ?_
    refine rGet C hG (hI 0 (by decide)) e_0 fiS_5 (v := .ref (gA G 9)) rfl k_374 dS_refusalOfOne_13 ?_
    refine rIload_n C dS_refusalOfOne_16 hl 3 rfl ?_
    refine rCVi [.int v2] [] C hG h (fun h => cR_has hI row9 h) mvR_has k_452 ⟨Nat.le_of_ble_eq_true rfl, Nat.le_of_ble_eq_true rfl⟩ ⟨rfl, rfl⟩ (rRecv C hG (hI 9 (by decide)) e_9 rfl) rfl hl.1 (Nat.le_of_ble_eq_true rfl) dS_refusalOfOne_17 ⟨Nat.zero_le _, Nat.zero_le _⟩ rfl (fun H locs x4 z3 h hG => ?_)
    refine rIfeq C (tgt := 27) h dS_refusalOfOne_20 (by decide) (fun h => ?_) (fun h => ?_)
    · refine lv_bipush (v := (-5)) C.1 C.2.1 dS_refusalOfOne_27 (by decide) ?_
      exact rReti C hG h dS_refusalOfOne_29
    · refine lv_iconst (v := 0) C.1 C.2.1 dS_refusalOfOne_23 (by decide) ?_
      refine lv_goto (tgt := 29) C.1 C.2.1 dS_refusalOfOne_24 (by decide) ?_
      exact rReti C hG h dS_refusalOfOne_29
  · refine rIload_n C dS_refusalOfOne_10 hl 0 rfl ?_
    exact rReti C hG h dS_refusalOfOne_11
theorem dS_firstOtherwise_0 : decode bS_firstOtherwise 0 = .ok (.aload_n 0, 1) := by decide +kernel
theorem dS_firstOtherwise_1 : decode bS_firstOtherwise 1 = .ok (.getfield 17, 3) := by decide +kernel
theorem dS_firstOtherwise_4 : decode bS_firstOtherwise 4 = .ok (.iload_n 1, 1) := by decide +kernel
theorem dS_firstOtherwise_5 : decode bS_firstOtherwise 5 = .ok (.aaload, 1) := by decide +kernel
theorem dS_firstOtherwise_6 : decode bS_firstOtherwise 6 = .ok (.astore_n 3, 1) := by decide +kernel
theorem dS_firstOtherwise_7 : decode bS_firstOtherwise 7 = .ok (.iconst 0, 1) := by decide +kernel
theorem dS_firstOtherwise_8 : decode bS_firstOtherwise 8 = .ok (.istore 4, 2) := by decide +kernel
theorem dS_firstOtherwise_10 : decode bS_firstOtherwise 10 = .ok (.iload 4, 2) := by decide +kernel
theorem dS_firstOtherwise_12 : decode bS_firstOtherwise 12 = .ok (.aload_n 3, 1) := by decide +kernel
theorem dS_firstOtherwise_13 : decode bS_firstOtherwise 13 = .ok (.getfield 240, 3) := by decide +kernel
theorem dS_firstOtherwise_16 : decode bS_firstOtherwise 16 = .ok (.if_icmp .ge 41, 3) := by decide +kernel
theorem dS_firstOtherwise_19 : decode bS_firstOtherwise 19 = .ok (.aload_n 0, 1) := by decide +kernel
theorem dS_firstOtherwise_20 : decode bS_firstOtherwise 20 = .ok (.getfield 53, 3) := by decide +kernel
theorem dS_firstOtherwise_23 : decode bS_firstOtherwise 23 = .ok (.invokevirtual 163, 3) := by decide +kernel
theorem dS_firstOtherwise_26 : decode bS_firstOtherwise 26 = .ok (.pop, 1) := by decide +kernel
theorem dS_firstOtherwise_27 : decode bS_firstOtherwise 27 = .ok (.aload_n 0, 1) := by decide +kernel
theorem dS_firstOtherwise_28 : decode bS_firstOtherwise 28 = .ok (.getfield 53, 3) := by decide +kernel
theorem dS_firstOtherwise_31 : decode bS_firstOtherwise 31 = .ok (.getfield 143, 3) := by decide +kernel
theorem dS_firstOtherwise_34 : decode bS_firstOtherwise 34 = .ok (.iconst 1, 1) := by decide +kernel
theorem dS_firstOtherwise_35 : decode bS_firstOtherwise 35 = .ok (.aaload, 1) := by decide +kernel
theorem dS_firstOtherwise_36 : decode bS_firstOtherwise 36 = .ok (.iload_n 2, 1) := by decide +kernel
theorem dS_firstOtherwise_37 : decode bS_firstOtherwise 37 = .ok (.iaload, 1) := by decide +kernel
theorem dS_firstOtherwise_38 : decode bS_firstOtherwise 38 = .ok (.aload_n 3, 1) := by decide +kernel
theorem dS_firstOtherwise_39 : decode bS_firstOtherwise 39 = .ok (.getfield 247, 3) := by decide +kernel
theorem dS_firstOtherwise_42 : decode bS_firstOtherwise 42 = .ok (.iload 4, 2) := by decide +kernel
theorem dS_firstOtherwise_44 : decode bS_firstOtherwise 44 = .ok (.iaload, 1) := by decide +kernel
theorem dS_firstOtherwise_45 : decode bS_firstOtherwise 45 = .ok (.if_icmp .eq 6, 3) := by decide +kernel
theorem dS_firstOtherwise_48 : decode bS_firstOtherwise 48 = .ok (.iload 4, 2) := by decide +kernel
theorem dS_firstOtherwise_50 : decode bS_firstOtherwise 50 = .ok (.ireturn, 1) := by decide +kernel
theorem dS_firstOtherwise_51 : decode bS_firstOtherwise 51 = .ok (.iinc 4 1, 3) := by decide +kernel
theorem dS_firstOtherwise_54 : decode bS_firstOtherwise 54 = .ok (.goto (-44), 3) := by decide +kernel
theorem dS_firstOtherwise_57 : decode bS_firstOtherwise 57 = .ok (.iconst (-1), 1) := by decide +kernel
theorem dS_firstOtherwise_58 : decode bS_firstOtherwise 58 = .ok (.ireturn, 1) := by decide +kernel
theorem wS_firstOtherwise_10 {p : Program} {l : Launch} {e : Env} {s : State} {m : MethodId} {args : Array Value} {below : List Frame} {meth : Method} {c : Code} {G : GT} {I : List Nat} (C : CX p s m args meth c NS bS_firstOtherwise 5 (some .int) G I) (hI : cI I) {fu : Nat} {R1 : Int32} {Z : Sg} : ∀ (k : Nat) {v2 : Int32} {c3 : Nat} {v4 : Int32} {z : Sg} {H : Heap} {locs : List Loc} {ls : Array Slot} (hc3 : isSheet c3), pS_firstOtherwise_10 fu k v2 c3 v4 z = some (R1, Z) → GW G I z s.heap H locs → lv_has ls 5 [(0, .ref (gA G 0)), (2, .int v2), (3, .ref (gA G c3)), (4, .int v4)] → W p l e rmS_firstOtherwise s m args below meth c H locs 0 0 (MQ below (Qi G I R1 Z) args s 0 0 (AD G I)) (F0 m 10 ls []) := by
  intro k
  induction k with
  | zero => intro v2 c3 v4 z H locs ls hc3 h hG hl; rw [pS_firstOtherwise_10] at h; cases h
  | succ k ih =>
    intro v2 c3 v4 z H locs ls hc3 h hG hl
    rw [pS_firstOtherwise_10] at h
    refine rIload C dS_firstOtherwise_10 hl 3 rfl ?_
    refine rAload_n C dS_firstOtherwise_12 hl 2 rfl ?_
    refine rGet C hG (hI _ hc3.lt0) (eH_0 hc3) fiH_2 (v := .int (z c3 2)) rfl k_122 dS_firstOtherwise_13 ?_
    refine rIcmpge C (tgt := 57) h dS_firstOtherwise_16 (by decide) (fun h => ?_) (fun h => ?_)
    · refine lv_iconst (v := (-1)) C.1 C.2.1 dS_firstOtherwise_57 (by decide) ?_
      exact rReti C hG h dS_firstOtherwise_58
    · refine rAload_n C dS_firstOtherwise_19 hl 0 rfl ?_
      refine rGet C hG (hI 0 (by decide)) e_0 fiS_6 (v := .ref (gA G 20)) rfl k_375 dS_firstOtherwise_20 ?_
      refine rCVi [] [] C hG h (fun h => cR_swingOn hI row20 h) mvR_swingOn k_540 ⟨Nat.le_of_ble_eq_true rfl, Nat.le_of_ble_eq_true rfl⟩ ⟨rfl, rfl⟩ (rRecv C hG (hI 20 (by decide)) e_20 rfl) rfl hl.1 (Nat.le_of_ble_eq_true rfl) dS_firstOtherwise_23 ⟨Nat.zero_le _, Nat.zero_le _⟩ rfl (fun H locs x2 z1 h hG => ?_)
      refine lv_pop C.1 C.2.1 dS_firstOtherwise_26 rfl ?_
      refine rAload_n C dS_firstOtherwise_27 hl 0 rfl ?_
      refine rGet C hG (hI 0 (by decide)) e_0 fiS_6 (v := .ref (gA G 20)) rfl k_375 dS_firstOtherwise_28 ?_
      refine rGet C hG (hI 20 (by decide)) e_20 fiR_2 (v := .ref (gA G 22)) rfl k_143 dS_firstOtherwise_31 ?_
      refine lv_iconst (v := 1) C.1 C.2.1 dS_firstOtherwise_34 (by decide) ?_
      refine rAaldK C hG (hI 22 (by decide)) e_22 (t0 := 3) rfl rfl 1 (by decide) (by decide) 24 rfl dS_firstOtherwise_35 ?_
      refine rIload_n C dS_firstOtherwise_36 hl 1 rfl ?_
      refine rIald C hG (hI 24 (by decide)) e_24 h dS_firstOtherwise_37 (fun h => ?_)
      refine rAload_n C dS_firstOtherwise_38 hl 2 rfl ?_
      refine rGet C hG (hI _ hc3.lt0) (eH_0 hc3) fiH_0 (v := .ref (gA G (c3 + 1))) rfl k_118 dS_firstOtherwise_39 ?_
      refine rIload C dS_firstOtherwise_42 hl 3 rfl ?_
      refine rIald C hG (hI _ (hc3.lt (k := 1) (by decide))) (eH_1 hc3) h dS_firstOtherwise_44 (fun h => ?_)
      refine rIcmpeq C (tgt := 51) h dS_firstOtherwise_45 (by decide) (fun h => ?_) (fun h => ?_)
      · refine rIinc C dS_firstOtherwise_51 hl 3 rfl (d := 1) (by decide) h (by decide) [(0, .ref (gA G 0)), (2, .int v2), (3, .ref (gA G c3))] rfl (fun x3 ls h hl => ?_)
        refine lv_goto (tgt := 10) C.1 C.2.1 dS_firstOtherwise_54 (by decide) ?_
        exact ih hc3 h hG (lv_sub hl [1, 2, 3, 0] rfl)
      · refine rIload C dS_firstOtherwise_48 hl 3 rfl ?_
        exact rReti C hG h dS_firstOtherwise_50
theorem cS_firstOtherwise {l : Launch} {G : GT} {I : List Nat} (hI : cI I) {fu : Nat} {v1 : Int32} {v2 : Int32} {z : Sg} {R1 : Int32} {Z : Sg} (h : pS_firstOtherwise fu v1 v2 z = some (R1, Z)) : Mt l yS_firstOtherwise rmS_firstOtherwise bS_firstOtherwise 5 (some .int) G I z [.ref (gA G 0), .int v1, .int v2] (Qi G I R1 Z) := by
  refine entM (by decide +kernel) (Nat.le_of_ble_eq_true rfl) ?_
  intro p e s m below meth c C hG ls hl
  have hl : lv_has ls 5 [(0, .ref (gA G 0)), (1, .int v1), (2, .int v2)] := hl
  unfold pS_firstOtherwise at h
  refine rAload_n C dS_firstOtherwise_0 hl 0 rfl ?_
  refine rGet C hG (hI 0 (by decide)) e_0 fiS_1 (v := .ref (gA G 2)) rfl k_370 dS_firstOtherwise_1 ?_
  refine rIload_n C dS_firstOtherwise_4 hl 1 rfl ?_
  refine rAald C hG (hI 2 (by decide)) e_2 (t0 := 2) rfl rfl h dS_firstOtherwise_5 (fun hq5 h => ?_)
  refine rAstore_n C dS_firstOtherwise_6 hl (by decide) [(0, .ref (gA G 0)), (1, .int v1), (2, .int v2)] rfl (fun ls hl => ?_)
  refine lv_iconst (v := 0) C.1 C.2.1 dS_firstOtherwise_7 (by decide) ?_
  refine rIstoreA C dS_firstOtherwise_8 hl (by decide) [(3, .ref (gA G (70 + 2 * v1.toNatClampNeg))), (0, .ref (gA G 0)), (1, .int v1), (2, .int v2)] rfl (fun ls hl => ?_)
  exact wS_firstOtherwise_10 C hI _ (isSheet.of hq5) h hG (lv_sub hl [2, 4, 1, 0] rfl)
theorem dS_judge_0 : decode bS_judge 0 = .ok (.aload_n 0, 1) := by decide +kernel
theorem dS_judge_1 : decode bS_judge 1 = .ok (.iload_n 1, 1) := by decide +kernel
theorem dS_judge_2 : decode bS_judge 2 = .ok (.iload_n 2, 1) := by decide +kernel
theorem dS_judge_3 : decode bS_judge 3 = .ok (.invokevirtual 206, 3) := by decide +kernel
theorem dS_judge_6 : decode bS_judge 6 = .ok (.istore_n 3, 1) := by decide +kernel
theorem dS_judge_7 : decode bS_judge 7 = .ok (.iload_n 3, 1) := by decide +kernel
theorem dS_judge_8 : decode bS_judge 8 = .ok (.ifCond .eq 5, 3) := by decide +kernel
theorem dS_judge_11 : decode bS_judge 11 = .ok (.iload_n 3, 1) := by decide +kernel
theorem dS_judge_12 : decode bS_judge 12 = .ok (.ireturn, 1) := by decide +kernel
theorem dS_judge_13 : decode bS_judge 13 = .ok (.aload_n 0, 1) := by decide +kernel
theorem dS_judge_14 : decode bS_judge 14 = .ok (.getfield 53, 3) := by decide +kernel
theorem dS_judge_17 : decode bS_judge 17 = .ok (.aload_n 0, 1) := by decide +kernel
theorem dS_judge_18 : decode bS_judge 18 = .ok (.getfield 49, 3) := by decide +kernel
theorem dS_judge_21 : decode bS_judge 21 = .ok (.invokevirtual 166, 3) := by decide +kernel
theorem dS_judge_24 : decode bS_judge 24 = .ok (.aload_n 0, 1) := by decide +kernel
theorem dS_judge_25 : decode bS_judge 25 = .ok (.iload_n 1, 1) := by decide +kernel
theorem dS_judge_26 : decode bS_judge 26 = .ok (.iload_n 2, 1) := by decide +kernel
theorem dS_judge_27 : decode bS_judge 27 = .ok (.invokevirtual 209, 3) := by decide +kernel
theorem dS_judge_30 : decode bS_judge 30 = .ok (.ireturn, 1) := by decide +kernel
theorem cS_judge {l : Launch} {G : GT} {I : List Nat} (hI : cI I) {fu : Nat} {v1 : Int32} {v2 : Int32} {z : Sg} {R1 : Int32} {Z : Sg} (h : pS_judge fu v1 v2 z = some (R1, Z)) : Mt l yS_judge rmS_judge bS_judge 4 (some .int) G I z [.ref (gA G 0), .int v1, .int v2] (Qi G I R1 Z) := by
  refine entM (by decide +kernel) (Nat.le_of_ble_eq_true rfl) ?_
  intro p e s m below meth c C hG ls hl
  have hl : lv_has ls 4 [(0, .ref (gA G 0)), (1, .int v1), (2, .int v2)] := hl
  unfold pS_judge at h
  refine rAload_n C dS_judge_0 hl 0 rfl ?_
  refine rIload_n C dS_judge_1 hl 1 rfl ?_
  refine rIload_n C dS_judge_2 hl 2 rfl ?_
  refine rCVi [.int v1, .int v2] [] C hG h (fun h => cS_refusalOfOne hI h) mvS_refusalOfOne k_643 ⟨Nat.le_of_ble_eq_true rfl, Nat.le_of_ble_eq_true rfl⟩ ⟨rfl, rfl⟩ (rRecv C hG (hI 0 (by decide)) e_0 rfl) rfl hl.1 (Nat.le_of_ble_eq_true rfl) dS_judge_3 ⟨Nat.zero_le _, Nat.zero_le _⟩ rfl (fun H locs x2 z1 h hG => ?_)
  refine rIstoreA_n C dS_judge_6 hl (by decide) [(0, .ref (gA G 0)), (1, .int v1), (2, .int v2)] rfl (fun ls hl => ?_)
  refine rIload_n C dS_judge_7 hl 0 rfl ?_
  refine rIfeq C (tgt := 13) h dS_judge_8 (by decide) (fun h => ?_) (fun h => ?_)
  · refine rAload_n C dS_judge_13 hl 1 rfl ?_
    refine rGet C hG (hI 0 (by decide)) e_0 fiS_6 (v := .ref (gA G 20)) rfl k_375 dS_judge_14 ?_
    refine rAload_n C dS_judge_17 hl 1 rfl ?_
    refine rGet C hG (hI 0 (by decide)) e_0 fiS_5 (v := .ref (gA G 9)) rfl k_374 dS_judge_18 ?_
    refine rCVv [.ref (gA G 9)] [] C hG h (fun h => cR_become hI row20 row9 h) mvR_become k_552 ⟨Nat.le_of_ble_eq_true rfl, Nat.le_of_ble_eq_true rfl⟩ ⟨rfl, rfl⟩ (rRecv C hG (hI 20 (by decide)) e_20 rfl) rfl hl.1 (Nat.le_of_ble_eq_true rfl) dS_judge_21 ⟨Nat.zero_le _, Nat.zero_le _⟩ rfl (fun H locs z3 h hG => ?_)
    refine rAload_n C dS_judge_24 hl 1 rfl ?_
    refine rIload_n C dS_judge_25 hl 2 rfl ?_
    refine rIload_n C dS_judge_26 hl 3 rfl ?_
    refine rCVi [.int v1, .int v2] [] C hG h (fun h => cS_firstOtherwise hI h) mvS_firstOtherwise k_655 ⟨Nat.le_of_ble_eq_true rfl, Nat.le_of_ble_eq_true rfl⟩ ⟨rfl, rfl⟩ (rRecv C hG (hI 0 (by decide)) e_0 rfl) rfl hl.1 (Nat.le_of_ble_eq_true rfl) dS_judge_27 ⟨Nat.zero_le _, Nat.zero_le _⟩ rfl (fun H locs x5 z4 h hG => ?_)
    exact rReti C hG h dS_judge_30
  · refine rIload_n C dS_judge_11 hl 0 rfl ?_
    exact rReti C hG h dS_judge_12
theorem dS_bitsOfFact_0 : decode bS_bitsOfFact 0 = .ok (.iconst 0, 1) := by decide +kernel
theorem dS_bitsOfFact_1 : decode bS_bitsOfFact 1 = .ok (.istore 5, 2) := by decide +kernel
theorem dS_bitsOfFact_3 : decode bS_bitsOfFact 3 = .ok (.iconst 0, 1) := by decide +kernel
theorem dS_bitsOfFact_4 : decode bS_bitsOfFact 4 = .ok (.istore 6, 2) := by decide +kernel
theorem dS_bitsOfFact_6 : decode bS_bitsOfFact 6 = .ok (.iload 6, 2) := by decide +kernel
theorem dS_bitsOfFact_8 : decode bS_bitsOfFact 8 = .ok (.iload 4, 2) := by decide +kernel
theorem dS_bitsOfFact_10 : decode bS_bitsOfFact 10 = .ok (.if_icmp .ge 81, 3) := by decide +kernel
theorem dS_bitsOfFact_13 : decode bS_bitsOfFact 13 = .ok (.aload_n 0, 1) := by decide +kernel
theorem dS_bitsOfFact_14 : decode bS_bitsOfFact 14 = .ok (.getfield 53, 3) := by decide +kernel
theorem dS_bitsOfFact_17 : decode bS_bitsOfFact 17 = .ok (.aload_n 0, 1) := by decide +kernel
theorem dS_bitsOfFact_18 : decode bS_bitsOfFact 18 = .ok (.getfield 49, 3) := by decide +kernel
theorem dS_bitsOfFact_21 : decode bS_bitsOfFact 21 = .ok (.invokevirtual 166, 3) := by decide +kernel
theorem dS_bitsOfFact_24 : decode bS_bitsOfFact 24 = .ok (.aload_n 0, 1) := by decide +kernel
theorem dS_bitsOfFact_25 : decode bS_bitsOfFact 25 = .ok (.getfield 53, 3) := by decide +kernel
theorem dS_bitsOfFact_28 : decode bS_bitsOfFact 28 = .ok (.getfield 143, 3) := by decide +kernel
theorem dS_bitsOfFact_31 : decode bS_bitsOfFact 31 = .ok (.iload_n 3, 1) := by decide +kernel
theorem dS_bitsOfFact_32 : decode bS_bitsOfFact 32 = .ok (.aaload, 1) := by decide +kernel
theorem dS_bitsOfFact_33 : decode bS_bitsOfFact 33 = .ok (.iload_n 2, 1) := by decide +kernel
theorem dS_bitsOfFact_34 : decode bS_bitsOfFact 34 = .ok (.iload 6, 2) := by decide +kernel
theorem dS_bitsOfFact_36 : decode bS_bitsOfFact 36 = .ok (.iastore, 1) := by decide +kernel
theorem dS_bitsOfFact_37 : decode bS_bitsOfFact 37 = .ok (.iload_n 3, 1) := by decide +kernel
theorem dS_bitsOfFact_38 : decode bS_bitsOfFact 38 = .ok (.ifCond .ne 16, 3) := by decide +kernel
theorem dS_bitsOfFact_41 : decode bS_bitsOfFact 41 = .ok (.aload_n 0, 1) := by decide +kernel
theorem dS_bitsOfFact_42 : decode bS_bitsOfFact 42 = .ok (.getfield 49, 3) := by decide +kernel
theorem dS_bitsOfFact_45 : decode bS_bitsOfFact 45 = .ok (.iload_n 2, 1) := by decide +kernel
theorem dS_bitsOfFact_46 : decode bS_bitsOfFact 46 = .ok (.iload 6, 2) := by decide +kernel
theorem dS_bitsOfFact_48 : decode bS_bitsOfFact 48 = .ok (.invokevirtual 140, 3) := by decide +kernel
theorem dS_bitsOfFact_51 : decode bS_bitsOfFact 51 = .ok (.ifCond .eq 7, 3) := by decide +kernel
theorem dS_bitsOfFact_54 : decode bS_bitsOfFact 54 = .ok (.iconst 1, 1) := by decide +kernel
theorem dS_bitsOfFact_55 : decode bS_bitsOfFact 55 = .ok (.goto 4, 3) := by decide +kernel
theorem dS_bitsOfFact_58 : decode bS_bitsOfFact 58 = .ok (.iconst 0, 1) := by decide +kernel
theorem dS_bitsOfFact_59 : decode bS_bitsOfFact 59 = .ok (.istore 7, 2) := by decide +kernel
theorem dS_bitsOfFact_61 : decode bS_bitsOfFact 61 = .ok (.iload 7, 2) := by decide +kernel
theorem dS_bitsOfFact_63 : decode bS_bitsOfFact 63 = .ok (.ifCond .eq 22, 3) := by decide +kernel
theorem dS_bitsOfFact_66 : decode bS_bitsOfFact 66 = .ok (.aload_n 0, 1) := by decide +kernel
theorem dS_bitsOfFact_67 : decode bS_bitsOfFact 67 = .ok (.iload_n 1, 1) := by decide +kernel
theorem dS_bitsOfFact_68 : decode bS_bitsOfFact 68 = .ok (.iload_n 2, 1) := by decide +kernel
theorem dS_bitsOfFact_69 : decode bS_bitsOfFact 69 = .ok (.invokevirtual 209, 3) := by decide +kernel
theorem dS_bitsOfFact_72 : decode bS_bitsOfFact 72 = .ok (.iconst (-1), 1) := by decide +kernel
theorem dS_bitsOfFact_73 : decode bS_bitsOfFact 73 = .ok (.if_icmp .ne 12, 3) := by decide +kernel
theorem dS_bitsOfFact_76 : decode bS_bitsOfFact 76 = .ok (.iload 5, 2) := by decide +kernel
theorem dS_bitsOfFact_78 : decode bS_bitsOfFact 78 = .ok (.iconst 1, 1) := by decide +kernel
theorem dS_bitsOfFact_79 : decode bS_bitsOfFact 79 = .ok (.iload 6, 2) := by decide +kernel
theorem dS_bitsOfFact_81 : decode bS_bitsOfFact 81 = .ok (.ishl, 1) := by decide +kernel
theorem dS_bitsOfFact_82 : decode bS_bitsOfFact 82 = .ok (.ior, 1) := by decide +kernel
theorem dS_bitsOfFact_83 : decode bS_bitsOfFact 83 = .ok (.istore 5, 2) := by decide +kernel
theorem dS_bitsOfFact_85 : decode bS_bitsOfFact 85 = .ok (.iinc 6 1, 3) := by decide +kernel
theorem dS_bitsOfFact_88 : decode bS_bitsOfFact 88 = .ok (.goto (-82), 3) := by decide +kernel
theorem dS_bitsOfFact_91 : decode bS_bitsOfFact 91 = .ok (.iload 5, 2) := by decide +kernel
theorem dS_bitsOfFact_93 : decode bS_bitsOfFact 93 = .ok (.ireturn, 1) := by decide +kernel
theorem wS_bitsOfFact_85 {p : Program} {l : Launch} {e : Env} {s : State} {m : MethodId} {args : Array Value} {below : List Frame} {meth : Method} {c : Code} {G : GT} {I : List Nat} (C : CX p s m args meth c NS bS_bitsOfFact 8 (some .int) G I) (hI : cI I) {fu : Nat} {R1 : Int32} {Z : Sg} {rc6 : Int32 → Int32 → Int32 → Int32 → Int32 → Int32 → Sg → Option (Int32 × Sg)} (hr6 : ∀ {v1 : Int32} {v2 : Int32} {v3 : Int32} {v4 : Int32} {v5 : Int32} {v6 : Int32} {z : Sg} {H : Heap} {locs : List Loc} {ls : Array Slot}, rc6 v1 v2 v3 v4 v5 v6 z = some (R1, Z) → GW G I z s.heap H locs → lv_has ls 8 [(0, .ref (gA G 0)), (1, .int v1), (2, .int v2), (3, .int v3), (4, .int v4), (5, .int v5), (6, .int v6)] → W p l e rmS_bitsOfFact s m args below meth c H locs 0 0 (MQ below (Qi G I R1 Z) args s 0 0 (AD G I)) (F0 m 6 ls [])) {v1 : Int32} {v2 : Int32} {v3 : Int32} {v4 : Int32} {v5 : Int32} {v6 : Int32} {z : Sg} {H : Heap} {locs : List Loc} {ls : Array Slot} (h : pS_bitsOfFact_85 fu rc6 v1 v2 v3 v4 v5 v6 z = some (R1, Z)) (hG : GW G I z s.heap H locs) (hl : lv_has ls 8 [(0, .ref (gA G 0)), (1, .int v1), (2, .int v2), (3, .int v3), (4, .int v4), (5, .int v5), (6, .int v6)]) : W p l e rmS_bitsOfFact s m args below meth c H locs 0 0 (MQ below (Qi G I R1 Z) args s 0 0 (AD G I)) (F0 m 85 ls []) := by
  unfold pS_bitsOfFact_85 at h
  refine rIinc C dS_bitsOfFact_85 hl 6 rfl (d := 1) (by decide) h (by decide) [(0, .ref (gA G 0)), (1, .int v1), (2, .int v2), (3, .int v3), (4, .int v4), (5, .int v5)] rfl (fun x8 ls h hl => ?_)
  refine lv_goto (tgt := 6) C.1 C.2.1 dS_bitsOfFact_88 (by decide) ?_
  exact hr6 h hG (lv_sub hl [1, 2, 3, 4, 5, 6, 0] rfl)
theorem wS_bitsOfFact_59 {p : Program} {l : Launch} {e : Env} {s : State} {m : MethodId} {args : Array Value} {below : List Frame} {meth : Method} {c : Code} {G : GT} {I : List Nat} (C : CX p s m args meth c NS bS_bitsOfFact 8 (some .int) G I) (hI : cI I) {fu : Nat} {R1 : Int32} {Z : Sg} {rc6 : Int32 → Int32 → Int32 → Int32 → Int32 → Int32 → Sg → Option (Int32 × Sg)} (hr6 : ∀ {v1 : Int32} {v2 : Int32} {v3 : Int32} {v4 : Int32} {v5 : Int32} {v6 : Int32} {z : Sg} {H : Heap} {locs : List Loc} {ls : Array Slot}, rc6 v1 v2 v3 v4 v5 v6 z = some (R1, Z) → GW G I z s.heap H locs → lv_has ls 8 [(0, .ref (gA G 0)), (1, .int v1), (2, .int v2), (3, .int v3), (4, .int v4), (5, .int v5), (6, .int v6)] → W p l e rmS_bitsOfFact s m args below meth c H locs 0 0 (MQ below (Qi G I R1 Z) args s 0 0 (AD G I)) (F0 m 6 ls [])) {v1 : Int32} {v2 : Int32} {v3 : Int32} {v4 : Int32} {v5 : Int32} {v6 : Int32} {t0 : Int32} {z : Sg} {H : Heap} {locs : List Loc} {ls : Array Slot} (h : pS_bitsOfFact_59 fu rc6 v1 v2 v3 v4 v5 v6 t0 z = some (R1, Z)) (hG : GW G I z s.heap H locs) (hl : lv_has ls 8 [(0, .ref (gA G 0)), (1, .int v1), (2, .int v2), (3, .int v3), (4, .int v4), (5, .int v5), (6, .int v6)]) : W p l e rmS_bitsOfFact s m args below meth c H locs 0 0 (MQ below (Qi G I R1 Z) args s 0 0 (AD G I)) (F0 m 59 ls [.int t0]) := by
  unfold pS_bitsOfFact_59 at h
  refine rIstoreA C dS_bitsOfFact_59 hl (by decide) [(0, .ref (gA G 0)), (1, .int v1), (2, .int v2), (3, .int v3), (4, .int v4), (5, .int v5), (6, .int v6)] rfl (fun ls hl => ?_)
  refine rIload C dS_bitsOfFact_61 hl 0 rfl ?_
  refine rIfeq C (tgt := 85) h dS_bitsOfFact_63 (by decide) (fun h => ?_) (fun h => ?_)
  · exact wS_bitsOfFact_85 C hI hr6 h hG (lv_sub hl [1, 2, 3, 4, 5, 6, 7] rfl)
  · refine rAload_n C dS_bitsOfFact_66 hl 1 rfl ?_
    refine rIload_n C dS_bitsOfFact_67 hl 2 rfl ?_
    refine rIload_n C dS_bitsOfFact_68 hl 3 rfl ?_
    refine rCVi [.int v1, .int v2] [] C hG h (fun h => cS_firstOtherwise hI h) mvS_firstOtherwise k_655 ⟨Nat.le_of_ble_eq_true rfl, Nat.le_of_ble_eq_true rfl⟩ ⟨rfl, rfl⟩ (rRecv C hG (hI 0 (by decide)) e_0 rfl) rfl hl.1 (Nat.le_of_ble_eq_true rfl) dS_bitsOfFact_69 ⟨Nat.zero_le _, Nat.zero_le _⟩ rfl (fun H locs x6 z5 h hG => ?_)
    refine lv_iconst (v := (-1)) C.1 C.2.1 dS_bitsOfFact_72 (by decide) ?_
    refine rIcmpne C (tgt := 85) h dS_bitsOfFact_73 (by decide) (fun h => ?_) (fun h => ?_)
    · exact wS_bitsOfFact_85 C hI hr6 h hG (lv_sub hl [1, 2, 3, 4, 5, 6, 7] rfl)
    · refine rIload C dS_bitsOfFact_76 hl 6 rfl ?_
      refine lv_iconst (v := 1) C.1 C.2.1 dS_bitsOfFact_78 (by decide) ?_
      refine rIload C dS_bitsOfFact_79 hl 7 rfl ?_
      refine lv_ishl C.1 C.2.1 dS_bitsOfFact_81 ?_
      refine lv_ior C.1 C.2.1 dS_bitsOfFact_82 ?_
      refine rIstore C dS_bitsOfFact_83 hl h (by decide) [(7, .int t0), (0, .ref (gA G 0)), (1, .int v1), (2, .int v2), (3, .int v3), (4, .int v4), (6, .int v6)] rfl (fun x7 ls h hl => ?_)
      exact wS_bitsOfFact_85 C hI hr6 h hG (lv_sub hl [2, 3, 4, 5, 6, 0, 7] rfl)
theorem wS_bitsOfFact_54 {p : Program} {l : Launch} {e : Env} {s : State} {m : MethodId} {args : Array Value} {below : List Frame} {meth : Method} {c : Code} {G : GT} {I : List Nat} (C : CX p s m args meth c NS bS_bitsOfFact 8 (some .int) G I) (hI : cI I) {fu : Nat} {R1 : Int32} {Z : Sg} {rc6 : Int32 → Int32 → Int32 → Int32 → Int32 → Int32 → Sg → Option (Int32 × Sg)} (hr6 : ∀ {v1 : Int32} {v2 : Int32} {v3 : Int32} {v4 : Int32} {v5 : Int32} {v6 : Int32} {z : Sg} {H : Heap} {locs : List Loc} {ls : Array Slot}, rc6 v1 v2 v3 v4 v5 v6 z = some (R1, Z) → GW G I z s.heap H locs → lv_has ls 8 [(0, .ref (gA G 0)), (1, .int v1), (2, .int v2), (3, .int v3), (4, .int v4), (5, .int v5), (6, .int v6)] → W p l e rmS_bitsOfFact s m args below meth c H locs 0 0 (MQ below (Qi G I R1 Z) args s 0 0 (AD G I)) (F0 m 6 ls [])) {v1 : Int32} {v2 : Int32} {v3 : Int32} {v4 : Int32} {v5 : Int32} {v6 : Int32} {z : Sg} {H : Heap} {locs : List Loc} {ls : Array Slot} (h : pS_bitsOfFact_54 fu rc6 v1 v2 v3 v4 v5 v6 z = some (R1, Z)) (hG : GW G I z s.heap H locs) (hl : lv_has ls 8 [(0, .ref (gA G 0)), (1, .int v1), (2, .int v2), (3, .int v3), (4, .int v4), (5, .int v5), (6, .int v6)]) : W p l e rmS_bitsOfFact s m args below meth c H locs 0 0 (MQ below (Qi G I R1 Z) args s 0 0 (AD G I)) (F0 m 54 ls []) := by
  unfold pS_bitsOfFact_54 at h
  refine lv_iconst (v := 1) C.1 C.2.1 dS_bitsOfFact_54 (by decide) ?_
  refine lv_goto (tgt := 59) C.1 C.2.1 dS_bitsOfFact_55 (by decide) ?_
  exact wS_bitsOfFact_59 C hI hr6 h hG (lv_sub hl [0, 1, 2, 3, 4, 5, 6] rfl)
theorem wS_bitsOfFact_6 {p : Program} {l : Launch} {e : Env} {s : State} {m : MethodId} {args : Array Value} {below : List Frame} {meth : Method} {c : Code} {G : GT} {I : List Nat} (C : CX p s m args meth c NS bS_bitsOfFact 8 (some .int) G I) (hI : cI I) {fu : Nat} {R1 : Int32} {Z : Sg} : ∀ (k : Nat) {v1 : Int32} {v2 : Int32} {v3 : Int32} {v4 : Int32} {v5 : Int32} {v6 : Int32} {z : Sg} {H : Heap} {locs : List Loc} {ls : Array Slot}, pS_bitsOfFact_6 fu k v1 v2 v3 v4 v5 v6 z = some (R1, Z) → GW G I z s.heap H locs → lv_has ls 8 [(0, .ref (gA G 0)), (1, .int v1), (2, .int v2), (3, .int v3), (4, .int v4), (5, .int v5), (6, .int v6)] → W p l e rmS_bitsOfFact s m args below meth c H locs 0 0 (MQ below (Qi G I R1 Z) args s 0 0 (AD G I)) (F0 m 6 ls []) := by
  intro k
  induction k with
  | zero => intro v1 v2 v3 v4 v5 v6 z H locs ls h hG hl; rw [pS_bitsOfFact_6] at h; cases h
  | succ k ih =>
    intro v1 v2 v3 v4 v5 v6 z H locs ls h hG hl
    rw [pS_bitsOfFact_6] at h
    refine rIload C dS_bitsOfFact_6 hl 6 rfl ?_
    refine rIload C dS_bitsOfFact_8 hl 4 rfl ?_
    refine rIcmpge C (tgt := 91) h dS_bitsOfFact_10 (by decide) (fun h => ?_) (fun h => ?_)
    · refine rIload C dS_bitsOfFact_91 hl 5 rfl ?_
      exact rReti C hG h dS_bitsOfFact_93
    · refine rAload_n C dS_bitsOfFact_13 hl 0 rfl ?_
      refine rGet C hG (hI 0 (by decide)) e_0 fiS_6 (v := .ref (gA G 20)) rfl k_375 dS_bitsOfFact_14 ?_
      refine rAload_n C dS_bitsOfFact_17 hl 0 rfl ?_
      refine rGet C hG (hI 0 (by decide)) e_0 fiS_5 (v := .ref (gA G 9)) rfl k_374 dS_bitsOfFact_18 ?_
      refine rCVv [.ref (gA G 9)] [] C hG h (fun h => cR_become hI row20 row9 h) mvR_become k_552 ⟨Nat.le_of_ble_eq_true rfl, Nat.le_of_ble_eq_true rfl⟩ ⟨rfl, rfl⟩ (rRecv C hG (hI 20 (by decide)) e_20 rfl) rfl hl.1 (Nat.le_of_ble_eq_true rfl) dS_bitsOfFact_21 ⟨Nat.zero_le _, Nat.zero_le _⟩ rfl (fun H locs z1 h hG => ?_)
      refine rAload_n C dS_bitsOfFact_24 hl 0 rfl ?_
      refine rGet C hG (hI 0 (by decide)) e_0 fiS_6 (v := .ref (gA G 20)) rfl k_375 dS_bitsOfFact_25 ?_
      refine rGet C hG (hI 20 (by decide)) e_20 fiR_2 (v := .ref (gA G 22)) rfl k_143 dS_bitsOfFact_28 ?_
      refine rIload_n C dS_bitsOfFact_31 hl 3 rfl ?_
      refine rAald C hG (hI 22 (by decide)) e_22 (t0 := 3) rfl rfl h dS_bitsOfFact_32 (fun hq32 h => ?_)
      refine rIload_n C dS_bitsOfFact_33 hl 2 rfl ?_
      refine rIload C dS_bitsOfFact_34 hl 6 rfl ?_
      refine rIast C hG (hI _ (row20.fact hq32)) (eR_fact row20 hq32) h dS_bitsOfFact_36 (fun H locs z2 h hG => ?_)
      refine rIload_n C dS_bitsOfFact_37 hl 3 rfl ?_
      refine rIfne C (tgt := 54) h dS_bitsOfFact_38 (by decide) (fun h => ?_) (fun h => ?_)
      · exact wS_bitsOfFact_54 C hI ih h hG (lv_sub hl [0, 1, 2, 3, 4, 5, 6] rfl)
      · refine rAload_n C dS_bitsOfFact_41 hl 0 rfl ?_
        refine rGet C hG (hI 0 (by decide)) e_0 fiS_5 (v := .ref (gA G 9)) rfl k_374 dS_bitsOfFact_42 ?_
        refine rIload_n C dS_bitsOfFact_45 hl 2 rfl ?_
        refine rIload C dS_bitsOfFact_46 hl 6 rfl ?_
        refine rCVi [.int v2, .int v6] [] C hG h (fun h => cR_isFreeFor hI row9 h) mvR_isFreeFor k_495 ⟨Nat.le_of_ble_eq_true rfl, Nat.le_of_ble_eq_true rfl⟩ ⟨rfl, rfl⟩ (rRecv C hG (hI 9 (by decide)) e_9 rfl) rfl hl.1 (Nat.le_of_ble_eq_true rfl) dS_bitsOfFact_48 ⟨Nat.zero_le _, Nat.zero_le _⟩ rfl (fun H locs x4 z3 h hG => ?_)
        refine rIfeq C (tgt := 58) h dS_bitsOfFact_51 (by decide) (fun h => ?_) (fun h => ?_)
        · refine lv_iconst (v := 0) C.1 C.2.1 dS_bitsOfFact_58 (by decide) ?_
          exact wS_bitsOfFact_59 C hI ih h hG (lv_sub hl [0, 1, 2, 3, 4, 5, 6] rfl)
        · exact wS_bitsOfFact_54 C hI ih h hG (lv_sub hl [0, 1, 2, 3, 4, 5, 6] rfl)
theorem cS_bitsOfFact {l : Launch} {G : GT} {I : List Nat} (hI : cI I) {fu : Nat} {v1 : Int32} {v2 : Int32} {v3 : Int32} {v4 : Int32} {z : Sg} {R1 : Int32} {Z : Sg} (h : pS_bitsOfFact fu v1 v2 v3 v4 z = some (R1, Z)) : Mt l yS_bitsOfFact rmS_bitsOfFact bS_bitsOfFact 8 (some .int) G I z [.ref (gA G 0), .int v1, .int v2, .int v3, .int v4] (Qi G I R1 Z) := by
  refine entM (by decide +kernel) (Nat.le_of_ble_eq_true rfl) ?_
  intro p e s m below meth c C hG ls hl
  have hl : lv_has ls 8 [(0, .ref (gA G 0)), (1, .int v1), (2, .int v2), (3, .int v3), (4, .int v4)] := hl
  unfold pS_bitsOfFact at h
  refine lv_iconst (v := 0) C.1 C.2.1 dS_bitsOfFact_0 (by decide) ?_
  refine rIstoreA C dS_bitsOfFact_1 hl (by decide) [(0, .ref (gA G 0)), (1, .int v1), (2, .int v2), (3, .int v3), (4, .int v4)] rfl (fun ls hl => ?_)
  refine lv_iconst (v := 0) C.1 C.2.1 dS_bitsOfFact_3 (by decide) ?_
  refine rIstoreA C dS_bitsOfFact_4 hl (by decide) [(5, .int 0), (0, .ref (gA G 0)), (1, .int v1), (2, .int v2), (3, .int v3), (4, .int v4)] rfl (fun ls hl => ?_)
  exact wS_bitsOfFact_6 C hI _ h hG (lv_sub hl [2, 3, 4, 5, 6, 1, 0] rfl)
theorem dS_kinds_0 : decode bS_kinds 0 = .ok (.aload_n 0, 1) := by decide +kernel
theorem dS_kinds_1 : decode bS_kinds 1 = .ok (.iload_n 1, 1) := by decide +kernel
theorem dS_kinds_2 : decode bS_kinds 2 = .ok (.iload_n 2, 1) := by decide +kernel
theorem dS_kinds_3 : decode bS_kinds 3 = .ok (.invokevirtual 206, 3) := by decide +kernel
theorem dS_kinds_6 : decode bS_kinds 6 = .ok (.istore 4, 2) := by decide +kernel
theorem dS_kinds_8 : decode bS_kinds 8 = .ok (.iload 4, 2) := by decide +kernel
theorem dS_kinds_10 : decode bS_kinds 10 = .ok (.ifCond .eq 6, 3) := by decide +kernel
theorem dS_kinds_13 : decode bS_kinds 13 = .ok (.iload 4, 2) := by decide +kernel
theorem dS_kinds_15 : decode bS_kinds 15 = .ok (.ireturn, 1) := by decide +kernel
theorem dS_kinds_16 : decode bS_kinds 16 = .ok (.iload_n 3, 1) := by decide +kernel
theorem dS_kinds_17 : decode bS_kinds 17 = .ok (.iconst 1, 1) := by decide +kernel
theorem dS_kinds_18 : decode bS_kinds 18 = .ok (.invokestatic 108, 3) := by decide +kernel
theorem dS_kinds_21 : decode bS_kinds 21 = .ok (.ifCond .ne 6, 3) := by decide +kernel
theorem dS_kinds_24 : decode bS_kinds 24 = .ok (.bipush (-7), 2) := by decide +kernel
theorem dS_kinds_26 : decode bS_kinds 26 = .ok (.ireturn, 1) := by decide +kernel
theorem dS_kinds_27 : decode bS_kinds 27 = .ok (.iload_n 3, 1) := by decide +kernel
theorem dS_kinds_28 : decode bS_kinds 28 = .ok (.ifCond .ne 15, 3) := by decide +kernel
theorem dS_kinds_31 : decode bS_kinds 31 = .ok (.aload_n 0, 1) := by decide +kernel
theorem dS_kinds_32 : decode bS_kinds 32 = .ok (.iload_n 1, 1) := by decide +kernel
theorem dS_kinds_33 : decode bS_kinds 33 = .ok (.iload_n 2, 1) := by decide +kernel
theorem dS_kinds_34 : decode bS_kinds 34 = .ok (.iconst 3, 1) := by decide +kernel
theorem dS_kinds_35 : decode bS_kinds 35 = .ok (.bipush 6, 2) := by decide +kernel
theorem dS_kinds_37 : decode bS_kinds 37 = .ok (.invokevirtual 212, 3) := by decide +kernel
theorem dS_kinds_40 : decode bS_kinds 40 = .ok (.goto 12, 3) := by decide +kernel
theorem dS_kinds_43 : decode bS_kinds 43 = .ok (.aload_n 0, 1) := by decide +kernel
theorem dS_kinds_44 : decode bS_kinds 44 = .ok (.iload_n 1, 1) := by decide +kernel
theorem dS_kinds_45 : decode bS_kinds 45 = .ok (.iload_n 2, 1) := by decide +kernel
theorem dS_kinds_46 : decode bS_kinds 46 = .ok (.iconst 4, 1) := by decide +kernel
theorem dS_kinds_47 : decode bS_kinds 47 = .ok (.bipush 10, 2) := by decide +kernel
theorem dS_kinds_49 : decode bS_kinds 49 = .ok (.invokevirtual 212, 3) := by decide +kernel
theorem dS_kinds_52 : decode bS_kinds 52 = .ok (.ireturn, 1) := by decide +kernel
theorem cS_kinds {l : Launch} {G : GT} {I : List Nat} (hI : cI I) {fu : Nat} {v1 : Int32} {v2 : Int32} {v3 : Int32} {z : Sg} {R1 : Int32} {Z : Sg} (h : pS_kinds fu v1 v2 v3 z = some (R1, Z)) : Mt l yS_kinds rmS_kinds bS_kinds 5 (some .int) G I z [.ref (gA G 0), .int v1, .int v2, .int v3] (Qi G I R1 Z) := by
  refine entM (by decide +kernel) (Nat.le_of_ble_eq_true rfl) ?_
  intro p e s m below meth c C hG ls hl
  have hl : lv_has ls 5 [(0, .ref (gA G 0)), (1, .int v1), (2, .int v2), (3, .int v3)] := hl
  unfold pS_kinds at h
  refine rAload_n C dS_kinds_0 hl 0 rfl ?_
  refine rIload_n C dS_kinds_1 hl 1 rfl ?_
  refine rIload_n C dS_kinds_2 hl 2 rfl ?_
  refine rCVi [.int v1, .int v2] [] C hG h (fun h => cS_refusalOfOne hI h) mvS_refusalOfOne k_643 ⟨Nat.le_of_ble_eq_true rfl, Nat.le_of_ble_eq_true rfl⟩ ⟨rfl, rfl⟩ (rRecv C hG (hI 0 (by decide)) e_0 rfl) rfl hl.1 (Nat.le_of_ble_eq_true rfl) dS_kinds_3 ⟨Nat.zero_le _, Nat.zero_le _⟩ rfl (fun H locs x2 z1 h hG => ?_)
  refine rIstoreA C dS_kinds_6 hl (by decide) [(0, .ref (gA G 0)), (1, .int v1), (2, .int v2), (3, .int v3)] rfl (fun ls hl => ?_)
  refine rIload C dS_kinds_8 hl 0 rfl ?_
  refine rIfeq C (tgt := 16) h dS_kinds_10 (by decide) (fun h => ?_) (fun h => ?_)
  · refine rIload_n C dS_kinds_16 hl 4 rfl ?_
    refine lv_iconst (v := 1) C.1 C.2.1 dS_kinds_17 (by decide) ?_
    refine rCSi [.int v3, .int 1] [] C hG h (fun h => cS_within hI h) mvS_within k_423 ⟨Nat.le_of_ble_eq_true rfl, Nat.le_of_ble_eq_true rfl⟩ ⟨rfl, rfl⟩ rfl hl.1 (Nat.le_of_ble_eq_true rfl) dS_kinds_18 ⟨Nat.zero_le _, Nat.zero_le _⟩ rfl (fun H locs x4 z3 h hG => ?_)
    refine rIfne C (tgt := 27) h dS_kinds_21 (by decide) (fun h => ?_) (fun h => ?_)
    · refine rIload_n C dS_kinds_27 hl 4 rfl ?_
      refine rIfne C (tgt := 43) h dS_kinds_28 (by decide) (fun h => ?_) (fun h => ?_)
      · refine rAload_n C dS_kinds_43 hl 1 rfl ?_
        refine rIload_n C dS_kinds_44 hl 2 rfl ?_
        refine rIload_n C dS_kinds_45 hl 3 rfl ?_
        refine lv_iconst (v := 4) C.1 C.2.1 dS_kinds_46 (by decide) ?_
        refine lv_bipush (v := 10) C.1 C.2.1 dS_kinds_47 (by decide) ?_
        refine rCVi [.int v1, .int v2, .int 4, .int 10] [] C hG h (fun h => cS_bitsOfFact hI h) mvS_bitsOfFact k_663 ⟨Nat.le_of_ble_eq_true rfl, Nat.le_of_ble_eq_true rfl⟩ ⟨rfl, rfl⟩ (rRecv C hG (hI 0 (by decide)) e_0 rfl) rfl hl.1 (Nat.le_of_ble_eq_true rfl) dS_kinds_49 ⟨Nat.zero_le _, Nat.zero_le _⟩ rfl (fun H locs x6 z5 h hG => ?_)
        exact rReti C hG h dS_kinds_52
      · refine rAload_n C dS_kinds_31 hl 1 rfl ?_
        refine rIload_n C dS_kinds_32 hl 2 rfl ?_
        refine rIload_n C dS_kinds_33 hl 3 rfl ?_
        refine lv_iconst (v := 3) C.1 C.2.1 dS_kinds_34 (by decide) ?_
        refine lv_bipush (v := 6) C.1 C.2.1 dS_kinds_35 (by decide) ?_
        refine rCVi [.int v1, .int v2, .int 3, .int 6] [] C hG h (fun h => cS_bitsOfFact hI h) mvS_bitsOfFact k_663 ⟨Nat.le_of_ble_eq_true rfl, Nat.le_of_ble_eq_true rfl⟩ ⟨rfl, rfl⟩ (rRecv C hG (hI 0 (by decide)) e_0 rfl) rfl hl.1 (Nat.le_of_ble_eq_true rfl) dS_kinds_37 ⟨Nat.zero_le _, Nat.zero_le _⟩ rfl (fun H locs x8 z7 h hG => ?_)
        refine lv_goto (tgt := 52) C.1 C.2.1 dS_kinds_40 (by decide) ?_
        exact rReti C hG h dS_kinds_52
    · refine lv_bipush (v := (-7)) C.1 C.2.1 dS_kinds_24 (by decide) ?_
      exact rReti C hG h dS_kinds_26
  · refine rIload C dS_kinds_13 hl 0 rfl ?_
    exact rReti C hG h dS_kinds_15
theorem dS_bitsOfMark_0 : decode bS_bitsOfMark 0 = .ok (.iconst 0, 1) := by decide +kernel
theorem dS_bitsOfMark_1 : decode bS_bitsOfMark 1 = .ok (.istore 4, 2) := by decide +kernel
theorem dS_bitsOfMark_3 : decode bS_bitsOfMark 3 = .ok (.iconst 0, 1) := by decide +kernel
theorem dS_bitsOfMark_4 : decode bS_bitsOfMark 4 = .ok (.istore 5, 2) := by decide +kernel
theorem dS_bitsOfMark_6 : decode bS_bitsOfMark 6 = .ok (.iload 5, 2) := by decide +kernel
theorem dS_bitsOfMark_8 : decode bS_bitsOfMark 8 = .ok (.bipush 12, 2) := by decide +kernel
theorem dS_bitsOfMark_10 : decode bS_bitsOfMark 10 = .ok (.if_icmp .ge 50, 3) := by decide +kernel
theorem dS_bitsOfMark_13 : decode bS_bitsOfMark 13 = .ok (.aload_n 0, 1) := by decide +kernel
theorem dS_bitsOfMark_14 : decode bS_bitsOfMark 14 = .ok (.getfield 53, 3) := by decide +kernel
theorem dS_bitsOfMark_17 : decode bS_bitsOfMark 17 = .ok (.aload_n 0, 1) := by decide +kernel
theorem dS_bitsOfMark_18 : decode bS_bitsOfMark 18 = .ok (.getfield 49, 3) := by decide +kernel
theorem dS_bitsOfMark_21 : decode bS_bitsOfMark 21 = .ok (.invokevirtual 166, 3) := by decide +kernel
theorem dS_bitsOfMark_24 : decode bS_bitsOfMark 24 = .ok (.aload_n 0, 1) := by decide +kernel
theorem dS_bitsOfMark_25 : decode bS_bitsOfMark 25 = .ok (.getfield 53, 3) := by decide +kernel
theorem dS_bitsOfMark_28 : decode bS_bitsOfMark 28 = .ok (.getfield 119, 3) := by decide +kernel
theorem dS_bitsOfMark_31 : decode bS_bitsOfMark 31 = .ok (.iload_n 3, 1) := by decide +kernel
theorem dS_bitsOfMark_32 : decode bS_bitsOfMark 32 = .ok (.iload 5, 2) := by decide +kernel
theorem dS_bitsOfMark_34 : decode bS_bitsOfMark 34 = .ok (.iastore, 1) := by decide +kernel
theorem dS_bitsOfMark_35 : decode bS_bitsOfMark 35 = .ok (.aload_n 0, 1) := by decide +kernel
theorem dS_bitsOfMark_36 : decode bS_bitsOfMark 36 = .ok (.iload_n 1, 1) := by decide +kernel
theorem dS_bitsOfMark_37 : decode bS_bitsOfMark 37 = .ok (.iload_n 2, 1) := by decide +kernel
theorem dS_bitsOfMark_38 : decode bS_bitsOfMark 38 = .ok (.invokevirtual 209, 3) := by decide +kernel
theorem dS_bitsOfMark_41 : decode bS_bitsOfMark 41 = .ok (.iconst (-1), 1) := by decide +kernel
theorem dS_bitsOfMark_42 : decode bS_bitsOfMark 42 = .ok (.if_icmp .ne 12, 3) := by decide +kernel
theorem dS_bitsOfMark_45 : decode bS_bitsOfMark 45 = .ok (.iload 4, 2) := by decide +kernel
theorem dS_bitsOfMark_47 : decode bS_bitsOfMark 47 = .ok (.iconst 1, 1) := by decide +kernel
theorem dS_bitsOfMark_48 : decode bS_bitsOfMark 48 = .ok (.iload 5, 2) := by decide +kernel
theorem dS_bitsOfMark_50 : decode bS_bitsOfMark 50 = .ok (.ishl, 1) := by decide +kernel
theorem dS_bitsOfMark_51 : decode bS_bitsOfMark 51 = .ok (.ior, 1) := by decide +kernel
theorem dS_bitsOfMark_52 : decode bS_bitsOfMark 52 = .ok (.istore 4, 2) := by decide +kernel
theorem dS_bitsOfMark_54 : decode bS_bitsOfMark 54 = .ok (.iinc 5 1, 3) := by decide +kernel
theorem dS_bitsOfMark_57 : decode bS_bitsOfMark 57 = .ok (.goto (-51), 3) := by decide +kernel
theorem dS_bitsOfMark_60 : decode bS_bitsOfMark 60 = .ok (.iload 4, 2) := by decide +kernel
theorem dS_bitsOfMark_62 : decode bS_bitsOfMark 62 = .ok (.ireturn, 1) := by decide +kernel
theorem wS_bitsOfMark_54 {p : Program} {l : Launch} {e : Env} {s : State} {m : MethodId} {args : Array Value} {below : List Frame} {meth : Method} {c : Code} {G : GT} {I : List Nat} (C : CX p s m args meth c NS bS_bitsOfMark 6 (some .int) G I) (hI : cI I) {fu : Nat} {R1 : Int32} {Z : Sg} {rc6 : Int32 → Int32 → Int32 → Int32 → Int32 → Sg → Option (Int32 × Sg)} (hr6 : ∀ {v1 : Int32} {v2 : Int32} {v3 : Int32} {v4 : Int32} {v5 : Int32} {z : Sg} {H : Heap} {locs : List Loc} {ls : Array Slot}, rc6 v1 v2 v3 v4 v5 z = some (R1, Z) → GW G I z s.heap H locs → lv_has ls 6 [(0, .ref (gA G 0)), (1, .int v1), (2, .int v2), (3, .int v3), (4, .int v4), (5, .int v5)] → W p l e rmS_bitsOfMark s m args below meth c H locs 0 0 (MQ below (Qi G I R1 Z) args s 0 0 (AD G I)) (F0 m 6 ls [])) {v1 : Int32} {v2 : Int32} {v3 : Int32} {v4 : Int32} {v5 : Int32} {z : Sg} {H : Heap} {locs : List Loc} {ls : Array Slot} (h : pS_bitsOfMark_54 fu rc6 v1 v2 v3 v4 v5 z = some (R1, Z)) (hG : GW G I z s.heap H locs) (hl : lv_has ls 6 [(0, .ref (gA G 0)), (1, .int v1), (2, .int v2), (3, .int v3), (4, .int v4), (5, .int v5)]) : W p l e rmS_bitsOfMark s m args below meth c H locs 0 0 (MQ below (Qi G I R1 Z) args s 0 0 (AD G I)) (F0 m 54 ls []) := by
  unfold pS_bitsOfMark_54 at h
  refine rIinc C dS_bitsOfMark_54 hl 5 rfl (d := 1) (by decide) h (by decide) [(0, .ref (gA G 0)), (1, .int v1), (2, .int v2), (3, .int v3), (4, .int v4)] rfl (fun x6 ls h hl => ?_)
  refine lv_goto (tgt := 6) C.1 C.2.1 dS_bitsOfMark_57 (by decide) ?_
  exact hr6 h hG (lv_sub hl [1, 2, 3, 4, 5, 0] rfl)
theorem wS_bitsOfMark_6 {p : Program} {l : Launch} {e : Env} {s : State} {m : MethodId} {args : Array Value} {below : List Frame} {meth : Method} {c : Code} {G : GT} {I : List Nat} (C : CX p s m args meth c NS bS_bitsOfMark 6 (some .int) G I) (hI : cI I) {fu : Nat} {R1 : Int32} {Z : Sg} : ∀ (k : Nat) {v1 : Int32} {v2 : Int32} {v3 : Int32} {v4 : Int32} {v5 : Int32} {z : Sg} {H : Heap} {locs : List Loc} {ls : Array Slot}, pS_bitsOfMark_6 fu k v1 v2 v3 v4 v5 z = some (R1, Z) → GW G I z s.heap H locs → lv_has ls 6 [(0, .ref (gA G 0)), (1, .int v1), (2, .int v2), (3, .int v3), (4, .int v4), (5, .int v5)] → W p l e rmS_bitsOfMark s m args below meth c H locs 0 0 (MQ below (Qi G I R1 Z) args s 0 0 (AD G I)) (F0 m 6 ls []) := by
  intro k
  induction k with
  | zero => intro v1 v2 v3 v4 v5 z H locs ls h hG hl; rw [pS_bitsOfMark_6] at h; cases h
  | succ k ih =>
    intro v1 v2 v3 v4 v5 z H locs ls h hG hl
    rw [pS_bitsOfMark_6] at h
    refine rIload C dS_bitsOfMark_6 hl 5 rfl ?_
    refine lv_bipush (v := 12) C.1 C.2.1 dS_bitsOfMark_8 (by decide) ?_
    refine rIcmpge C (tgt := 60) h dS_bitsOfMark_10 (by decide) (fun h => ?_) (fun h => ?_)
    · refine rIload C dS_bitsOfMark_60 hl 4 rfl ?_
      exact rReti C hG h dS_bitsOfMark_62
    · refine rAload_n C dS_bitsOfMark_13 hl 0 rfl ?_
      refine rGet C hG (hI 0 (by decide)) e_0 fiS_6 (v := .ref (gA G 20)) rfl k_375 dS_bitsOfMark_14 ?_
      refine rAload_n C dS_bitsOfMark_17 hl 0 rfl ?_
      refine rGet C hG (hI 0 (by decide)) e_0 fiS_5 (v := .ref (gA G 9)) rfl k_374 dS_bitsOfMark_18 ?_
      refine rCVv [.ref (gA G 9)] [] C hG h (fun h => cR_become hI row20 row9 h) mvR_become k_552 ⟨Nat.le_of_ble_eq_true rfl, Nat.le_of_ble_eq_true rfl⟩ ⟨rfl, rfl⟩ (rRecv C hG (hI 20 (by decide)) e_20 rfl) rfl hl.1 (Nat.le_of_ble_eq_true rfl) dS_bitsOfMark_21 ⟨Nat.zero_le _, Nat.zero_le _⟩ rfl (fun H locs z1 h hG => ?_)
      refine rAload_n C dS_bitsOfMark_24 hl 0 rfl ?_
      refine rGet C hG (hI 0 (by decide)) e_0 fiS_6 (v := .ref (gA G 20)) rfl k_375 dS_bitsOfMark_25 ?_
      refine rGet C hG (hI 20 (by decide)) e_20 fiR_1 (v := .ref (gA G 21)) rfl k_140 dS_bitsOfMark_28 ?_
      refine rIload_n C dS_bitsOfMark_31 hl 3 rfl ?_
      refine rIload C dS_bitsOfMark_32 hl 5 rfl ?_
      refine rIast C hG (hI 21 (by decide)) e_21 h dS_bitsOfMark_34 (fun H locs z2 h hG => ?_)
      refine rAload_n C dS_bitsOfMark_35 hl 0 rfl ?_
      refine rIload_n C dS_bitsOfMark_36 hl 1 rfl ?_
      refine rIload_n C dS_bitsOfMark_37 hl 2 rfl ?_
      refine rCVi [.int v1, .int v2] [] C hG h (fun h => cS_firstOtherwise hI h) mvS_firstOtherwise k_655 ⟨Nat.le_of_ble_eq_true rfl, Nat.le_of_ble_eq_true rfl⟩ ⟨rfl, rfl⟩ (rRecv C hG (hI 0 (by decide)) e_0 rfl) rfl hl.1 (Nat.le_of_ble_eq_true rfl) dS_bitsOfMark_38 ⟨Nat.zero_le _, Nat.zero_le _⟩ rfl (fun H locs x4 z3 h hG => ?_)
      refine lv_iconst (v := (-1)) C.1 C.2.1 dS_bitsOfMark_41 (by decide) ?_
      refine rIcmpne C (tgt := 54) h dS_bitsOfMark_42 (by decide) (fun h => ?_) (fun h => ?_)
      · exact wS_bitsOfMark_54 C hI ih h hG (lv_sub hl [0, 1, 2, 3, 4, 5] rfl)
      · refine rIload C dS_bitsOfMark_45 hl 4 rfl ?_
        refine lv_iconst (v := 1) C.1 C.2.1 dS_bitsOfMark_47 (by decide) ?_
        refine rIload C dS_bitsOfMark_48 hl 5 rfl ?_
        refine lv_ishl C.1 C.2.1 dS_bitsOfMark_50 ?_
        refine lv_ior C.1 C.2.1 dS_bitsOfMark_51 ?_
        refine rIstore C dS_bitsOfMark_52 hl h (by decide) [(0, .ref (gA G 0)), (1, .int v1), (2, .int v2), (3, .int v3), (5, .int v5)] rfl (fun x5 ls h hl => ?_)
        exact wS_bitsOfMark_54 C hI ih h hG (lv_sub hl [1, 2, 3, 4, 0, 5] rfl)
theorem cS_bitsOfMark {l : Launch} {G : GT} {I : List Nat} (hI : cI I) {fu : Nat} {v1 : Int32} {v2 : Int32} {v3 : Int32} {z : Sg} {R1 : Int32} {Z : Sg} (h : pS_bitsOfMark fu v1 v2 v3 z = some (R1, Z)) : Mt l yS_bitsOfMark rmS_bitsOfMark bS_bitsOfMark 6 (some .int) G I z [.ref (gA G 0), .int v1, .int v2, .int v3] (Qi G I R1 Z) := by
  refine entM (by decide +kernel) (Nat.le_of_ble_eq_true rfl) ?_
  intro p e s m below meth c C hG ls hl
  have hl : lv_has ls 6 [(0, .ref (gA G 0)), (1, .int v1), (2, .int v2), (3, .int v3)] := hl
  unfold pS_bitsOfMark at h
  refine lv_iconst (v := 0) C.1 C.2.1 dS_bitsOfMark_0 (by decide) ?_
  refine rIstoreA C dS_bitsOfMark_1 hl (by decide) [(0, .ref (gA G 0)), (1, .int v1), (2, .int v2), (3, .int v3)] rfl (fun ls hl => ?_)
  refine lv_iconst (v := 0) C.1 C.2.1 dS_bitsOfMark_3 (by decide) ?_
  refine rIstoreA C dS_bitsOfMark_4 hl (by decide) [(4, .int 0), (0, .ref (gA G 0)), (1, .int v1), (2, .int v2), (3, .int v3)] rfl (fun ls hl => ?_)
  exact wS_bitsOfMark_6 C hI _ h hG (lv_sub hl [2, 3, 4, 5, 1, 0] rfl)
theorem dS_states_0 : decode bS_states 0 = .ok (.aload_n 0, 1) := by decide +kernel
theorem dS_states_1 : decode bS_states 1 = .ok (.iload_n 1, 1) := by decide +kernel
theorem dS_states_2 : decode bS_states 2 = .ok (.iload_n 2, 1) := by decide +kernel
theorem dS_states_3 : decode bS_states 3 = .ok (.invokevirtual 206, 3) := by decide +kernel
theorem dS_states_6 : decode bS_states 6 = .ok (.istore 4, 2) := by decide +kernel
theorem dS_states_8 : decode bS_states 8 = .ok (.iload 4, 2) := by decide +kernel
theorem dS_states_10 : decode bS_states 10 = .ok (.ifCond .eq 6, 3) := by decide +kernel
theorem dS_states_13 : decode bS_states 13 = .ok (.iload 4, 2) := by decide +kernel
theorem dS_states_15 : decode bS_states 15 = .ok (.ireturn, 1) := by decide +kernel
theorem dS_states_16 : decode bS_states 16 = .ok (.iload_n 3, 1) := by decide +kernel
theorem dS_states_17 : decode bS_states 17 = .ok (.tableswitch 67 0 3 #[31, 41, 51, 59], 31) := by decide +kernel
theorem dS_states_48 : decode bS_states 48 = .ok (.aload_n 0, 1) := by decide +kernel
theorem dS_states_49 : decode bS_states 49 = .ok (.iload_n 1, 1) := by decide +kernel
theorem dS_states_50 : decode bS_states 50 = .ok (.iload_n 2, 1) := by decide +kernel
theorem dS_states_51 : decode bS_states 51 = .ok (.iconst 0, 1) := by decide +kernel
theorem dS_states_52 : decode bS_states 52 = .ok (.bipush 10, 2) := by decide +kernel
theorem dS_states_54 : decode bS_states 54 = .ok (.invokevirtual 212, 3) := by decide +kernel
theorem dS_states_57 : decode bS_states 57 = .ok (.ireturn, 1) := by decide +kernel
theorem dS_states_58 : decode bS_states 58 = .ok (.aload_n 0, 1) := by decide +kernel
theorem dS_states_59 : decode bS_states 59 = .ok (.iload_n 1, 1) := by decide +kernel
theorem dS_states_60 : decode bS_states 60 = .ok (.iload_n 2, 1) := by decide +kernel
theorem dS_states_61 : decode bS_states 61 = .ok (.iconst 1, 1) := by decide +kernel
theorem dS_states_62 : decode bS_states 62 = .ok (.bipush 12, 2) := by decide +kernel
theorem dS_states_64 : decode bS_states 64 = .ok (.invokevirtual 212, 3) := by decide +kernel
theorem dS_states_67 : decode bS_states 67 = .ok (.ireturn, 1) := by decide +kernel
theorem dS_states_68 : decode bS_states 68 = .ok (.aload_n 0, 1) := by decide +kernel
theorem dS_states_69 : decode bS_states 69 = .ok (.iload_n 1, 1) := by decide +kernel
theorem dS_states_70 : decode bS_states 70 = .ok (.iload_n 2, 1) := by decide +kernel
theorem dS_states_71 : decode bS_states 71 = .ok (.iconst 1, 1) := by decide +kernel
theorem dS_states_72 : decode bS_states 72 = .ok (.invokevirtual 216, 3) := by decide +kernel
theorem dS_states_75 : decode bS_states 75 = .ok (.ireturn, 1) := by decide +kernel
theorem dS_states_76 : decode bS_states 76 = .ok (.aload_n 0, 1) := by decide +kernel
theorem dS_states_77 : decode bS_states 77 = .ok (.iload_n 1, 1) := by decide +kernel
theorem dS_states_78 : decode bS_states 78 = .ok (.iload_n 2, 1) := by decide +kernel
theorem dS_states_79 : decode bS_states 79 = .ok (.iconst 2, 1) := by decide +kernel
theorem dS_states_80 : decode bS_states 80 = .ok (.invokevirtual 216, 3) := by decide +kernel
theorem dS_states_83 : decode bS_states 83 = .ok (.ireturn, 1) := by decide +kernel
theorem dS_states_84 : decode bS_states 84 = .ok (.bipush (-7), 2) := by decide +kernel
theorem dS_states_86 : decode bS_states 86 = .ok (.ireturn, 1) := by decide +kernel
theorem cS_states {l : Launch} {G : GT} {I : List Nat} (hI : cI I) {fu : Nat} {v1 : Int32} {v2 : Int32} {v3 : Int32} {z : Sg} {R1 : Int32} {Z : Sg} (h : pS_states fu v1 v2 v3 z = some (R1, Z)) : Mt l yS_states rmS_states bS_states 5 (some .int) G I z [.ref (gA G 0), .int v1, .int v2, .int v3] (Qi G I R1 Z) := by
  refine entM (by decide +kernel) (Nat.le_of_ble_eq_true rfl) ?_
  intro p e s m below meth c C hG ls hl
  have hl : lv_has ls 5 [(0, .ref (gA G 0)), (1, .int v1), (2, .int v2), (3, .int v3)] := hl
  unfold pS_states at h
  refine rAload_n C dS_states_0 hl 0 rfl ?_
  refine rIload_n C dS_states_1 hl 1 rfl ?_
  refine rIload_n C dS_states_2 hl 2 rfl ?_
  refine rCVi [.int v1, .int v2] [] C hG h (fun h => cS_refusalOfOne hI h) mvS_refusalOfOne k_643 ⟨Nat.le_of_ble_eq_true rfl, Nat.le_of_ble_eq_true rfl⟩ ⟨rfl, rfl⟩ (rRecv C hG (hI 0 (by decide)) e_0 rfl) rfl hl.1 (Nat.le_of_ble_eq_true rfl) dS_states_3 ⟨Nat.zero_le _, Nat.zero_le _⟩ rfl (fun H locs x2 z1 h hG => ?_)
  refine rIstoreA C dS_states_6 hl (by decide) [(0, .ref (gA G 0)), (1, .int v1), (2, .int v2), (3, .int v3)] rfl (fun ls hl => ?_)
  refine rIload C dS_states_8 hl 0 rfl ?_
  refine rIfeq C (tgt := 16) h dS_states_10 (by decide) (fun h => ?_) (fun h => ?_)
  · refine rIload_n C dS_states_16 hl 4 rfl ?_
    by_cases q17_0 : v3 = 0
    · replace h := ifP q17_0 h
      refine rSwT C dS_states_17 0 q17_0 (by decide) (off := 31) (tgt := 48) (by decide) (by decide) ?_
      refine rAload_n C dS_states_48 hl 1 rfl ?_
      refine rIload_n C dS_states_49 hl 2 rfl ?_
      refine rIload_n C dS_states_50 hl 3 rfl ?_
      refine lv_iconst (v := 0) C.1 C.2.1 dS_states_51 (by decide) ?_
      refine lv_bipush (v := 10) C.1 C.2.1 dS_states_52 (by decide) ?_
      refine rCVi [.int v1, .int v2, .int 0, .int 10] [] C hG h (fun h => cS_bitsOfFact hI h) mvS_bitsOfFact k_663 ⟨Nat.le_of_ble_eq_true rfl, Nat.le_of_ble_eq_true rfl⟩ ⟨rfl, rfl⟩ (rRecv C hG (hI 0 (by decide)) e_0 rfl) rfl hl.1 (Nat.le_of_ble_eq_true rfl) dS_states_54 ⟨Nat.zero_le _, Nat.zero_le _⟩ rfl (fun H locs x4 z3 h hG => ?_)
      exact rReti C hG h dS_states_57
    replace h := ifN q17_0 h
    by_cases q17_1 : v3 = 1
    · replace h := ifP q17_1 h
      refine rSwT C dS_states_17 1 q17_1 (by decide) (off := 41) (tgt := 58) (by decide) (by decide) ?_
      refine rAload_n C dS_states_58 hl 1 rfl ?_
      refine rIload_n C dS_states_59 hl 2 rfl ?_
      refine rIload_n C dS_states_60 hl 3 rfl ?_
      refine lv_iconst (v := 1) C.1 C.2.1 dS_states_61 (by decide) ?_
      refine lv_bipush (v := 12) C.1 C.2.1 dS_states_62 (by decide) ?_
      refine rCVi [.int v1, .int v2, .int 1, .int 12] [] C hG h (fun h => cS_bitsOfFact hI h) mvS_bitsOfFact k_663 ⟨Nat.le_of_ble_eq_true rfl, Nat.le_of_ble_eq_true rfl⟩ ⟨rfl, rfl⟩ (rRecv C hG (hI 0 (by decide)) e_0 rfl) rfl hl.1 (Nat.le_of_ble_eq_true rfl) dS_states_64 ⟨Nat.zero_le _, Nat.zero_le _⟩ rfl (fun H locs x6 z5 h hG => ?_)
      exact rReti C hG h dS_states_67
    replace h := ifN q17_1 h
    by_cases q17_2 : v3 = 2
    · replace h := ifP q17_2 h
      refine rSwT C dS_states_17 2 q17_2 (by decide) (off := 51) (tgt := 68) (by decide) (by decide) ?_
      refine rAload_n C dS_states_68 hl 1 rfl ?_
      refine rIload_n C dS_states_69 hl 2 rfl ?_
      refine rIload_n C dS_states_70 hl 3 rfl ?_
      refine lv_iconst (v := 1) C.1 C.2.1 dS_states_71 (by decide) ?_
      refine rCVi [.int v1, .int v2, .int 1] [] C hG h (fun h => cS_bitsOfMark hI h) mvS_bitsOfMark k_671 ⟨Nat.le_of_ble_eq_true rfl, Nat.le_of_ble_eq_true rfl⟩ ⟨rfl, rfl⟩ (rRecv C hG (hI 0 (by decide)) e_0 rfl) rfl hl.1 (Nat.le_of_ble_eq_true rfl) dS_states_72 ⟨Nat.zero_le _, Nat.zero_le _⟩ rfl (fun H locs x8 z7 h hG => ?_)
      exact rReti C hG h dS_states_75
    replace h := ifN q17_2 h
    by_cases q17_3 : v3 = 3
    · replace h := ifP q17_3 h
      refine rSwT C dS_states_17 3 q17_3 (by decide) (off := 59) (tgt := 76) (by decide) (by decide) ?_
      refine rAload_n C dS_states_76 hl 1 rfl ?_
      refine rIload_n C dS_states_77 hl 2 rfl ?_
      refine rIload_n C dS_states_78 hl 3 rfl ?_
      refine lv_iconst (v := 2) C.1 C.2.1 dS_states_79 (by decide) ?_
      refine rCVi [.int v1, .int v2, .int 2] [] C hG h (fun h => cS_bitsOfMark hI h) mvS_bitsOfMark k_671 ⟨Nat.le_of_ble_eq_true rfl, Nat.le_of_ble_eq_true rfl⟩ ⟨rfl, rfl⟩ (rRecv C hG (hI 0 (by decide)) e_0 rfl) rfl hl.1 (Nat.le_of_ble_eq_true rfl) dS_states_80 ⟨Nat.zero_le _, Nat.zero_le _⟩ rfl (fun H locs x10 z9 h hG => ?_)
      exact rReti C hG h dS_states_83
    replace h := ifN q17_3 h
    refine rSwD C dS_states_17 (tgt := 84) (by have q17_0n := ne_toInt (k := 0) q17_0 (by decide); have q17_1n := ne_toInt (k := 1) q17_1 (by decide); have q17_2n := ne_toInt (k := 2) q17_2 (by decide); have q17_3n := ne_toInt (k := 3) q17_3 (by decide); omega) (by decide) ?_
    refine lv_bipush (v := (-7)) C.1 C.2.1 dS_states_84 (by decide) ?_
    exact rReti C hG h dS_states_86
  · refine rIload C dS_states_13 hl 0 rfl ?_
    exact rReti C hG h dS_states_15
theorem dS_weary_0 : decode bS_weary 0 = .ok (.aload_n 0, 1) := by decide +kernel
theorem dS_weary_1 : decode bS_weary 1 = .ok (.iload_n 1, 1) := by decide +kernel
theorem dS_weary_2 : decode bS_weary 2 = .ok (.iload_n 2, 1) := by decide +kernel
theorem dS_weary_3 : decode bS_weary 3 = .ok (.invokevirtual 206, 3) := by decide +kernel
theorem dS_weary_6 : decode bS_weary 6 = .ok (.istore 4, 2) := by decide +kernel
theorem dS_weary_8 : decode bS_weary 8 = .ok (.iload 4, 2) := by decide +kernel
theorem dS_weary_10 : decode bS_weary 10 = .ok (.ifCond .eq 6, 3) := by decide +kernel
theorem dS_weary_13 : decode bS_weary 13 = .ok (.iload 4, 2) := by decide +kernel
theorem dS_weary_15 : decode bS_weary 15 = .ok (.ireturn, 1) := by decide +kernel
theorem dS_weary_16 : decode bS_weary 16 = .ok (.iload_n 3, 1) := by decide +kernel
theorem dS_weary_17 : decode bS_weary 17 = .ok (.iconst 1, 1) := by decide +kernel
theorem dS_weary_18 : decode bS_weary 18 = .ok (.invokestatic 108, 3) := by decide +kernel
theorem dS_weary_21 : decode bS_weary 21 = .ok (.ifCond .ne 6, 3) := by decide +kernel
theorem dS_weary_24 : decode bS_weary 24 = .ok (.bipush (-7), 2) := by decide +kernel
theorem dS_weary_26 : decode bS_weary 26 = .ok (.ireturn, 1) := by decide +kernel
theorem dS_weary_27 : decode bS_weary 27 = .ok (.iconst 0, 1) := by decide +kernel
theorem dS_weary_28 : decode bS_weary 28 = .ok (.istore 5, 2) := by decide +kernel
theorem dS_weary_30 : decode bS_weary 30 = .ok (.iconst (-1), 1) := by decide +kernel
theorem dS_weary_31 : decode bS_weary 31 = .ok (.istore 6, 2) := by decide +kernel
theorem dS_weary_33 : decode bS_weary 33 = .ok (.bipush 99, 2) := by decide +kernel
theorem dS_weary_35 : decode bS_weary 35 = .ok (.istore 7, 2) := by decide +kernel
theorem dS_weary_37 : decode bS_weary 37 = .ok (.iload 7, 2) := by decide +kernel
theorem dS_weary_39 : decode bS_weary 39 = .ok (.ifCond .lt 50, 3) := by decide +kernel
theorem dS_weary_42 : decode bS_weary 42 = .ok (.aload_n 0, 1) := by decide +kernel
theorem dS_weary_43 : decode bS_weary 43 = .ok (.getfield 53, 3) := by decide +kernel
theorem dS_weary_46 : decode bS_weary 46 = .ok (.aload_n 0, 1) := by decide +kernel
theorem dS_weary_47 : decode bS_weary 47 = .ok (.getfield 49, 3) := by decide +kernel
theorem dS_weary_50 : decode bS_weary 50 = .ok (.invokevirtual 166, 3) := by decide +kernel
theorem dS_weary_53 : decode bS_weary 53 = .ok (.aload_n 0, 1) := by decide +kernel
theorem dS_weary_54 : decode bS_weary 54 = .ok (.getfield 53, 3) := by decide +kernel
theorem dS_weary_57 : decode bS_weary 57 = .ok (.getfield 143, 3) := by decide +kernel
theorem dS_weary_60 : decode bS_weary 60 = .ok (.iconst 2, 1) := by decide +kernel
theorem dS_weary_61 : decode bS_weary 61 = .ok (.aaload, 1) := by decide +kernel
theorem dS_weary_62 : decode bS_weary 62 = .ok (.iload_n 2, 1) := by decide +kernel
theorem dS_weary_63 : decode bS_weary 63 = .ok (.iload 7, 2) := by decide +kernel
theorem dS_weary_65 : decode bS_weary 65 = .ok (.iastore, 1) := by decide +kernel
theorem dS_weary_66 : decode bS_weary 66 = .ok (.aload_n 0, 1) := by decide +kernel
theorem dS_weary_67 : decode bS_weary 67 = .ok (.iload_n 1, 1) := by decide +kernel
theorem dS_weary_68 : decode bS_weary 68 = .ok (.iload_n 2, 1) := by decide +kernel
theorem dS_weary_69 : decode bS_weary 69 = .ok (.invokevirtual 209, 3) := by decide +kernel
theorem dS_weary_72 : decode bS_weary 72 = .ok (.iconst (-1), 1) := by decide +kernel
theorem dS_weary_73 : decode bS_weary 73 = .ok (.if_icmp .ne 10, 3) := by decide +kernel
theorem dS_weary_76 : decode bS_weary 76 = .ok (.iinc 5 1, 3) := by decide +kernel
theorem dS_weary_79 : decode bS_weary 79 = .ok (.iload 7, 2) := by decide +kernel
theorem dS_weary_81 : decode bS_weary 81 = .ok (.istore 6, 2) := by decide +kernel
theorem dS_weary_83 : decode bS_weary 83 = .ok (.iinc 7 (-1), 3) := by decide +kernel
theorem dS_weary_86 : decode bS_weary 86 = .ok (.goto (-49), 3) := by decide +kernel
theorem dS_weary_89 : decode bS_weary 89 = .ok (.iload_n 3, 1) := by decide +kernel
theorem dS_weary_90 : decode bS_weary 90 = .ok (.ifCond .ne 8, 3) := by decide +kernel
theorem dS_weary_93 : decode bS_weary 93 = .ok (.iload 5, 2) := by decide +kernel
theorem dS_weary_95 : decode bS_weary 95 = .ok (.goto 5, 3) := by decide +kernel
theorem dS_weary_98 : decode bS_weary 98 = .ok (.iload 6, 2) := by decide +kernel
theorem dS_weary_100 : decode bS_weary 100 = .ok (.ireturn, 1) := by decide +kernel
theorem wS_weary_83 {p : Program} {l : Launch} {e : Env} {s : State} {m : MethodId} {args : Array Value} {below : List Frame} {meth : Method} {c : Code} {G : GT} {I : List Nat} (C : CX p s m args meth c NS bS_weary 8 (some .int) G I) (hI : cI I) {fu : Nat} {R1 : Int32} {Z : Sg} {rc37 : Int32 → Int32 → Int32 → Int32 → Int32 → Int32 → Sg → Option (Int32 × Sg)} (hr37 : ∀ {v1 : Int32} {v2 : Int32} {v3 : Int32} {v5 : Int32} {v6 : Int32} {v7 : Int32} {z : Sg} {H : Heap} {locs : List Loc} {ls : Array Slot}, rc37 v1 v2 v3 v5 v6 v7 z = some (R1, Z) → GW G I z s.heap H locs → lv_has ls 8 [(0, .ref (gA G 0)), (1, .int v1), (2, .int v2), (3, .int v3), (5, .int v5), (6, .int v6), (7, .int v7)] → W p l e rmS_weary s m args below meth c H locs 0 0 (MQ below (Qi G I R1 Z) args s 0 0 (AD G I)) (F0 m 37 ls [])) {v1 : Int32} {v2 : Int32} {v3 : Int32} {v5 : Int32} {v6 : Int32} {v7 : Int32} {z : Sg} {H : Heap} {locs : List Loc} {ls : Array Slot} (h : pS_weary_83 fu rc37 v1 v2 v3 v5 v6 v7 z = some (R1, Z)) (hG : GW G I z s.heap H locs) (hl : lv_has ls 8 [(0, .ref (gA G 0)), (1, .int v1), (2, .int v2), (3, .int v3), (5, .int v5), (6, .int v6), (7, .int v7)]) : W p l e rmS_weary s m args below meth c H locs 0 0 (MQ below (Qi G I R1 Z) args s 0 0 (AD G I)) (F0 m 83 ls []) := by
  unfold pS_weary_83 at h
  refine rIinc C dS_weary_83 hl 6 rfl (d := (-1)) (by decide) h (by decide) [(0, .ref (gA G 0)), (1, .int v1), (2, .int v2), (3, .int v3), (5, .int v5), (6, .int v6)] rfl (fun x10 ls h hl => ?_)
  refine lv_goto (tgt := 37) C.1 C.2.1 dS_weary_86 (by decide) ?_
  exact hr37 h hG (lv_sub hl [1, 2, 3, 4, 5, 6, 0] rfl)
theorem wS_weary_37 {p : Program} {l : Launch} {e : Env} {s : State} {m : MethodId} {args : Array Value} {below : List Frame} {meth : Method} {c : Code} {G : GT} {I : List Nat} (C : CX p s m args meth c NS bS_weary 8 (some .int) G I) (hI : cI I) {fu : Nat} {R1 : Int32} {Z : Sg} : ∀ (k : Nat) {v1 : Int32} {v2 : Int32} {v3 : Int32} {v5 : Int32} {v6 : Int32} {v7 : Int32} {z : Sg} {H : Heap} {locs : List Loc} {ls : Array Slot}, pS_weary_37 fu k v1 v2 v3 v5 v6 v7 z = some (R1, Z) → GW G I z s.heap H locs → lv_has ls 8 [(0, .ref (gA G 0)), (1, .int v1), (2, .int v2), (3, .int v3), (5, .int v5), (6, .int v6), (7, .int v7)] → W p l e rmS_weary s m args below meth c H locs 0 0 (MQ below (Qi G I R1 Z) args s 0 0 (AD G I)) (F0 m 37 ls []) := by
  intro k
  induction k with
  | zero => intro v1 v2 v3 v5 v6 v7 z H locs ls h hG hl; rw [pS_weary_37] at h; cases h
  | succ k ih =>
    intro v1 v2 v3 v5 v6 v7 z H locs ls h hG hl
    rw [pS_weary_37] at h
    refine rIload C dS_weary_37 hl 6 rfl ?_
    refine rIflt C (tgt := 89) h dS_weary_39 (by decide) (fun h => ?_) (fun h => ?_)
    · refine rIload_n C dS_weary_89 hl 3 rfl ?_
      refine rIfne C (tgt := 98) h dS_weary_90 (by decide) (fun h => ?_) (fun h => ?_)
      · refine rIload C dS_weary_98 hl 5 rfl ?_
        exact rReti C hG h dS_weary_100
      · refine rIload C dS_weary_93 hl 4 rfl ?_
        refine lv_goto (tgt := 100) C.1 C.2.1 dS_weary_95 (by decide) ?_
        exact rReti C hG h dS_weary_100
    · refine rAload_n C dS_weary_42 hl 0 rfl ?_
      refine rGet C hG (hI 0 (by decide)) e_0 fiS_6 (v := .ref (gA G 20)) rfl k_375 dS_weary_43 ?_
      refine rAload_n C dS_weary_46 hl 0 rfl ?_
      refine rGet C hG (hI 0 (by decide)) e_0 fiS_5 (v := .ref (gA G 9)) rfl k_374 dS_weary_47 ?_
      refine rCVv [.ref (gA G 9)] [] C hG h (fun h => cR_become hI row20 row9 h) mvR_become k_552 ⟨Nat.le_of_ble_eq_true rfl, Nat.le_of_ble_eq_true rfl⟩ ⟨rfl, rfl⟩ (rRecv C hG (hI 20 (by decide)) e_20 rfl) rfl hl.1 (Nat.le_of_ble_eq_true rfl) dS_weary_50 ⟨Nat.zero_le _, Nat.zero_le _⟩ rfl (fun H locs z5 h hG => ?_)
      refine rAload_n C dS_weary_53 hl 0 rfl ?_
      refine rGet C hG (hI 0 (by decide)) e_0 fiS_6 (v := .ref (gA G 20)) rfl k_375 dS_weary_54 ?_
      refine rGet C hG (hI 20 (by decide)) e_20 fiR_2 (v := .ref (gA G 22)) rfl k_143 dS_weary_57 ?_
      refine lv_iconst (v := 2) C.1 C.2.1 dS_weary_60 (by decide) ?_
      refine rAaldK C hG (hI 22 (by decide)) e_22 (t0 := 3) rfl rfl 2 (by decide) (by decide) 25 rfl dS_weary_61 ?_
      refine rIload_n C dS_weary_62 hl 2 rfl ?_
      refine rIload C dS_weary_63 hl 6 rfl ?_
      refine rIast C hG (hI 25 (by decide)) e_25 h dS_weary_65 (fun H locs z6 h hG => ?_)
      refine rAload_n C dS_weary_66 hl 0 rfl ?_
      refine rIload_n C dS_weary_67 hl 1 rfl ?_
      refine rIload_n C dS_weary_68 hl 2 rfl ?_
      refine rCVi [.int v1, .int v2] [] C hG h (fun h => cS_firstOtherwise hI h) mvS_firstOtherwise k_655 ⟨Nat.le_of_ble_eq_true rfl, Nat.le_of_ble_eq_true rfl⟩ ⟨rfl, rfl⟩ (rRecv C hG (hI 0 (by decide)) e_0 rfl) rfl hl.1 (Nat.le_of_ble_eq_true rfl) dS_weary_69 ⟨Nat.zero_le _, Nat.zero_le _⟩ rfl (fun H locs x8 z7 h hG => ?_)
      refine lv_iconst (v := (-1)) C.1 C.2.1 dS_weary_72 (by decide) ?_
      refine rIcmpne C (tgt := 83) h dS_weary_73 (by decide) (fun h => ?_) (fun h => ?_)
      · exact wS_weary_83 C hI ih h hG (lv_sub hl [0, 1, 2, 3, 4, 5, 6] rfl)
      · refine rIinc C dS_weary_76 hl 4 rfl (d := 1) (by decide) h (by decide) [(0, .ref (gA G 0)), (1, .int v1), (2, .int v2), (3, .int v3), (6, .int v6), (7, .int v7)] rfl (fun x9 ls h hl => ?_)
        refine rIload C dS_weary_79 hl 6 rfl ?_
        refine rIstoreA C dS_weary_81 hl (by decide) [(5, .int x9), (0, .ref (gA G 0)), (1, .int v1), (2, .int v2), (3, .int v3), (7, .int v7)] rfl (fun ls hl => ?_)
        exact wS_weary_83 C hI ih h hG (lv_sub hl [2, 3, 4, 5, 1, 0, 6] rfl)
theorem cS_weary {l : Launch} {G : GT} {I : List Nat} (hI : cI I) {fu : Nat} {v1 : Int32} {v2 : Int32} {v3 : Int32} {z : Sg} {R1 : Int32} {Z : Sg} (h : pS_weary fu v1 v2 v3 z = some (R1, Z)) : Mt l yS_weary rmS_weary bS_weary 8 (some .int) G I z [.ref (gA G 0), .int v1, .int v2, .int v3] (Qi G I R1 Z) := by
  refine entM (by decide +kernel) (Nat.le_of_ble_eq_true rfl) ?_
  intro p e s m below meth c C hG ls hl
  have hl : lv_has ls 8 [(0, .ref (gA G 0)), (1, .int v1), (2, .int v2), (3, .int v3)] := hl
  unfold pS_weary at h
  refine rAload_n C dS_weary_0 hl 0 rfl ?_
  refine rIload_n C dS_weary_1 hl 1 rfl ?_
  refine rIload_n C dS_weary_2 hl 2 rfl ?_
  refine rCVi [.int v1, .int v2] [] C hG h (fun h => cS_refusalOfOne hI h) mvS_refusalOfOne k_643 ⟨Nat.le_of_ble_eq_true rfl, Nat.le_of_ble_eq_true rfl⟩ ⟨rfl, rfl⟩ (rRecv C hG (hI 0 (by decide)) e_0 rfl) rfl hl.1 (Nat.le_of_ble_eq_true rfl) dS_weary_3 ⟨Nat.zero_le _, Nat.zero_le _⟩ rfl (fun H locs x2 z1 h hG => ?_)
  refine rIstoreA C dS_weary_6 hl (by decide) [(0, .ref (gA G 0)), (1, .int v1), (2, .int v2), (3, .int v3)] rfl (fun ls hl => ?_)
  refine rIload C dS_weary_8 hl 0 rfl ?_
  refine rIfeq C (tgt := 16) h dS_weary_10 (by decide) (fun h => ?_) (fun h => ?_)
  · refine rIload_n C dS_weary_16 hl 4 rfl ?_
    refine lv_iconst (v := 1) C.1 C.2.1 dS_weary_17 (by decide) ?_
    refine rCSi [.int v3, .int 1] [] C hG h (fun h => cS_within hI h) mvS_within k_423 ⟨Nat.le_of_ble_eq_true rfl, Nat.le_of_ble_eq_true rfl⟩ ⟨rfl, rfl⟩ rfl hl.1 (Nat.le_of_ble_eq_true rfl) dS_weary_18 ⟨Nat.zero_le _, Nat.zero_le _⟩ rfl (fun H locs x4 z3 h hG => ?_)
    refine rIfne C (tgt := 27) h dS_weary_21 (by decide) (fun h => ?_) (fun h => ?_)
    · refine lv_iconst (v := 0) C.1 C.2.1 dS_weary_27 (by decide) ?_
      refine rIstoreA C dS_weary_28 hl (by decide) [(4, .int x2), (0, .ref (gA G 0)), (1, .int v1), (2, .int v2), (3, .int v3)] rfl (fun ls hl => ?_)
      refine lv_iconst (v := (-1)) C.1 C.2.1 dS_weary_30 (by decide) ?_
      refine rIstoreA C dS_weary_31 hl (by decide) [(5, .int 0), (4, .int x2), (0, .ref (gA G 0)), (1, .int v1), (2, .int v2), (3, .int v3)] rfl (fun ls hl => ?_)
      refine lv_bipush (v := 99) C.1 C.2.1 dS_weary_33 (by decide) ?_
      refine rIstoreA C dS_weary_35 hl (by decide) [(6, .int (-1)), (5, .int 0), (4, .int x2), (0, .ref (gA G 0)), (1, .int v1), (2, .int v2), (3, .int v3)] rfl (fun ls hl => ?_)
      exact wS_weary_37 C hI _ h hG (lv_sub hl [4, 5, 6, 7, 2, 1, 0] rfl)
    · refine lv_bipush (v := (-7)) C.1 C.2.1 dS_weary_24 (by decide) ?_
      exact rReti C hG h dS_weary_26
  · refine rIload C dS_weary_13 hl 0 rfl ?_
    exact rReti C hG h dS_weary_15
theorem dS_whose_0 : decode bS_whose 0 = .ok (.aload_n 0, 1) := by decide +kernel
theorem dS_whose_1 : decode bS_whose 1 = .ok (.iload_n 1, 1) := by decide +kernel
theorem dS_whose_2 : decode bS_whose 2 = .ok (.invokevirtual 220, 3) := by decide +kernel
theorem dS_whose_5 : decode bS_whose 5 = .ok (.istore_n 2, 1) := by decide +kernel
theorem dS_whose_6 : decode bS_whose 6 = .ok (.iload_n 2, 1) := by decide +kernel
theorem dS_whose_7 : decode bS_whose 7 = .ok (.ifCond .eq 5, 3) := by decide +kernel
theorem dS_whose_10 : decode bS_whose 10 = .ok (.iload_n 2, 1) := by decide +kernel
theorem dS_whose_11 : decode bS_whose 11 = .ok (.ireturn, 1) := by decide +kernel
theorem dS_whose_12 : decode bS_whose 12 = .ok (.iconst 0, 1) := by decide +kernel
theorem dS_whose_13 : decode bS_whose 13 = .ok (.istore_n 3, 1) := by decide +kernel
theorem dS_whose_14 : decode bS_whose 14 = .ok (.iconst 0, 1) := by decide +kernel
theorem dS_whose_15 : decode bS_whose 15 = .ok (.istore 4, 2) := by decide +kernel
theorem dS_whose_17 : decode bS_whose 17 = .ok (.iload 4, 2) := by decide +kernel
theorem dS_whose_19 : decode bS_whose 19 = .ok (.aload_n 0, 1) := by decide +kernel
theorem dS_whose_20 : decode bS_whose 20 = .ok (.getfield 49, 3) := by decide +kernel
theorem dS_whose_23 : decode bS_whose 23 = .ok (.getfield 90, 3) := by decide +kernel
theorem dS_whose_26 : decode bS_whose 26 = .ok (.if_icmp .ge 38, 3) := by decide +kernel
theorem dS_whose_29 : decode bS_whose 29 = .ok (.aload_n 0, 1) := by decide +kernel
theorem dS_whose_30 : decode bS_whose 30 = .ok (.getfield 53, 3) := by decide +kernel
theorem dS_whose_33 : decode bS_whose 33 = .ok (.aload_n 0, 1) := by decide +kernel
theorem dS_whose_34 : decode bS_whose 34 = .ok (.getfield 49, 3) := by decide +kernel
theorem dS_whose_37 : decode bS_whose 37 = .ok (.invokevirtual 166, 3) := by decide +kernel
theorem dS_whose_40 : decode bS_whose 40 = .ok (.aload_n 0, 1) := by decide +kernel
theorem dS_whose_41 : decode bS_whose 41 = .ok (.iload_n 1, 1) := by decide +kernel
theorem dS_whose_42 : decode bS_whose 42 = .ok (.iload 4, 2) := by decide +kernel
theorem dS_whose_44 : decode bS_whose 44 = .ok (.invokevirtual 209, 3) := by decide +kernel
theorem dS_whose_47 : decode bS_whose 47 = .ok (.iconst (-1), 1) := by decide +kernel
theorem dS_whose_48 : decode bS_whose 48 = .ok (.if_icmp .ne 10, 3) := by decide +kernel
theorem dS_whose_51 : decode bS_whose 51 = .ok (.iload_n 3, 1) := by decide +kernel
theorem dS_whose_52 : decode bS_whose 52 = .ok (.iconst 1, 1) := by decide +kernel
theorem dS_whose_53 : decode bS_whose 53 = .ok (.iload 4, 2) := by decide +kernel
theorem dS_whose_55 : decode bS_whose 55 = .ok (.ishl, 1) := by decide +kernel
theorem dS_whose_56 : decode bS_whose 56 = .ok (.ior, 1) := by decide +kernel
theorem dS_whose_57 : decode bS_whose 57 = .ok (.istore_n 3, 1) := by decide +kernel
theorem dS_whose_58 : decode bS_whose 58 = .ok (.iinc 4 1, 3) := by decide +kernel
theorem dS_whose_61 : decode bS_whose 61 = .ok (.goto (-44), 3) := by decide +kernel
theorem dS_whose_64 : decode bS_whose 64 = .ok (.iload_n 3, 1) := by decide +kernel
theorem dS_whose_65 : decode bS_whose 65 = .ok (.ireturn, 1) := by decide +kernel
theorem wS_whose_58 {p : Program} {l : Launch} {e : Env} {s : State} {m : MethodId} {args : Array Value} {below : List Frame} {meth : Method} {c : Code} {G : GT} {I : List Nat} (C : CX p s m args meth c NS bS_whose 5 (some .int) G I) (hI : cI I) {fu : Nat} {R1 : Int32} {Z : Sg} {rc17 : Int32 → Int32 → Int32 → Sg → Option (Int32 × Sg)} (hr17 : ∀ {v1 : Int32} {v3 : Int32} {v4 : Int32} {z : Sg} {H : Heap} {locs : List Loc} {ls : Array Slot}, rc17 v1 v3 v4 z = some (R1, Z) → GW G I z s.heap H locs → lv_has ls 5 [(0, .ref (gA G 0)), (1, .int v1), (3, .int v3), (4, .int v4)] → W p l e rmS_whose s m args below meth c H locs 0 0 (MQ below (Qi G I R1 Z) args s 0 0 (AD G I)) (F0 m 17 ls [])) {v1 : Int32} {v3 : Int32} {v4 : Int32} {z : Sg} {H : Heap} {locs : List Loc} {ls : Array Slot} (h : pS_whose_58 fu rc17 v1 v3 v4 z = some (R1, Z)) (hG : GW G I z s.heap H locs) (hl : lv_has ls 5 [(0, .ref (gA G 0)), (1, .int v1), (3, .int v3), (4, .int v4)]) : W p l e rmS_whose s m args below meth c H locs 0 0 (MQ below (Qi G I R1 Z) args s 0 0 (AD G I)) (F0 m 58 ls []) := by
  unfold pS_whose_58 at h
  refine rIinc C dS_whose_58 hl 3 rfl (d := 1) (by decide) h (by decide) [(0, .ref (gA G 0)), (1, .int v1), (3, .int v3)] rfl (fun x7 ls h hl => ?_)
  refine lv_goto (tgt := 17) C.1 C.2.1 dS_whose_61 (by decide) ?_
  exact hr17 h hG (lv_sub hl [1, 2, 3, 0] rfl)
theorem wS_whose_17 {p : Program} {l : Launch} {e : Env} {s : State} {m : MethodId} {args : Array Value} {below : List Frame} {meth : Method} {c : Code} {G : GT} {I : List Nat} (C : CX p s m args meth c NS bS_whose 5 (some .int) G I) (hI : cI I) {fu : Nat} {R1 : Int32} {Z : Sg} : ∀ (k : Nat) {v1 : Int32} {v3 : Int32} {v4 : Int32} {z : Sg} {H : Heap} {locs : List Loc} {ls : Array Slot}, pS_whose_17 fu k v1 v3 v4 z = some (R1, Z) → GW G I z s.heap H locs → lv_has ls 5 [(0, .ref (gA G 0)), (1, .int v1), (3, .int v3), (4, .int v4)] → W p l e rmS_whose s m args below meth c H locs 0 0 (MQ below (Qi G I R1 Z) args s 0 0 (AD G I)) (F0 m 17 ls []) := by
  intro k
  induction k with
  | zero => intro v1 v3 v4 z H locs ls h hG hl; rw [pS_whose_17] at h; cases h
  | succ k ih =>
    intro v1 v3 v4 z H locs ls h hG hl
    rw [pS_whose_17] at h
    refine rIload C dS_whose_17 hl 3 rfl ?_
    refine rAload_n C dS_whose_19 hl 0 rfl ?_
    refine rGet C hG (hI 0 (by decide)) e_0 fiS_5 (v := .ref (gA G 9)) rfl k_374 dS_whose_20 ?_
    refine rGet C hG (hI 9 (by decide)) e_9 fiR_3 (v := .int (z 9 3)) rfl k_144 dS_whose_23 ?_
    refine rIcmpge C (tgt := 64) h dS_whose_26 (by decide) (fun h => ?_) (fun h => ?_)
    · refine rIload_n C dS_whose_64 hl 2 rfl ?_
      exact rReti C hG h dS_whose_65
    · refine rAload_n C dS_whose_29 hl 0 rfl ?_
      refine rGet C hG (hI 0 (by decide)) e_0 fiS_6 (v := .ref (gA G 20)) rfl k_375 dS_whose_30 ?_
      refine rAload_n C dS_whose_33 hl 0 rfl ?_
      refine rGet C hG (hI 0 (by decide)) e_0 fiS_5 (v := .ref (gA G 9)) rfl k_374 dS_whose_34 ?_
      refine rCVv [.ref (gA G 9)] [] C hG h (fun h => cR_become hI row20 row9 h) mvR_become k_552 ⟨Nat.le_of_ble_eq_true rfl, Nat.le_of_ble_eq_true rfl⟩ ⟨rfl, rfl⟩ (rRecv C hG (hI 20 (by decide)) e_20 rfl) rfl hl.1 (Nat.le_of_ble_eq_true rfl) dS_whose_37 ⟨Nat.zero_le _, Nat.zero_le _⟩ rfl (fun H locs z3 h hG => ?_)
      refine rAload_n C dS_whose_40 hl 0 rfl ?_
      refine rIload_n C dS_whose_41 hl 1 rfl ?_
      refine rIload C dS_whose_42 hl 3 rfl ?_
      refine rCVi [.int v1, .int v4] [] C hG h (fun h => cS_firstOtherwise hI h) mvS_firstOtherwise k_655 ⟨Nat.le_of_ble_eq_true rfl, Nat.le_of_ble_eq_true rfl⟩ ⟨rfl, rfl⟩ (rRecv C hG (hI 0 (by decide)) e_0 rfl) rfl hl.1 (Nat.le_of_ble_eq_true rfl) dS_whose_44 ⟨Nat.zero_le _, Nat.zero_le _⟩ rfl (fun H locs x5 z4 h hG => ?_)
      refine lv_iconst (v := (-1)) C.1 C.2.1 dS_whose_47 (by decide) ?_
      refine rIcmpne C (tgt := 58) h dS_whose_48 (by decide) (fun h => ?_) (fun h => ?_)
      · exact wS_whose_58 C hI ih h hG (lv_sub hl [0, 1, 2, 3] rfl)
      · refine rIload_n C dS_whose_51 hl 2 rfl ?_
        refine lv_iconst (v := 1) C.1 C.2.1 dS_whose_52 (by decide) ?_
        refine rIload C dS_whose_53 hl 3 rfl ?_
        refine lv_ishl C.1 C.2.1 dS_whose_55 ?_
        refine lv_ior C.1 C.2.1 dS_whose_56 ?_
        refine rIstore_n C dS_whose_57 hl h (by decide) [(0, .ref (gA G 0)), (1, .int v1), (4, .int v4)] rfl (fun x6 ls h hl => ?_)
        exact wS_whose_58 C hI ih h hG (lv_sub hl [1, 2, 0, 3] rfl)
theorem cS_whose {l : Launch} {G : GT} {I : List Nat} (hI : cI I) {fu : Nat} {v1 : Int32} {z : Sg} {R1 : Int32} {Z : Sg} (h : pS_whose fu v1 z = some (R1, Z)) : Mt l yS_whose rmS_whose bS_whose 5 (some .int) G I z [.ref (gA G 0), .int v1] (Qi G I R1 Z) := by
  refine entM (by decide +kernel) (Nat.le_of_ble_eq_true rfl) ?_
  intro p e s m below meth c C hG ls hl
  have hl : lv_has ls 5 [(0, .ref (gA G 0)), (1, .int v1)] := hl
  unfold pS_whose at h
  refine rAload_n C dS_whose_0 hl 0 rfl ?_
  refine rIload_n C dS_whose_1 hl 1 rfl ?_
  refine rCVi [.int v1] [] C hG h (fun h => cS_refusalOfTold hI h) mvS_refusalOfTold k_647 ⟨Nat.le_of_ble_eq_true rfl, Nat.le_of_ble_eq_true rfl⟩ ⟨rfl, rfl⟩ (rRecv C hG (hI 0 (by decide)) e_0 rfl) rfl hl.1 (Nat.le_of_ble_eq_true rfl) dS_whose_2 ⟨Nat.zero_le _, Nat.zero_le _⟩ rfl (fun H locs x2 z1 h hG => ?_)
  refine rIstoreA_n C dS_whose_5 hl (by decide) [(0, .ref (gA G 0)), (1, .int v1)] rfl (fun ls hl => ?_)
  refine rIload_n C dS_whose_6 hl 0 rfl ?_
  refine rIfeq C (tgt := 12) h dS_whose_7 (by decide) (fun h => ?_) (fun h => ?_)
  · refine lv_iconst (v := 0) C.1 C.2.1 dS_whose_12 (by decide) ?_
    refine rIstoreA_n C dS_whose_13 hl (by decide) [(2, .int x2), (0, .ref (gA G 0)), (1, .int v1)] rfl (fun ls hl => ?_)
    refine lv_iconst (v := 0) C.1 C.2.1 dS_whose_14 (by decide) ?_
    refine rIstoreA C dS_whose_15 hl (by decide) [(3, .int 0), (2, .int x2), (0, .ref (gA G 0)), (1, .int v1)] rfl (fun ls hl => ?_)
    exact wS_whose_17 C hI _ h hG (lv_sub hl [3, 4, 1, 0] rfl)
  · refine rIload_n C dS_whose_10 hl 0 rfl ?_
    exact rReti C hG h dS_whose_11
