theorem dM_kinds_0 : decode bM_kinds 0 = .ok (.aload_n 0, 1) := by decide +kernel
theorem dM_kinds_1 : decode bM_kinds 1 = .ok (.iload_n 1, 1) := by decide +kernel
theorem dM_kinds_2 : decode bM_kinds 2 = .ok (.iload_n 2, 1) := by decide +kernel
theorem dM_kinds_3 : decode bM_kinds 3 = .ok (.invokevirtual 246, 3) := by decide +kernel
theorem dM_kinds_6 : decode bM_kinds 6 = .ok (.istore 4, 2) := by decide +kernel
theorem dM_kinds_8 : decode bM_kinds 8 = .ok (.iload 4, 2) := by decide +kernel
theorem dM_kinds_10 : decode bM_kinds 10 = .ok (.ifCond .eq 6, 3) := by decide +kernel
theorem dM_kinds_13 : decode bM_kinds 13 = .ok (.iload 4, 2) := by decide +kernel
theorem dM_kinds_15 : decode bM_kinds 15 = .ok (.ireturn, 1) := by decide +kernel
theorem dM_kinds_16 : decode bM_kinds 16 = .ok (.iload_n 3, 1) := by decide +kernel
theorem dM_kinds_17 : decode bM_kinds 17 = .ok (.iconst 0, 1) := by decide +kernel
theorem dM_kinds_18 : decode bM_kinds 18 = .ok (.iconst 1, 1) := by decide +kernel
theorem dM_kinds_19 : decode bM_kinds 19 = .ok (.invokestatic 81, 3) := by decide +kernel
theorem dM_kinds_22 : decode bM_kinds 22 = .ok (.ifCond .ne 6, 3) := by decide +kernel
theorem dM_kinds_25 : decode bM_kinds 25 = .ok (.bipush (-7), 2) := by decide +kernel
theorem dM_kinds_27 : decode bM_kinds 27 = .ok (.ireturn, 1) := by decide +kernel
theorem dM_kinds_28 : decode bM_kinds 28 = .ok (.aload_n 0, 1) := by decide +kernel
theorem dM_kinds_29 : decode bM_kinds 29 = .ok (.getfield 7, 3) := by decide +kernel
theorem dM_kinds_32 : decode bM_kinds 32 = .ok (.iload_n 2, 1) := by decide +kernel
theorem dM_kinds_33 : decode bM_kinds 33 = .ok (.iaload, 1) := by decide +kernel
theorem dM_kinds_34 : decode bM_kinds 34 = .ok (.istore 5, 2) := by decide +kernel
theorem dM_kinds_36 : decode bM_kinds 36 = .ok (.aload_n 0, 1) := by decide +kernel
theorem dM_kinds_37 : decode bM_kinds 37 = .ok (.getfield 13, 3) := by decide +kernel
theorem dM_kinds_40 : decode bM_kinds 40 = .ok (.iload_n 2, 1) := by decide +kernel
theorem dM_kinds_41 : decode bM_kinds 41 = .ok (.iaload, 1) := by decide +kernel
theorem dM_kinds_42 : decode bM_kinds 42 = .ok (.istore 6, 2) := by decide +kernel
theorem dM_kinds_44 : decode bM_kinds 44 = .ok (.iconst 0, 1) := by decide +kernel
theorem dM_kinds_45 : decode bM_kinds 45 = .ok (.istore 7, 2) := by decide +kernel
theorem dM_kinds_47 : decode bM_kinds 47 = .ok (.iconst 0, 1) := by decide +kernel
theorem dM_kinds_48 : decode bM_kinds 48 = .ok (.istore 8, 2) := by decide +kernel
theorem dM_kinds_50 : decode bM_kinds 50 = .ok (.iload 8, 2) := by decide +kernel
theorem dM_kinds_52 : decode bM_kinds 52 = .ok (.iload_n 3, 1) := by decide +kernel
theorem dM_kinds_53 : decode bM_kinds 53 = .ok (.ifCond .ne 8, 3) := by decide +kernel
theorem dM_kinds_56 : decode bM_kinds 56 = .ok (.bipush 6, 2) := by decide +kernel
theorem dM_kinds_58 : decode bM_kinds 58 = .ok (.goto 5, 3) := by decide +kernel
theorem dM_kinds_61 : decode bM_kinds 61 = .ok (.bipush 10, 2) := by decide +kernel
theorem dM_kinds_63 : decode bM_kinds 63 = .ok (.if_icmp .ge 67, 3) := by decide +kernel
theorem dM_kinds_66 : decode bM_kinds 66 = .ok (.aload_n 0, 1) := by decide +kernel
theorem dM_kinds_67 : decode bM_kinds 67 = .ok (.getfield 7, 3) := by decide +kernel
theorem dM_kinds_70 : decode bM_kinds 70 = .ok (.iload_n 2, 1) := by decide +kernel
theorem dM_kinds_71 : decode bM_kinds 71 = .ok (.iload_n 3, 1) := by decide +kernel
theorem dM_kinds_72 : decode bM_kinds 72 = .ok (.ifCond .ne 8, 3) := by decide +kernel
theorem dM_kinds_75 : decode bM_kinds 75 = .ok (.iload 8, 2) := by decide +kernel
theorem dM_kinds_77 : decode bM_kinds 77 = .ok (.goto 5, 3) := by decide +kernel
theorem dM_kinds_80 : decode bM_kinds 80 = .ok (.iload 5, 2) := by decide +kernel
theorem dM_kinds_82 : decode bM_kinds 82 = .ok (.iastore, 1) := by decide +kernel
theorem dM_kinds_83 : decode bM_kinds 83 = .ok (.aload_n 0, 1) := by decide +kernel
theorem dM_kinds_84 : decode bM_kinds 84 = .ok (.getfield 13, 3) := by decide +kernel
theorem dM_kinds_87 : decode bM_kinds 87 = .ok (.iload_n 2, 1) := by decide +kernel
theorem dM_kinds_88 : decode bM_kinds 88 = .ok (.iload_n 3, 1) := by decide +kernel
theorem dM_kinds_89 : decode bM_kinds 89 = .ok (.iconst 1, 1) := by decide +kernel
theorem dM_kinds_90 : decode bM_kinds 90 = .ok (.if_icmp .ne 8, 3) := by decide +kernel
theorem dM_kinds_93 : decode bM_kinds 93 = .ok (.iload 8, 2) := by decide +kernel
theorem dM_kinds_95 : decode bM_kinds 95 = .ok (.goto 5, 3) := by decide +kernel
theorem dM_kinds_98 : decode bM_kinds 98 = .ok (.iload 6, 2) := by decide +kernel
theorem dM_kinds_100 : decode bM_kinds 100 = .ok (.iastore, 1) := by decide +kernel
theorem dM_kinds_101 : decode bM_kinds 101 = .ok (.iload 7, 2) := by decide +kernel
theorem dM_kinds_103 : decode bM_kinds 103 = .ok (.aload_n 0, 1) := by decide +kernel
theorem dM_kinds_104 : decode bM_kinds 104 = .ok (.iload_n 1, 1) := by decide +kernel
theorem dM_kinds_105 : decode bM_kinds 105 = .ok (.iload_n 2, 1) := by decide +kernel
theorem dM_kinds_106 : decode bM_kinds 106 = .ok (.invokevirtual 249, 3) := by decide +kernel
theorem dM_kinds_109 : decode bM_kinds 109 = .ok (.iconst (-1), 1) := by decide +kernel
theorem dM_kinds_110 : decode bM_kinds 110 = .ok (.if_icmp .ne 10, 3) := by decide +kernel
theorem dM_kinds_113 : decode bM_kinds 113 = .ok (.iconst 1, 1) := by decide +kernel
theorem dM_kinds_114 : decode bM_kinds 114 = .ok (.iload 8, 2) := by decide +kernel
theorem dM_kinds_116 : decode bM_kinds 116 = .ok (.ishl, 1) := by decide +kernel
theorem dM_kinds_117 : decode bM_kinds 117 = .ok (.goto 4, 3) := by decide +kernel
theorem dM_kinds_120 : decode bM_kinds 120 = .ok (.iconst 0, 1) := by decide +kernel
theorem dM_kinds_121 : decode bM_kinds 121 = .ok (.ior, 1) := by decide +kernel
theorem dM_kinds_122 : decode bM_kinds 122 = .ok (.istore 7, 2) := by decide +kernel
theorem dM_kinds_124 : decode bM_kinds 124 = .ok (.iinc 8 1, 3) := by decide +kernel
theorem dM_kinds_127 : decode bM_kinds 127 = .ok (.goto (-77), 3) := by decide +kernel
theorem dM_kinds_130 : decode bM_kinds 130 = .ok (.aload_n 0, 1) := by decide +kernel
theorem dM_kinds_131 : decode bM_kinds 131 = .ok (.getfield 7, 3) := by decide +kernel
theorem dM_kinds_134 : decode bM_kinds 134 = .ok (.iload_n 2, 1) := by decide +kernel
theorem dM_kinds_135 : decode bM_kinds 135 = .ok (.iload 5, 2) := by decide +kernel
theorem dM_kinds_137 : decode bM_kinds 137 = .ok (.iastore, 1) := by decide +kernel
theorem dM_kinds_138 : decode bM_kinds 138 = .ok (.aload_n 0, 1) := by decide +kernel
theorem dM_kinds_139 : decode bM_kinds 139 = .ok (.getfield 13, 3) := by decide +kernel
theorem dM_kinds_142 : decode bM_kinds 142 = .ok (.iload_n 2, 1) := by decide +kernel
theorem dM_kinds_143 : decode bM_kinds 143 = .ok (.iload 6, 2) := by decide +kernel
theorem dM_kinds_145 : decode bM_kinds 145 = .ok (.iastore, 1) := by decide +kernel
theorem dM_kinds_146 : decode bM_kinds 146 = .ok (.iload 7, 2) := by decide +kernel
theorem dM_kinds_148 : decode bM_kinds 148 = .ok (.ireturn, 1) := by decide +kernel
theorem wM_kinds_121 {p : Program} {l : Launch} {e : Env} {s : State} {m : MethodId} {args : Array Value} {below : List Frame} {meth : Method} {c : Code} {G : GT} {I : List Nat} (C : CX p s m args meth c NM bM_kinds 9 (some .int) G I) (hI : mI I) {fu : Nat} {R1 : Int32} {Z : Sg} {rc50 : Int32 → Int32 → Int32 → Int32 → Int32 → Int32 → Int32 → Sg → Option (Int32 × Sg)} (hr50 : ∀ {v1 : Int32} {v2 : Int32} {v3 : Int32} {v5 : Int32} {v6 : Int32} {v7 : Int32} {v8 : Int32} {z : Sg} {H : Heap} {locs : List Loc} {ls : Array Slot}, rc50 v1 v2 v3 v5 v6 v7 v8 z = some (R1, Z) → GW G I z s.heap H locs → lv_has ls 9 [(0, .ref (gA G 78)), (1, .int v1), (2, .int v2), (3, .int v3), (5, .int v5), (6, .int v6), (7, .int v7), (8, .int v8)] → W p l e rmM_kinds s m args below meth c H locs 0 0 (MQ below (Qi G I R1 Z) args s 0 0 (AD G I)) (F0 m 50 ls [])) {v1 : Int32} {v2 : Int32} {v3 : Int32} {v5 : Int32} {v6 : Int32} {v8 : Int32} {t0 : Int32} {t1 : Int32} {z : Sg} {H : Heap} {locs : List Loc} {ls : Array Slot} (h : pM_kinds_121 fu rc50 v1 v2 v3 v5 v6 v8 t0 t1 z = some (R1, Z)) (hG : GW G I z s.heap H locs) (hl : lv_has ls 9 [(0, .ref (gA G 78)), (1, .int v1), (2, .int v2), (3, .int v3), (5, .int v5), (6, .int v6), (8, .int v8)]) : W p l e rmM_kinds s m args below meth c H locs 0 0 (MQ below (Qi G I R1 Z) args s 0 0 (AD G I)) (F0 m 121 ls [.int t1, .int t0]) := by
  unfold pM_kinds_121 at h
  refine lv_ior C.1 C.2.1 dM_kinds_121 ?_
  refine rIstore C dM_kinds_122 hl h (by decide) [(0, .ref (gA G 78)), (1, .int v1), (2, .int v2), (3, .int v3), (5, .int v5), (6, .int v6), (8, .int v8)] rfl (fun x13 ls h hl => ?_)
  refine rIinc C dM_kinds_124 hl 7 rfl (d := 1) (by decide) h (by decide) [(7, .int x13), (0, .ref (gA G 78)), (1, .int v1), (2, .int v2), (3, .int v3), (5, .int v5), (6, .int v6)] rfl (fun x14 ls h hl => ?_)
  refine lv_goto (tgt := 50) C.1 C.2.1 dM_kinds_127 (by decide) ?_
  exact hr50 h hG (lv_sub hl [2, 3, 4, 5, 6, 7, 1, 0] rfl)
theorem wM_kinds_100 {p : Program} {l : Launch} {e : Env} {s : State} {m : MethodId} {args : Array Value} {below : List Frame} {meth : Method} {c : Code} {G : GT} {I : List Nat} (C : CX p s m args meth c NM bM_kinds 9 (some .int) G I) (hI : mI I) {fu : Nat} {R1 : Int32} {Z : Sg} {rc50 : Int32 → Int32 → Int32 → Int32 → Int32 → Int32 → Int32 → Sg → Option (Int32 × Sg)} (hr50 : ∀ {v1 : Int32} {v2 : Int32} {v3 : Int32} {v5 : Int32} {v6 : Int32} {v7 : Int32} {v8 : Int32} {z : Sg} {H : Heap} {locs : List Loc} {ls : Array Slot}, rc50 v1 v2 v3 v5 v6 v7 v8 z = some (R1, Z) → GW G I z s.heap H locs → lv_has ls 9 [(0, .ref (gA G 78)), (1, .int v1), (2, .int v2), (3, .int v3), (5, .int v5), (6, .int v6), (7, .int v7), (8, .int v8)] → W p l e rmM_kinds s m args below meth c H locs 0 0 (MQ below (Qi G I R1 Z) args s 0 0 (AD G I)) (F0 m 50 ls [])) {v1 : Int32} {v2 : Int32} {v3 : Int32} {v5 : Int32} {v6 : Int32} {v7 : Int32} {v8 : Int32} {t1 : Int32} {t2 : Int32} {z : Sg} {H : Heap} {locs : List Loc} {ls : Array Slot} (h : pM_kinds_100 fu rc50 v1 v2 v3 v5 v6 v7 v8 t1 t2 z = some (R1, Z)) (hG : GW G I z s.heap H locs) (hl : lv_has ls 9 [(0, .ref (gA G 78)), (1, .int v1), (2, .int v2), (3, .int v3), (5, .int v5), (6, .int v6), (7, .int v7), (8, .int v8)]) : W p l e rmM_kinds s m args below meth c H locs 0 0 (MQ below (Qi G I R1 Z) args s 0 0 (AD G I)) (F0 m 100 ls [.int t2, .int t1, .ref (gA G 80)]) := by
  unfold pM_kinds_100 at h
  refine rIast C hG (hI 80 (by decide) (by decide)) e_80 h dM_kinds_100 (fun H locs z10 h hG => ?_)
  refine rIload C dM_kinds_101 hl 6 rfl ?_
  refine rAload_n C dM_kinds_103 hl 0 rfl ?_
  refine rIload_n C dM_kinds_104 hl 1 rfl ?_
  refine rIload_n C dM_kinds_105 hl 2 rfl ?_
  refine rCVi [.int v1, .int v2] [.int v7] C hG h (fun h => cM_unlike hI h) mvM_unlike k_1105 ⟨Nat.le_of_ble_eq_true rfl, Nat.le_of_ble_eq_true rfl⟩ ⟨rfl, rfl⟩ (rRecv C hG (hI 78 (by decide) (by decide)) e_78 rfl) rfl hl.1 (Nat.le_of_ble_eq_true rfl) dM_kinds_106 ⟨Nat.zero_le _, Nat.zero_le _⟩ rfl (fun H locs x12 z11 h hG => ?_)
  refine lv_iconst (v := (-1)) C.1 C.2.1 dM_kinds_109 (by decide) ?_
  refine rIcmpne C (tgt := 120) h dM_kinds_110 (by decide) (fun h => ?_) (fun h => ?_)
  · refine lv_iconst (v := 0) C.1 C.2.1 dM_kinds_120 (by decide) ?_
    exact wM_kinds_121 C hI hr50 h hG (lv_sub hl [0, 1, 2, 3, 4, 5, 7] rfl)
  · refine lv_iconst (v := 1) C.1 C.2.1 dM_kinds_113 (by decide) ?_
    refine rIload C dM_kinds_114 hl 7 rfl ?_
    refine lv_ishl C.1 C.2.1 dM_kinds_116 ?_
    refine lv_goto (tgt := 121) C.1 C.2.1 dM_kinds_117 (by decide) ?_
    exact wM_kinds_121 C hI hr50 h hG (lv_sub hl [0, 1, 2, 3, 4, 5, 7] rfl)
theorem wM_kinds_82 {p : Program} {l : Launch} {e : Env} {s : State} {m : MethodId} {args : Array Value} {below : List Frame} {meth : Method} {c : Code} {G : GT} {I : List Nat} (C : CX p s m args meth c NM bM_kinds 9 (some .int) G I) (hI : mI I) {fu : Nat} {R1 : Int32} {Z : Sg} {rc50 : Int32 → Int32 → Int32 → Int32 → Int32 → Int32 → Int32 → Sg → Option (Int32 × Sg)} (hr50 : ∀ {v1 : Int32} {v2 : Int32} {v3 : Int32} {v5 : Int32} {v6 : Int32} {v7 : Int32} {v8 : Int32} {z : Sg} {H : Heap} {locs : List Loc} {ls : Array Slot}, rc50 v1 v2 v3 v5 v6 v7 v8 z = some (R1, Z) → GW G I z s.heap H locs → lv_has ls 9 [(0, .ref (gA G 78)), (1, .int v1), (2, .int v2), (3, .int v3), (5, .int v5), (6, .int v6), (7, .int v7), (8, .int v8)] → W p l e rmM_kinds s m args below meth c H locs 0 0 (MQ below (Qi G I R1 Z) args s 0 0 (AD G I)) (F0 m 50 ls [])) {v1 : Int32} {v2 : Int32} {v3 : Int32} {v5 : Int32} {v6 : Int32} {v7 : Int32} {v8 : Int32} {t1 : Int32} {t2 : Int32} {z : Sg} {H : Heap} {locs : List Loc} {ls : Array Slot} (h : pM_kinds_82 fu rc50 v1 v2 v3 v5 v6 v7 v8 t1 t2 z = some (R1, Z)) (hG : GW G I z s.heap H locs) (hl : lv_has ls 9 [(0, .ref (gA G 78)), (1, .int v1), (2, .int v2), (3, .int v3), (5, .int v5), (6, .int v6), (7, .int v7), (8, .int v8)]) : W p l e rmM_kinds s m args below meth c H locs 0 0 (MQ below (Qi G I R1 Z) args s 0 0 (AD G I)) (F0 m 82 ls [.int t2, .int t1, .ref (gA G 79)]) := by
  unfold pM_kinds_82 at h
  refine rIast C hG (hI 79 (by decide) (by decide)) e_79 h dM_kinds_82 (fun H locs z9 h hG => ?_)
  refine rAload_n C dM_kinds_83 hl 0 rfl ?_
  refine rGet C hG (hI 78 (by decide) (by decide)) e_78 fiM_2 (v := .ref (gA G 80)) rfl k_808 dM_kinds_84 ?_
  refine rIload_n C dM_kinds_87 hl 2 rfl ?_
  refine rIload_n C dM_kinds_88 hl 3 rfl ?_
  refine lv_iconst (v := 1) C.1 C.2.1 dM_kinds_89 (by decide) ?_
  refine rIcmpne C (tgt := 98) h dM_kinds_90 (by decide) (fun h => ?_) (fun h => ?_)
  · refine rIload C dM_kinds_98 hl 5 rfl ?_
    exact wM_kinds_100 C hI hr50 h hG (lv_sub hl [0, 1, 2, 3, 4, 5, 6, 7] rfl)
  · refine rIload C dM_kinds_93 hl 7 rfl ?_
    refine lv_goto (tgt := 100) C.1 C.2.1 dM_kinds_95 (by decide) ?_
    exact wM_kinds_100 C hI hr50 h hG (lv_sub hl [0, 1, 2, 3, 4, 5, 6, 7] rfl)
theorem wM_kinds_63 {p : Program} {l : Launch} {e : Env} {s : State} {m : MethodId} {args : Array Value} {below : List Frame} {meth : Method} {c : Code} {G : GT} {I : List Nat} (C : CX p s m args meth c NM bM_kinds 9 (some .int) G I) (hI : mI I) {fu : Nat} {R1 : Int32} {Z : Sg} {rc50 : Int32 → Int32 → Int32 → Int32 → Int32 → Int32 → Int32 → Sg → Option (Int32 × Sg)} (hr50 : ∀ {v1 : Int32} {v2 : Int32} {v3 : Int32} {v5 : Int32} {v6 : Int32} {v7 : Int32} {v8 : Int32} {z : Sg} {H : Heap} {locs : List Loc} {ls : Array Slot}, rc50 v1 v2 v3 v5 v6 v7 v8 z = some (R1, Z) → GW G I z s.heap H locs → lv_has ls 9 [(0, .ref (gA G 78)), (1, .int v1), (2, .int v2), (3, .int v3), (5, .int v5), (6, .int v6), (7, .int v7), (8, .int v8)] → W p l e rmM_kinds s m args below meth c H locs 0 0 (MQ below (Qi G I R1 Z) args s 0 0 (AD G I)) (F0 m 50 ls [])) {v1 : Int32} {v2 : Int32} {v3 : Int32} {v5 : Int32} {v6 : Int32} {v7 : Int32} {v8 : Int32} {t0 : Int32} {t1 : Int32} {z : Sg} {H : Heap} {locs : List Loc} {ls : Array Slot} (h : pM_kinds_63 fu rc50 v1 v2 v3 v5 v6 v7 v8 t0 t1 z = some (R1, Z)) (hG : GW G I z s.heap H locs) (hl : lv_has ls 9 [(0, .ref (gA G 78)), (1, .int v1), (2, .int v2), (3, .int v3), (5, .int v5), (6, .int v6), (7, .int v7), (8, .int v8)]) : W p l e rmM_kinds s m args below meth c H locs 0 0 (MQ below (Qi G I R1 Z) args s 0 0 (AD G I)) (F0 m 63 ls [.int t1, .int t0]) := by
  unfold pM_kinds_63 at h
  refine rIcmpge C (tgt := 130) h dM_kinds_63 (by decide) (fun h => ?_) (fun h => ?_)
  · refine rAload_n C dM_kinds_130 hl 0 rfl ?_
    refine rGet C hG (hI 78 (by decide) (by decide)) e_78 fiM_1 (v := .ref (gA G 79)) rfl k_807 dM_kinds_131 ?_
    refine rIload_n C dM_kinds_134 hl 2 rfl ?_
    refine rIload C dM_kinds_135 hl 4 rfl ?_
    refine rIast C hG (hI 79 (by decide) (by decide)) e_79 h dM_kinds_137 (fun H locs z7 h hG => ?_)
    refine rAload_n C dM_kinds_138 hl 0 rfl ?_
    refine rGet C hG (hI 78 (by decide) (by decide)) e_78 fiM_2 (v := .ref (gA G 80)) rfl k_808 dM_kinds_139 ?_
    refine rIload_n C dM_kinds_142 hl 2 rfl ?_
    refine rIload C dM_kinds_143 hl 5 rfl ?_
    refine rIast C hG (hI 80 (by decide) (by decide)) e_80 h dM_kinds_145 (fun H locs z8 h hG => ?_)
    refine rIload C dM_kinds_146 hl 6 rfl ?_
    exact rReti C hG h dM_kinds_148
  · refine rAload_n C dM_kinds_66 hl 0 rfl ?_
    refine rGet C hG (hI 78 (by decide) (by decide)) e_78 fiM_1 (v := .ref (gA G 79)) rfl k_807 dM_kinds_67 ?_
    refine rIload_n C dM_kinds_70 hl 2 rfl ?_
    refine rIload_n C dM_kinds_71 hl 3 rfl ?_
    refine rIfne C (tgt := 80) h dM_kinds_72 (by decide) (fun h => ?_) (fun h => ?_)
    · refine rIload C dM_kinds_80 hl 4 rfl ?_
      exact wM_kinds_82 C hI hr50 h hG (lv_sub hl [0, 1, 2, 3, 4, 5, 6, 7] rfl)
    · refine rIload C dM_kinds_75 hl 7 rfl ?_
      refine lv_goto (tgt := 82) C.1 C.2.1 dM_kinds_77 (by decide) ?_
      exact wM_kinds_82 C hI hr50 h hG (lv_sub hl [0, 1, 2, 3, 4, 5, 6, 7] rfl)
theorem wM_kinds_50 {p : Program} {l : Launch} {e : Env} {s : State} {m : MethodId} {args : Array Value} {below : List Frame} {meth : Method} {c : Code} {G : GT} {I : List Nat} (C : CX p s m args meth c NM bM_kinds 9 (some .int) G I) (hI : mI I) {fu : Nat} {R1 : Int32} {Z : Sg} : ∀ (k : Nat) {v1 : Int32} {v2 : Int32} {v3 : Int32} {v5 : Int32} {v6 : Int32} {v7 : Int32} {v8 : Int32} {z : Sg} {H : Heap} {locs : List Loc} {ls : Array Slot}, pM_kinds_50 fu k v1 v2 v3 v5 v6 v7 v8 z = some (R1, Z) → GW G I z s.heap H locs → lv_has ls 9 [(0, .ref (gA G 78)), (1, .int v1), (2, .int v2), (3, .int v3), (5, .int v5), (6, .int v6), (7, .int v7), (8, .int v8)] → W p l e rmM_kinds s m args below meth c H locs 0 0 (MQ below (Qi G I R1 Z) args s 0 0 (AD G I)) (F0 m 50 ls []) := by
  intro k
  induction k with
  | zero => intro v1 v2 v3 v5 v6 v7 v8 z H locs ls h hG hl; rw [pM_kinds_50] at h; cases h
  | succ k ih =>
    intro v1 v2 v3 v5 v6 v7 v8 z H locs ls h hG hl
    rw [pM_kinds_50] at h
    refine rIload C dM_kinds_50 hl 7 rfl ?_
    refine rIload_n C dM_kinds_52 hl 3 rfl ?_
    refine rIfne C (tgt := 61) h dM_kinds_53 (by decide) (fun h => ?_) (fun h => ?_)
    · refine lv_bipush (v := 10) C.1 C.2.1 dM_kinds_61 (by decide) ?_
      exact wM_kinds_63 C hI ih h hG (lv_sub hl [0, 1, 2, 3, 4, 5, 6, 7] rfl)
    · refine lv_bipush (v := 6) C.1 C.2.1 dM_kinds_56 (by decide) ?_
      refine lv_goto (tgt := 63) C.1 C.2.1 dM_kinds_58 (by decide) ?_
      exact wM_kinds_63 C hI ih h hG (lv_sub hl [0, 1, 2, 3, 4, 5, 6, 7] rfl)
theorem cM_kinds {l : Launch} {G : GT} {I : List Nat} (hI : mI I) {fu : Nat} {v1 : Int32} {v2 : Int32} {v3 : Int32} {z : Sg} {R1 : Int32} {Z : Sg} (h : pM_kinds fu v1 v2 v3 z = some (R1, Z)) : Mt l yM_kinds rmM_kinds bM_kinds 9 (some .int) G I z [.ref (gA G 78), .int v1, .int v2, .int v3] (Qi G I R1 Z) := by
  refine entM (by decide +kernel) (Nat.le_of_ble_eq_true rfl) ?_
  intro p e s m below meth c C hG ls hl
  have hl : lv_has ls 9 [(0, .ref (gA G 78)), (1, .int v1), (2, .int v2), (3, .int v3)] := hl
  unfold pM_kinds at h
  refine rAload_n C dM_kinds_0 hl 0 rfl ?_
  refine rIload_n C dM_kinds_1 hl 1 rfl ?_
  refine rIload_n C dM_kinds_2 hl 2 rfl ?_
  refine rCVi [.int v1, .int v2] [] C hG h (fun h => cM_toldWrong hI h) mvM_toldWrong k_1097 ⟨Nat.le_of_ble_eq_true rfl, Nat.le_of_ble_eq_true rfl⟩ ⟨rfl, rfl⟩ (rRecv C hG (hI 78 (by decide) (by decide)) e_78 rfl) rfl hl.1 (Nat.le_of_ble_eq_true rfl) dM_kinds_3 ⟨Nat.zero_le _, Nat.zero_le _⟩ rfl (fun H locs x2 z1 h hG => ?_)
  refine rIstoreA C dM_kinds_6 hl (by decide) [(0, .ref (gA G 78)), (1, .int v1), (2, .int v2), (3, .int v3)] rfl (fun ls hl => ?_)
  refine rIload C dM_kinds_8 hl 0 rfl ?_
  refine rIfeq C (tgt := 16) h dM_kinds_10 (by decide) (fun h => ?_) (fun h => ?_)
  · refine rIload_n C dM_kinds_16 hl 4 rfl ?_
    refine lv_iconst (v := 0) C.1 C.2.1 dM_kinds_17 (by decide) ?_
    refine lv_iconst (v := 1) C.1 C.2.1 dM_kinds_18 (by decide) ?_
    refine rCSi [.int v3, .int 0, .int 1] [] C hG h (fun h => cM_in hI h) mvM_in k_767 ⟨Nat.le_of_ble_eq_true rfl, Nat.le_of_ble_eq_true rfl⟩ ⟨rfl, rfl⟩ rfl hl.1 (Nat.le_of_ble_eq_true rfl) dM_kinds_19 ⟨Nat.zero_le _, Nat.zero_le _⟩ rfl (fun H locs x4 z3 h hG => ?_)
    refine rIfne C (tgt := 28) h dM_kinds_22 (by decide) (fun h => ?_) (fun h => ?_)
    · refine rAload_n C dM_kinds_28 hl 1 rfl ?_
      refine rGet C hG (hI 78 (by decide) (by decide)) e_78 fiM_1 (v := .ref (gA G 79)) rfl k_807 dM_kinds_29 ?_
      refine rIload_n C dM_kinds_32 hl 3 rfl ?_
      refine rIald C hG (hI 79 (by decide) (by decide)) e_79 h dM_kinds_33 (fun h => ?_)
      refine rIstore C dM_kinds_34 hl h (by decide) [(4, .int x2), (0, .ref (gA G 78)), (1, .int v1), (2, .int v2), (3, .int v3)] rfl (fun x5 ls h hl => ?_)
      refine rAload_n C dM_kinds_36 hl 2 rfl ?_
      refine rGet C hG (hI 78 (by decide) (by decide)) e_78 fiM_2 (v := .ref (gA G 80)) rfl k_808 dM_kinds_37 ?_
      refine rIload_n C dM_kinds_40 hl 4 rfl ?_
      refine rIald C hG (hI 80 (by decide) (by decide)) e_80 h dM_kinds_41 (fun h => ?_)
      refine rIstore C dM_kinds_42 hl h (by decide) [(5, .int x5), (4, .int x2), (0, .ref (gA G 78)), (1, .int v1), (2, .int v2), (3, .int v3)] rfl (fun x6 ls h hl => ?_)
      refine lv_iconst (v := 0) C.1 C.2.1 dM_kinds_44 (by decide) ?_
      refine rIstoreA C dM_kinds_45 hl (by decide) [(6, .int x6), (5, .int x5), (4, .int x2), (0, .ref (gA G 78)), (1, .int v1), (2, .int v2), (3, .int v3)] rfl (fun ls hl => ?_)
      refine lv_iconst (v := 0) C.1 C.2.1 dM_kinds_47 (by decide) ?_
      refine rIstoreA C dM_kinds_48 hl (by decide) [(7, .int 0), (6, .int x6), (5, .int x5), (4, .int x2), (0, .ref (gA G 78)), (1, .int v1), (2, .int v2), (3, .int v3)] rfl (fun ls hl => ?_)
      exact wM_kinds_50 C hI _ h hG (lv_sub hl [5, 6, 7, 8, 3, 2, 1, 0] rfl)
    · refine lv_bipush (v := (-7)) C.1 C.2.1 dM_kinds_25 (by decide) ?_
      exact rReti C hG h dM_kinds_27
  · refine rIload C dM_kinds_13 hl 0 rfl ?_
    exact rReti C hG h dM_kinds_15
theorem dM_placesBy_0 : decode bM_placesBy 0 = .ok (.aload_n 0, 1) := by decide +kernel
theorem dM_placesBy_1 : decode bM_placesBy 1 = .ok (.getfield 16, 3) := by decide +kernel
theorem dM_placesBy_4 : decode bM_placesBy 4 = .ok (.iconst 3, 1) := by decide +kernel
theorem dM_placesBy_5 : decode bM_placesBy 5 = .ok (.iload_n 2, 1) := by decide +kernel
theorem dM_placesBy_6 : decode bM_placesBy 6 = .ok (.imul, 1) := by decide +kernel
theorem dM_placesBy_7 : decode bM_placesBy 7 = .ok (.iaload, 1) := by decide +kernel
theorem dM_placesBy_8 : decode bM_placesBy 8 = .ok (.istore_n 3, 1) := by decide +kernel
theorem dM_placesBy_9 : decode bM_placesBy 9 = .ok (.iconst 0, 1) := by decide +kernel
theorem dM_placesBy_10 : decode bM_placesBy 10 = .ok (.istore 4, 2) := by decide +kernel
theorem dM_placesBy_12 : decode bM_placesBy 12 = .ok (.iconst 0, 1) := by decide +kernel
theorem dM_placesBy_13 : decode bM_placesBy 13 = .ok (.istore 5, 2) := by decide +kernel
theorem dM_placesBy_15 : decode bM_placesBy 15 = .ok (.iload 5, 2) := by decide +kernel
theorem dM_placesBy_17 : decode bM_placesBy 17 = .ok (.bipush 10, 2) := by decide +kernel
theorem dM_placesBy_19 : decode bM_placesBy 19 = .ok (.if_icmp .ge 78, 3) := by decide +kernel
theorem dM_placesBy_22 : decode bM_placesBy 22 = .ok (.iload 5, 2) := by decide +kernel
theorem dM_placesBy_24 : decode bM_placesBy 24 = .ok (.iload_n 3, 1) := by decide +kernel
theorem dM_placesBy_25 : decode bM_placesBy 25 = .ok (.if_icmp .eq 12, 3) := by decide +kernel
theorem dM_placesBy_28 : decode bM_placesBy 28 = .ok (.aload_n 0, 1) := by decide +kernel
theorem dM_placesBy_29 : decode bM_placesBy 29 = .ok (.iload 5, 2) := by decide +kernel
theorem dM_placesBy_31 : decode bM_placesBy 31 = .ok (.invokevirtual 192, 3) := by decide +kernel
theorem dM_placesBy_34 : decode bM_placesBy 34 = .ok (.ifCond .eq 7, 3) := by decide +kernel
theorem dM_placesBy_37 : decode bM_placesBy 37 = .ok (.iconst 1, 1) := by decide +kernel
theorem dM_placesBy_38 : decode bM_placesBy 38 = .ok (.goto 4, 3) := by decide +kernel
theorem dM_placesBy_41 : decode bM_placesBy 41 = .ok (.iconst 0, 1) := by decide +kernel
theorem dM_placesBy_42 : decode bM_placesBy 42 = .ok (.istore 6, 2) := by decide +kernel
theorem dM_placesBy_44 : decode bM_placesBy 44 = .ok (.iload 6, 2) := by decide +kernel
theorem dM_placesBy_46 : decode bM_placesBy 46 = .ok (.ifCond .eq 45, 3) := by decide +kernel
theorem dM_placesBy_49 : decode bM_placesBy 49 = .ok (.aload_n 0, 1) := by decide +kernel
theorem dM_placesBy_50 : decode bM_placesBy 50 = .ok (.getfield 16, 3) := by decide +kernel
theorem dM_placesBy_53 : decode bM_placesBy 53 = .ok (.iconst 3, 1) := by decide +kernel
theorem dM_placesBy_54 : decode bM_placesBy 54 = .ok (.iload_n 2, 1) := by decide +kernel
theorem dM_placesBy_55 : decode bM_placesBy 55 = .ok (.imul, 1) := by decide +kernel
theorem dM_placesBy_56 : decode bM_placesBy 56 = .ok (.iload 5, 2) := by decide +kernel
theorem dM_placesBy_58 : decode bM_placesBy 58 = .ok (.iastore, 1) := by decide +kernel
theorem dM_placesBy_59 : decode bM_placesBy 59 = .ok (.iload 4, 2) := by decide +kernel
theorem dM_placesBy_61 : decode bM_placesBy 61 = .ok (.aload_n 0, 1) := by decide +kernel
theorem dM_placesBy_62 : decode bM_placesBy 62 = .ok (.iload_n 1, 1) := by decide +kernel
theorem dM_placesBy_63 : decode bM_placesBy 63 = .ok (.iload_n 2, 1) := by decide +kernel
theorem dM_placesBy_64 : decode bM_placesBy 64 = .ok (.invokevirtual 249, 3) := by decide +kernel
theorem dM_placesBy_67 : decode bM_placesBy 67 = .ok (.iconst (-1), 1) := by decide +kernel
theorem dM_placesBy_68 : decode bM_placesBy 68 = .ok (.if_icmp .ne 10, 3) := by decide +kernel
theorem dM_placesBy_71 : decode bM_placesBy 71 = .ok (.iconst 1, 1) := by decide +kernel
theorem dM_placesBy_72 : decode bM_placesBy 72 = .ok (.iload 5, 2) := by decide +kernel
theorem dM_placesBy_74 : decode bM_placesBy 74 = .ok (.ishl, 1) := by decide +kernel
theorem dM_placesBy_75 : decode bM_placesBy 75 = .ok (.goto 4, 3) := by decide +kernel
theorem dM_placesBy_78 : decode bM_placesBy 78 = .ok (.iconst 0, 1) := by decide +kernel
theorem dM_placesBy_79 : decode bM_placesBy 79 = .ok (.ior, 1) := by decide +kernel
theorem dM_placesBy_80 : decode bM_placesBy 80 = .ok (.istore 4, 2) := by decide +kernel
theorem dM_placesBy_82 : decode bM_placesBy 82 = .ok (.aload_n 0, 1) := by decide +kernel
theorem dM_placesBy_83 : decode bM_placesBy 83 = .ok (.getfield 16, 3) := by decide +kernel
theorem dM_placesBy_86 : decode bM_placesBy 86 = .ok (.iconst 3, 1) := by decide +kernel
theorem dM_placesBy_87 : decode bM_placesBy 87 = .ok (.iload_n 2, 1) := by decide +kernel
theorem dM_placesBy_88 : decode bM_placesBy 88 = .ok (.imul, 1) := by decide +kernel
theorem dM_placesBy_89 : decode bM_placesBy 89 = .ok (.iload_n 3, 1) := by decide +kernel
theorem dM_placesBy_90 : decode bM_placesBy 90 = .ok (.iastore, 1) := by decide +kernel
theorem dM_placesBy_91 : decode bM_placesBy 91 = .ok (.iinc 5 1, 3) := by decide +kernel
theorem dM_placesBy_94 : decode bM_placesBy 94 = .ok (.goto (-79), 3) := by decide +kernel
theorem dM_placesBy_97 : decode bM_placesBy 97 = .ok (.iload 4, 2) := by decide +kernel
theorem dM_placesBy_99 : decode bM_placesBy 99 = .ok (.ireturn, 1) := by decide +kernel
theorem wM_placesBy_91 {p : Program} {l : Launch} {e : Env} {s : State} {m : MethodId} {args : Array Value} {below : List Frame} {meth : Method} {c : Code} {G : GT} {I : List Nat} (C : CX p s m args meth c NM bM_placesBy 7 (some .int) G I) (hI : mI I) {fu : Nat} {R1 : Int32} {Z : Sg} {rc15 : Int32 → Int32 → Int32 → Int32 → Int32 → Sg → Option (Int32 × Sg)} (hr15 : ∀ {v1 : Int32} {v2 : Int32} {v3 : Int32} {v4 : Int32} {v5 : Int32} {z : Sg} {H : Heap} {locs : List Loc} {ls : Array Slot}, rc15 v1 v2 v3 v4 v5 z = some (R1, Z) → GW G I z s.heap H locs → lv_has ls 7 [(0, .ref (gA G 78)), (1, .int v1), (2, .int v2), (3, .int v3), (4, .int v4), (5, .int v5)] → W p l e rmM_placesBy s m args below meth c H locs 0 0 (MQ below (Qi G I R1 Z) args s 0 0 (AD G I)) (F0 m 15 ls [])) {v1 : Int32} {v2 : Int32} {v3 : Int32} {v4 : Int32} {v5 : Int32} {z : Sg} {H : Heap} {locs : List Loc} {ls : Array Slot} (h : pM_placesBy_91 fu rc15 v1 v2 v3 v4 v5 z = some (R1, Z)) (hG : GW G I z s.heap H locs) (hl : lv_has ls 7 [(0, .ref (gA G 78)), (1, .int v1), (2, .int v2), (3, .int v3), (4, .int v4), (5, .int v5)]) : W p l e rmM_placesBy s m args below meth c H locs 0 0 (MQ below (Qi G I R1 Z) args s 0 0 (AD G I)) (F0 m 91 ls []) := by
  unfold pM_placesBy_91 at h
  refine rIinc C dM_placesBy_91 hl 5 rfl (d := 1) (by decide) h (by decide) [(0, .ref (gA G 78)), (1, .int v1), (2, .int v2), (3, .int v3), (4, .int v4)] rfl (fun x7 ls h hl => ?_)
  refine lv_goto (tgt := 15) C.1 C.2.1 dM_placesBy_94 (by decide) ?_
  exact hr15 h hG (lv_sub hl [1, 2, 3, 4, 5, 0] rfl)
theorem wM_placesBy_79 {p : Program} {l : Launch} {e : Env} {s : State} {m : MethodId} {args : Array Value} {below : List Frame} {meth : Method} {c : Code} {G : GT} {I : List Nat} (C : CX p s m args meth c NM bM_placesBy 7 (some .int) G I) (hI : mI I) {fu : Nat} {R1 : Int32} {Z : Sg} {rc15 : Int32 → Int32 → Int32 → Int32 → Int32 → Sg → Option (Int32 × Sg)} (hr15 : ∀ {v1 : Int32} {v2 : Int32} {v3 : Int32} {v4 : Int32} {v5 : Int32} {z : Sg} {H : Heap} {locs : List Loc} {ls : Array Slot}, rc15 v1 v2 v3 v4 v5 z = some (R1, Z) → GW G I z s.heap H locs → lv_has ls 7 [(0, .ref (gA G 78)), (1, .int v1), (2, .int v2), (3, .int v3), (4, .int v4), (5, .int v5)] → W p l e rmM_placesBy s m args below meth c H locs 0 0 (MQ below (Qi G I R1 Z) args s 0 0 (AD G I)) (F0 m 15 ls [])) {v1 : Int32} {v2 : Int32} {v3 : Int32} {v5 : Int32} {t0 : Int32} {t1 : Int32} {z : Sg} {H : Heap} {locs : List Loc} {ls : Array Slot} (h : pM_placesBy_79 fu rc15 v1 v2 v3 v5 t0 t1 z = some (R1, Z)) (hG : GW G I z s.heap H locs) (hl : lv_has ls 7 [(0, .ref (gA G 78)), (1, .int v1), (2, .int v2), (3, .int v3), (5, .int v5)]) : W p l e rmM_placesBy s m args below meth c H locs 0 0 (MQ below (Qi G I R1 Z) args s 0 0 (AD G I)) (F0 m 79 ls [.int t1, .int t0]) := by
  unfold pM_placesBy_79 at h
  refine lv_ior C.1 C.2.1 dM_placesBy_79 ?_
  refine rIstore C dM_placesBy_80 hl h (by decide) [(0, .ref (gA G 78)), (1, .int v1), (2, .int v2), (3, .int v3), (5, .int v5)] rfl (fun x8 ls h hl => ?_)
  refine rAload_n C dM_placesBy_82 hl 1 rfl ?_
  refine rGet C hG (hI 78 (by decide) (by decide)) e_78 fiM_3 (v := .ref (gA G 81)) rfl k_809 dM_placesBy_83 ?_
  refine lv_iconst (v := 3) C.1 C.2.1 dM_placesBy_86 (by decide) ?_
  refine rIload_n C dM_placesBy_87 hl 3 rfl ?_
  refine lv_imul C.1 C.2.1 dM_placesBy_88 ?_
  refine rIload_n C dM_placesBy_89 hl 4 rfl ?_
  refine rIast C hG (hI 81 (by decide) (by decide)) e_81 h dM_placesBy_90 (fun H locs z9 h hG => ?_)
  exact wM_placesBy_91 C hI hr15 h hG (lv_sub hl [1, 2, 3, 4, 0, 5] rfl)
theorem wM_placesBy_42 {p : Program} {l : Launch} {e : Env} {s : State} {m : MethodId} {args : Array Value} {below : List Frame} {meth : Method} {c : Code} {G : GT} {I : List Nat} (C : CX p s m args meth c NM bM_placesBy 7 (some .int) G I) (hI : mI I) {fu : Nat} {R1 : Int32} {Z : Sg} {rc15 : Int32 → Int32 → Int32 → Int32 → Int32 → Sg → Option (Int32 × Sg)} (hr15 : ∀ {v1 : Int32} {v2 : Int32} {v3 : Int32} {v4 : Int32} {v5 : Int32} {z : Sg} {H : Heap} {locs : List Loc} {ls : Array Slot}, rc15 v1 v2 v3 v4 v5 z = some (R1, Z) → GW G I z s.heap H locs → lv_has ls 7 [(0, .ref (gA G 78)), (1, .int v1), (2, .int v2), (3, .int v3), (4, .int v4), (5, .int v5)] → W p l e rmM_placesBy s m args below meth c H locs 0 0 (MQ below (Qi G I R1 Z) args s 0 0 (AD G I)) (F0 m 15 ls [])) {v1 : Int32} {v2 : Int32} {v3 : Int32} {v4 : Int32} {v5 : Int32} {t0 : Int32} {z : Sg} {H : Heap} {locs : List Loc} {ls : Array Slot} (h : pM_placesBy_42 fu rc15 v1 v2 v3 v4 v5 t0 z = some (R1, Z)) (hG : GW G I z s.heap H locs) (hl : lv_has ls 7 [(0, .ref (gA G 78)), (1, .int v1), (2, .int v2), (3, .int v3), (4, .int v4), (5, .int v5)]) : W p l e rmM_placesBy s m args below meth c H locs 0 0 (MQ below (Qi G I R1 Z) args s 0 0 (AD G I)) (F0 m 42 ls [.int t0]) := by
  unfold pM_placesBy_42 at h
  refine rIstoreA C dM_placesBy_42 hl (by decide) [(0, .ref (gA G 78)), (1, .int v1), (2, .int v2), (3, .int v3), (4, .int v4), (5, .int v5)] rfl (fun ls hl => ?_)
  refine rIload C dM_placesBy_44 hl 0 rfl ?_
  refine rIfeq C (tgt := 91) h dM_placesBy_46 (by decide) (fun h => ?_) (fun h => ?_)
  · exact wM_placesBy_91 C hI hr15 h hG (lv_sub hl [1, 2, 3, 4, 5, 6] rfl)
  · refine rAload_n C dM_placesBy_49 hl 1 rfl ?_
    refine rGet C hG (hI 78 (by decide) (by decide)) e_78 fiM_3 (v := .ref (gA G 81)) rfl k_809 dM_placesBy_50 ?_
    refine lv_iconst (v := 3) C.1 C.2.1 dM_placesBy_53 (by decide) ?_
    refine rIload_n C dM_placesBy_54 hl 3 rfl ?_
    refine lv_imul C.1 C.2.1 dM_placesBy_55 ?_
    refine rIload C dM_placesBy_56 hl 6 rfl ?_
    refine rIast C hG (hI 81 (by decide) (by decide)) e_81 h dM_placesBy_58 (fun H locs z4 h hG => ?_)
    refine rIload C dM_placesBy_59 hl 5 rfl ?_
    refine rAload_n C dM_placesBy_61 hl 1 rfl ?_
    refine rIload_n C dM_placesBy_62 hl 2 rfl ?_
    refine rIload_n C dM_placesBy_63 hl 3 rfl ?_
    refine rCVi [.int v1, .int v2] [.int v4] C hG h (fun h => cM_unlike hI h) mvM_unlike k_1105 ⟨Nat.le_of_ble_eq_true rfl, Nat.le_of_ble_eq_true rfl⟩ ⟨rfl, rfl⟩ (rRecv C hG (hI 78 (by decide) (by decide)) e_78 rfl) rfl hl.1 (Nat.le_of_ble_eq_true rfl) dM_placesBy_64 ⟨Nat.zero_le _, Nat.zero_le _⟩ rfl (fun H locs x6 z5 h hG => ?_)
    refine lv_iconst (v := (-1)) C.1 C.2.1 dM_placesBy_67 (by decide) ?_
    refine rIcmpne C (tgt := 78) h dM_placesBy_68 (by decide) (fun h => ?_) (fun h => ?_)
    · refine lv_iconst (v := 0) C.1 C.2.1 dM_placesBy_78 (by decide) ?_
      exact wM_placesBy_79 C hI hr15 h hG (lv_sub hl [1, 2, 3, 4, 6] rfl)
    · refine lv_iconst (v := 1) C.1 C.2.1 dM_placesBy_71 (by decide) ?_
      refine rIload C dM_placesBy_72 hl 6 rfl ?_
      refine lv_ishl C.1 C.2.1 dM_placesBy_74 ?_
      refine lv_goto (tgt := 79) C.1 C.2.1 dM_placesBy_75 (by decide) ?_
      exact wM_placesBy_79 C hI hr15 h hG (lv_sub hl [1, 2, 3, 4, 6] rfl)
theorem wM_placesBy_37 {p : Program} {l : Launch} {e : Env} {s : State} {m : MethodId} {args : Array Value} {below : List Frame} {meth : Method} {c : Code} {G : GT} {I : List Nat} (C : CX p s m args meth c NM bM_placesBy 7 (some .int) G I) (hI : mI I) {fu : Nat} {R1 : Int32} {Z : Sg} {rc15 : Int32 → Int32 → Int32 → Int32 → Int32 → Sg → Option (Int32 × Sg)} (hr15 : ∀ {v1 : Int32} {v2 : Int32} {v3 : Int32} {v4 : Int32} {v5 : Int32} {z : Sg} {H : Heap} {locs : List Loc} {ls : Array Slot}, rc15 v1 v2 v3 v4 v5 z = some (R1, Z) → GW G I z s.heap H locs → lv_has ls 7 [(0, .ref (gA G 78)), (1, .int v1), (2, .int v2), (3, .int v3), (4, .int v4), (5, .int v5)] → W p l e rmM_placesBy s m args below meth c H locs 0 0 (MQ below (Qi G I R1 Z) args s 0 0 (AD G I)) (F0 m 15 ls [])) {v1 : Int32} {v2 : Int32} {v3 : Int32} {v4 : Int32} {v5 : Int32} {z : Sg} {H : Heap} {locs : List Loc} {ls : Array Slot} (h : pM_placesBy_37 fu rc15 v1 v2 v3 v4 v5 z = some (R1, Z)) (hG : GW G I z s.heap H locs) (hl : lv_has ls 7 [(0, .ref (gA G 78)), (1, .int v1), (2, .int v2), (3, .int v3), (4, .int v4), (5, .int v5)]) : W p l e rmM_placesBy s m args below meth c H locs 0 0 (MQ below (Qi G I R1 Z) args s 0 0 (AD G I)) (F0 m 37 ls []) := by
  unfold pM_placesBy_37 at h
  refine lv_iconst (v := 1) C.1 C.2.1 dM_placesBy_37 (by decide) ?_
  refine lv_goto (tgt := 42) C.1 C.2.1 dM_placesBy_38 (by decide) ?_
  exact wM_placesBy_42 C hI hr15 h hG (lv_sub hl [0, 1, 2, 3, 4, 5] rfl)
theorem wM_placesBy_15 {p : Program} {l : Launch} {e : Env} {s : State} {m : MethodId} {args : Array Value} {below : List Frame} {meth : Method} {c : Code} {G : GT} {I : List Nat} (C : CX p s m args meth c NM bM_placesBy 7 (some .int) G I) (hI : mI I) {fu : Nat} {R1 : Int32} {Z : Sg} : ∀ (k : Nat) {v1 : Int32} {v2 : Int32} {v3 : Int32} {v4 : Int32} {v5 : Int32} {z : Sg} {H : Heap} {locs : List Loc} {ls : Array Slot}, pM_placesBy_15 fu k v1 v2 v3 v4 v5 z = some (R1, Z) → GW G I z s.heap H locs → lv_has ls 7 [(0, .ref (gA G 78)), (1, .int v1), (2, .int v2), (3, .int v3), (4, .int v4), (5, .int v5)] → W p l e rmM_placesBy s m args below meth c H locs 0 0 (MQ below (Qi G I R1 Z) args s 0 0 (AD G I)) (F0 m 15 ls []) := by
  intro k
  induction k with
  | zero => intro v1 v2 v3 v4 v5 z H locs ls h hG hl; rw [pM_placesBy_15] at h; cases h
  | succ k ih =>
    intro v1 v2 v3 v4 v5 z H locs ls h hG hl
    rw [pM_placesBy_15] at h
    refine rIload C dM_placesBy_15 hl 5 rfl ?_
    refine lv_bipush (v := 10) C.1 C.2.1 dM_placesBy_17 (by decide) ?_
    refine rIcmpge C (tgt := 97) h dM_placesBy_19 (by decide) (fun h => ?_) (fun h => ?_)
    · refine rIload C dM_placesBy_97 hl 4 rfl ?_
      exact rReti C hG h dM_placesBy_99
    · refine rIload C dM_placesBy_22 hl 5 rfl ?_
      refine rIload_n C dM_placesBy_24 hl 3 rfl ?_
      refine rIcmpeq C (tgt := 37) h dM_placesBy_25 (by decide) (fun h => ?_) (fun h => ?_)
      · exact wM_placesBy_37 C hI ih h hG (lv_sub hl [0, 1, 2, 3, 4, 5] rfl)
      · refine rAload_n C dM_placesBy_28 hl 0 rfl ?_
        refine rIload C dM_placesBy_29 hl 5 rfl ?_
        refine rCVi [.int v5] [] C hG h (fun h => cM_isFree hI h) mvM_isFree k_982 ⟨Nat.le_of_ble_eq_true rfl, Nat.le_of_ble_eq_true rfl⟩ ⟨rfl, rfl⟩ (rRecv C hG (hI 78 (by decide) (by decide)) e_78 rfl) rfl hl.1 (Nat.le_of_ble_eq_true rfl) dM_placesBy_31 ⟨Nat.zero_le _, Nat.zero_le _⟩ rfl (fun H locs x3 z2 h hG => ?_)
        refine rIfeq C (tgt := 41) h dM_placesBy_34 (by decide) (fun h => ?_) (fun h => ?_)
        · refine lv_iconst (v := 0) C.1 C.2.1 dM_placesBy_41 (by decide) ?_
          exact wM_placesBy_42 C hI ih h hG (lv_sub hl [0, 1, 2, 3, 4, 5] rfl)
        · exact wM_placesBy_37 C hI ih h hG (lv_sub hl [0, 1, 2, 3, 4, 5] rfl)
theorem cM_placesBy {l : Launch} {G : GT} {I : List Nat} (hI : mI I) {fu : Nat} {v1 : Int32} {v2 : Int32} {z : Sg} {R1 : Int32} {Z : Sg} (h : pM_placesBy fu v1 v2 z = some (R1, Z)) : Mt l yM_placesBy rmM_placesBy bM_placesBy 7 (some .int) G I z [.ref (gA G 78), .int v1, .int v2] (Qi G I R1 Z) := by
  refine entM (by decide +kernel) (Nat.le_of_ble_eq_true rfl) ?_
  intro p e s m below meth c C hG ls hl
  have hl : lv_has ls 7 [(0, .ref (gA G 78)), (1, .int v1), (2, .int v2)] := hl
  unfold pM_placesBy at h
  refine rAload_n C dM_placesBy_0 hl 0 rfl ?_
  refine rGet C hG (hI 78 (by decide) (by decide)) e_78 fiM_3 (v := .ref (gA G 81)) rfl k_809 dM_placesBy_1 ?_
  refine lv_iconst (v := 3) C.1 C.2.1 dM_placesBy_4 (by decide) ?_
  refine rIload_n C dM_placesBy_5 hl 2 rfl ?_
  refine lv_imul C.1 C.2.1 dM_placesBy_6 ?_
  refine rIald C hG (hI 81 (by decide) (by decide)) e_81 h dM_placesBy_7 (fun h => ?_)
  refine rIstore_n C dM_placesBy_8 hl h (by decide) [(0, .ref (gA G 78)), (1, .int v1), (2, .int v2)] rfl (fun x1 ls h hl => ?_)
  refine lv_iconst (v := 0) C.1 C.2.1 dM_placesBy_9 (by decide) ?_
  refine rIstoreA C dM_placesBy_10 hl (by decide) [(3, .int x1), (0, .ref (gA G 78)), (1, .int v1), (2, .int v2)] rfl (fun ls hl => ?_)
  refine lv_iconst (v := 0) C.1 C.2.1 dM_placesBy_12 (by decide) ?_
  refine rIstoreA C dM_placesBy_13 hl (by decide) [(4, .int 0), (3, .int x1), (0, .ref (gA G 78)), (1, .int v1), (2, .int v2)] rfl (fun ls hl => ?_)
  exact wM_placesBy_15 C hI _ h hG (lv_sub hl [3, 4, 5, 2, 1, 0] rfl)
theorem dM_swingsBy_0 : decode bM_swingsBy 0 = .ok (.aload_n 0, 1) := by decide +kernel
theorem dM_swingsBy_1 : decode bM_swingsBy 1 = .ok (.getfield 16, 3) := by decide +kernel
theorem dM_swingsBy_4 : decode bM_swingsBy 4 = .ok (.iconst 3, 1) := by decide +kernel
theorem dM_swingsBy_5 : decode bM_swingsBy 5 = .ok (.iload_n 2, 1) := by decide +kernel
theorem dM_swingsBy_6 : decode bM_swingsBy 6 = .ok (.imul, 1) := by decide +kernel
theorem dM_swingsBy_7 : decode bM_swingsBy 7 = .ok (.iconst 1, 1) := by decide +kernel
theorem dM_swingsBy_8 : decode bM_swingsBy 8 = .ok (.iadd, 1) := by decide +kernel
theorem dM_swingsBy_9 : decode bM_swingsBy 9 = .ok (.iaload, 1) := by decide +kernel
theorem dM_swingsBy_10 : decode bM_swingsBy 10 = .ok (.istore_n 3, 1) := by decide +kernel
theorem dM_swingsBy_11 : decode bM_swingsBy 11 = .ok (.iconst 0, 1) := by decide +kernel
theorem dM_swingsBy_12 : decode bM_swingsBy 12 = .ok (.istore 4, 2) := by decide +kernel
theorem dM_swingsBy_14 : decode bM_swingsBy 14 = .ok (.iconst 0, 1) := by decide +kernel
theorem dM_swingsBy_15 : decode bM_swingsBy 15 = .ok (.istore 5, 2) := by decide +kernel
theorem dM_swingsBy_17 : decode bM_swingsBy 17 = .ok (.iload 5, 2) := by decide +kernel
theorem dM_swingsBy_19 : decode bM_swingsBy 19 = .ok (.bipush 12, 2) := by decide +kernel
theorem dM_swingsBy_21 : decode bM_swingsBy 21 = .ok (.if_icmp .ge 44, 3) := by decide +kernel
theorem dM_swingsBy_24 : decode bM_swingsBy 24 = .ok (.aload_n 0, 1) := by decide +kernel
theorem dM_swingsBy_25 : decode bM_swingsBy 25 = .ok (.getfield 16, 3) := by decide +kernel
theorem dM_swingsBy_28 : decode bM_swingsBy 28 = .ok (.iconst 3, 1) := by decide +kernel
theorem dM_swingsBy_29 : decode bM_swingsBy 29 = .ok (.iload_n 2, 1) := by decide +kernel
theorem dM_swingsBy_30 : decode bM_swingsBy 30 = .ok (.imul, 1) := by decide +kernel
theorem dM_swingsBy_31 : decode bM_swingsBy 31 = .ok (.iconst 1, 1) := by decide +kernel
theorem dM_swingsBy_32 : decode bM_swingsBy 32 = .ok (.iadd, 1) := by decide +kernel
theorem dM_swingsBy_33 : decode bM_swingsBy 33 = .ok (.iload 5, 2) := by decide +kernel
theorem dM_swingsBy_35 : decode bM_swingsBy 35 = .ok (.iastore, 1) := by decide +kernel
theorem dM_swingsBy_36 : decode bM_swingsBy 36 = .ok (.iload 4, 2) := by decide +kernel
theorem dM_swingsBy_38 : decode bM_swingsBy 38 = .ok (.aload_n 0, 1) := by decide +kernel
theorem dM_swingsBy_39 : decode bM_swingsBy 39 = .ok (.iload_n 1, 1) := by decide +kernel
theorem dM_swingsBy_40 : decode bM_swingsBy 40 = .ok (.iload_n 2, 1) := by decide +kernel
theorem dM_swingsBy_41 : decode bM_swingsBy 41 = .ok (.invokevirtual 249, 3) := by decide +kernel
theorem dM_swingsBy_44 : decode bM_swingsBy 44 = .ok (.iconst (-1), 1) := by decide +kernel
theorem dM_swingsBy_45 : decode bM_swingsBy 45 = .ok (.if_icmp .ne 10, 3) := by decide +kernel
theorem dM_swingsBy_48 : decode bM_swingsBy 48 = .ok (.iconst 1, 1) := by decide +kernel
theorem dM_swingsBy_49 : decode bM_swingsBy 49 = .ok (.iload 5, 2) := by decide +kernel
theorem dM_swingsBy_51 : decode bM_swingsBy 51 = .ok (.ishl, 1) := by decide +kernel
theorem dM_swingsBy_52 : decode bM_swingsBy 52 = .ok (.goto 4, 3) := by decide +kernel
theorem dM_swingsBy_55 : decode bM_swingsBy 55 = .ok (.iconst 0, 1) := by decide +kernel
theorem dM_swingsBy_56 : decode bM_swingsBy 56 = .ok (.ior, 1) := by decide +kernel
theorem dM_swingsBy_57 : decode bM_swingsBy 57 = .ok (.istore 4, 2) := by decide +kernel
theorem dM_swingsBy_59 : decode bM_swingsBy 59 = .ok (.iinc 5 1, 3) := by decide +kernel
theorem dM_swingsBy_62 : decode bM_swingsBy 62 = .ok (.goto (-45), 3) := by decide +kernel
theorem dM_swingsBy_65 : decode bM_swingsBy 65 = .ok (.aload_n 0, 1) := by decide +kernel
theorem dM_swingsBy_66 : decode bM_swingsBy 66 = .ok (.getfield 16, 3) := by decide +kernel
theorem dM_swingsBy_69 : decode bM_swingsBy 69 = .ok (.iconst 3, 1) := by decide +kernel
theorem dM_swingsBy_70 : decode bM_swingsBy 70 = .ok (.iload_n 2, 1) := by decide +kernel
theorem dM_swingsBy_71 : decode bM_swingsBy 71 = .ok (.imul, 1) := by decide +kernel
theorem dM_swingsBy_72 : decode bM_swingsBy 72 = .ok (.iconst 1, 1) := by decide +kernel
theorem dM_swingsBy_73 : decode bM_swingsBy 73 = .ok (.iadd, 1) := by decide +kernel
theorem dM_swingsBy_74 : decode bM_swingsBy 74 = .ok (.iload_n 3, 1) := by decide +kernel
theorem dM_swingsBy_75 : decode bM_swingsBy 75 = .ok (.iastore, 1) := by decide +kernel
theorem dM_swingsBy_76 : decode bM_swingsBy 76 = .ok (.iload 4, 2) := by decide +kernel
theorem dM_swingsBy_78 : decode bM_swingsBy 78 = .ok (.ireturn, 1) := by decide +kernel
theorem wM_swingsBy_56 {p : Program} {l : Launch} {e : Env} {s : State} {m : MethodId} {args : Array Value} {below : List Frame} {meth : Method} {c : Code} {G : GT} {I : List Nat} (C : CX p s m args meth c NM bM_swingsBy 6 (some .int) G I) (hI : mI I) {fu : Nat} {R1 : Int32} {Z : Sg} {rc17 : Int32 → Int32 → Int32 → Int32 → Int32 → Sg → Option (Int32 × Sg)} (hr17 : ∀ {v1 : Int32} {v2 : Int32} {v3 : Int32} {v4 : Int32} {v5 : Int32} {z : Sg} {H : Heap} {locs : List Loc} {ls : Array Slot}, rc17 v1 v2 v3 v4 v5 z = some (R1, Z) → GW G I z s.heap H locs → lv_has ls 6 [(0, .ref (gA G 78)), (1, .int v1), (2, .int v2), (3, .int v3), (4, .int v4), (5, .int v5)] → W p l e rmM_swingsBy s m args below meth c H locs 0 0 (MQ below (Qi G I R1 Z) args s 0 0 (AD G I)) (F0 m 17 ls [])) {v1 : Int32} {v2 : Int32} {v3 : Int32} {v5 : Int32} {t0 : Int32} {t1 : Int32} {z : Sg} {H : Heap} {locs : List Loc} {ls : Array Slot} (h : pM_swingsBy_56 fu rc17 v1 v2 v3 v5 t0 t1 z = some (R1, Z)) (hG : GW G I z s.heap H locs) (hl : lv_has ls 6 [(0, .ref (gA G 78)), (1, .int v1), (2, .int v2), (3, .int v3), (5, .int v5)]) : W p l e rmM_swingsBy s m args below meth c H locs 0 0 (MQ below (Qi G I R1 Z) args s 0 0 (AD G I)) (F0 m 56 ls [.int t1, .int t0]) := by
  unfold pM_swingsBy_56 at h
  refine lv_ior C.1 C.2.1 dM_swingsBy_56 ?_
  refine rIstore C dM_swingsBy_57 hl h (by decide) [(0, .ref (gA G 78)), (1, .int v1), (2, .int v2), (3, .int v3), (5, .int v5)] rfl (fun x6 ls h hl => ?_)
  refine rIinc C dM_swingsBy_59 hl 5 rfl (d := 1) (by decide) h (by decide) [(4, .int x6), (0, .ref (gA G 78)), (1, .int v1), (2, .int v2), (3, .int v3)] rfl (fun x7 ls h hl => ?_)
  refine lv_goto (tgt := 17) C.1 C.2.1 dM_swingsBy_62 (by decide) ?_
  exact hr17 h hG (lv_sub hl [2, 3, 4, 5, 1, 0] rfl)
theorem wM_swingsBy_17 {p : Program} {l : Launch} {e : Env} {s : State} {m : MethodId} {args : Array Value} {below : List Frame} {meth : Method} {c : Code} {G : GT} {I : List Nat} (C : CX p s m args meth c NM bM_swingsBy 6 (some .int) G I) (hI : mI I) {fu : Nat} {R1 : Int32} {Z : Sg} : ∀ (k : Nat) {v1 : Int32} {v2 : Int32} {v3 : Int32} {v4 : Int32} {v5 : Int32} {z : Sg} {H : Heap} {locs : List Loc} {ls : Array Slot}, pM_swingsBy_17 fu k v1 v2 v3 v4 v5 z = some (R1, Z) → GW G I z s.heap H locs → lv_has ls 6 [(0, .ref (gA G 78)), (1, .int v1), (2, .int v2), (3, .int v3), (4, .int v4), (5, .int v5)] → W p l e rmM_swingsBy s m args below meth c H locs 0 0 (MQ below (Qi G I R1 Z) args s 0 0 (AD G I)) (F0 m 17 ls []) := by
  intro k
  induction k with
  | zero => intro v1 v2 v3 v4 v5 z H locs ls h hG hl; rw [pM_swingsBy_17] at h; cases h
  | succ k ih =>
    intro v1 v2 v3 v4 v5 z H locs ls h hG hl
    rw [pM_swingsBy_17] at h
    refine rIload C dM_swingsBy_17 hl 5 rfl ?_
    refine lv_bipush (v := 12) C.1 C.2.1 dM_swingsBy_19 (by decide) ?_
    refine rIcmpge C (tgt := 65) h dM_swingsBy_21 (by decide) (fun h => ?_) (fun h => ?_)
    · refine rAload_n C dM_swingsBy_65 hl 0 rfl ?_
      refine rGet C hG (hI 78 (by decide) (by decide)) e_78 fiM_3 (v := .ref (gA G 81)) rfl k_809 dM_swingsBy_66 ?_
      refine lv_iconst (v := 3) C.1 C.2.1 dM_swingsBy_69 (by decide) ?_
      refine rIload_n C dM_swingsBy_70 hl 2 rfl ?_
      refine lv_imul C.1 C.2.1 dM_swingsBy_71 ?_
      refine lv_iconst (v := 1) C.1 C.2.1 dM_swingsBy_72 (by decide) ?_
      refine lv_iadd C.1 C.2.1 dM_swingsBy_73 ?_
      refine rIload_n C dM_swingsBy_74 hl 3 rfl ?_
      refine rIast C hG (hI 81 (by decide) (by decide)) e_81 h dM_swingsBy_75 (fun H locs z2 h hG => ?_)
      refine rIload C dM_swingsBy_76 hl 4 rfl ?_
      exact rReti C hG h dM_swingsBy_78
    · refine rAload_n C dM_swingsBy_24 hl 0 rfl ?_
      refine rGet C hG (hI 78 (by decide) (by decide)) e_78 fiM_3 (v := .ref (gA G 81)) rfl k_809 dM_swingsBy_25 ?_
      refine lv_iconst (v := 3) C.1 C.2.1 dM_swingsBy_28 (by decide) ?_
      refine rIload_n C dM_swingsBy_29 hl 2 rfl ?_
      refine lv_imul C.1 C.2.1 dM_swingsBy_30 ?_
      refine lv_iconst (v := 1) C.1 C.2.1 dM_swingsBy_31 (by decide) ?_
      refine lv_iadd C.1 C.2.1 dM_swingsBy_32 ?_
      refine rIload C dM_swingsBy_33 hl 5 rfl ?_
      refine rIast C hG (hI 81 (by decide) (by decide)) e_81 h dM_swingsBy_35 (fun H locs z3 h hG => ?_)
      refine rIload C dM_swingsBy_36 hl 4 rfl ?_
      refine rAload_n C dM_swingsBy_38 hl 0 rfl ?_
      refine rIload_n C dM_swingsBy_39 hl 1 rfl ?_
      refine rIload_n C dM_swingsBy_40 hl 2 rfl ?_
      refine rCVi [.int v1, .int v2] [.int v4] C hG h (fun h => cM_unlike hI h) mvM_unlike k_1105 ⟨Nat.le_of_ble_eq_true rfl, Nat.le_of_ble_eq_true rfl⟩ ⟨rfl, rfl⟩ (rRecv C hG (hI 78 (by decide) (by decide)) e_78 rfl) rfl hl.1 (Nat.le_of_ble_eq_true rfl) dM_swingsBy_41 ⟨Nat.zero_le _, Nat.zero_le _⟩ rfl (fun H locs x5 z4 h hG => ?_)
      refine lv_iconst (v := (-1)) C.1 C.2.1 dM_swingsBy_44 (by decide) ?_
      refine rIcmpne C (tgt := 55) h dM_swingsBy_45 (by decide) (fun h => ?_) (fun h => ?_)
      · refine lv_iconst (v := 0) C.1 C.2.1 dM_swingsBy_55 (by decide) ?_
        exact wM_swingsBy_56 C hI ih h hG (lv_sub hl [0, 1, 2, 3, 5] rfl)
      · refine lv_iconst (v := 1) C.1 C.2.1 dM_swingsBy_48 (by decide) ?_
        refine rIload C dM_swingsBy_49 hl 5 rfl ?_
        refine lv_ishl C.1 C.2.1 dM_swingsBy_51 ?_
        refine lv_goto (tgt := 56) C.1 C.2.1 dM_swingsBy_52 (by decide) ?_
        exact wM_swingsBy_56 C hI ih h hG (lv_sub hl [0, 1, 2, 3, 5] rfl)
theorem cM_swingsBy {l : Launch} {G : GT} {I : List Nat} (hI : mI I) {fu : Nat} {v1 : Int32} {v2 : Int32} {z : Sg} {R1 : Int32} {Z : Sg} (h : pM_swingsBy fu v1 v2 z = some (R1, Z)) : Mt l yM_swingsBy rmM_swingsBy bM_swingsBy 6 (some .int) G I z [.ref (gA G 78), .int v1, .int v2] (Qi G I R1 Z) := by
  refine entM (by decide +kernel) (Nat.le_of_ble_eq_true rfl) ?_
  intro p e s m below meth c C hG ls hl
  have hl : lv_has ls 6 [(0, .ref (gA G 78)), (1, .int v1), (2, .int v2)] := hl
  unfold pM_swingsBy at h
  refine rAload_n C dM_swingsBy_0 hl 0 rfl ?_
  refine rGet C hG (hI 78 (by decide) (by decide)) e_78 fiM_3 (v := .ref (gA G 81)) rfl k_809 dM_swingsBy_1 ?_
  refine lv_iconst (v := 3) C.1 C.2.1 dM_swingsBy_4 (by decide) ?_
  refine rIload_n C dM_swingsBy_5 hl 2 rfl ?_
  refine lv_imul C.1 C.2.1 dM_swingsBy_6 ?_
  refine lv_iconst (v := 1) C.1 C.2.1 dM_swingsBy_7 (by decide) ?_
  refine lv_iadd C.1 C.2.1 dM_swingsBy_8 ?_
  refine rIald C hG (hI 81 (by decide) (by decide)) e_81 h dM_swingsBy_9 (fun h => ?_)
  refine rIstore_n C dM_swingsBy_10 hl h (by decide) [(0, .ref (gA G 78)), (1, .int v1), (2, .int v2)] rfl (fun x1 ls h hl => ?_)
  refine lv_iconst (v := 0) C.1 C.2.1 dM_swingsBy_11 (by decide) ?_
  refine rIstoreA C dM_swingsBy_12 hl (by decide) [(3, .int x1), (0, .ref (gA G 78)), (1, .int v1), (2, .int v2)] rfl (fun ls hl => ?_)
  refine lv_iconst (v := 0) C.1 C.2.1 dM_swingsBy_14 (by decide) ?_
  refine rIstoreA C dM_swingsBy_15 hl (by decide) [(4, .int 0), (3, .int x1), (0, .ref (gA G 78)), (1, .int v1), (2, .int v2)] rfl (fun ls hl => ?_)
  exact wM_swingsBy_17 C hI _ h hG (lv_sub hl [3, 4, 5, 2, 1, 0] rfl)
theorem dM_rowBy_0 : decode bM_rowBy 0 = .ok (.aload_n 0, 1) := by decide +kernel
theorem dM_rowBy_1 : decode bM_rowBy 1 = .ok (.getfield 19, 3) := by decide +kernel
theorem dM_rowBy_4 : decode bM_rowBy 4 = .ok (.iload_n 3, 1) := by decide +kernel
theorem dM_rowBy_5 : decode bM_rowBy 5 = .ok (.iaload, 1) := by decide +kernel
theorem dM_rowBy_6 : decode bM_rowBy 6 = .ok (.istore 4, 2) := by decide +kernel
theorem dM_rowBy_8 : decode bM_rowBy 8 = .ok (.iconst 0, 1) := by decide +kernel
theorem dM_rowBy_9 : decode bM_rowBy 9 = .ok (.istore 5, 2) := by decide +kernel
theorem dM_rowBy_11 : decode bM_rowBy 11 = .ok (.iconst 0, 1) := by decide +kernel
theorem dM_rowBy_12 : decode bM_rowBy 12 = .ok (.istore 6, 2) := by decide +kernel
theorem dM_rowBy_14 : decode bM_rowBy 14 = .ok (.iload 6, 2) := by decide +kernel
theorem dM_rowBy_16 : decode bM_rowBy 16 = .ok (.bipush 12, 2) := by decide +kernel
theorem dM_rowBy_18 : decode bM_rowBy 18 = .ok (.if_icmp .ge 40, 3) := by decide +kernel
theorem dM_rowBy_21 : decode bM_rowBy 21 = .ok (.aload_n 0, 1) := by decide +kernel
theorem dM_rowBy_22 : decode bM_rowBy 22 = .ok (.getfield 19, 3) := by decide +kernel
theorem dM_rowBy_25 : decode bM_rowBy 25 = .ok (.iload_n 3, 1) := by decide +kernel
theorem dM_rowBy_26 : decode bM_rowBy 26 = .ok (.iload 6, 2) := by decide +kernel
theorem dM_rowBy_28 : decode bM_rowBy 28 = .ok (.iastore, 1) := by decide +kernel
theorem dM_rowBy_29 : decode bM_rowBy 29 = .ok (.iload 5, 2) := by decide +kernel
theorem dM_rowBy_31 : decode bM_rowBy 31 = .ok (.aload_n 0, 1) := by decide +kernel
theorem dM_rowBy_32 : decode bM_rowBy 32 = .ok (.iload_n 1, 1) := by decide +kernel
theorem dM_rowBy_33 : decode bM_rowBy 33 = .ok (.iload_n 2, 1) := by decide +kernel
theorem dM_rowBy_34 : decode bM_rowBy 34 = .ok (.invokevirtual 249, 3) := by decide +kernel
theorem dM_rowBy_37 : decode bM_rowBy 37 = .ok (.iconst (-1), 1) := by decide +kernel
theorem dM_rowBy_38 : decode bM_rowBy 38 = .ok (.if_icmp .ne 10, 3) := by decide +kernel
theorem dM_rowBy_41 : decode bM_rowBy 41 = .ok (.iconst 1, 1) := by decide +kernel
theorem dM_rowBy_42 : decode bM_rowBy 42 = .ok (.iload 6, 2) := by decide +kernel
theorem dM_rowBy_44 : decode bM_rowBy 44 = .ok (.ishl, 1) := by decide +kernel
theorem dM_rowBy_45 : decode bM_rowBy 45 = .ok (.goto 4, 3) := by decide +kernel
theorem dM_rowBy_48 : decode bM_rowBy 48 = .ok (.iconst 0, 1) := by decide +kernel
theorem dM_rowBy_49 : decode bM_rowBy 49 = .ok (.ior, 1) := by decide +kernel
theorem dM_rowBy_50 : decode bM_rowBy 50 = .ok (.istore 5, 2) := by decide +kernel
theorem dM_rowBy_52 : decode bM_rowBy 52 = .ok (.iinc 6 1, 3) := by decide +kernel
theorem dM_rowBy_55 : decode bM_rowBy 55 = .ok (.goto (-41), 3) := by decide +kernel
theorem dM_rowBy_58 : decode bM_rowBy 58 = .ok (.aload_n 0, 1) := by decide +kernel
theorem dM_rowBy_59 : decode bM_rowBy 59 = .ok (.getfield 19, 3) := by decide +kernel
theorem dM_rowBy_62 : decode bM_rowBy 62 = .ok (.iload_n 3, 1) := by decide +kernel
theorem dM_rowBy_63 : decode bM_rowBy 63 = .ok (.iload 4, 2) := by decide +kernel
theorem dM_rowBy_65 : decode bM_rowBy 65 = .ok (.iastore, 1) := by decide +kernel
theorem dM_rowBy_66 : decode bM_rowBy 66 = .ok (.iload 5, 2) := by decide +kernel
theorem dM_rowBy_68 : decode bM_rowBy 68 = .ok (.ireturn, 1) := by decide +kernel
theorem wM_rowBy_49 {p : Program} {l : Launch} {e : Env} {s : State} {m : MethodId} {args : Array Value} {below : List Frame} {meth : Method} {c : Code} {G : GT} {I : List Nat} (C : CX p s m args meth c NM bM_rowBy 7 (some .int) G I) (hI : mI I) {fu : Nat} {R1 : Int32} {Z : Sg} {rc14 : Int32 → Int32 → Int32 → Int32 → Int32 → Int32 → Sg → Option (Int32 × Sg)} (hr14 : ∀ {v1 : Int32} {v2 : Int32} {v3 : Int32} {v4 : Int32} {v5 : Int32} {v6 : Int32} {z : Sg} {H : Heap} {locs : List Loc} {ls : Array Slot}, rc14 v1 v2 v3 v4 v5 v6 z = some (R1, Z) → GW G I z s.heap H locs → lv_has ls 7 [(0, .ref (gA G 78)), (1, .int v1), (2, .int v2), (3, .int v3), (4, .int v4), (5, .int v5), (6, .int v6)] → W p l e rmM_rowBy s m args below meth c H locs 0 0 (MQ below (Qi G I R1 Z) args s 0 0 (AD G I)) (F0 m 14 ls [])) {v1 : Int32} {v2 : Int32} {v3 : Int32} {v4 : Int32} {v6 : Int32} {t0 : Int32} {t1 : Int32} {z : Sg} {H : Heap} {locs : List Loc} {ls : Array Slot} (h : pM_rowBy_49 fu rc14 v1 v2 v3 v4 v6 t0 t1 z = some (R1, Z)) (hG : GW G I z s.heap H locs) (hl : lv_has ls 7 [(0, .ref (gA G 78)), (1, .int v1), (2, .int v2), (3, .int v3), (4, .int v4), (6, .int v6)]) : W p l e rmM_rowBy s m args below meth c H locs 0 0 (MQ below (Qi G I R1 Z) args s 0 0 (AD G I)) (F0 m 49 ls [.int t1, .int t0]) := by
  unfold pM_rowBy_49 at h
  refine lv_ior C.1 C.2.1 dM_rowBy_49 ?_
  refine rIstore C dM_rowBy_50 hl h (by decide) [(0, .ref (gA G 78)), (1, .int v1), (2, .int v2), (3, .int v3), (4, .int v4), (6, .int v6)] rfl (fun x6 ls h hl => ?_)
  refine rIinc C dM_rowBy_52 hl 6 rfl (d := 1) (by decide) h (by decide) [(5, .int x6), (0, .ref (gA G 78)), (1, .int v1), (2, .int v2), (3, .int v3), (4, .int v4)] rfl (fun x7 ls h hl => ?_)
  refine lv_goto (tgt := 14) C.1 C.2.1 dM_rowBy_55 (by decide) ?_
  exact hr14 h hG (lv_sub hl [2, 3, 4, 5, 6, 1, 0] rfl)
theorem wM_rowBy_14 {p : Program} {l : Launch} {e : Env} {s : State} {m : MethodId} {args : Array Value} {below : List Frame} {meth : Method} {c : Code} {G : GT} {I : List Nat} (C : CX p s m args meth c NM bM_rowBy 7 (some .int) G I) (hI : mI I) {fu : Nat} {R1 : Int32} {Z : Sg} : ∀ (k : Nat) {v1 : Int32} {v2 : Int32} {v3 : Int32} {v4 : Int32} {v5 : Int32} {v6 : Int32} {z : Sg} {H : Heap} {locs : List Loc} {ls : Array Slot}, pM_rowBy_14 fu k v1 v2 v3 v4 v5 v6 z = some (R1, Z) → GW G I z s.heap H locs → lv_has ls 7 [(0, .ref (gA G 78)), (1, .int v1), (2, .int v2), (3, .int v3), (4, .int v4), (5, .int v5), (6, .int v6)] → W p l e rmM_rowBy s m args below meth c H locs 0 0 (MQ below (Qi G I R1 Z) args s 0 0 (AD G I)) (F0 m 14 ls []) := by
  intro k
  induction k with
  | zero => intro v1 v2 v3 v4 v5 v6 z H locs ls h hG hl; rw [pM_rowBy_14] at h; cases h
  | succ k ih =>
    intro v1 v2 v3 v4 v5 v6 z H locs ls h hG hl
    rw [pM_rowBy_14] at h
    refine rIload C dM_rowBy_14 hl 6 rfl ?_
    refine lv_bipush (v := 12) C.1 C.2.1 dM_rowBy_16 (by decide) ?_
    refine rIcmpge C (tgt := 58) h dM_rowBy_18 (by decide) (fun h => ?_) (fun h => ?_)
    · refine rAload_n C dM_rowBy_58 hl 0 rfl ?_
      refine rGet C hG (hI 78 (by decide) (by decide)) e_78 fiM_4 (v := .ref (gA G 82)) rfl k_810 dM_rowBy_59 ?_
      refine rIload_n C dM_rowBy_62 hl 3 rfl ?_
      refine rIload C dM_rowBy_63 hl 4 rfl ?_
      refine rIast C hG (hI 82 (by decide) (by decide)) e_82 h dM_rowBy_65 (fun H locs z2 h hG => ?_)
      refine rIload C dM_rowBy_66 hl 5 rfl ?_
      exact rReti C hG h dM_rowBy_68
    · refine rAload_n C dM_rowBy_21 hl 0 rfl ?_
      refine rGet C hG (hI 78 (by decide) (by decide)) e_78 fiM_4 (v := .ref (gA G 82)) rfl k_810 dM_rowBy_22 ?_
      refine rIload_n C dM_rowBy_25 hl 3 rfl ?_
      refine rIload C dM_rowBy_26 hl 6 rfl ?_
      refine rIast C hG (hI 82 (by decide) (by decide)) e_82 h dM_rowBy_28 (fun H locs z3 h hG => ?_)
      refine rIload C dM_rowBy_29 hl 5 rfl ?_
      refine rAload_n C dM_rowBy_31 hl 0 rfl ?_
      refine rIload_n C dM_rowBy_32 hl 1 rfl ?_
      refine rIload_n C dM_rowBy_33 hl 2 rfl ?_
      refine rCVi [.int v1, .int v2] [.int v5] C hG h (fun h => cM_unlike hI h) mvM_unlike k_1105 ⟨Nat.le_of_ble_eq_true rfl, Nat.le_of_ble_eq_true rfl⟩ ⟨rfl, rfl⟩ (rRecv C hG (hI 78 (by decide) (by decide)) e_78 rfl) rfl hl.1 (Nat.le_of_ble_eq_true rfl) dM_rowBy_34 ⟨Nat.zero_le _, Nat.zero_le _⟩ rfl (fun H locs x5 z4 h hG => ?_)
      refine lv_iconst (v := (-1)) C.1 C.2.1 dM_rowBy_37 (by decide) ?_
      refine rIcmpne C (tgt := 48) h dM_rowBy_38 (by decide) (fun h => ?_) (fun h => ?_)
      · refine lv_iconst (v := 0) C.1 C.2.1 dM_rowBy_48 (by decide) ?_
        exact wM_rowBy_49 C hI ih h hG (lv_sub hl [0, 1, 2, 3, 4, 6] rfl)
      · refine lv_iconst (v := 1) C.1 C.2.1 dM_rowBy_41 (by decide) ?_
        refine rIload C dM_rowBy_42 hl 6 rfl ?_
        refine lv_ishl C.1 C.2.1 dM_rowBy_44 ?_
        refine lv_goto (tgt := 49) C.1 C.2.1 dM_rowBy_45 (by decide) ?_
        exact wM_rowBy_49 C hI ih h hG (lv_sub hl [0, 1, 2, 3, 4, 6] rfl)
theorem cM_rowBy {l : Launch} {G : GT} {I : List Nat} (hI : mI I) {fu : Nat} {v1 : Int32} {v2 : Int32} {v3 : Int32} {z : Sg} {R1 : Int32} {Z : Sg} (h : pM_rowBy fu v1 v2 v3 z = some (R1, Z)) : Mt l yM_rowBy rmM_rowBy bM_rowBy 7 (some .int) G I z [.ref (gA G 78), .int v1, .int v2, .int v3] (Qi G I R1 Z) := by
  refine entM (by decide +kernel) (Nat.le_of_ble_eq_true rfl) ?_
  intro p e s m below meth c C hG ls hl
  have hl : lv_has ls 7 [(0, .ref (gA G 78)), (1, .int v1), (2, .int v2), (3, .int v3)] := hl
  unfold pM_rowBy at h
  refine rAload_n C dM_rowBy_0 hl 0 rfl ?_
  refine rGet C hG (hI 78 (by decide) (by decide)) e_78 fiM_4 (v := .ref (gA G 82)) rfl k_810 dM_rowBy_1 ?_
  refine rIload_n C dM_rowBy_4 hl 3 rfl ?_
  refine rIald C hG (hI 82 (by decide) (by decide)) e_82 h dM_rowBy_5 (fun h => ?_)
  refine rIstore C dM_rowBy_6 hl h (by decide) [(0, .ref (gA G 78)), (1, .int v1), (2, .int v2), (3, .int v3)] rfl (fun x1 ls h hl => ?_)
  refine lv_iconst (v := 0) C.1 C.2.1 dM_rowBy_8 (by decide) ?_
  refine rIstoreA C dM_rowBy_9 hl (by decide) [(4, .int x1), (0, .ref (gA G 78)), (1, .int v1), (2, .int v2), (3, .int v3)] rfl (fun ls hl => ?_)
  refine lv_iconst (v := 0) C.1 C.2.1 dM_rowBy_11 (by decide) ?_
  refine rIstoreA C dM_rowBy_12 hl (by decide) [(5, .int 0), (4, .int x1), (0, .ref (gA G 78)), (1, .int v1), (2, .int v2), (3, .int v3)] rfl (fun ls hl => ?_)
  exact wM_rowBy_14 C hI _ h hG (lv_sub hl [3, 4, 5, 6, 2, 1, 0] rfl)
theorem dM_states_0 : decode bM_states 0 = .ok (.aload_n 0, 1) := by decide +kernel
theorem dM_states_1 : decode bM_states 1 = .ok (.iload_n 1, 1) := by decide +kernel
theorem dM_states_2 : decode bM_states 2 = .ok (.iload_n 2, 1) := by decide +kernel
theorem dM_states_3 : decode bM_states 3 = .ok (.invokevirtual 246, 3) := by decide +kernel
theorem dM_states_6 : decode bM_states 6 = .ok (.istore 4, 2) := by decide +kernel
theorem dM_states_8 : decode bM_states 8 = .ok (.iload 4, 2) := by decide +kernel
theorem dM_states_10 : decode bM_states 10 = .ok (.ifCond .eq 6, 3) := by decide +kernel
theorem dM_states_13 : decode bM_states 13 = .ok (.iload 4, 2) := by decide +kernel
theorem dM_states_15 : decode bM_states 15 = .ok (.ireturn, 1) := by decide +kernel
theorem dM_states_16 : decode bM_states 16 = .ok (.iload_n 3, 1) := by decide +kernel
theorem dM_states_17 : decode bM_states 17 = .ok (.tableswitch 55 0 3 #[31, 38, 45, 45], 31) := by decide +kernel
theorem dM_states_48 : decode bM_states 48 = .ok (.aload_n 0, 1) := by decide +kernel
theorem dM_states_49 : decode bM_states 49 = .ok (.iload_n 1, 1) := by decide +kernel
theorem dM_states_50 : decode bM_states 50 = .ok (.iload_n 2, 1) := by decide +kernel
theorem dM_states_51 : decode bM_states 51 = .ok (.invokevirtual 252, 3) := by decide +kernel
theorem dM_states_54 : decode bM_states 54 = .ok (.ireturn, 1) := by decide +kernel
theorem dM_states_55 : decode bM_states 55 = .ok (.aload_n 0, 1) := by decide +kernel
theorem dM_states_56 : decode bM_states 56 = .ok (.iload_n 1, 1) := by decide +kernel
theorem dM_states_57 : decode bM_states 57 = .ok (.iload_n 2, 1) := by decide +kernel
theorem dM_states_58 : decode bM_states 58 = .ok (.invokevirtual 255, 3) := by decide +kernel
theorem dM_states_61 : decode bM_states 61 = .ok (.ireturn, 1) := by decide +kernel
theorem dM_states_62 : decode bM_states 62 = .ok (.aload_n 0, 1) := by decide +kernel
theorem dM_states_63 : decode bM_states 63 = .ok (.iload_n 1, 1) := by decide +kernel
theorem dM_states_64 : decode bM_states 64 = .ok (.iload_n 2, 1) := by decide +kernel
theorem dM_states_65 : decode bM_states 65 = .ok (.iload_n 3, 1) := by decide +kernel
theorem dM_states_66 : decode bM_states 66 = .ok (.iconst 1, 1) := by decide +kernel
theorem dM_states_67 : decode bM_states 67 = .ok (.isub, 1) := by decide +kernel
theorem dM_states_68 : decode bM_states 68 = .ok (.invokevirtual 258, 3) := by decide +kernel
theorem dM_states_71 : decode bM_states 71 = .ok (.ireturn, 1) := by decide +kernel
theorem dM_states_72 : decode bM_states 72 = .ok (.bipush (-7), 2) := by decide +kernel
theorem dM_states_74 : decode bM_states 74 = .ok (.ireturn, 1) := by decide +kernel
theorem cM_states {l : Launch} {G : GT} {I : List Nat} (hI : mI I) {fu : Nat} {v1 : Int32} {v2 : Int32} {v3 : Int32} {z : Sg} {R1 : Int32} {Z : Sg} (h : pM_states fu v1 v2 v3 z = some (R1, Z)) : Mt l yM_states rmM_states bM_states 5 (some .int) G I z [.ref (gA G 78), .int v1, .int v2, .int v3] (Qi G I R1 Z) := by
  refine entM (by decide +kernel) (Nat.le_of_ble_eq_true rfl) ?_
  intro p e s m below meth c C hG ls hl
  have hl : lv_has ls 5 [(0, .ref (gA G 78)), (1, .int v1), (2, .int v2), (3, .int v3)] := hl
  unfold pM_states at h
  refine rAload_n C dM_states_0 hl 0 rfl ?_
  refine rIload_n C dM_states_1 hl 1 rfl ?_
  refine rIload_n C dM_states_2 hl 2 rfl ?_
  refine rCVi [.int v1, .int v2] [] C hG h (fun h => cM_toldWrong hI h) mvM_toldWrong k_1097 ⟨Nat.le_of_ble_eq_true rfl, Nat.le_of_ble_eq_true rfl⟩ ⟨rfl, rfl⟩ (rRecv C hG (hI 78 (by decide) (by decide)) e_78 rfl) rfl hl.1 (Nat.le_of_ble_eq_true rfl) dM_states_3 ⟨Nat.zero_le _, Nat.zero_le _⟩ rfl (fun H locs x2 z1 h hG => ?_)
  refine rIstoreA C dM_states_6 hl (by decide) [(0, .ref (gA G 78)), (1, .int v1), (2, .int v2), (3, .int v3)] rfl (fun ls hl => ?_)
  refine rIload C dM_states_8 hl 0 rfl ?_
  refine rIfeq C (tgt := 16) h dM_states_10 (by decide) (fun h => ?_) (fun h => ?_)
  · refine rIload_n C dM_states_16 hl 4 rfl ?_
    by_cases q17_0 : v3 = 0
    · replace h := ifP q17_0 h
      refine rSwT C dM_states_17 0 q17_0 (by decide) (off := 31) (tgt := 48) (by decide) (by decide) ?_
      refine rAload_n C dM_states_48 hl 1 rfl ?_
      refine rIload_n C dM_states_49 hl 2 rfl ?_
      refine rIload_n C dM_states_50 hl 3 rfl ?_
      refine rCVi [.int v1, .int v2] [] C hG h (fun h => cM_placesBy hI h) mvM_placesBy k_1117 ⟨Nat.le_of_ble_eq_true rfl, Nat.le_of_ble_eq_true rfl⟩ ⟨rfl, rfl⟩ (rRecv C hG (hI 78 (by decide) (by decide)) e_78 rfl) rfl hl.1 (Nat.le_of_ble_eq_true rfl) dM_states_51 ⟨Nat.zero_le _, Nat.zero_le _⟩ rfl (fun H locs x4 z3 h hG => ?_)
      exact rReti C hG h dM_states_54
    replace h := ifN q17_0 h
    by_cases q17_1 : v3 = 1
    · replace h := ifP q17_1 h
      refine rSwT C dM_states_17 1 q17_1 (by decide) (off := 38) (tgt := 55) (by decide) (by decide) ?_
      refine rAload_n C dM_states_55 hl 1 rfl ?_
      refine rIload_n C dM_states_56 hl 2 rfl ?_
      refine rIload_n C dM_states_57 hl 3 rfl ?_
      refine rCVi [.int v1, .int v2] [] C hG h (fun h => cM_swingsBy hI h) mvM_swingsBy k_1121 ⟨Nat.le_of_ble_eq_true rfl, Nat.le_of_ble_eq_true rfl⟩ ⟨rfl, rfl⟩ (rRecv C hG (hI 78 (by decide) (by decide)) e_78 rfl) rfl hl.1 (Nat.le_of_ble_eq_true rfl) dM_states_58 ⟨Nat.zero_le _, Nat.zero_le _⟩ rfl (fun H locs x6 z5 h hG => ?_)
      exact rReti C hG h dM_states_61
    replace h := ifN q17_1 h
    by_cases q17_2 : v3 = 2
    · replace h := ifP q17_2 h
      refine rSwT C dM_states_17 2 q17_2 (by decide) (off := 45) (tgt := 62) (by decide) (by decide) ?_
      refine rAload_n C dM_states_62 hl 1 rfl ?_
      refine rIload_n C dM_states_63 hl 2 rfl ?_
      refine rIload_n C dM_states_64 hl 3 rfl ?_
      refine rIload_n C dM_states_65 hl 4 rfl ?_
      refine lv_iconst (v := 1) C.1 C.2.1 dM_states_66 (by decide) ?_
      refine lv_isub C.1 C.2.1 dM_states_67 ?_
      refine rCVi [.int v1, .int v2, .int (v3 - 1)] [] C hG h (fun h => cM_rowBy hI h) mvM_rowBy k_1125 ⟨Nat.le_of_ble_eq_true rfl, Nat.le_of_ble_eq_true rfl⟩ ⟨rfl, rfl⟩ (rRecv C hG (hI 78 (by decide) (by decide)) e_78 rfl) rfl hl.1 (Nat.le_of_ble_eq_true rfl) dM_states_68 ⟨Nat.zero_le _, Nat.zero_le _⟩ rfl (fun H locs x8 z7 h hG => ?_)
      exact rReti C hG h dM_states_71
    replace h := ifN q17_2 h
    by_cases q17_3 : v3 = 3
    · replace h := ifP q17_3 h
      refine rSwT C dM_states_17 3 q17_3 (by decide) (off := 45) (tgt := 62) (by decide) (by decide) ?_
      refine rAload_n C dM_states_62 hl 1 rfl ?_
      refine rIload_n C dM_states_63 hl 2 rfl ?_
      refine rIload_n C dM_states_64 hl 3 rfl ?_
      refine rIload_n C dM_states_65 hl 4 rfl ?_
      refine lv_iconst (v := 1) C.1 C.2.1 dM_states_66 (by decide) ?_
      refine lv_isub C.1 C.2.1 dM_states_67 ?_
      refine rCVi [.int v1, .int v2, .int (v3 - 1)] [] C hG h (fun h => cM_rowBy hI h) mvM_rowBy k_1125 ⟨Nat.le_of_ble_eq_true rfl, Nat.le_of_ble_eq_true rfl⟩ ⟨rfl, rfl⟩ (rRecv C hG (hI 78 (by decide) (by decide)) e_78 rfl) rfl hl.1 (Nat.le_of_ble_eq_true rfl) dM_states_68 ⟨Nat.zero_le _, Nat.zero_le _⟩ rfl (fun H locs x10 z9 h hG => ?_)
      exact rReti C hG h dM_states_71
    replace h := ifN q17_3 h
    refine rSwD C dM_states_17 (tgt := 72) (by have q17_0n := ne_toInt (k := 0) q17_0 (by decide); have q17_1n := ne_toInt (k := 1) q17_1 (by decide); have q17_2n := ne_toInt (k := 2) q17_2 (by decide); have q17_3n := ne_toInt (k := 3) q17_3 (by decide); omega) (by decide) ?_
    refine lv_bipush (v := (-7)) C.1 C.2.1 dM_states_72 (by decide) ?_
    exact rReti C hG h dM_states_74
  · refine rIload C dM_states_13 hl 0 rfl ?_
    exact rReti C hG h dM_states_15
theorem dM_weary_0 : decode bM_weary 0 = .ok (.aload_n 0, 1) := by decide +kernel
theorem dM_weary_1 : decode bM_weary 1 = .ok (.iload_n 1, 1) := by decide +kernel
theorem dM_weary_2 : decode bM_weary 2 = .ok (.iload_n 2, 1) := by decide +kernel
theorem dM_weary_3 : decode bM_weary 3 = .ok (.invokevirtual 246, 3) := by decide +kernel
theorem dM_weary_6 : decode bM_weary 6 = .ok (.istore 4, 2) := by decide +kernel
theorem dM_weary_8 : decode bM_weary 8 = .ok (.iload 4, 2) := by decide +kernel
theorem dM_weary_10 : decode bM_weary 10 = .ok (.ifCond .eq 6, 3) := by decide +kernel
theorem dM_weary_13 : decode bM_weary 13 = .ok (.iload 4, 2) := by decide +kernel
theorem dM_weary_15 : decode bM_weary 15 = .ok (.ireturn, 1) := by decide +kernel
theorem dM_weary_16 : decode bM_weary 16 = .ok (.iload_n 3, 1) := by decide +kernel
theorem dM_weary_17 : decode bM_weary 17 = .ok (.iconst 0, 1) := by decide +kernel
theorem dM_weary_18 : decode bM_weary 18 = .ok (.iconst 1, 1) := by decide +kernel
theorem dM_weary_19 : decode bM_weary 19 = .ok (.invokestatic 81, 3) := by decide +kernel
theorem dM_weary_22 : decode bM_weary 22 = .ok (.ifCond .ne 6, 3) := by decide +kernel
theorem dM_weary_25 : decode bM_weary 25 = .ok (.bipush (-7), 2) := by decide +kernel
theorem dM_weary_27 : decode bM_weary 27 = .ok (.ireturn, 1) := by decide +kernel
theorem dM_weary_28 : decode bM_weary 28 = .ok (.aload_n 0, 1) := by decide +kernel
theorem dM_weary_29 : decode bM_weary 29 = .ok (.getfield 16, 3) := by decide +kernel
theorem dM_weary_32 : decode bM_weary 32 = .ok (.iconst 3, 1) := by decide +kernel
theorem dM_weary_33 : decode bM_weary 33 = .ok (.iload_n 2, 1) := by decide +kernel
theorem dM_weary_34 : decode bM_weary 34 = .ok (.imul, 1) := by decide +kernel
theorem dM_weary_35 : decode bM_weary 35 = .ok (.iconst 2, 1) := by decide +kernel
theorem dM_weary_36 : decode bM_weary 36 = .ok (.iadd, 1) := by decide +kernel
theorem dM_weary_37 : decode bM_weary 37 = .ok (.iaload, 1) := by decide +kernel
theorem dM_weary_38 : decode bM_weary 38 = .ok (.istore 5, 2) := by decide +kernel
theorem dM_weary_40 : decode bM_weary 40 = .ok (.iconst 0, 1) := by decide +kernel
theorem dM_weary_41 : decode bM_weary 41 = .ok (.istore 6, 2) := by decide +kernel
theorem dM_weary_43 : decode bM_weary 43 = .ok (.iconst (-1), 1) := by decide +kernel
theorem dM_weary_44 : decode bM_weary 44 = .ok (.istore 7, 2) := by decide +kernel
theorem dM_weary_46 : decode bM_weary 46 = .ok (.iconst 0, 1) := by decide +kernel
theorem dM_weary_47 : decode bM_weary 47 = .ok (.istore 8, 2) := by decide +kernel
theorem dM_weary_49 : decode bM_weary 49 = .ok (.iload 8, 2) := by decide +kernel
theorem dM_weary_51 : decode bM_weary 51 = .ok (.bipush 99, 2) := by decide +kernel
theorem dM_weary_53 : decode bM_weary 53 = .ok (.if_icmp .gt 73, 3) := by decide +kernel
theorem dM_weary_56 : decode bM_weary 56 = .ok (.aload_n 0, 1) := by decide +kernel
theorem dM_weary_57 : decode bM_weary 57 = .ok (.getfield 16, 3) := by decide +kernel
theorem dM_weary_60 : decode bM_weary 60 = .ok (.iconst 3, 1) := by decide +kernel
theorem dM_weary_61 : decode bM_weary 61 = .ok (.iload_n 2, 1) := by decide +kernel
theorem dM_weary_62 : decode bM_weary 62 = .ok (.imul, 1) := by decide +kernel
theorem dM_weary_63 : decode bM_weary 63 = .ok (.iconst 2, 1) := by decide +kernel
theorem dM_weary_64 : decode bM_weary 64 = .ok (.iadd, 1) := by decide +kernel
theorem dM_weary_65 : decode bM_weary 65 = .ok (.iload 8, 2) := by decide +kernel
theorem dM_weary_67 : decode bM_weary 67 = .ok (.iastore, 1) := by decide +kernel
theorem dM_weary_68 : decode bM_weary 68 = .ok (.aload_n 0, 1) := by decide +kernel
theorem dM_weary_69 : decode bM_weary 69 = .ok (.iload_n 1, 1) := by decide +kernel
theorem dM_weary_70 : decode bM_weary 70 = .ok (.iload_n 2, 1) := by decide +kernel
theorem dM_weary_71 : decode bM_weary 71 = .ok (.invokevirtual 249, 3) := by decide +kernel
theorem dM_weary_74 : decode bM_weary 74 = .ok (.iconst (-1), 1) := by decide +kernel
theorem dM_weary_75 : decode bM_weary 75 = .ok (.if_icmp .ne 7, 3) := by decide +kernel
theorem dM_weary_78 : decode bM_weary 78 = .ok (.iconst 1, 1) := by decide +kernel
theorem dM_weary_79 : decode bM_weary 79 = .ok (.goto 4, 3) := by decide +kernel
theorem dM_weary_82 : decode bM_weary 82 = .ok (.iconst 0, 1) := by decide +kernel
theorem dM_weary_83 : decode bM_weary 83 = .ok (.istore 9, 2) := by decide +kernel
theorem dM_weary_85 : decode bM_weary 85 = .ok (.iload 6, 2) := by decide +kernel
theorem dM_weary_87 : decode bM_weary 87 = .ok (.iload 9, 2) := by decide +kernel
theorem dM_weary_89 : decode bM_weary 89 = .ok (.ifCond .eq 7, 3) := by decide +kernel
theorem dM_weary_92 : decode bM_weary 92 = .ok (.iconst 1, 1) := by decide +kernel
theorem dM_weary_93 : decode bM_weary 93 = .ok (.goto 4, 3) := by decide +kernel
theorem dM_weary_96 : decode bM_weary 96 = .ok (.iconst 0, 1) := by decide +kernel
theorem dM_weary_97 : decode bM_weary 97 = .ok (.iadd, 1) := by decide +kernel
theorem dM_weary_98 : decode bM_weary 98 = .ok (.istore 6, 2) := by decide +kernel
theorem dM_weary_100 : decode bM_weary 100 = .ok (.iload 9, 2) := by decide +kernel
theorem dM_weary_102 : decode bM_weary 102 = .ok (.ifCond .eq 14, 3) := by decide +kernel
theorem dM_weary_105 : decode bM_weary 105 = .ok (.iload 7, 2) := by decide +kernel
theorem dM_weary_107 : decode bM_weary 107 = .ok (.iconst (-1), 1) := by decide +kernel
theorem dM_weary_108 : decode bM_weary 108 = .ok (.if_icmp .ne 8, 3) := by decide +kernel
theorem dM_weary_111 : decode bM_weary 111 = .ok (.iload 8, 2) := by decide +kernel
theorem dM_weary_113 : decode bM_weary 113 = .ok (.goto 5, 3) := by decide +kernel
theorem dM_weary_116 : decode bM_weary 116 = .ok (.iload 7, 2) := by decide +kernel
theorem dM_weary_118 : decode bM_weary 118 = .ok (.istore 7, 2) := by decide +kernel
theorem dM_weary_120 : decode bM_weary 120 = .ok (.iinc 8 1, 3) := by decide +kernel
theorem dM_weary_123 : decode bM_weary 123 = .ok (.goto (-74), 3) := by decide +kernel
theorem dM_weary_126 : decode bM_weary 126 = .ok (.aload_n 0, 1) := by decide +kernel
theorem dM_weary_127 : decode bM_weary 127 = .ok (.getfield 16, 3) := by decide +kernel
theorem dM_weary_130 : decode bM_weary 130 = .ok (.iconst 3, 1) := by decide +kernel
theorem dM_weary_131 : decode bM_weary 131 = .ok (.iload_n 2, 1) := by decide +kernel
theorem dM_weary_132 : decode bM_weary 132 = .ok (.imul, 1) := by decide +kernel
theorem dM_weary_133 : decode bM_weary 133 = .ok (.iconst 2, 1) := by decide +kernel
theorem dM_weary_134 : decode bM_weary 134 = .ok (.iadd, 1) := by decide +kernel
theorem dM_weary_135 : decode bM_weary 135 = .ok (.iload 5, 2) := by decide +kernel
theorem dM_weary_137 : decode bM_weary 137 = .ok (.iastore, 1) := by decide +kernel
theorem dM_weary_138 : decode bM_weary 138 = .ok (.iload_n 3, 1) := by decide +kernel
theorem dM_weary_139 : decode bM_weary 139 = .ok (.ifCond .ne 8, 3) := by decide +kernel
theorem dM_weary_142 : decode bM_weary 142 = .ok (.iload 6, 2) := by decide +kernel
theorem dM_weary_144 : decode bM_weary 144 = .ok (.goto 5, 3) := by decide +kernel
theorem dM_weary_147 : decode bM_weary 147 = .ok (.iload 7, 2) := by decide +kernel
theorem dM_weary_149 : decode bM_weary 149 = .ok (.ireturn, 1) := by decide +kernel
theorem wM_weary_118 {p : Program} {l : Launch} {e : Env} {s : State} {m : MethodId} {args : Array Value} {below : List Frame} {meth : Method} {c : Code} {G : GT} {I : List Nat} (C : CX p s m args meth c NM bM_weary 10 (some .int) G I) (hI : mI I) {fu : Nat} {R1 : Int32} {Z : Sg} {rc49 : Int32 → Int32 → Int32 → Int32 → Int32 → Int32 → Int32 → Sg → Option (Int32 × Sg)} (hr49 : ∀ {v1 : Int32} {v2 : Int32} {v3 : Int32} {v5 : Int32} {v6 : Int32} {v7 : Int32} {v8 : Int32} {z : Sg} {H : Heap} {locs : List Loc} {ls : Array Slot}, rc49 v1 v2 v3 v5 v6 v7 v8 z = some (R1, Z) → GW G I z s.heap H locs → lv_has ls 10 [(0, .ref (gA G 78)), (1, .int v1), (2, .int v2), (3, .int v3), (5, .int v5), (6, .int v6), (7, .int v7), (8, .int v8)] → W p l e rmM_weary s m args below meth c H locs 0 0 (MQ below (Qi G I R1 Z) args s 0 0 (AD G I)) (F0 m 49 ls [])) {v1 : Int32} {v2 : Int32} {v3 : Int32} {v5 : Int32} {v6 : Int32} {v8 : Int32} {t0 : Int32} {z : Sg} {H : Heap} {locs : List Loc} {ls : Array Slot} (h : pM_weary_118 fu rc49 v1 v2 v3 v5 v6 v8 t0 z = some (R1, Z)) (hG : GW G I z s.heap H locs) (hl : lv_has ls 10 [(0, .ref (gA G 78)), (1, .int v1), (2, .int v2), (3, .int v3), (5, .int v5), (6, .int v6), (8, .int v8)]) : W p l e rmM_weary s m args below meth c H locs 0 0 (MQ below (Qi G I R1 Z) args s 0 0 (AD G I)) (F0 m 118 ls [.int t0]) := by
  unfold pM_weary_118 at h
  refine rIstoreA C dM_weary_118 hl (by decide) [(0, .ref (gA G 78)), (1, .int v1), (2, .int v2), (3, .int v3), (5, .int v5), (6, .int v6), (8, .int v8)] rfl (fun ls hl => ?_)
  refine rIinc C dM_weary_120 hl 7 rfl (d := 1) (by decide) h (by decide) [(7, .int t0), (0, .ref (gA G 78)), (1, .int v1), (2, .int v2), (3, .int v3), (5, .int v5), (6, .int v6)] rfl (fun x11 ls h hl => ?_)
  refine lv_goto (tgt := 49) C.1 C.2.1 dM_weary_123 (by decide) ?_
  exact hr49 h hG (lv_sub hl [2, 3, 4, 5, 6, 7, 1, 0] rfl)
theorem wM_weary_116 {p : Program} {l : Launch} {e : Env} {s : State} {m : MethodId} {args : Array Value} {below : List Frame} {meth : Method} {c : Code} {G : GT} {I : List Nat} (C : CX p s m args meth c NM bM_weary 10 (some .int) G I) (hI : mI I) {fu : Nat} {R1 : Int32} {Z : Sg} {rc49 : Int32 → Int32 → Int32 → Int32 → Int32 → Int32 → Int32 → Sg → Option (Int32 × Sg)} (hr49 : ∀ {v1 : Int32} {v2 : Int32} {v3 : Int32} {v5 : Int32} {v6 : Int32} {v7 : Int32} {v8 : Int32} {z : Sg} {H : Heap} {locs : List Loc} {ls : Array Slot}, rc49 v1 v2 v3 v5 v6 v7 v8 z = some (R1, Z) → GW G I z s.heap H locs → lv_has ls 10 [(0, .ref (gA G 78)), (1, .int v1), (2, .int v2), (3, .int v3), (5, .int v5), (6, .int v6), (7, .int v7), (8, .int v8)] → W p l e rmM_weary s m args below meth c H locs 0 0 (MQ below (Qi G I R1 Z) args s 0 0 (AD G I)) (F0 m 49 ls [])) {v1 : Int32} {v2 : Int32} {v3 : Int32} {v5 : Int32} {v6 : Int32} {v7 : Int32} {v8 : Int32} {z : Sg} {H : Heap} {locs : List Loc} {ls : Array Slot} (h : pM_weary_116 fu rc49 v1 v2 v3 v5 v6 v7 v8 z = some (R1, Z)) (hG : GW G I z s.heap H locs) (hl : lv_has ls 10 [(0, .ref (gA G 78)), (1, .int v1), (2, .int v2), (3, .int v3), (5, .int v5), (6, .int v6), (7, .int v7), (8, .int v8)]) : W p l e rmM_weary s m args below meth c H locs 0 0 (MQ below (Qi G I R1 Z) args s 0 0 (AD G I)) (F0 m 116 ls []) := by
  unfold pM_weary_116 at h
  refine rIload C dM_weary_116 hl 6 rfl ?_
  exact wM_weary_118 C hI hr49 h hG (lv_sub hl [0, 1, 2, 3, 4, 5, 7] rfl)
theorem wM_weary_97 {p : Program} {l : Launch} {e : Env} {s : State} {m : MethodId} {args : Array Value} {below : List Frame} {meth : Method} {c : Code} {G : GT} {I : List Nat} (C : CX p s m args meth c NM bM_weary 10 (some .int) G I) (hI : mI I) {fu : Nat} {R1 : Int32} {Z : Sg} {rc49 : Int32 → Int32 → Int32 → Int32 → Int32 → Int32 → Int32 → Sg → Option (Int32 × Sg)} (hr49 : ∀ {v1 : Int32} {v2 : Int32} {v3 : Int32} {v5 : Int32} {v6 : Int32} {v7 : Int32} {v8 : Int32} {z : Sg} {H : Heap} {locs : List Loc} {ls : Array Slot}, rc49 v1 v2 v3 v5 v6 v7 v8 z = some (R1, Z) → GW G I z s.heap H locs → lv_has ls 10 [(0, .ref (gA G 78)), (1, .int v1), (2, .int v2), (3, .int v3), (5, .int v5), (6, .int v6), (7, .int v7), (8, .int v8)] → W p l e rmM_weary s m args below meth c H locs 0 0 (MQ below (Qi G I R1 Z) args s 0 0 (AD G I)) (F0 m 49 ls [])) {v1 : Int32} {v2 : Int32} {v3 : Int32} {v5 : Int32} {v7 : Int32} {v8 : Int32} {v9 : Int32} {t0 : Int32} {t1 : Int32} {z : Sg} {H : Heap} {locs : List Loc} {ls : Array Slot} (h : pM_weary_97 fu rc49 v1 v2 v3 v5 v7 v8 v9 t0 t1 z = some (R1, Z)) (hG : GW G I z s.heap H locs) (hl : lv_has ls 10 [(0, .ref (gA G 78)), (1, .int v1), (2, .int v2), (3, .int v3), (5, .int v5), (7, .int v7), (8, .int v8), (9, .int v9)]) : W p l e rmM_weary s m args below meth c H locs 0 0 (MQ below (Qi G I R1 Z) args s 0 0 (AD G I)) (F0 m 97 ls [.int t1, .int t0]) := by
  unfold pM_weary_97 at h
  refine lv_iadd C.1 C.2.1 dM_weary_97 ?_
  refine rIstore C dM_weary_98 hl h (by decide) [(0, .ref (gA G 78)), (1, .int v1), (2, .int v2), (3, .int v3), (5, .int v5), (7, .int v7), (8, .int v8), (9, .int v9)] rfl (fun x10 ls h hl => ?_)
  refine rIload C dM_weary_100 hl 8 rfl ?_
  refine rIfeq C (tgt := 116) h dM_weary_102 (by decide) (fun h => ?_) (fun h => ?_)
  · exact wM_weary_116 C hI hr49 h hG (lv_sub hl [1, 2, 3, 4, 5, 0, 6, 7] rfl)
  · refine rIload C dM_weary_105 hl 6 rfl ?_
    refine lv_iconst (v := (-1)) C.1 C.2.1 dM_weary_107 (by decide) ?_
    refine rIcmpne C (tgt := 116) h dM_weary_108 (by decide) (fun h => ?_) (fun h => ?_)
    · exact wM_weary_116 C hI hr49 h hG (lv_sub hl [1, 2, 3, 4, 5, 0, 6, 7] rfl)
    · refine rIload C dM_weary_111 hl 7 rfl ?_
      refine lv_goto (tgt := 118) C.1 C.2.1 dM_weary_113 (by decide) ?_
      exact wM_weary_118 C hI hr49 h hG (lv_sub hl [1, 2, 3, 4, 5, 0, 7] rfl)
theorem wM_weary_83 {p : Program} {l : Launch} {e : Env} {s : State} {m : MethodId} {args : Array Value} {below : List Frame} {meth : Method} {c : Code} {G : GT} {I : List Nat} (C : CX p s m args meth c NM bM_weary 10 (some .int) G I) (hI : mI I) {fu : Nat} {R1 : Int32} {Z : Sg} {rc49 : Int32 → Int32 → Int32 → Int32 → Int32 → Int32 → Int32 → Sg → Option (Int32 × Sg)} (hr49 : ∀ {v1 : Int32} {v2 : Int32} {v3 : Int32} {v5 : Int32} {v6 : Int32} {v7 : Int32} {v8 : Int32} {z : Sg} {H : Heap} {locs : List Loc} {ls : Array Slot}, rc49 v1 v2 v3 v5 v6 v7 v8 z = some (R1, Z) → GW G I z s.heap H locs → lv_has ls 10 [(0, .ref (gA G 78)), (1, .int v1), (2, .int v2), (3, .int v3), (5, .int v5), (6, .int v6), (7, .int v7), (8, .int v8)] → W p l e rmM_weary s m args below meth c H locs 0 0 (MQ below (Qi G I R1 Z) args s 0 0 (AD G I)) (F0 m 49 ls [])) {v1 : Int32} {v2 : Int32} {v3 : Int32} {v5 : Int32} {v6 : Int32} {v7 : Int32} {v8 : Int32} {t0 : Int32} {z : Sg} {H : Heap} {locs : List Loc} {ls : Array Slot} (h : pM_weary_83 fu rc49 v1 v2 v3 v5 v6 v7 v8 t0 z = some (R1, Z)) (hG : GW G I z s.heap H locs) (hl : lv_has ls 10 [(0, .ref (gA G 78)), (1, .int v1), (2, .int v2), (3, .int v3), (5, .int v5), (6, .int v6), (7, .int v7), (8, .int v8)]) : W p l e rmM_weary s m args below meth c H locs 0 0 (MQ below (Qi G I R1 Z) args s 0 0 (AD G I)) (F0 m 83 ls [.int t0]) := by
  unfold pM_weary_83 at h
  refine rIstoreA C dM_weary_83 hl (by decide) [(0, .ref (gA G 78)), (1, .int v1), (2, .int v2), (3, .int v3), (5, .int v5), (6, .int v6), (7, .int v7), (8, .int v8)] rfl (fun ls hl => ?_)
  refine rIload C dM_weary_85 hl 6 rfl ?_
  refine rIload C dM_weary_87 hl 0 rfl ?_
  refine rIfeq C (tgt := 96) h dM_weary_89 (by decide) (fun h => ?_) (fun h => ?_)
  · refine lv_iconst (v := 0) C.1 C.2.1 dM_weary_96 (by decide) ?_
    exact wM_weary_97 C hI hr49 h hG (lv_sub hl [1, 2, 3, 4, 5, 7, 8, 0] rfl)
  · refine lv_iconst (v := 1) C.1 C.2.1 dM_weary_92 (by decide) ?_
    refine lv_goto (tgt := 97) C.1 C.2.1 dM_weary_93 (by decide) ?_
    exact wM_weary_97 C hI hr49 h hG (lv_sub hl [1, 2, 3, 4, 5, 7, 8, 0] rfl)
theorem wM_weary_49 {p : Program} {l : Launch} {e : Env} {s : State} {m : MethodId} {args : Array Value} {below : List Frame} {meth : Method} {c : Code} {G : GT} {I : List Nat} (C : CX p s m args meth c NM bM_weary 10 (some .int) G I) (hI : mI I) {fu : Nat} {R1 : Int32} {Z : Sg} : ∀ (k : Nat) {v1 : Int32} {v2 : Int32} {v3 : Int32} {v5 : Int32} {v6 : Int32} {v7 : Int32} {v8 : Int32} {z : Sg} {H : Heap} {locs : List Loc} {ls : Array Slot}, pM_weary_49 fu k v1 v2 v3 v5 v6 v7 v8 z = some (R1, Z) → GW G I z s.heap H locs → lv_has ls 10 [(0, .ref (gA G 78)), (1, .int v1), (2, .int v2), (3, .int v3), (5, .int v5), (6, .int v6), (7, .int v7), (8, .int v8)] → W p l e rmM_weary s m args below meth c H locs 0 0 (MQ below (Qi G I R1 Z) args s 0 0 (AD G I)) (F0 m 49 ls []) := by
  intro k
  induction k with
  | zero => intro v1 v2 v3 v5 v6 v7 v8 z H locs ls h hG hl; rw [pM_weary_49] at h; cases h
  | succ k ih =>
    intro v1 v2 v3 v5 v6 v7 v8 z H locs ls h hG hl
    rw [pM_weary_49] at h
    refine rIload C dM_weary_49 hl 7 rfl ?_
    refine lv_bipush (v := 99) C.1 C.2.1 dM_weary_51 (by decide) ?_
    refine rIcmpgt C (tgt := 126) h dM_weary_53 (by decide) (fun h => ?_) (fun h => ?_)
    · refine rAload_n C dM_weary_126 hl 0 rfl ?_
      refine rGet C hG (hI 78 (by decide) (by decide)) e_78 fiM_3 (v := .ref (gA G 81)) rfl k_809 dM_weary_127 ?_
      refine lv_iconst (v := 3) C.1 C.2.1 dM_weary_130 (by decide) ?_
      refine rIload_n C dM_weary_131 hl 2 rfl ?_
      refine lv_imul C.1 C.2.1 dM_weary_132 ?_
      refine lv_iconst (v := 2) C.1 C.2.1 dM_weary_133 (by decide) ?_
      refine lv_iadd C.1 C.2.1 dM_weary_134 ?_
      refine rIload C dM_weary_135 hl 4 rfl ?_
      refine rIast C hG (hI 81 (by decide) (by decide)) e_81 h dM_weary_137 (fun H locs z6 h hG => ?_)
      refine rIload_n C dM_weary_138 hl 3 rfl ?_
      refine rIfne C (tgt := 147) h dM_weary_139 (by decide) (fun h => ?_) (fun h => ?_)
      · refine rIload C dM_weary_147 hl 6 rfl ?_
        exact rReti C hG h dM_weary_149
      · refine rIload C dM_weary_142 hl 5 rfl ?_
        refine lv_goto (tgt := 149) C.1 C.2.1 dM_weary_144 (by decide) ?_
        exact rReti C hG h dM_weary_149
    · refine rAload_n C dM_weary_56 hl 0 rfl ?_
      refine rGet C hG (hI 78 (by decide) (by decide)) e_78 fiM_3 (v := .ref (gA G 81)) rfl k_809 dM_weary_57 ?_
      refine lv_iconst (v := 3) C.1 C.2.1 dM_weary_60 (by decide) ?_
      refine rIload_n C dM_weary_61 hl 2 rfl ?_
      refine lv_imul C.1 C.2.1 dM_weary_62 ?_
      refine lv_iconst (v := 2) C.1 C.2.1 dM_weary_63 (by decide) ?_
      refine lv_iadd C.1 C.2.1 dM_weary_64 ?_
      refine rIload C dM_weary_65 hl 7 rfl ?_
      refine rIast C hG (hI 81 (by decide) (by decide)) e_81 h dM_weary_67 (fun H locs z7 h hG => ?_)
      refine rAload_n C dM_weary_68 hl 0 rfl ?_
      refine rIload_n C dM_weary_69 hl 1 rfl ?_
      refine rIload_n C dM_weary_70 hl 2 rfl ?_
      refine rCVi [.int v1, .int v2] [] C hG h (fun h => cM_unlike hI h) mvM_unlike k_1105 ⟨Nat.le_of_ble_eq_true rfl, Nat.le_of_ble_eq_true rfl⟩ ⟨rfl, rfl⟩ (rRecv C hG (hI 78 (by decide) (by decide)) e_78 rfl) rfl hl.1 (Nat.le_of_ble_eq_true rfl) dM_weary_71 ⟨Nat.zero_le _, Nat.zero_le _⟩ rfl (fun H locs x9 z8 h hG => ?_)
      refine lv_iconst (v := (-1)) C.1 C.2.1 dM_weary_74 (by decide) ?_
      refine rIcmpne C (tgt := 82) h dM_weary_75 (by decide) (fun h => ?_) (fun h => ?_)
      · refine lv_iconst (v := 0) C.1 C.2.1 dM_weary_82 (by decide) ?_
        exact wM_weary_83 C hI ih h hG (lv_sub hl [0, 1, 2, 3, 4, 5, 6, 7] rfl)
      · refine lv_iconst (v := 1) C.1 C.2.1 dM_weary_78 (by decide) ?_
        refine lv_goto (tgt := 83) C.1 C.2.1 dM_weary_79 (by decide) ?_
        exact wM_weary_83 C hI ih h hG (lv_sub hl [0, 1, 2, 3, 4, 5, 6, 7] rfl)
theorem cM_weary {l : Launch} {G : GT} {I : List Nat} (hI : mI I) {fu : Nat} {v1 : Int32} {v2 : Int32} {v3 : Int32} {z : Sg} {R1 : Int32} {Z : Sg} (h : pM_weary fu v1 v2 v3 z = some (R1, Z)) : Mt l yM_weary rmM_weary bM_weary 10 (some .int) G I z [.ref (gA G 78), .int v1, .int v2, .int v3] (Qi G I R1 Z) := by
  refine entM (by decide +kernel) (Nat.le_of_ble_eq_true rfl) ?_
  intro p e s m below meth c C hG ls hl
  have hl : lv_has ls 10 [(0, .ref (gA G 78)), (1, .int v1), (2, .int v2), (3, .int v3)] := hl
  unfold pM_weary at h
  refine rAload_n C dM_weary_0 hl 0 rfl ?_
  refine rIload_n C dM_weary_1 hl 1 rfl ?_
  refine rIload_n C dM_weary_2 hl 2 rfl ?_
  refine rCVi [.int v1, .int v2] [] C hG h (fun h => cM_toldWrong hI h) mvM_toldWrong k_1097 ⟨Nat.le_of_ble_eq_true rfl, Nat.le_of_ble_eq_true rfl⟩ ⟨rfl, rfl⟩ (rRecv C hG (hI 78 (by decide) (by decide)) e_78 rfl) rfl hl.1 (Nat.le_of_ble_eq_true rfl) dM_weary_3 ⟨Nat.zero_le _, Nat.zero_le _⟩ rfl (fun H locs x2 z1 h hG => ?_)
  refine rIstoreA C dM_weary_6 hl (by decide) [(0, .ref (gA G 78)), (1, .int v1), (2, .int v2), (3, .int v3)] rfl (fun ls hl => ?_)
  refine rIload C dM_weary_8 hl 0 rfl ?_
  refine rIfeq C (tgt := 16) h dM_weary_10 (by decide) (fun h => ?_) (fun h => ?_)
  · refine rIload_n C dM_weary_16 hl 4 rfl ?_
    refine lv_iconst (v := 0) C.1 C.2.1 dM_weary_17 (by decide) ?_
    refine lv_iconst (v := 1) C.1 C.2.1 dM_weary_18 (by decide) ?_
    refine rCSi [.int v3, .int 0, .int 1] [] C hG h (fun h => cM_in hI h) mvM_in k_767 ⟨Nat.le_of_ble_eq_true rfl, Nat.le_of_ble_eq_true rfl⟩ ⟨rfl, rfl⟩ rfl hl.1 (Nat.le_of_ble_eq_true rfl) dM_weary_19 ⟨Nat.zero_le _, Nat.zero_le _⟩ rfl (fun H locs x4 z3 h hG => ?_)
    refine rIfne C (tgt := 28) h dM_weary_22 (by decide) (fun h => ?_) (fun h => ?_)
    · refine rAload_n C dM_weary_28 hl 1 rfl ?_
      refine rGet C hG (hI 78 (by decide) (by decide)) e_78 fiM_3 (v := .ref (gA G 81)) rfl k_809 dM_weary_29 ?_
      refine lv_iconst (v := 3) C.1 C.2.1 dM_weary_32 (by decide) ?_
      refine rIload_n C dM_weary_33 hl 3 rfl ?_
      refine lv_imul C.1 C.2.1 dM_weary_34 ?_
      refine lv_iconst (v := 2) C.1 C.2.1 dM_weary_35 (by decide) ?_
      refine lv_iadd C.1 C.2.1 dM_weary_36 ?_
      refine rIald C hG (hI 81 (by decide) (by decide)) e_81 h dM_weary_37 (fun h => ?_)
      refine rIstore C dM_weary_38 hl h (by decide) [(4, .int x2), (0, .ref (gA G 78)), (1, .int v1), (2, .int v2), (3, .int v3)] rfl (fun x5 ls h hl => ?_)
      refine lv_iconst (v := 0) C.1 C.2.1 dM_weary_40 (by decide) ?_
      refine rIstoreA C dM_weary_41 hl (by decide) [(5, .int x5), (4, .int x2), (0, .ref (gA G 78)), (1, .int v1), (2, .int v2), (3, .int v3)] rfl (fun ls hl => ?_)
      refine lv_iconst (v := (-1)) C.1 C.2.1 dM_weary_43 (by decide) ?_
      refine rIstoreA C dM_weary_44 hl (by decide) [(6, .int 0), (5, .int x5), (4, .int x2), (0, .ref (gA G 78)), (1, .int v1), (2, .int v2), (3, .int v3)] rfl (fun ls hl => ?_)
      refine lv_iconst (v := 0) C.1 C.2.1 dM_weary_46 (by decide) ?_
      refine rIstoreA C dM_weary_47 hl (by decide) [(7, .int (-1)), (6, .int 0), (5, .int x5), (4, .int x2), (0, .ref (gA G 78)), (1, .int v1), (2, .int v2), (3, .int v3)] rfl (fun ls hl => ?_)
      exact wM_weary_49 C hI _ h hG (lv_sub hl [5, 6, 7, 8, 3, 2, 1, 0] rfl)
    · refine lv_bipush (v := (-7)) C.1 C.2.1 dM_weary_25 (by decide) ?_
      exact rReti C hG h dM_weary_27
  · refine rIload C dM_weary_13 hl 0 rfl ?_
    exact rReti C hG h dM_weary_15
theorem dM_whose_0 : decode bM_whose 0 = .ok (.aload_n 0, 1) := by decide +kernel
theorem dM_whose_1 : decode bM_whose 1 = .ok (.iload_n 1, 1) := by decide +kernel
theorem dM_whose_2 : decode bM_whose 2 = .ok (.invokevirtual 243, 3) := by decide +kernel
theorem dM_whose_5 : decode bM_whose 5 = .ok (.istore_n 2, 1) := by decide +kernel
theorem dM_whose_6 : decode bM_whose 6 = .ok (.iload_n 2, 1) := by decide +kernel
theorem dM_whose_7 : decode bM_whose 7 = .ok (.ifCond .eq 5, 3) := by decide +kernel
theorem dM_whose_10 : decode bM_whose 10 = .ok (.iload_n 2, 1) := by decide +kernel
theorem dM_whose_11 : decode bM_whose 11 = .ok (.ireturn, 1) := by decide +kernel
theorem dM_whose_12 : decode bM_whose 12 = .ok (.iconst 0, 1) := by decide +kernel
theorem dM_whose_13 : decode bM_whose 13 = .ok (.istore_n 3, 1) := by decide +kernel
theorem dM_whose_14 : decode bM_whose 14 = .ok (.iconst 0, 1) := by decide +kernel
theorem dM_whose_15 : decode bM_whose 15 = .ok (.istore 4, 2) := by decide +kernel
theorem dM_whose_17 : decode bM_whose 17 = .ok (.iload 4, 2) := by decide +kernel
theorem dM_whose_19 : decode bM_whose 19 = .ok (.aload_n 0, 1) := by decide +kernel
theorem dM_whose_20 : decode bM_whose 20 = .ok (.getfield 78, 3) := by decide +kernel
theorem dM_whose_23 : decode bM_whose 23 = .ok (.if_icmp .ge 31, 3) := by decide +kernel
theorem dM_whose_26 : decode bM_whose 26 = .ok (.iload_n 3, 1) := by decide +kernel
theorem dM_whose_27 : decode bM_whose 27 = .ok (.aload_n 0, 1) := by decide +kernel
theorem dM_whose_28 : decode bM_whose 28 = .ok (.iload_n 1, 1) := by decide +kernel
theorem dM_whose_29 : decode bM_whose 29 = .ok (.iload 4, 2) := by decide +kernel
theorem dM_whose_31 : decode bM_whose 31 = .ok (.invokevirtual 249, 3) := by decide +kernel
theorem dM_whose_34 : decode bM_whose 34 = .ok (.iconst (-1), 1) := by decide +kernel
theorem dM_whose_35 : decode bM_whose 35 = .ok (.if_icmp .ne 10, 3) := by decide +kernel
theorem dM_whose_38 : decode bM_whose 38 = .ok (.iconst 1, 1) := by decide +kernel
theorem dM_whose_39 : decode bM_whose 39 = .ok (.iload 4, 2) := by decide +kernel
theorem dM_whose_41 : decode bM_whose 41 = .ok (.ishl, 1) := by decide +kernel
theorem dM_whose_42 : decode bM_whose 42 = .ok (.goto 4, 3) := by decide +kernel
theorem dM_whose_45 : decode bM_whose 45 = .ok (.iconst 0, 1) := by decide +kernel
theorem dM_whose_46 : decode bM_whose 46 = .ok (.ior, 1) := by decide +kernel
theorem dM_whose_47 : decode bM_whose 47 = .ok (.istore_n 3, 1) := by decide +kernel
theorem dM_whose_48 : decode bM_whose 48 = .ok (.iinc 4 1, 3) := by decide +kernel
theorem dM_whose_51 : decode bM_whose 51 = .ok (.goto (-34), 3) := by decide +kernel
theorem dM_whose_54 : decode bM_whose 54 = .ok (.iload_n 3, 1) := by decide +kernel
theorem dM_whose_55 : decode bM_whose 55 = .ok (.ireturn, 1) := by decide +kernel
theorem wM_whose_46 {p : Program} {l : Launch} {e : Env} {s : State} {m : MethodId} {args : Array Value} {below : List Frame} {meth : Method} {c : Code} {G : GT} {I : List Nat} (C : CX p s m args meth c NM bM_whose 5 (some .int) G I) (hI : mI I) {fu : Nat} {R1 : Int32} {Z : Sg} {rc17 : Int32 → Int32 → Int32 → Sg → Option (Int32 × Sg)} (hr17 : ∀ {v1 : Int32} {v3 : Int32} {v4 : Int32} {z : Sg} {H : Heap} {locs : List Loc} {ls : Array Slot}, rc17 v1 v3 v4 z = some (R1, Z) → GW G I z s.heap H locs → lv_has ls 5 [(0, .ref (gA G 78)), (1, .int v1), (3, .int v3), (4, .int v4)] → W p l e rmM_whose s m args below meth c H locs 0 0 (MQ below (Qi G I R1 Z) args s 0 0 (AD G I)) (F0 m 17 ls [])) {v1 : Int32} {v4 : Int32} {t0 : Int32} {t1 : Int32} {z : Sg} {H : Heap} {locs : List Loc} {ls : Array Slot} (h : pM_whose_46 fu rc17 v1 v4 t0 t1 z = some (R1, Z)) (hG : GW G I z s.heap H locs) (hl : lv_has ls 5 [(0, .ref (gA G 78)), (1, .int v1), (4, .int v4)]) : W p l e rmM_whose s m args below meth c H locs 0 0 (MQ below (Qi G I R1 Z) args s 0 0 (AD G I)) (F0 m 46 ls [.int t1, .int t0]) := by
  unfold pM_whose_46 at h
  refine lv_ior C.1 C.2.1 dM_whose_46 ?_
  refine rIstore_n C dM_whose_47 hl h (by decide) [(0, .ref (gA G 78)), (1, .int v1), (4, .int v4)] rfl (fun x5 ls h hl => ?_)
  refine rIinc C dM_whose_48 hl 3 rfl (d := 1) (by decide) h (by decide) [(3, .int x5), (0, .ref (gA G 78)), (1, .int v1)] rfl (fun x6 ls h hl => ?_)
  refine lv_goto (tgt := 17) C.1 C.2.1 dM_whose_51 (by decide) ?_
  exact hr17 h hG (lv_sub hl [2, 3, 1, 0] rfl)
theorem wM_whose_17 {p : Program} {l : Launch} {e : Env} {s : State} {m : MethodId} {args : Array Value} {below : List Frame} {meth : Method} {c : Code} {G : GT} {I : List Nat} (C : CX p s m args meth c NM bM_whose 5 (some .int) G I) (hI : mI I) {fu : Nat} {R1 : Int32} {Z : Sg} : ∀ (k : Nat) {v1 : Int32} {v3 : Int32} {v4 : Int32} {z : Sg} {H : Heap} {locs : List Loc} {ls : Array Slot}, pM_whose_17 fu k v1 v3 v4 z = some (R1, Z) → GW G I z s.heap H locs → lv_has ls 5 [(0, .ref (gA G 78)), (1, .int v1), (3, .int v3), (4, .int v4)] → W p l e rmM_whose s m args below meth c H locs 0 0 (MQ below (Qi G I R1 Z) args s 0 0 (AD G I)) (F0 m 17 ls []) := by
  intro k
  induction k with
  | zero => intro v1 v3 v4 z H locs ls h hG hl; rw [pM_whose_17] at h; cases h
  | succ k ih =>
    intro v1 v3 v4 z H locs ls h hG hl
    rw [pM_whose_17] at h
    refine rIload C dM_whose_17 hl 3 rfl ?_
    refine rAload_n C dM_whose_19 hl 0 rfl ?_
    refine rGet C hG (hI 78 (by decide) (by decide)) e_78 fiM_0 (v := .int (z 78 0)) rfl k_806 dM_whose_20 ?_
    refine rIcmpge C (tgt := 54) h dM_whose_23 (by decide) (fun h => ?_) (fun h => ?_)
    · refine rIload_n C dM_whose_54 hl 2 rfl ?_
      exact rReti C hG h dM_whose_55
    · refine rIload_n C dM_whose_26 hl 2 rfl ?_
      refine rAload_n C dM_whose_27 hl 0 rfl ?_
      refine rIload_n C dM_whose_28 hl 1 rfl ?_
      refine rIload C dM_whose_29 hl 3 rfl ?_
      refine rCVi [.int v1, .int v4] [.int v3] C hG h (fun h => cM_unlike hI h) mvM_unlike k_1105 ⟨Nat.le_of_ble_eq_true rfl, Nat.le_of_ble_eq_true rfl⟩ ⟨rfl, rfl⟩ (rRecv C hG (hI 78 (by decide) (by decide)) e_78 rfl) rfl hl.1 (Nat.le_of_ble_eq_true rfl) dM_whose_31 ⟨Nat.zero_le _, Nat.zero_le _⟩ rfl (fun H locs x4 z3 h hG => ?_)
      refine lv_iconst (v := (-1)) C.1 C.2.1 dM_whose_34 (by decide) ?_
      refine rIcmpne C (tgt := 45) h dM_whose_35 (by decide) (fun h => ?_) (fun h => ?_)
      · refine lv_iconst (v := 0) C.1 C.2.1 dM_whose_45 (by decide) ?_
        exact wM_whose_46 C hI ih h hG (lv_sub hl [0, 1, 3] rfl)
      · refine lv_iconst (v := 1) C.1 C.2.1 dM_whose_38 (by decide) ?_
        refine rIload C dM_whose_39 hl 3 rfl ?_
        refine lv_ishl C.1 C.2.1 dM_whose_41 ?_
        refine lv_goto (tgt := 46) C.1 C.2.1 dM_whose_42 (by decide) ?_
        exact wM_whose_46 C hI ih h hG (lv_sub hl [0, 1, 3] rfl)
theorem cM_whose {l : Launch} {G : GT} {I : List Nat} (hI : mI I) {fu : Nat} {v1 : Int32} {z : Sg} {R1 : Int32} {Z : Sg} (h : pM_whose fu v1 z = some (R1, Z)) : Mt l yM_whose rmM_whose bM_whose 5 (some .int) G I z [.ref (gA G 78), .int v1] (Qi G I R1 Z) := by
  refine entM (by decide +kernel) (Nat.le_of_ble_eq_true rfl) ?_
  intro p e s m below meth c C hG ls hl
  have hl : lv_has ls 5 [(0, .ref (gA G 78)), (1, .int v1)] := hl
  unfold pM_whose at h
  refine rAload_n C dM_whose_0 hl 0 rfl ?_
  refine rIload_n C dM_whose_1 hl 1 rfl ?_
  refine rCVi [.int v1] [] C hG h (fun h => cM_sheetWrong hI h) mvM_sheetWrong k_1101 ⟨Nat.le_of_ble_eq_true rfl, Nat.le_of_ble_eq_true rfl⟩ ⟨rfl, rfl⟩ (rRecv C hG (hI 78 (by decide) (by decide)) e_78 rfl) rfl hl.1 (Nat.le_of_ble_eq_true rfl) dM_whose_2 ⟨Nat.zero_le _, Nat.zero_le _⟩ rfl (fun H locs x2 z1 h hG => ?_)
  refine rIstoreA_n C dM_whose_5 hl (by decide) [(0, .ref (gA G 78)), (1, .int v1)] rfl (fun ls hl => ?_)
  refine rIload_n C dM_whose_6 hl 0 rfl ?_
  refine rIfeq C (tgt := 12) h dM_whose_7 (by decide) (fun h => ?_) (fun h => ?_)
  · refine lv_iconst (v := 0) C.1 C.2.1 dM_whose_12 (by decide) ?_
    refine rIstoreA_n C dM_whose_13 hl (by decide) [(2, .int x2), (0, .ref (gA G 78)), (1, .int v1)] rfl (fun ls hl => ?_)
    refine lv_iconst (v := 0) C.1 C.2.1 dM_whose_14 (by decide) ?_
    refine rIstoreA C dM_whose_15 hl (by decide) [(3, .int 0), (2, .int x2), (0, .ref (gA G 78)), (1, .int v1)] rfl (fun ls hl => ?_)
    exact wM_whose_17 C hI _ h hG (lv_sub hl [3, 4, 1, 0] rfl)
  · refine rIload_n C dM_whose_10 hl 0 rfl ?_
    exact rReti C hG h dM_whose_11
theorem dM_laws_0 : decode bM_laws 0 = .ok (.aload_n 0, 1) := by decide +kernel
theorem dM_laws_1 : decode bM_laws 1 = .ok (.iload_n 1, 1) := by decide +kernel
theorem dM_laws_2 : decode bM_laws 2 = .ok (.iload_n 2, 1) := by decide +kernel
theorem dM_laws_3 : decode bM_laws 3 = .ok (.invokevirtual 246, 3) := by decide +kernel
theorem dM_laws_6 : decode bM_laws 6 = .ok (.istore_n 3, 1) := by decide +kernel
theorem dM_laws_7 : decode bM_laws 7 = .ok (.iload_n 3, 1) := by decide +kernel
theorem dM_laws_8 : decode bM_laws 8 = .ok (.ifCond .eq 5, 3) := by decide +kernel
theorem dM_laws_11 : decode bM_laws 11 = .ok (.iload_n 3, 1) := by decide +kernel
theorem dM_laws_12 : decode bM_laws 12 = .ok (.ireturn, 1) := by decide +kernel
theorem dM_laws_13 : decode bM_laws 13 = .ok (.aload_n 0, 1) := by decide +kernel
theorem dM_laws_14 : decode bM_laws 14 = .ok (.getfield 116, 3) := by decide +kernel
theorem dM_laws_17 : decode bM_laws 17 = .ok (.istore 4, 2) := by decide +kernel
theorem dM_laws_19 : decode bM_laws 19 = .ok (.iconst 0, 1) := by decide +kernel
theorem dM_laws_20 : decode bM_laws 20 = .ok (.istore 5, 2) := by decide +kernel
theorem dM_laws_22 : decode bM_laws 22 = .ok (.iconst 0, 1) := by decide +kernel
theorem dM_laws_23 : decode bM_laws 23 = .ok (.istore 6, 2) := by decide +kernel
theorem dM_laws_25 : decode bM_laws 25 = .ok (.iload 6, 2) := by decide +kernel
theorem dM_laws_27 : decode bM_laws 27 = .ok (.aload_n 0, 1) := by decide +kernel
theorem dM_laws_28 : decode bM_laws 28 = .ok (.getfield 113, 3) := by decide +kernel
theorem dM_laws_31 : decode bM_laws 31 = .ok (.if_icmp .ge 38, 3) := by decide +kernel
theorem dM_laws_34 : decode bM_laws 34 = .ok (.aload_n 0, 1) := by decide +kernel
theorem dM_laws_35 : decode bM_laws 35 = .ok (.iload 6, 2) := by decide +kernel
theorem dM_laws_37 : decode bM_laws 37 = .ok (.putfield 116, 3) := by decide +kernel
theorem dM_laws_40 : decode bM_laws 40 = .ok (.iload 5, 2) := by decide +kernel
theorem dM_laws_42 : decode bM_laws 42 = .ok (.aload_n 0, 1) := by decide +kernel
theorem dM_laws_43 : decode bM_laws 43 = .ok (.iload_n 1, 1) := by decide +kernel
theorem dM_laws_44 : decode bM_laws 44 = .ok (.iload_n 2, 1) := by decide +kernel
theorem dM_laws_45 : decode bM_laws 45 = .ok (.invokevirtual 249, 3) := by decide +kernel
theorem dM_laws_48 : decode bM_laws 48 = .ok (.iconst (-1), 1) := by decide +kernel
theorem dM_laws_49 : decode bM_laws 49 = .ok (.if_icmp .ne 10, 3) := by decide +kernel
theorem dM_laws_52 : decode bM_laws 52 = .ok (.iconst 1, 1) := by decide +kernel
theorem dM_laws_53 : decode bM_laws 53 = .ok (.iload 6, 2) := by decide +kernel
theorem dM_laws_55 : decode bM_laws 55 = .ok (.ishl, 1) := by decide +kernel
theorem dM_laws_56 : decode bM_laws 56 = .ok (.goto 4, 3) := by decide +kernel
theorem dM_laws_59 : decode bM_laws 59 = .ok (.iconst 0, 1) := by decide +kernel
theorem dM_laws_60 : decode bM_laws 60 = .ok (.ior, 1) := by decide +kernel
theorem dM_laws_61 : decode bM_laws 61 = .ok (.istore 5, 2) := by decide +kernel
theorem dM_laws_63 : decode bM_laws 63 = .ok (.iinc 6 1, 3) := by decide +kernel
theorem dM_laws_66 : decode bM_laws 66 = .ok (.goto (-41), 3) := by decide +kernel
theorem dM_laws_69 : decode bM_laws 69 = .ok (.aload_n 0, 1) := by decide +kernel
theorem dM_laws_70 : decode bM_laws 70 = .ok (.iload 4, 2) := by decide +kernel
theorem dM_laws_72 : decode bM_laws 72 = .ok (.putfield 116, 3) := by decide +kernel
theorem dM_laws_75 : decode bM_laws 75 = .ok (.iload 5, 2) := by decide +kernel
theorem dM_laws_77 : decode bM_laws 77 = .ok (.ireturn, 1) := by decide +kernel
theorem wM_laws_60 {p : Program} {l : Launch} {e : Env} {s : State} {m : MethodId} {args : Array Value} {below : List Frame} {meth : Method} {c : Code} {G : GT} {I : List Nat} (C : CX p s m args meth c NM bM_laws 7 (some .int) G I) (hI : mI I) {fu : Nat} {R1 : Int32} {Z : Sg} {rc25 : Int32 → Int32 → Int32 → Int32 → Int32 → Sg → Option (Int32 × Sg)} (hr25 : ∀ {v1 : Int32} {v2 : Int32} {v4 : Int32} {v5 : Int32} {v6 : Int32} {z : Sg} {H : Heap} {locs : List Loc} {ls : Array Slot}, rc25 v1 v2 v4 v5 v6 z = some (R1, Z) → GW G I z s.heap H locs → lv_has ls 7 [(0, .ref (gA G 78)), (1, .int v1), (2, .int v2), (4, .int v4), (5, .int v5), (6, .int v6)] → W p l e rmM_laws s m args below meth c H locs 0 0 (MQ below (Qi G I R1 Z) args s 0 0 (AD G I)) (F0 m 25 ls [])) {v1 : Int32} {v2 : Int32} {v4 : Int32} {v6 : Int32} {t0 : Int32} {t1 : Int32} {z : Sg} {H : Heap} {locs : List Loc} {ls : Array Slot} (h : pM_laws_60 fu rc25 v1 v2 v4 v6 t0 t1 z = some (R1, Z)) (hG : GW G I z s.heap H locs) (hl : lv_has ls 7 [(0, .ref (gA G 78)), (1, .int v1), (2, .int v2), (4, .int v4), (6, .int v6)]) : W p l e rmM_laws s m args below meth c H locs 0 0 (MQ below (Qi G I R1 Z) args s 0 0 (AD G I)) (F0 m 60 ls [.int t1, .int t0]) := by
  unfold pM_laws_60 at h
  refine lv_ior C.1 C.2.1 dM_laws_60 ?_
  refine rIstore C dM_laws_61 hl h (by decide) [(0, .ref (gA G 78)), (1, .int v1), (2, .int v2), (4, .int v4), (6, .int v6)] rfl (fun x8 ls h hl => ?_)
  refine rIinc C dM_laws_63 hl 5 rfl (d := 1) (by decide) h (by decide) [(5, .int x8), (0, .ref (gA G 78)), (1, .int v1), (2, .int v2), (4, .int v4)] rfl (fun x9 ls h hl => ?_)
  refine lv_goto (tgt := 25) C.1 C.2.1 dM_laws_66 (by decide) ?_
  exact hr25 h hG (lv_sub hl [2, 3, 4, 5, 1, 0] rfl)
theorem wM_laws_25 {p : Program} {l : Launch} {e : Env} {s : State} {m : MethodId} {args : Array Value} {below : List Frame} {meth : Method} {c : Code} {G : GT} {I : List Nat} (C : CX p s m args meth c NM bM_laws 7 (some .int) G I) (hI : mI I) {fu : Nat} {R1 : Int32} {Z : Sg} : ∀ (k : Nat) {v1 : Int32} {v2 : Int32} {v4 : Int32} {v5 : Int32} {v6 : Int32} {z : Sg} {H : Heap} {locs : List Loc} {ls : Array Slot}, pM_laws_25 fu k v1 v2 v4 v5 v6 z = some (R1, Z) → GW G I z s.heap H locs → lv_has ls 7 [(0, .ref (gA G 78)), (1, .int v1), (2, .int v2), (4, .int v4), (5, .int v5), (6, .int v6)] → W p l e rmM_laws s m args below meth c H locs 0 0 (MQ below (Qi G I R1 Z) args s 0 0 (AD G I)) (F0 m 25 ls []) := by
  intro k
  induction k with
  | zero => intro v1 v2 v4 v5 v6 z H locs ls h hG hl; rw [pM_laws_25] at h; cases h
  | succ k ih =>
    intro v1 v2 v4 v5 v6 z H locs ls h hG hl
    rw [pM_laws_25] at h
    refine rIload C dM_laws_25 hl 5 rfl ?_
    refine rAload_n C dM_laws_27 hl 0 rfl ?_
    refine rGet C hG (hI 78 (by decide) (by decide)) e_78 fiM_9 (v := .int (z 78 9)) rfl k_815 dM_laws_28 ?_
    refine rIcmpge C (tgt := 69) h dM_laws_31 (by decide) (fun h => ?_) (fun h => ?_)
    · refine rAload_n C dM_laws_69 hl 0 rfl ?_
      refine rIload C dM_laws_70 hl 3 rfl ?_
      refine rPut C hG (hI 78 (by decide) (by decide)) e_78 fiM_10 tokM nmM rfl (fpM_10 _) (Nat.le_of_ble_eq_true rfl) rfl rfl k_816 h dM_laws_72 (fun H locs z4 h hG => ?_)
      refine rIload C dM_laws_75 hl 4 rfl ?_
      exact rReti C hG h dM_laws_77
    · refine rAload_n C dM_laws_34 hl 0 rfl ?_
      refine rIload C dM_laws_35 hl 5 rfl ?_
      refine rPut C hG (hI 78 (by decide) (by decide)) e_78 fiM_10 tokM nmM rfl (fpM_10 _) (Nat.le_of_ble_eq_true rfl) rfl rfl k_816 h dM_laws_37 (fun H locs z5 h hG => ?_)
      refine rIload C dM_laws_40 hl 4 rfl ?_
      refine rAload_n C dM_laws_42 hl 0 rfl ?_
      refine rIload_n C dM_laws_43 hl 1 rfl ?_
      refine rIload_n C dM_laws_44 hl 2 rfl ?_
      refine rCVi [.int v1, .int v2] [.int v5] C hG h (fun h => cM_unlike hI h) mvM_unlike k_1105 ⟨Nat.le_of_ble_eq_true rfl, Nat.le_of_ble_eq_true rfl⟩ ⟨rfl, rfl⟩ (rRecv C hG (hI 78 (by decide) (by decide)) e_78 rfl) rfl hl.1 (Nat.le_of_ble_eq_true rfl) dM_laws_45 ⟨Nat.zero_le _, Nat.zero_le _⟩ rfl (fun H locs x7 z6 h hG => ?_)
      refine lv_iconst (v := (-1)) C.1 C.2.1 dM_laws_48 (by decide) ?_
      refine rIcmpne C (tgt := 59) h dM_laws_49 (by decide) (fun h => ?_) (fun h => ?_)
      · refine lv_iconst (v := 0) C.1 C.2.1 dM_laws_59 (by decide) ?_
        exact wM_laws_60 C hI ih h hG (lv_sub hl [0, 1, 2, 3, 5] rfl)
      · refine lv_iconst (v := 1) C.1 C.2.1 dM_laws_52 (by decide) ?_
        refine rIload C dM_laws_53 hl 5 rfl ?_
        refine lv_ishl C.1 C.2.1 dM_laws_55 ?_
        refine lv_goto (tgt := 60) C.1 C.2.1 dM_laws_56 (by decide) ?_
        exact wM_laws_60 C hI ih h hG (lv_sub hl [0, 1, 2, 3, 5] rfl)
theorem cM_laws {l : Launch} {G : GT} {I : List Nat} (hI : mI I) {fu : Nat} {v1 : Int32} {v2 : Int32} {z : Sg} {R1 : Int32} {Z : Sg} (h : pM_laws fu v1 v2 z = some (R1, Z)) : Mt l yM_laws rmM_laws bM_laws 7 (some .int) G I z [.ref (gA G 78), .int v1, .int v2] (Qi G I R1 Z) := by
  refine entM (by decide +kernel) (Nat.le_of_ble_eq_true rfl) ?_
  intro p e s m below meth c C hG ls hl
  have hl : lv_has ls 7 [(0, .ref (gA G 78)), (1, .int v1), (2, .int v2)] := hl
  unfold pM_laws at h
  refine rAload_n C dM_laws_0 hl 0 rfl ?_
  refine rIload_n C dM_laws_1 hl 1 rfl ?_
  refine rIload_n C dM_laws_2 hl 2 rfl ?_
  refine rCVi [.int v1, .int v2] [] C hG h (fun h => cM_toldWrong hI h) mvM_toldWrong k_1097 ⟨Nat.le_of_ble_eq_true rfl, Nat.le_of_ble_eq_true rfl⟩ ⟨rfl, rfl⟩ (rRecv C hG (hI 78 (by decide) (by decide)) e_78 rfl) rfl hl.1 (Nat.le_of_ble_eq_true rfl) dM_laws_3 ⟨Nat.zero_le _, Nat.zero_le _⟩ rfl (fun H locs x2 z1 h hG => ?_)
  refine rIstoreA_n C dM_laws_6 hl (by decide) [(0, .ref (gA G 78)), (1, .int v1), (2, .int v2)] rfl (fun ls hl => ?_)
  refine rIload_n C dM_laws_7 hl 0 rfl ?_
  refine rIfeq C (tgt := 13) h dM_laws_8 (by decide) (fun h => ?_) (fun h => ?_)
  · refine rAload_n C dM_laws_13 hl 1 rfl ?_
    refine rGet C hG (hI 78 (by decide) (by decide)) e_78 fiM_10 (v := .int (z1 78 10)) rfl k_816 dM_laws_14 ?_
    refine rIstore C dM_laws_17 hl h (by decide) [(3, .int x2), (0, .ref (gA G 78)), (1, .int v1), (2, .int v2)] rfl (fun x3 ls h hl => ?_)
    refine lv_iconst (v := 0) C.1 C.2.1 dM_laws_19 (by decide) ?_
    refine rIstoreA C dM_laws_20 hl (by decide) [(4, .int x3), (3, .int x2), (0, .ref (gA G 78)), (1, .int v1), (2, .int v2)] rfl (fun ls hl => ?_)
    refine lv_iconst (v := 0) C.1 C.2.1 dM_laws_22 (by decide) ?_
    refine rIstoreA C dM_laws_23 hl (by decide) [(5, .int 0), (4, .int x3), (3, .int x2), (0, .ref (gA G 78)), (1, .int v1), (2, .int v2)] rfl (fun ls hl => ?_)
    exact wM_laws_25 C hI _ h hG (lv_sub hl [4, 5, 6, 2, 1, 0] rfl)
  · refine rIload_n C dM_laws_11 hl 0 rfl ?_
    exact rReti C hG h dM_laws_12
theorem dM_film_0 : decode bM_film 0 = .ok (.iload_n 1, 1) := by decide +kernel
theorem dM_film_1 : decode bM_film 1 = .ok (.iconst 0, 1) := by decide +kernel
theorem dM_film_2 : decode bM_film 2 = .ok (.iconst 3, 1) := by decide +kernel
theorem dM_film_3 : decode bM_film 3 = .ok (.invokestatic 81, 3) := by decide +kernel
theorem dM_film_6 : decode bM_film 6 = .ok (.ifCond .ne 6, 3) := by decide +kernel
theorem dM_film_9 : decode bM_film 9 = .ok (.bipush (-2), 2) := by decide +kernel
theorem dM_film_11 : decode bM_film 11 = .ok (.ireturn, 1) := by decide +kernel
theorem dM_film_12 : decode bM_film 12 = .ok (.aload_n 0, 1) := by decide +kernel
theorem dM_film_13 : decode bM_film 13 = .ok (.iload_n 2, 1) := by decide +kernel
theorem dM_film_14 : decode bM_film 14 = .ok (.invokevirtual 186, 3) := by decide +kernel
theorem dM_film_17 : decode bM_film 17 = .ok (.ifCond .ne 6, 3) := by decide +kernel
theorem dM_film_20 : decode bM_film 20 = .ok (.bipush (-5), 2) := by decide +kernel
theorem dM_film_22 : decode bM_film 22 = .ok (.ireturn, 1) := by decide +kernel
theorem dM_film_23 : decode bM_film 23 = .ok (.iload_n 3, 1) := by decide +kernel
theorem dM_film_24 : decode bM_film 24 = .ok (.iconst 0, 1) := by decide +kernel
theorem dM_film_25 : decode bM_film 25 = .ok (.bipush 20, 2) := by decide +kernel
theorem dM_film_27 : decode bM_film 27 = .ok (.invokestatic 81, 3) := by decide +kernel
theorem dM_film_30 : decode bM_film 30 = .ok (.ifCond .ne 6, 3) := by decide +kernel
theorem dM_film_33 : decode bM_film 33 = .ok (.bipush (-7), 2) := by decide +kernel
theorem dM_film_35 : decode bM_film 35 = .ok (.ireturn, 1) := by decide +kernel
theorem dM_film_36 : decode bM_film 36 = .ok (.aload_n 0, 1) := by decide +kernel
theorem dM_film_37 : decode bM_film 37 = .ok (.getfield 37, 3) := by decide +kernel
theorem dM_film_40 : decode bM_film 40 = .ok (.iload_n 1, 1) := by decide +kernel
theorem dM_film_41 : decode bM_film 41 = .ok (.iconst 0, 1) := by decide +kernel
theorem dM_film_42 : decode bM_film 42 = .ok (.iastore, 1) := by decide +kernel
theorem dM_film_43 : decode bM_film 43 = .ok (.aload_n 0, 1) := by decide +kernel
theorem dM_film_44 : decode bM_film 44 = .ok (.getfield 40, 3) := by decide +kernel
theorem dM_film_47 : decode bM_film 47 = .ok (.iload_n 1, 1) := by decide +kernel
theorem dM_film_48 : decode bM_film 48 = .ok (.iload_n 3, 1) := by decide +kernel
theorem dM_film_49 : decode bM_film 49 = .ok (.iastore, 1) := by decide +kernel
theorem dM_film_50 : decode bM_film 50 = .ok (.aload_n 0, 1) := by decide +kernel
theorem dM_film_51 : decode bM_film 51 = .ok (.invokevirtual 210, 3) := by decide +kernel
theorem dM_film_54 : decode bM_film 54 = .ok (.iconst 0, 1) := by decide +kernel
theorem dM_film_55 : decode bM_film 55 = .ok (.istore 4, 2) := by decide +kernel
theorem dM_film_57 : decode bM_film 57 = .ok (.iload 4, 2) := by decide +kernel
theorem dM_film_59 : decode bM_film 59 = .ok (.bipush 40, 2) := by decide +kernel
theorem dM_film_61 : decode bM_film 61 = .ok (.if_icmp .ge 55, 3) := by decide +kernel
theorem dM_film_64 : decode bM_film 64 = .ok (.aload_n 0, 1) := by decide +kernel
theorem dM_film_65 : decode bM_film 65 = .ok (.getfield 43, 3) := by decide +kernel
theorem dM_film_68 : decode bM_film 68 = .ok (.bipush 40, 2) := by decide +kernel
theorem dM_film_70 : decode bM_film 70 = .ok (.iload_n 1, 1) := by decide +kernel
theorem dM_film_71 : decode bM_film 71 = .ok (.imul, 1) := by decide +kernel
theorem dM_film_72 : decode bM_film 72 = .ok (.iload 4, 2) := by decide +kernel
theorem dM_film_74 : decode bM_film 74 = .ok (.iadd, 1) := by decide +kernel
theorem dM_film_75 : decode bM_film 75 = .ok (.iconst 0, 1) := by decide +kernel
theorem dM_film_76 : decode bM_film 76 = .ok (.iastore, 1) := by decide +kernel
theorem dM_film_77 : decode bM_film 77 = .ok (.iload 4, 2) := by decide +kernel
theorem dM_film_79 : decode bM_film 79 = .ok (.iload_n 3, 1) := by decide +kernel
theorem dM_film_80 : decode bM_film 80 = .ok (.if_icmp .ge 30, 3) := by decide +kernel
theorem dM_film_83 : decode bM_film 83 = .ok (.aload_n 0, 1) := by decide +kernel
theorem dM_film_84 : decode bM_film 84 = .ok (.invokevirtual 204, 3) := by decide +kernel
theorem dM_film_87 : decode bM_film 87 = .ok (.pop, 1) := by decide +kernel
theorem dM_film_88 : decode bM_film 88 = .ok (.aload_n 0, 1) := by decide +kernel
theorem dM_film_89 : decode bM_film 89 = .ok (.getfield 43, 3) := by decide +kernel
theorem dM_film_92 : decode bM_film 92 = .ok (.bipush 40, 2) := by decide +kernel
theorem dM_film_94 : decode bM_film 94 = .ok (.iload_n 1, 1) := by decide +kernel
theorem dM_film_95 : decode bM_film 95 = .ok (.imul, 1) := by decide +kernel
theorem dM_film_96 : decode bM_film 96 = .ok (.iload 4, 2) := by decide +kernel
theorem dM_film_98 : decode bM_film 98 = .ok (.iadd, 1) := by decide +kernel
theorem dM_film_99 : decode bM_film 99 = .ok (.aload_n 0, 1) := by decide +kernel
theorem dM_film_100 : decode bM_film 100 = .ok (.getfield 16, 3) := by decide +kernel
theorem dM_film_103 : decode bM_film 103 = .ok (.iconst 3, 1) := by decide +kernel
theorem dM_film_104 : decode bM_film 104 = .ok (.iload_n 2, 1) := by decide +kernel
theorem dM_film_105 : decode bM_film 105 = .ok (.imul, 1) := by decide +kernel
theorem dM_film_106 : decode bM_film 106 = .ok (.iconst 1, 1) := by decide +kernel
theorem dM_film_107 : decode bM_film 107 = .ok (.iadd, 1) := by decide +kernel
theorem dM_film_108 : decode bM_film 108 = .ok (.iaload, 1) := by decide +kernel
theorem dM_film_109 : decode bM_film 109 = .ok (.iastore, 1) := by decide +kernel
theorem dM_film_110 : decode bM_film 110 = .ok (.iinc 4 1, 3) := by decide +kernel
theorem dM_film_113 : decode bM_film 113 = .ok (.goto (-56), 3) := by decide +kernel
theorem dM_film_116 : decode bM_film 116 = .ok (.aload_n 0, 1) := by decide +kernel
theorem dM_film_117 : decode bM_film 117 = .ok (.invokevirtual 219, 3) := by decide +kernel
theorem dM_film_120 : decode bM_film 120 = .ok (.iload_n 3, 1) := by decide +kernel
theorem dM_film_121 : decode bM_film 121 = .ok (.ireturn, 1) := by decide +kernel
theorem wM_film_110 {p : Program} {l : Launch} {e : Env} {s : State} {m : MethodId} {args : Array Value} {below : List Frame} {meth : Method} {c : Code} {G : GT} {I : List Nat} (C : CX p s m args meth c NM bM_film 5 (some .int) G I) (hI : mI I) {fu : Nat} {R1 : Int32} {Z : Sg} {rc57 : Int32 → Int32 → Int32 → Int32 → Sg → Option (Int32 × Sg)} (hr57 : ∀ {v1 : Int32} {v2 : Int32} {v3 : Int32} {v4 : Int32} {z : Sg} {H : Heap} {locs : List Loc} {ls : Array Slot}, rc57 v1 v2 v3 v4 z = some (R1, Z) → GW G I z s.heap H locs → lv_has ls 5 [(0, .ref (gA G 78)), (1, .int v1), (2, .int v2), (3, .int v3), (4, .int v4)] → W p l e rmM_film s m args below meth c H locs 0 0 (MQ below (Qi G I R1 Z) args s 0 0 (AD G I)) (F0 m 57 ls [])) {v1 : Int32} {v2 : Int32} {v3 : Int32} {v4 : Int32} {z : Sg} {H : Heap} {locs : List Loc} {ls : Array Slot} (h : pM_film_110 fu rc57 v1 v2 v3 v4 z = some (R1, Z)) (hG : GW G I z s.heap H locs) (hl : lv_has ls 5 [(0, .ref (gA G 78)), (1, .int v1), (2, .int v2), (3, .int v3), (4, .int v4)]) : W p l e rmM_film s m args below meth c H locs 0 0 (MQ below (Qi G I R1 Z) args s 0 0 (AD G I)) (F0 m 110 ls []) := by
  unfold pM_film_110 at h
  refine rIinc C dM_film_110 hl 4 rfl (d := 1) (by decide) h (by decide) [(0, .ref (gA G 78)), (1, .int v1), (2, .int v2), (3, .int v3)] rfl (fun x15 ls h hl => ?_)
  refine lv_goto (tgt := 57) C.1 C.2.1 dM_film_113 (by decide) ?_
  exact hr57 h hG (lv_sub hl [1, 2, 3, 4, 0] rfl)
theorem wM_film_57 {p : Program} {l : Launch} {e : Env} {s : State} {m : MethodId} {args : Array Value} {below : List Frame} {meth : Method} {c : Code} {G : GT} {I : List Nat} (C : CX p s m args meth c NM bM_film 5 (some .int) G I) (hI : mI I) {fu : Nat} {R1 : Int32} {Z : Sg} : ∀ (k : Nat) {v1 : Int32} {v2 : Int32} {v3 : Int32} {v4 : Int32} {z : Sg} {H : Heap} {locs : List Loc} {ls : Array Slot}, pM_film_57 fu k v1 v2 v3 v4 z = some (R1, Z) → GW G I z s.heap H locs → lv_has ls 5 [(0, .ref (gA G 78)), (1, .int v1), (2, .int v2), (3, .int v3), (4, .int v4)] → W p l e rmM_film s m args below meth c H locs 0 0 (MQ below (Qi G I R1 Z) args s 0 0 (AD G I)) (F0 m 57 ls []) := by
  intro k
  induction k with
  | zero => intro v1 v2 v3 v4 z H locs ls h hG hl; rw [pM_film_57] at h; cases h
  | succ k ih =>
    intro v1 v2 v3 v4 z H locs ls h hG hl
    rw [pM_film_57] at h
    refine rIload C dM_film_57 hl 4 rfl ?_
    refine lv_bipush (v := 40) C.1 C.2.1 dM_film_59 (by decide) ?_
    refine rIcmpge C (tgt := 116) h dM_film_61 (by decide) (fun h => ?_) (fun h => ?_)
    · refine rAload_n C dM_film_116 hl 0 rfl ?_
      refine rCVv [] [] C hG h (fun h => cM_lays hI h) mvM_lays k_1041 ⟨Nat.le_of_ble_eq_true rfl, Nat.le_of_ble_eq_true rfl⟩ ⟨rfl, rfl⟩ (rRecv C hG (hI 78 (by decide) (by decide)) e_78 rfl) rfl hl.1 (Nat.le_of_ble_eq_true rfl) dM_film_117 ⟨Nat.zero_le _, Nat.zero_le _⟩ rfl (fun H locs z10 h hG => ?_)
      refine rIload_n C dM_film_120 hl 3 rfl ?_
      exact rReti C hG h dM_film_121
    · refine rAload_n C dM_film_64 hl 0 rfl ?_
      refine rGet C hG (hI 78 (by decide) (by decide)) e_78 fiM_16 (v := .ref (gA G 90)) rfl k_822 dM_film_65 ?_
      refine lv_bipush (v := 40) C.1 C.2.1 dM_film_68 (by decide) ?_
      refine rIload_n C dM_film_70 hl 1 rfl ?_
      refine lv_imul C.1 C.2.1 dM_film_71 ?_
      refine rIload C dM_film_72 hl 4 rfl ?_
      refine lv_iadd C.1 C.2.1 dM_film_74 ?_
      refine lv_iconst (v := 0) C.1 C.2.1 dM_film_75 (by decide) ?_
      refine rIast C hG (hI 90 (by decide) (by decide)) e_90 h dM_film_76 (fun H locs z11 h hG => ?_)
      refine rIload C dM_film_77 hl 4 rfl ?_
      refine rIload_n C dM_film_79 hl 3 rfl ?_
      refine rIcmpge C (tgt := 110) h dM_film_80 (by decide) (fun h => ?_) (fun h => ?_)
      · exact wM_film_110 C hI ih h hG (lv_sub hl [0, 1, 2, 3, 4] rfl)
      · refine rAload_n C dM_film_83 hl 0 rfl ?_
        refine rCVi [] [] C hG h (fun h => cM_strokeOf hI h) mvM_strokeOf k_1017 ⟨Nat.le_of_ble_eq_true rfl, Nat.le_of_ble_eq_true rfl⟩ ⟨rfl, rfl⟩ (rRecv C hG (hI 78 (by decide) (by decide)) e_78 rfl) rfl hl.1 (Nat.le_of_ble_eq_true rfl) dM_film_84 ⟨Nat.zero_le _, Nat.zero_le _⟩ rfl (fun H locs x13 z12 h hG => ?_)
        refine lv_pop C.1 C.2.1 dM_film_87 rfl ?_
        refine rAload_n C dM_film_88 hl 0 rfl ?_
        refine rGet C hG (hI 78 (by decide) (by decide)) e_78 fiM_16 (v := .ref (gA G 90)) rfl k_822 dM_film_89 ?_
        refine lv_bipush (v := 40) C.1 C.2.1 dM_film_92 (by decide) ?_
        refine rIload_n C dM_film_94 hl 1 rfl ?_
        refine lv_imul C.1 C.2.1 dM_film_95 ?_
        refine rIload C dM_film_96 hl 4 rfl ?_
        refine lv_iadd C.1 C.2.1 dM_film_98 ?_
        refine rAload_n C dM_film_99 hl 0 rfl ?_
        refine rGet C hG (hI 78 (by decide) (by decide)) e_78 fiM_3 (v := .ref (gA G 81)) rfl k_809 dM_film_100 ?_
        refine lv_iconst (v := 3) C.1 C.2.1 dM_film_103 (by decide) ?_
        refine rIload_n C dM_film_104 hl 2 rfl ?_
        refine lv_imul C.1 C.2.1 dM_film_105 ?_
        refine lv_iconst (v := 1) C.1 C.2.1 dM_film_106 (by decide) ?_
        refine lv_iadd C.1 C.2.1 dM_film_107 ?_
        refine rIald C hG (hI 81 (by decide) (by decide)) e_81 h dM_film_108 (fun h => ?_)
        refine rIast C hG (hI 90 (by decide) (by decide)) e_90 h dM_film_109 (fun H locs z14 h hG => ?_)
        exact wM_film_110 C hI ih h hG (lv_sub hl [0, 1, 2, 3, 4] rfl)
theorem cM_film {l : Launch} {G : GT} {I : List Nat} (hI : mI I) {fu : Nat} {v1 : Int32} {v2 : Int32} {v3 : Int32} {z : Sg} {R1 : Int32} {Z : Sg} (h : pM_film fu v1 v2 v3 z = some (R1, Z)) : Mt l yM_film rmM_film bM_film 5 (some .int) G I z [.ref (gA G 78), .int v1, .int v2, .int v3] (Qi G I R1 Z) := by
  refine entM (by decide +kernel) (Nat.le_of_ble_eq_true rfl) ?_
  intro p e s m below meth c C hG ls hl
  have hl : lv_has ls 5 [(0, .ref (gA G 78)), (1, .int v1), (2, .int v2), (3, .int v3)] := hl
  unfold pM_film at h
  refine rIload_n C dM_film_0 hl 1 rfl ?_
  refine lv_iconst (v := 0) C.1 C.2.1 dM_film_1 (by decide) ?_
  refine lv_iconst (v := 3) C.1 C.2.1 dM_film_2 (by decide) ?_
  refine rCSi [.int v1, .int 0, .int 3] [] C hG h (fun h => cM_in hI h) mvM_in k_767 ⟨Nat.le_of_ble_eq_true rfl, Nat.le_of_ble_eq_true rfl⟩ ⟨rfl, rfl⟩ rfl hl.1 (Nat.le_of_ble_eq_true rfl) dM_film_3 ⟨Nat.zero_le _, Nat.zero_le _⟩ rfl (fun H locs x2 z1 h hG => ?_)
  refine rIfne C (tgt := 12) h dM_film_6 (by decide) (fun h => ?_) (fun h => ?_)
  · refine rAload_n C dM_film_12 hl 0 rfl ?_
    refine rIload_n C dM_film_13 hl 2 rfl ?_
    refine rCVi [.int v2] [] C hG h (fun h => cM_isOne hI h) mvM_isOne k_948 ⟨Nat.le_of_ble_eq_true rfl, Nat.le_of_ble_eq_true rfl⟩ ⟨rfl, rfl⟩ (rRecv C hG (hI 78 (by decide) (by decide)) e_78 rfl) rfl hl.1 (Nat.le_of_ble_eq_true rfl) dM_film_14 ⟨Nat.zero_le _, Nat.zero_le _⟩ rfl (fun H locs x4 z3 h hG => ?_)
    refine rIfne C (tgt := 23) h dM_film_17 (by decide) (fun h => ?_) (fun h => ?_)
    · refine rIload_n C dM_film_23 hl 3 rfl ?_
      refine lv_iconst (v := 0) C.1 C.2.1 dM_film_24 (by decide) ?_
      refine lv_bipush (v := 20) C.1 C.2.1 dM_film_25 (by decide) ?_
      refine rCSi [.int v3, .int 0, .int 20] [] C hG h (fun h => cM_in hI h) mvM_in k_767 ⟨Nat.le_of_ble_eq_true rfl, Nat.le_of_ble_eq_true rfl⟩ ⟨rfl, rfl⟩ rfl hl.1 (Nat.le_of_ble_eq_true rfl) dM_film_27 ⟨Nat.zero_le _, Nat.zero_le _⟩ rfl (fun H locs x6 z5 h hG => ?_)
      refine rIfne C (tgt := 36) h dM_film_30 (by decide) (fun h => ?_) (fun h => ?_)
      · refine rAload_n C dM_film_36 hl 0 rfl ?_
        refine rGet C hG (hI 78 (by decide) (by decide)) e_78 fiM_14 (v := .ref (gA G 88)) rfl k_820 dM_film_37 ?_
        refine rIload_n C dM_film_40 hl 1 rfl ?_
        refine lv_iconst (v := 0) C.1 C.2.1 dM_film_41 (by decide) ?_
        refine rIast C hG (hI 88 (by decide) (by decide)) e_88 h dM_film_42 (fun H locs z7 h hG => ?_)
        refine rAload_n C dM_film_43 hl 0 rfl ?_
        refine rGet C hG (hI 78 (by decide) (by decide)) e_78 fiM_15 (v := .ref (gA G 89)) rfl k_821 dM_film_44 ?_
        refine rIload_n C dM_film_47 hl 1 rfl ?_
        refine rIload_n C dM_film_48 hl 3 rfl ?_
        refine rIast C hG (hI 89 (by decide) (by decide)) e_89 h dM_film_49 (fun H locs z8 h hG => ?_)
        refine rAload_n C dM_film_50 hl 0 rfl ?_
        refine rCVv [] [] C hG h (fun h => cM_keeps hI h) mvM_keeps k_1025 ⟨Nat.le_of_ble_eq_true rfl, Nat.le_of_ble_eq_true rfl⟩ ⟨rfl, rfl⟩ (rRecv C hG (hI 78 (by decide) (by decide)) e_78 rfl) rfl hl.1 (Nat.le_of_ble_eq_true rfl) dM_film_51 ⟨Nat.zero_le _, Nat.zero_le _⟩ rfl (fun H locs z9 h hG => ?_)
        refine lv_iconst (v := 0) C.1 C.2.1 dM_film_54 (by decide) ?_
        refine rIstoreA C dM_film_55 hl (by decide) [(0, .ref (gA G 78)), (1, .int v1), (2, .int v2), (3, .int v3)] rfl (fun ls hl => ?_)
        exact wM_film_57 C hI _ h hG (lv_sub hl [1, 2, 3, 4, 0] rfl)
      · refine lv_bipush (v := (-7)) C.1 C.2.1 dM_film_33 (by decide) ?_
        exact rReti C hG h dM_film_35
    · refine lv_bipush (v := (-5)) C.1 C.2.1 dM_film_20 (by decide) ?_
      exact rReti C hG h dM_film_22
  · refine lv_bipush (v := (-2)) C.1 C.2.1 dM_film_9 (by decide) ?_
    exact rReti C hG h dM_film_11
theorem dM_gusts_0 : decode bM_gusts 0 = .ok (.iload_n 1, 1) := by decide +kernel
theorem dM_gusts_1 : decode bM_gusts 1 = .ok (.i2l, 1) := by decide +kernel
theorem dM_gusts_2 : decode bM_gusts 2 = .ok (.lconst 1, 1) := by decide +kernel
theorem dM_gusts_3 : decode bM_gusts 3 = .ok (.ladd, 1) := by decide +kernel
theorem dM_gusts_4 : decode bM_gusts 4 = .ok (.lstore_n 2, 1) := by decide +kernel
theorem dM_gusts_5 : decode bM_gusts 5 = .ok (.iconst 0, 1) := by decide +kernel
theorem dM_gusts_6 : decode bM_gusts 6 = .ok (.istore 4, 2) := by decide +kernel
theorem dM_gusts_8 : decode bM_gusts 8 = .ok (.aload_n 0, 1) := by decide +kernel
theorem dM_gusts_9 : decode bM_gusts 9 = .ok (.invokevirtual 210, 3) := by decide +kernel
theorem dM_gusts_12 : decode bM_gusts 12 = .ok (.iconst 0, 1) := by decide +kernel
theorem dM_gusts_13 : decode bM_gusts 13 = .ok (.istore 5, 2) := by decide +kernel
theorem dM_gusts_15 : decode bM_gusts 15 = .ok (.iload 5, 2) := by decide +kernel
theorem dM_gusts_17 : decode bM_gusts 17 = .ok (.bipush 10, 2) := by decide +kernel
theorem dM_gusts_19 : decode bM_gusts 19 = .ok (.if_icmp .ge 90, 3) := by decide +kernel
theorem dM_gusts_22 : decode bM_gusts 22 = .ok (.lload_n 2, 1) := by decide +kernel
theorem dM_gusts_23 : decode bM_gusts 23 = .ok (.ldc2_w 261, 3) := by decide +kernel
theorem dM_gusts_26 : decode bM_gusts 26 = .ok (.lmul, 1) := by decide +kernel
theorem dM_gusts_27 : decode bM_gusts 27 = .ok (.ldc2_w 263, 3) := by decide +kernel
theorem dM_gusts_30 : decode bM_gusts 30 = .ok (.lrem, 1) := by decide +kernel
theorem dM_gusts_31 : decode bM_gusts 31 = .ok (.lstore_n 2, 1) := by decide +kernel
theorem dM_gusts_32 : decode bM_gusts 32 = .ok (.lload_n 2, 1) := by decide +kernel
theorem dM_gusts_33 : decode bM_gusts 33 = .ok (.ldc2_w 265, 3) := by decide +kernel
theorem dM_gusts_36 : decode bM_gusts 36 = .ok (.lrem, 1) := by decide +kernel
theorem dM_gusts_37 : decode bM_gusts 37 = .ok (.l2i, 1) := by decide +kernel
theorem dM_gusts_38 : decode bM_gusts 38 = .ok (.iconst 0, 1) := by decide +kernel
theorem dM_gusts_39 : decode bM_gusts 39 = .ok (.iconst 5, 1) := by decide +kernel
theorem dM_gusts_40 : decode bM_gusts 40 = .ok (.invokestatic 183, 3) := by decide +kernel
theorem dM_gusts_43 : decode bM_gusts 43 = .ok (.istore 6, 2) := by decide +kernel
theorem dM_gusts_45 : decode bM_gusts 45 = .ok (.lload_n 2, 1) := by decide +kernel
theorem dM_gusts_46 : decode bM_gusts 46 = .ok (.ldc2_w 261, 3) := by decide +kernel
theorem dM_gusts_49 : decode bM_gusts 49 = .ok (.lmul, 1) := by decide +kernel
theorem dM_gusts_50 : decode bM_gusts 50 = .ok (.ldc2_w 263, 3) := by decide +kernel
theorem dM_gusts_53 : decode bM_gusts 53 = .ok (.lrem, 1) := by decide +kernel
theorem dM_gusts_54 : decode bM_gusts 54 = .ok (.lstore_n 2, 1) := by decide +kernel
theorem dM_gusts_55 : decode bM_gusts 55 = .ok (.iload 6, 2) := by decide +kernel
theorem dM_gusts_57 : decode bM_gusts 57 = .ok (.aload_n 0, 1) := by decide +kernel
theorem dM_gusts_58 : decode bM_gusts 58 = .ok (.getfield 78, 3) := by decide +kernel
theorem dM_gusts_61 : decode bM_gusts 61 = .ok (.if_icmp .ge 33, 3) := by decide +kernel
theorem dM_gusts_64 : decode bM_gusts 64 = .ok (.aload_n 0, 1) := by decide +kernel
theorem dM_gusts_65 : decode bM_gusts 65 = .ok (.getfield 16, 3) := by decide +kernel
theorem dM_gusts_68 : decode bM_gusts 68 = .ok (.iconst 3, 1) := by decide +kernel
theorem dM_gusts_69 : decode bM_gusts 69 = .ok (.iload 6, 2) := by decide +kernel
theorem dM_gusts_71 : decode bM_gusts 71 = .ok (.imul, 1) := by decide +kernel
theorem dM_gusts_72 : decode bM_gusts 72 = .ok (.iconst 1, 1) := by decide +kernel
theorem dM_gusts_73 : decode bM_gusts 73 = .ok (.iadd, 1) := by decide +kernel
theorem dM_gusts_74 : decode bM_gusts 74 = .ok (.aload_n 0, 1) := by decide +kernel
theorem dM_gusts_75 : decode bM_gusts 75 = .ok (.getfield 16, 3) := by decide +kernel
theorem dM_gusts_78 : decode bM_gusts 78 = .ok (.iconst 3, 1) := by decide +kernel
theorem dM_gusts_79 : decode bM_gusts 79 = .ok (.iload 6, 2) := by decide +kernel
theorem dM_gusts_81 : decode bM_gusts 81 = .ok (.imul, 1) := by decide +kernel
theorem dM_gusts_82 : decode bM_gusts 82 = .ok (.iconst 1, 1) := by decide +kernel
theorem dM_gusts_83 : decode bM_gusts 83 = .ok (.iadd, 1) := by decide +kernel
theorem dM_gusts_84 : decode bM_gusts 84 = .ok (.iaload, 1) := by decide +kernel
theorem dM_gusts_85 : decode bM_gusts 85 = .ok (.i2l, 1) := by decide +kernel
theorem dM_gusts_86 : decode bM_gusts 86 = .ok (.lload_n 2, 1) := by decide +kernel
theorem dM_gusts_87 : decode bM_gusts 87 = .ok (.ladd, 1) := by decide +kernel
theorem dM_gusts_88 : decode bM_gusts 88 = .ok (.ldc2_w 267, 3) := by decide +kernel
theorem dM_gusts_91 : decode bM_gusts 91 = .ok (.lrem, 1) := by decide +kernel
theorem dM_gusts_92 : decode bM_gusts 92 = .ok (.l2i, 1) := by decide +kernel
theorem dM_gusts_93 : decode bM_gusts 93 = .ok (.iastore, 1) := by decide +kernel
theorem dM_gusts_94 : decode bM_gusts 94 = .ok (.iload 4, 2) := by decide +kernel
theorem dM_gusts_96 : decode bM_gusts 96 = .ok (.aload_n 0, 1) := by decide +kernel
theorem dM_gusts_97 : decode bM_gusts 97 = .ok (.invokevirtual 204, 3) := by decide +kernel
theorem dM_gusts_100 : decode bM_gusts 100 = .ok (.iadd, 1) := by decide +kernel
theorem dM_gusts_101 : decode bM_gusts 101 = .ok (.istore 4, 2) := by decide +kernel
theorem dM_gusts_103 : decode bM_gusts 103 = .ok (.iinc 5 1, 3) := by decide +kernel
theorem dM_gusts_106 : decode bM_gusts 106 = .ok (.goto (-91), 3) := by decide +kernel
theorem dM_gusts_109 : decode bM_gusts 109 = .ok (.aload_n 0, 1) := by decide +kernel
theorem dM_gusts_110 : decode bM_gusts 110 = .ok (.aload_n 0, 1) := by decide +kernel
theorem dM_gusts_111 : decode bM_gusts 111 = .ok (.invokevirtual 107, 3) := by decide +kernel
theorem dM_gusts_114 : decode bM_gusts 114 = .ok (.putfield 269, 3) := by decide +kernel
theorem dM_gusts_117 : decode bM_gusts 117 = .ok (.aload_n 0, 1) := by decide +kernel
theorem dM_gusts_118 : decode bM_gusts 118 = .ok (.invokevirtual 219, 3) := by decide +kernel
theorem dM_gusts_121 : decode bM_gusts 121 = .ok (.iload 4, 2) := by decide +kernel
theorem dM_gusts_123 : decode bM_gusts 123 = .ok (.ireturn, 1) := by decide +kernel
theorem wM_gusts_94 {p : Program} {l : Launch} {e : Env} {s : State} {m : MethodId} {args : Array Value} {below : List Frame} {meth : Method} {c : Code} {G : GT} {I : List Nat} (C : CX p s m args meth c NM bM_gusts 7 (some .int) G I) (hI : mI I) {fu : Nat} {R1 : Int32} {Z : Sg} {rc15 : Int64 → Int32 → Int32 → Sg → Option (Int32 × Sg)} (hr15 : ∀ {v2 : Int64} {v4 : Int32} {v5 : Int32} {z : Sg} {H : Heap} {locs : List Loc} {ls : Array Slot}, rc15 v2 v4 v5 z = some (R1, Z) → GW G I z s.heap H locs → lv_has ls 7 [(0, .ref (gA G 78)), (2, .long v2), (4, .int v4), (5, .int v5)] → W p l e rmM_gusts s m args below meth c H locs 0 0 (MQ below (Qi G I R1 Z) args s 0 0 (AD G I)) (F0 m 15 ls [])) {v2 : Int64} {v4 : Int32} {v5 : Int32} {z : Sg} {H : Heap} {locs : List Loc} {ls : Array Slot} (h : pM_gusts_94 fu rc15 v2 v4 v5 z = some (R1, Z)) (hG : GW G I z s.heap H locs) (hl : lv_has ls 7 [(0, .ref (gA G 78)), (2, .long v2), (4, .int v4), (5, .int v5)]) : W p l e rmM_gusts s m args below meth c H locs 0 0 (MQ below (Qi G I R1 Z) args s 0 0 (AD G I)) (F0 m 94 ls []) := by
  unfold pM_gusts_94 at h
  refine rIload C dM_gusts_94 hl 2 rfl ?_
  refine rAload_n C dM_gusts_96 hl 0 rfl ?_
  refine rCVi [] [.int v4] C hG h (fun h => cM_strokeOf hI h) mvM_strokeOf k_1017 ⟨Nat.le_of_ble_eq_true rfl, Nat.le_of_ble_eq_true rfl⟩ ⟨rfl, rfl⟩ (rRecv C hG (hI 78 (by decide) (by decide)) e_78 rfl) rfl hl.1 (Nat.le_of_ble_eq_true rfl) dM_gusts_97 ⟨Nat.zero_le _, Nat.zero_le _⟩ rfl (fun H locs x13 z12 h hG => ?_)
  refine lv_iadd C.1 C.2.1 dM_gusts_100 ?_
  refine rIstore C dM_gusts_101 hl h (by decide) [(0, .ref (gA G 78)), (2, .long v2), (5, .int v5)] rfl (fun x14 ls h hl => ?_)
  refine rIinc C dM_gusts_103 hl 3 rfl (d := 1) (by decide) h (by decide) [(4, .int x14), (0, .ref (gA G 78)), (2, .long v2)] rfl (fun x15 ls h hl => ?_)
  refine lv_goto (tgt := 15) C.1 C.2.1 dM_gusts_106 (by decide) ?_
  exact hr15 h hG (lv_sub hl [2, 3, 1, 0] rfl)
theorem wM_gusts_15 {p : Program} {l : Launch} {e : Env} {s : State} {m : MethodId} {args : Array Value} {below : List Frame} {meth : Method} {c : Code} {G : GT} {I : List Nat} (C : CX p s m args meth c NM bM_gusts 7 (some .int) G I) (hI : mI I) {fu : Nat} {R1 : Int32} {Z : Sg} : ∀ (k : Nat) {v2 : Int64} {v4 : Int32} {v5 : Int32} {z : Sg} {H : Heap} {locs : List Loc} {ls : Array Slot}, pM_gusts_15 fu k v2 v4 v5 z = some (R1, Z) → GW G I z s.heap H locs → lv_has ls 7 [(0, .ref (gA G 78)), (2, .long v2), (4, .int v4), (5, .int v5)] → W p l e rmM_gusts s m args below meth c H locs 0 0 (MQ below (Qi G I R1 Z) args s 0 0 (AD G I)) (F0 m 15 ls []) := by
  intro k
  induction k with
  | zero => intro v2 v4 v5 z H locs ls h hG hl; rw [pM_gusts_15] at h; cases h
  | succ k ih =>
    intro v2 v4 v5 z H locs ls h hG hl
    rw [pM_gusts_15] at h
    refine rIload C dM_gusts_15 hl 3 rfl ?_
    refine lv_bipush (v := 10) C.1 C.2.1 dM_gusts_17 (by decide) ?_
    refine rIcmpge C (tgt := 109) h dM_gusts_19 (by decide) (fun h => ?_) (fun h => ?_)
    · refine rAload_n C dM_gusts_109 hl 0 rfl ?_
      refine rAload_n C dM_gusts_110 hl 0 rfl ?_
      refine rCVi [] [.ref (gA G 78)] C hG h (fun h => cM_inStep hI h) mvM_inStep k_913 ⟨Nat.le_of_ble_eq_true rfl, Nat.le_of_ble_eq_true rfl⟩ ⟨rfl, rfl⟩ (rRecv C hG (hI 78 (by decide) (by decide)) e_78 rfl) rfl hl.1 (Nat.le_of_ble_eq_true rfl) dM_gusts_111 ⟨Nat.zero_le _, Nat.zero_le _⟩ rfl (fun H locs x4 z3 h hG => ?_)
      refine rPut C hG (hI 78 (by decide) (by decide)) e_78 fiM_33 tokM nmM rfl (fpM_33 _) (Nat.le_of_ble_eq_true rfl) rfl rfl k_839 h dM_gusts_114 (fun H locs z5 h hG => ?_)
      refine rAload_n C dM_gusts_117 hl 0 rfl ?_
      refine rCVv [] [] C hG h (fun h => cM_lays hI h) mvM_lays k_1041 ⟨Nat.le_of_ble_eq_true rfl, Nat.le_of_ble_eq_true rfl⟩ ⟨rfl, rfl⟩ (rRecv C hG (hI 78 (by decide) (by decide)) e_78 rfl) rfl hl.1 (Nat.le_of_ble_eq_true rfl) dM_gusts_118 ⟨Nat.zero_le _, Nat.zero_le _⟩ rfl (fun H locs z6 h hG => ?_)
      refine rIload C dM_gusts_121 hl 2 rfl ?_
      exact rReti C hG h dM_gusts_123
    · refine rLload_n C dM_gusts_22 hl 1 rfl ?_
      refine lv_ldc2 C.1 C.2.1 C.2.2.2.1 (C.2.2.2.2.1 _ k_1154) dM_gusts_23 ?_
      refine lv_lmul C.1 C.2.1 dM_gusts_26 ?_
      refine lv_ldc2 C.1 C.2.1 C.2.2.2.1 (C.2.2.2.2.1 _ k_1155) dM_gusts_27 ?_
      refine lv_lrem C.1 C.2.1 dM_gusts_30 (by decide) ?_
      refine rLstore_n C dM_gusts_31 hl h (by decide) [(0, .ref (gA G 78)), (4, .int v4), (5, .int v5)] rfl (fun y7 ls h hl => ?_)
      refine rLload_n C dM_gusts_32 hl 0 rfl ?_
      refine lv_ldc2 C.1 C.2.1 C.2.2.2.1 (C.2.2.2.2.1 _ k_1156) dM_gusts_33 ?_
      refine lv_lrem C.1 C.2.1 dM_gusts_36 (by decide) ?_
      refine lv_l2i C.1 C.2.1 dM_gusts_37 rfl ?_
      refine lv_iconst (v := 0) C.1 C.2.1 dM_gusts_38 (by decide) ?_
      refine lv_iconst (v := 5) C.1 C.2.1 dM_gusts_39 (by decide) ?_
      refine rCSi [.int ((y7 - y7 / 6 * 6).toInt32), .int 0, .int 5] [] C hG h (fun h => cM_within hI h) mvM_within k_975 ⟨Nat.le_of_ble_eq_true rfl, Nat.le_of_ble_eq_true rfl⟩ ⟨rfl, rfl⟩ rfl hl.1 (Nat.le_of_ble_eq_true rfl) dM_gusts_40 ⟨Nat.zero_le _, Nat.zero_le _⟩ rfl (fun H locs x9 z8 h hG => ?_)
      refine rIstoreA C dM_gusts_43 hl (by decide) [(2, .long y7), (0, .ref (gA G 78)), (4, .int v4), (5, .int v5)] rfl (fun ls hl => ?_)
      refine rLload_n C dM_gusts_45 hl 1 rfl ?_
      refine lv_ldc2 C.1 C.2.1 C.2.2.2.1 (C.2.2.2.2.1 _ k_1154) dM_gusts_46 ?_
      refine lv_lmul C.1 C.2.1 dM_gusts_49 ?_
      refine lv_ldc2 C.1 C.2.1 C.2.2.2.1 (C.2.2.2.2.1 _ k_1155) dM_gusts_50 ?_
      refine lv_lrem C.1 C.2.1 dM_gusts_53 (by decide) ?_
      refine rLstore_n C dM_gusts_54 hl h (by decide) [(6, .int x9), (0, .ref (gA G 78)), (4, .int v4), (5, .int v5)] rfl (fun y10 ls h hl => ?_)
      refine rIload C dM_gusts_55 hl 1 rfl ?_
      refine rAload_n C dM_gusts_57 hl 2 rfl ?_
      refine rGet C hG (hI 78 (by decide) (by decide)) e_78 fiM_0 (v := .int (z8 78 0)) rfl k_806 dM_gusts_58 ?_
      refine rIcmpge C (tgt := 94) h dM_gusts_61 (by decide) (fun h => ?_) (fun h => ?_)
      · exact wM_gusts_94 C hI ih h hG (lv_sub hl [2, 0, 3, 4] rfl)
      · refine rAload_n C dM_gusts_64 hl 2 rfl ?_
        refine rGet C hG (hI 78 (by decide) (by decide)) e_78 fiM_3 (v := .ref (gA G 81)) rfl k_809 dM_gusts_65 ?_
        refine lv_iconst (v := 3) C.1 C.2.1 dM_gusts_68 (by decide) ?_
        refine rIload C dM_gusts_69 hl 1 rfl ?_
        refine lv_imul C.1 C.2.1 dM_gusts_71 ?_
        refine lv_iconst (v := 1) C.1 C.2.1 dM_gusts_72 (by decide) ?_
        refine lv_iadd C.1 C.2.1 dM_gusts_73 ?_
        refine rAload_n C dM_gusts_74 hl 2 rfl ?_
        refine rGet C hG (hI 78 (by decide) (by decide)) e_78 fiM_3 (v := .ref (gA G 81)) rfl k_809 dM_gusts_75 ?_
        refine lv_iconst (v := 3) C.1 C.2.1 dM_gusts_78 (by decide) ?_
        refine rIload C dM_gusts_79 hl 1 rfl ?_
        refine lv_imul C.1 C.2.1 dM_gusts_81 ?_
        refine lv_iconst (v := 1) C.1 C.2.1 dM_gusts_82 (by decide) ?_
        refine lv_iadd C.1 C.2.1 dM_gusts_83 ?_
        refine rIald C hG (hI 81 (by decide) (by decide)) e_81 h dM_gusts_84 (fun h => ?_)
        refine lv_i2l C.1 C.2.1 dM_gusts_85 rfl ?_
        refine rLload_n C dM_gusts_86 hl 0 rfl ?_
        refine lv_ladd C.1 C.2.1 dM_gusts_87 ?_
        refine lv_ldc2 C.1 C.2.1 C.2.2.2.1 (C.2.2.2.2.1 _ k_1157) dM_gusts_88 ?_
        refine lv_lrem C.1 C.2.1 dM_gusts_91 (by decide) ?_
        refine lv_l2i C.1 C.2.1 dM_gusts_92 rfl ?_
        refine rIast C hG (hI 81 (by decide) (by decide)) e_81 h dM_gusts_93 (fun H locs z11 h hG => ?_)
        exact wM_gusts_94 C hI ih h hG (lv_sub hl [2, 0, 3, 4] rfl)
theorem cM_gusts {l : Launch} {G : GT} {I : List Nat} (hI : mI I) {fu : Nat} {v1 : Int32} {z : Sg} {R1 : Int32} {Z : Sg} (h : pM_gusts fu v1 z = some (R1, Z)) : Mt l yM_gusts rmM_gusts bM_gusts 7 (some .int) G I z [.ref (gA G 78), .int v1] (Qi G I R1 Z) := by
  refine entM (by decide +kernel) (Nat.le_of_ble_eq_true rfl) ?_
  intro p e s m below meth c C hG ls hl
  have hl : lv_has ls 7 [(0, .ref (gA G 78)), (1, .int v1)] := hl
  unfold pM_gusts at h
  refine rIload_n C dM_gusts_0 hl 1 rfl ?_
  refine lv_i2l C.1 C.2.1 dM_gusts_1 rfl ?_
  refine lv_lconst (v := 1) C.1 C.2.1 dM_gusts_2 (by decide) ?_
  refine lv_ladd C.1 C.2.1 dM_gusts_3 ?_
  refine rLstore_n C dM_gusts_4 hl h (by decide) [(0, .ref (gA G 78)), (1, .int v1)] rfl (fun y1 ls h hl => ?_)
  refine lv_iconst (v := 0) C.1 C.2.1 dM_gusts_5 (by decide) ?_
  refine rIstoreA C dM_gusts_6 hl (by decide) [(2, .long y1), (0, .ref (gA G 78)), (1, .int v1)] rfl (fun ls hl => ?_)
  refine rAload_n C dM_gusts_8 hl 2 rfl ?_
  refine rCVv [] [] C hG h (fun h => cM_keeps hI h) mvM_keeps k_1025 ⟨Nat.le_of_ble_eq_true rfl, Nat.le_of_ble_eq_true rfl⟩ ⟨rfl, rfl⟩ (rRecv C hG (hI 78 (by decide) (by decide)) e_78 rfl) rfl hl.1 (Nat.le_of_ble_eq_true rfl) dM_gusts_9 ⟨Nat.zero_le _, Nat.zero_le _⟩ rfl (fun H locs z2 h hG => ?_)
  refine lv_iconst (v := 0) C.1 C.2.1 dM_gusts_12 (by decide) ?_
  refine rIstoreA C dM_gusts_13 hl (by decide) [(4, .int 0), (2, .long y1), (0, .ref (gA G 78)), (1, .int v1)] rfl (fun ls hl => ?_)
  exact wM_gusts_15 C hI _ h hG (lv_sub hl [3, 2, 1, 0] rfl)
theorem dM_drawn_0 : decode bM_drawn 0 = .ok (.iload_n 1, 1) := by decide +kernel
theorem dM_drawn_1 : decode bM_drawn 1 = .ok (.iconst 0, 1) := by decide +kernel
theorem dM_drawn_2 : decode bM_drawn 2 = .ok (.ldc_w 272, 3) := by decide +kernel
theorem dM_drawn_5 : decode bM_drawn 5 = .ok (.invokestatic 81, 3) := by decide +kernel
theorem dM_drawn_8 : decode bM_drawn 8 = .ok (.ifCond .eq 12, 3) := by decide +kernel
theorem dM_drawn_11 : decode bM_drawn 11 = .ok (.iload_n 2, 1) := by decide +kernel
theorem dM_drawn_12 : decode bM_drawn 12 = .ok (.iconst 0, 1) := by decide +kernel
theorem dM_drawn_13 : decode bM_drawn 13 = .ok (.iconst 1, 1) := by decide +kernel
theorem dM_drawn_14 : decode bM_drawn 14 = .ok (.invokestatic 81, 3) := by decide +kernel
theorem dM_drawn_17 : decode bM_drawn 17 = .ok (.ifCond .ne 6, 3) := by decide +kernel
theorem dM_drawn_20 : decode bM_drawn 20 = .ok (.bipush (-2), 2) := by decide +kernel
theorem dM_drawn_22 : decode bM_drawn 22 = .ok (.ireturn, 1) := by decide +kernel
theorem dM_drawn_23 : decode bM_drawn 23 = .ok (.aload_n 0, 1) := by decide +kernel
theorem dM_drawn_24 : decode bM_drawn 24 = .ok (.iload_n 1, 1) := by decide +kernel
theorem dM_drawn_25 : decode bM_drawn 25 = .ok (.invokevirtual 273, 3) := by decide +kernel
theorem dM_drawn_28 : decode bM_drawn 28 = .ok (.istore_n 3, 1) := by decide +kernel
theorem dM_drawn_29 : decode bM_drawn 29 = .ok (.iload_n 2, 1) := by decide +kernel
theorem dM_drawn_30 : decode bM_drawn 30 = .ok (.ifCond .ne 7, 3) := by decide +kernel
theorem dM_drawn_33 : decode bM_drawn 33 = .ok (.iload_n 3, 1) := by decide +kernel
theorem dM_drawn_34 : decode bM_drawn 34 = .ok (.goto 7, 3) := by decide +kernel
theorem dM_drawn_37 : decode bM_drawn 37 = .ok (.aload_n 0, 1) := by decide +kernel
theorem dM_drawn_38 : decode bM_drawn 38 = .ok (.getfield 269, 3) := by decide +kernel
theorem dM_drawn_41 : decode bM_drawn 41 = .ok (.ireturn, 1) := by decide +kernel
theorem cM_drawn {l : Launch} {G : GT} {I : List Nat} (hI : mI I) {fu : Nat} {v1 : Int32} {v2 : Int32} {z : Sg} {R1 : Int32} {Z : Sg} (h : pM_drawn fu v1 v2 z = some (R1, Z)) : Mt l yM_drawn rmM_drawn bM_drawn 4 (some .int) G I z [.ref (gA G 78), .int v1, .int v2] (Qi G I R1 Z) := by
  refine entM (by decide +kernel) (Nat.le_of_ble_eq_true rfl) ?_
  intro p e s m below meth c C hG ls hl
  have hl : lv_has ls 4 [(0, .ref (gA G 78)), (1, .int v1), (2, .int v2)] := hl
  unfold pM_drawn at h
  refine rIload_n C dM_drawn_0 hl 1 rfl ?_
  refine lv_iconst (v := 0) C.1 C.2.1 dM_drawn_1 (by decide) ?_
  refine lv_ldcw C.1 C.2.1 C.2.2.2.1 (C.2.2.2.2.1 _ k_1149) dM_drawn_2 ?_
  refine rCSi [.int v1, .int 0, .int 99999] [] C hG h (fun h => cM_in hI h) mvM_in k_767 ⟨Nat.le_of_ble_eq_true rfl, Nat.le_of_ble_eq_true rfl⟩ ⟨rfl, rfl⟩ rfl hl.1 (Nat.le_of_ble_eq_true rfl) dM_drawn_5 ⟨Nat.zero_le _, Nat.zero_le _⟩ rfl (fun H locs x2 z1 h hG => ?_)
  refine rIfeq C (tgt := 20) h dM_drawn_8 (by decide) (fun h => ?_) (fun h => ?_)
  · refine lv_bipush (v := (-2)) C.1 C.2.1 dM_drawn_20 (by decide) ?_
    exact rReti C hG h dM_drawn_22
  · refine rIload_n C dM_drawn_11 hl 2 rfl ?_
    refine lv_iconst (v := 0) C.1 C.2.1 dM_drawn_12 (by decide) ?_
    refine lv_iconst (v := 1) C.1 C.2.1 dM_drawn_13 (by decide) ?_
    refine rCSi [.int v2, .int 0, .int 1] [] C hG h (fun h => cM_in hI h) mvM_in k_767 ⟨Nat.le_of_ble_eq_true rfl, Nat.le_of_ble_eq_true rfl⟩ ⟨rfl, rfl⟩ rfl hl.1 (Nat.le_of_ble_eq_true rfl) dM_drawn_14 ⟨Nat.zero_le _, Nat.zero_le _⟩ rfl (fun H locs x4 z3 h hG => ?_)
    refine rIfne C (tgt := 23) h dM_drawn_17 (by decide) (fun h => ?_) (fun h => ?_)
    · refine rAload_n C dM_drawn_23 hl 0 rfl ?_
      refine rIload_n C dM_drawn_24 hl 1 rfl ?_
      refine rCVi [.int v1] [] C hG h (fun h => cM_gusts hI h) mvM_gusts k_1150 ⟨Nat.le_of_ble_eq_true rfl, Nat.le_of_ble_eq_true rfl⟩ ⟨rfl, rfl⟩ (rRecv C hG (hI 78 (by decide) (by decide)) e_78 rfl) rfl hl.1 (Nat.le_of_ble_eq_true rfl) dM_drawn_25 ⟨Nat.zero_le _, Nat.zero_le _⟩ rfl (fun H locs x6 z5 h hG => ?_)
      refine rIstoreA_n C dM_drawn_28 hl (by decide) [(0, .ref (gA G 78)), (1, .int v1), (2, .int v2)] rfl (fun ls hl => ?_)
      refine rIload_n C dM_drawn_29 hl 3 rfl ?_
      refine rIfne C (tgt := 37) h dM_drawn_30 (by decide) (fun h => ?_) (fun h => ?_)
      · refine rAload_n C dM_drawn_37 hl 1 rfl ?_
        refine rGet C hG (hI 78 (by decide) (by decide)) e_78 fiM_33 (v := .int (z5 78 33)) rfl k_839 dM_drawn_38 ?_
        exact rReti C hG h dM_drawn_41
      · refine rIload_n C dM_drawn_33 hl 0 rfl ?_
        refine lv_goto (tgt := 41) C.1 C.2.1 dM_drawn_34 (by decide) ?_
        exact rReti C hG h dM_drawn_41
    · refine lv_bipush (v := (-2)) C.1 C.2.1 dM_drawn_20 (by decide) ?_
      exact rReti C hG h dM_drawn_22
