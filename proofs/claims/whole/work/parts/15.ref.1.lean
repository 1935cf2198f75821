theorem dM_in_0 : decode bM_in 0 = .ok (.iload_n 0, 1) := by decide +kernel
theorem dM_in_1 : decode bM_in 1 = .ok (.iload_n 1, 1) := by decide +kernel
theorem dM_in_2 : decode bM_in 2 = .ok (.if_icmp .lt 12, 3) := by decide +kernel
theorem dM_in_5 : decode bM_in 5 = .ok (.iload_n 0, 1) := by decide +kernel
theorem dM_in_6 : decode bM_in 6 = .ok (.iload_n 2, 1) := by decide +kernel
theorem dM_in_7 : decode bM_in 7 = .ok (.if_icmp .gt 7, 3) := by decide +kernel
theorem dM_in_10 : decode bM_in 10 = .ok (.iconst 1, 1) := by decide +kernel
theorem dM_in_11 : decode bM_in 11 = .ok (.goto 4, 3) := by decide +kernel
theorem dM_in_14 : decode bM_in 14 = .ok (.iconst 0, 1) := by decide +kernel
theorem dM_in_15 : decode bM_in 15 = .ok (.ireturn, 1) := by decide +kernel
theorem cM_in {l : Launch} {G : GT} {I : List Nat} (hI : mI I) {fu : Nat} {v0 : Int32} {v1 : Int32} {v2 : Int32} {z : Sg} {R1 : Int32} {Z : Sg} (h : pM_in fu v0 v1 v2 z = some (R1, Z)) : Mt l yM_in rmM_in bM_in 3 (some .boolean) G I z [.int v0, .int v1, .int v2] (Qi G I R1 Z) := by
  refine entM (by decide +kernel) (Nat.le_of_ble_eq_true rfl) ?_
  intro p e s m below meth c C hG ls hl
  have hl : lv_has ls 3 [(0, .int v0), (1, .int v1), (2, .int v2)] := hl
  unfold pM_in at h
  refine rIload_n C dM_in_0 hl 0 rfl ?_
  refine rIload_n C dM_in_1 hl 1 rfl ?_
  refine rIcmplt C (tgt := 14) h dM_in_2 (by decide) (fun h => ?_) (fun h => ?_)
  · refine lv_iconst (v := 0) C.1 C.2.1 dM_in_14 (by decide) ?_
    exact rRetn C hG (ty := .boolean) rfl rfl h dM_in_15
  · refine rIload_n C dM_in_5 hl 0 rfl ?_
    refine rIload_n C dM_in_6 hl 2 rfl ?_
    refine rIcmpgt C (tgt := 14) h dM_in_7 (by decide) (fun h => ?_) (fun h => ?_)
    · refine lv_iconst (v := 0) C.1 C.2.1 dM_in_14 (by decide) ?_
      exact rRetn C hG (ty := .boolean) rfl rfl h dM_in_15
    · refine lv_iconst (v := 1) C.1 C.2.1 dM_in_10 (by decide) ?_
      refine lv_goto (tgt := 15) C.1 C.2.1 dM_in_11 (by decide) ?_
      exact rRetn C hG (ty := .boolean) rfl rfl h dM_in_15
theorem dM_wordFrom_0 : decode bM_wordFrom 0 = .ok (.iconst 0, 1) := by decide +kernel
theorem dM_wordFrom_1 : decode bM_wordFrom 1 = .ok (.istore_n 3, 1) := by decide +kernel
theorem dM_wordFrom_2 : decode bM_wordFrom 2 = .ok (.iload_n 3, 1) := by decide +kernel
theorem dM_wordFrom_3 : decode bM_wordFrom 3 = .ok (.bipush 12, 2) := by decide +kernel
theorem dM_wordFrom_5 : decode bM_wordFrom 5 = .ok (.if_icmp .ge 96, 3) := by decide +kernel
theorem dM_wordFrom_8 : decode bM_wordFrom 8 = .ok (.iload_n 2, 1) := by decide +kernel
theorem dM_wordFrom_9 : decode bM_wordFrom 9 = .ok (.iload_n 1, 1) := by decide +kernel
theorem dM_wordFrom_10 : decode bM_wordFrom 10 = .ok (.isub, 1) := by decide +kernel
theorem dM_wordFrom_11 : decode bM_wordFrom 11 = .ok (.bipush 8, 2) := by decide +kernel
theorem dM_wordFrom_13 : decode bM_wordFrom 13 = .ok (.if_icmp .gt 7, 3) := by decide +kernel
theorem dM_wordFrom_16 : decode bM_wordFrom 16 = .ok (.iconst 1, 1) := by decide +kernel
theorem dM_wordFrom_17 : decode bM_wordFrom 17 = .ok (.goto 4, 3) := by decide +kernel
theorem dM_wordFrom_20 : decode bM_wordFrom 20 = .ok (.iconst 0, 1) := by decide +kernel
theorem dM_wordFrom_21 : decode bM_wordFrom 21 = .ok (.istore 4, 2) := by decide +kernel
theorem dM_wordFrom_23 : decode bM_wordFrom 23 = .ok (.iconst 0, 1) := by decide +kernel
theorem dM_wordFrom_24 : decode bM_wordFrom 24 = .ok (.istore 5, 2) := by decide +kernel
theorem dM_wordFrom_26 : decode bM_wordFrom 26 = .ok (.iload 5, 2) := by decide +kernel
theorem dM_wordFrom_28 : decode bM_wordFrom 28 = .ok (.bipush 8, 2) := by decide +kernel
theorem dM_wordFrom_30 : decode bM_wordFrom 30 = .ok (.if_icmp .ge 58, 3) := by decide +kernel
theorem dM_wordFrom_33 : decode bM_wordFrom 33 = .ok (.iload 4, 2) := by decide +kernel
theorem dM_wordFrom_35 : decode bM_wordFrom 35 = .ok (.ifCond .eq 53, 3) := by decide +kernel
theorem dM_wordFrom_38 : decode bM_wordFrom 38 = .ok (.aload_n 0, 1) := by decide +kernel
theorem dM_wordFrom_39 : decode bM_wordFrom 39 = .ok (.getfield 49, 3) := by decide +kernel
theorem dM_wordFrom_42 : decode bM_wordFrom 42 = .ok (.bipush 8, 2) := by decide +kernel
theorem dM_wordFrom_44 : decode bM_wordFrom 44 = .ok (.iload_n 3, 1) := by decide +kernel
theorem dM_wordFrom_45 : decode bM_wordFrom 45 = .ok (.imul, 1) := by decide +kernel
theorem dM_wordFrom_46 : decode bM_wordFrom 46 = .ok (.iload 5, 2) := by decide +kernel
theorem dM_wordFrom_48 : decode bM_wordFrom 48 = .ok (.iadd, 1) := by decide +kernel
theorem dM_wordFrom_49 : decode bM_wordFrom 49 = .ok (.iaload, 1) := by decide +kernel
theorem dM_wordFrom_50 : decode bM_wordFrom 50 = .ok (.iload_n 1, 1) := by decide +kernel
theorem dM_wordFrom_51 : decode bM_wordFrom 51 = .ok (.iload 5, 2) := by decide +kernel
theorem dM_wordFrom_53 : decode bM_wordFrom 53 = .ok (.iadd, 1) := by decide +kernel
theorem dM_wordFrom_54 : decode bM_wordFrom 54 = .ok (.iload_n 2, 1) := by decide +kernel
theorem dM_wordFrom_55 : decode bM_wordFrom 55 = .ok (.if_icmp .ge 15, 3) := by decide +kernel
theorem dM_wordFrom_58 : decode bM_wordFrom 58 = .ok (.aload_n 0, 1) := by decide +kernel
theorem dM_wordFrom_59 : decode bM_wordFrom 59 = .ok (.getfield 22, 3) := by decide +kernel
theorem dM_wordFrom_62 : decode bM_wordFrom 62 = .ok (.iload_n 1, 1) := by decide +kernel
theorem dM_wordFrom_63 : decode bM_wordFrom 63 = .ok (.iload 5, 2) := by decide +kernel
theorem dM_wordFrom_65 : decode bM_wordFrom 65 = .ok (.iadd, 1) := by decide +kernel
theorem dM_wordFrom_66 : decode bM_wordFrom 66 = .ok (.iaload, 1) := by decide +kernel
theorem dM_wordFrom_67 : decode bM_wordFrom 67 = .ok (.goto 5, 3) := by decide +kernel
theorem dM_wordFrom_70 : decode bM_wordFrom 70 = .ok (.bipush 32, 2) := by decide +kernel
theorem dM_wordFrom_72 : decode bM_wordFrom 72 = .ok (.if_icmp .ne 7, 3) := by decide +kernel
theorem dM_wordFrom_75 : decode bM_wordFrom 75 = .ok (.iconst 1, 1) := by decide +kernel
theorem dM_wordFrom_76 : decode bM_wordFrom 76 = .ok (.goto 4, 3) := by decide +kernel
theorem dM_wordFrom_79 : decode bM_wordFrom 79 = .ok (.iconst 0, 1) := by decide +kernel
theorem dM_wordFrom_80 : decode bM_wordFrom 80 = .ok (.istore 4, 2) := by decide +kernel
theorem dM_wordFrom_82 : decode bM_wordFrom 82 = .ok (.iinc 5 1, 3) := by decide +kernel
theorem dM_wordFrom_85 : decode bM_wordFrom 85 = .ok (.goto (-59), 3) := by decide +kernel
theorem dM_wordFrom_88 : decode bM_wordFrom 88 = .ok (.iload 4, 2) := by decide +kernel
theorem dM_wordFrom_90 : decode bM_wordFrom 90 = .ok (.ifCond .eq 5, 3) := by decide +kernel
theorem dM_wordFrom_93 : decode bM_wordFrom 93 = .ok (.iload_n 3, 1) := by decide +kernel
theorem dM_wordFrom_94 : decode bM_wordFrom 94 = .ok (.ireturn, 1) := by decide +kernel
theorem dM_wordFrom_95 : decode bM_wordFrom 95 = .ok (.iinc 3 1, 3) := by decide +kernel
theorem dM_wordFrom_98 : decode bM_wordFrom 98 = .ok (.goto (-96), 3) := by decide +kernel
theorem dM_wordFrom_101 : decode bM_wordFrom 101 = .ok (.bipush 12, 2) := by decide +kernel
theorem dM_wordFrom_103 : decode bM_wordFrom 103 = .ok (.ireturn, 1) := by decide +kernel
theorem wM_wordFrom_80 {p : Program} {l : Launch} {e : Env} {s : State} {m : MethodId} {args : Array Value} {below : List Frame} {meth : Method} {c : Code} {G : GT} {I : List Nat} (C : CX p s m args meth c NM bM_wordFrom 6 (some .int) G I) (hI : mI I) {fu : Nat} {R1 : Int32} {Z : Sg} {rc2 : Int32 → Int32 → Int32 → Sg → Option (Int32 × Sg)} (hr2 : ∀ {v1 : Int32} {v2 : Int32} {v3 : Int32} {z : Sg} {H : Heap} {locs : List Loc} {ls : Array Slot}, rc2 v1 v2 v3 z = some (R1, Z) → GW G I z s.heap H locs → lv_has ls 6 [(0, .ref (gA G 78)), (1, .int v1), (2, .int v2), (3, .int v3)] → W p l e rmM_wordFrom s m args below meth c H locs 0 0 (MQ below (Qi G I R1 Z) args s 0 0 (AD G I)) (F0 m 2 ls [])) {rc26 : Int32 → Int32 → Int32 → Int32 → Int32 → Sg → Option (Int32 × Sg)} (hr26 : ∀ {v1 : Int32} {v2 : Int32} {v3 : Int32} {v4 : Int32} {v5 : Int32} {z : Sg} {H : Heap} {locs : List Loc} {ls : Array Slot}, rc26 v1 v2 v3 v4 v5 z = some (R1, Z) → GW G I z s.heap H locs → lv_has ls 6 [(0, .ref (gA G 78)), (1, .int v1), (2, .int v2), (3, .int v3), (4, .int v4), (5, .int v5)] → W p l e rmM_wordFrom s m args below meth c H locs 0 0 (MQ below (Qi G I R1 Z) args s 0 0 (AD G I)) (F0 m 26 ls [])) {v1 : Int32} {v2 : Int32} {v3 : Int32} {v5 : Int32} {t0 : Int32} {z : Sg} {H : Heap} {locs : List Loc} {ls : Array Slot} (h : pM_wordFrom_80 fu rc2 rc26 v1 v2 v3 v5 t0 z = some (R1, Z)) (hG : GW G I z s.heap H locs) (hl : lv_has ls 6 [(0, .ref (gA G 78)), (1, .int v1), (2, .int v2), (3, .int v3), (5, .int v5)]) : W p l e rmM_wordFrom s m args below meth c H locs 0 0 (MQ below (Qi G I R1 Z) args s 0 0 (AD G I)) (F0 m 80 ls [.int t0]) := by
  unfold pM_wordFrom_80 at h
  refine rIstoreA C dM_wordFrom_80 hl (by decide) [(0, .ref (gA G 78)), (1, .int v1), (2, .int v2), (3, .int v3), (5, .int v5)] rfl (fun ls hl => ?_)
  refine rIinc C dM_wordFrom_82 hl 5 rfl (d := 1) (by decide) h (by decide) [(4, .int t0), (0, .ref (gA G 78)), (1, .int v1), (2, .int v2), (3, .int v3)] rfl (fun x2 ls h hl => ?_)
  refine lv_goto (tgt := 26) C.1 C.2.1 dM_wordFrom_85 (by decide) ?_
  exact hr26 h hG (lv_sub hl [2, 3, 4, 5, 1, 0] rfl)
theorem wM_wordFrom_72 {p : Program} {l : Launch} {e : Env} {s : State} {m : MethodId} {args : Array Value} {below : List Frame} {meth : Method} {c : Code} {G : GT} {I : List Nat} (C : CX p s m args meth c NM bM_wordFrom 6 (some .int) G I) (hI : mI I) {fu : Nat} {R1 : Int32} {Z : Sg} {rc2 : Int32 → Int32 → Int32 → Sg → Option (Int32 × Sg)} (hr2 : ∀ {v1 : Int32} {v2 : Int32} {v3 : Int32} {z : Sg} {H : Heap} {locs : List Loc} {ls : Array Slot}, rc2 v1 v2 v3 z = some (R1, Z) → GW G I z s.heap H locs → lv_has ls 6 [(0, .ref (gA G 78)), (1, .int v1), (2, .int v2), (3, .int v3)] → W p l e rmM_wordFrom s m args below meth c H locs 0 0 (MQ below (Qi G I R1 Z) args s 0 0 (AD G I)) (F0 m 2 ls [])) {rc26 : Int32 → Int32 → Int32 → Int32 → Int32 → Sg → Option (Int32 × Sg)} (hr26 : ∀ {v1 : Int32} {v2 : Int32} {v3 : Int32} {v4 : Int32} {v5 : Int32} {z : Sg} {H : Heap} {locs : List Loc} {ls : Array Slot}, rc26 v1 v2 v3 v4 v5 z = some (R1, Z) → GW G I z s.heap H locs → lv_has ls 6 [(0, .ref (gA G 78)), (1, .int v1), (2, .int v2), (3, .int v3), (4, .int v4), (5, .int v5)] → W p l e rmM_wordFrom s m args below meth c H locs 0 0 (MQ below (Qi G I R1 Z) args s 0 0 (AD G I)) (F0 m 26 ls [])) {v1 : Int32} {v2 : Int32} {v3 : Int32} {v5 : Int32} {t0 : Int32} {t1 : Int32} {z : Sg} {H : Heap} {locs : List Loc} {ls : Array Slot} (h : pM_wordFrom_72 fu rc2 rc26 v1 v2 v3 v5 t0 t1 z = some (R1, Z)) (hG : GW G I z s.heap H locs) (hl : lv_has ls 6 [(0, .ref (gA G 78)), (1, .int v1), (2, .int v2), (3, .int v3), (5, .int v5)]) : W p l e rmM_wordFrom s m args below meth c H locs 0 0 (MQ below (Qi G I R1 Z) args s 0 0 (AD G I)) (F0 m 72 ls [.int t1, .int t0]) := by
  unfold pM_wordFrom_72 at h
  refine rIcmpne C (tgt := 79) h dM_wordFrom_72 (by decide) (fun h => ?_) (fun h => ?_)
  · refine lv_iconst (v := 0) C.1 C.2.1 dM_wordFrom_79 (by decide) ?_
    exact wM_wordFrom_80 C hI hr2 hr26 h hG (lv_sub hl [0, 1, 2, 3, 4] rfl)
  · refine lv_iconst (v := 1) C.1 C.2.1 dM_wordFrom_75 (by decide) ?_
    refine lv_goto (tgt := 80) C.1 C.2.1 dM_wordFrom_76 (by decide) ?_
    exact wM_wordFrom_80 C hI hr2 hr26 h hG (lv_sub hl [0, 1, 2, 3, 4] rfl)
theorem wM_wordFrom_88 {p : Program} {l : Launch} {e : Env} {s : State} {m : MethodId} {args : Array Value} {below : List Frame} {meth : Method} {c : Code} {G : GT} {I : List Nat} (C : CX p s m args meth c NM bM_wordFrom 6 (some .int) G I) (hI : mI I) {fu : Nat} {R1 : Int32} {Z : Sg} {rc2 : Int32 → Int32 → Int32 → Sg → Option (Int32 × Sg)} (hr2 : ∀ {v1 : Int32} {v2 : Int32} {v3 : Int32} {z : Sg} {H : Heap} {locs : List Loc} {ls : Array Slot}, rc2 v1 v2 v3 z = some (R1, Z) → GW G I z s.heap H locs → lv_has ls 6 [(0, .ref (gA G 78)), (1, .int v1), (2, .int v2), (3, .int v3)] → W p l e rmM_wordFrom s m args below meth c H locs 0 0 (MQ below (Qi G I R1 Z) args s 0 0 (AD G I)) (F0 m 2 ls [])) {v1 : Int32} {v2 : Int32} {v3 : Int32} {v4 : Int32} {z : Sg} {H : Heap} {locs : List Loc} {ls : Array Slot} (h : pM_wordFrom_88 fu rc2 v1 v2 v3 v4 z = some (R1, Z)) (hG : GW G I z s.heap H locs) (hl : lv_has ls 6 [(0, .ref (gA G 78)), (1, .int v1), (2, .int v2), (3, .int v3), (4, .int v4)]) : W p l e rmM_wordFrom s m args below meth c H locs 0 0 (MQ below (Qi G I R1 Z) args s 0 0 (AD G I)) (F0 m 88 ls []) := by
  unfold pM_wordFrom_88 at h
  refine rIload C dM_wordFrom_88 hl 4 rfl ?_
  refine rIfeq C (tgt := 95) h dM_wordFrom_90 (by decide) (fun h => ?_) (fun h => ?_)
  · refine rIinc C dM_wordFrom_95 hl 3 rfl (d := 1) (by decide) h (by decide) [(0, .ref (gA G 78)), (1, .int v1), (2, .int v2), (4, .int v4)] rfl (fun x1 ls h hl => ?_)
    refine lv_goto (tgt := 2) C.1 C.2.1 dM_wordFrom_98 (by decide) ?_
    exact hr2 h hG (lv_sub hl [1, 2, 3, 0] rfl)
  · refine rIload_n C dM_wordFrom_93 hl 3 rfl ?_
    exact rReti C hG h dM_wordFrom_94
theorem wM_wordFrom_26 {p : Program} {l : Launch} {e : Env} {s : State} {m : MethodId} {args : Array Value} {below : List Frame} {meth : Method} {c : Code} {G : GT} {I : List Nat} (C : CX p s m args meth c NM bM_wordFrom 6 (some .int) G I) (hI : mI I) {fu : Nat} {R1 : Int32} {Z : Sg} {rc2 : Int32 → Int32 → Int32 → Sg → Option (Int32 × Sg)} (hr2 : ∀ {v1 : Int32} {v2 : Int32} {v3 : Int32} {z : Sg} {H : Heap} {locs : List Loc} {ls : Array Slot}, rc2 v1 v2 v3 z = some (R1, Z) → GW G I z s.heap H locs → lv_has ls 6 [(0, .ref (gA G 78)), (1, .int v1), (2, .int v2), (3, .int v3)] → W p l e rmM_wordFrom s m args below meth c H locs 0 0 (MQ below (Qi G I R1 Z) args s 0 0 (AD G I)) (F0 m 2 ls [])) : ∀ (k : Nat) {v1 : Int32} {v2 : Int32} {v3 : Int32} {v4 : Int32} {v5 : Int32} {z : Sg} {H : Heap} {locs : List Loc} {ls : Array Slot}, pM_wordFrom_26 fu rc2 k v1 v2 v3 v4 v5 z = some (R1, Z) → GW G I z s.heap H locs → lv_has ls 6 [(0, .ref (gA G 78)), (1, .int v1), (2, .int v2), (3, .int v3), (4, .int v4), (5, .int v5)] → W p l e rmM_wordFrom s m args below meth c H locs 0 0 (MQ below (Qi G I R1 Z) args s 0 0 (AD G I)) (F0 m 26 ls []) := by
  intro k
  induction k with
  | zero => intro v1 v2 v3 v4 v5 z H locs ls h hG hl; rw [pM_wordFrom_26] at h; cases h
  | succ k ih =>
    intro v1 v2 v3 v4 v5 z H locs ls h hG hl
    rw [pM_wordFrom_26] at h
    refine rIload C dM_wordFrom_26 hl 5 rfl ?_
    refine lv_bipush (v := 8) C.1 C.2.1 dM_wordFrom_28 (by decide) ?_
    refine rIcmpge C (tgt := 88) h dM_wordFrom_30 (by decide) (fun h => ?_) (fun h => ?_)
    · exact wM_wordFrom_88 C hI hr2 h hG (lv_sub hl [0, 1, 2, 3, 4] rfl)
    · refine rIload C dM_wordFrom_33 hl 4 rfl ?_
      refine rIfeq C (tgt := 88) h dM_wordFrom_35 (by decide) (fun h => ?_) (fun h => ?_)
      · exact wM_wordFrom_88 C hI hr2 h hG (lv_sub hl [0, 1, 2, 3, 4] rfl)
      · refine rAload_n C dM_wordFrom_38 hl 0 rfl ?_
        refine rGet C hG (hI 78 (by decide) (by decide)) e_78 fiM_22 (v := .ref (gA G 92)) rfl k_828 dM_wordFrom_39 ?_
        refine lv_bipush (v := 8) C.1 C.2.1 dM_wordFrom_42 (by decide) ?_
        refine rIload_n C dM_wordFrom_44 hl 3 rfl ?_
        refine lv_imul C.1 C.2.1 dM_wordFrom_45 ?_
        refine rIload C dM_wordFrom_46 hl 5 rfl ?_
        refine lv_iadd C.1 C.2.1 dM_wordFrom_48 ?_
        refine rIald C hG (hI 92 (by decide) (by decide)) e_92 h dM_wordFrom_49 (fun h => ?_)
        refine rIload_n C dM_wordFrom_50 hl 1 rfl ?_
        refine rIload C dM_wordFrom_51 hl 5 rfl ?_
        refine lv_iadd C.1 C.2.1 dM_wordFrom_53 ?_
        refine rIload_n C dM_wordFrom_54 hl 2 rfl ?_
        refine rIcmpge C (tgt := 70) h dM_wordFrom_55 (by decide) (fun h => ?_) (fun h => ?_)
        · refine lv_bipush (v := 32) C.1 C.2.1 dM_wordFrom_70 (by decide) ?_
          exact wM_wordFrom_72 C hI hr2 ih h hG (lv_sub hl [0, 1, 2, 3, 5] rfl)
        · refine rAload_n C dM_wordFrom_58 hl 0 rfl ?_
          refine rGet C hG (hI 78 (by decide) (by decide)) e_78 fiM_5 (v := .ref (gA G 83)) rfl k_811 dM_wordFrom_59 ?_
          refine rIload_n C dM_wordFrom_62 hl 1 rfl ?_
          refine rIload C dM_wordFrom_63 hl 5 rfl ?_
          refine lv_iadd C.1 C.2.1 dM_wordFrom_65 ?_
          refine rIald C hG (hI 83 (by decide) (by decide)) e_83 h dM_wordFrom_66 (fun h => ?_)
          refine lv_goto (tgt := 72) C.1 C.2.1 dM_wordFrom_67 (by decide) ?_
          exact wM_wordFrom_72 C hI hr2 ih h hG (lv_sub hl [0, 1, 2, 3, 5] rfl)
theorem wM_wordFrom_21 {p : Program} {l : Launch} {e : Env} {s : State} {m : MethodId} {args : Array Value} {below : List Frame} {meth : Method} {c : Code} {G : GT} {I : List Nat} (C : CX p s m args meth c NM bM_wordFrom 6 (some .int) G I) (hI : mI I) {fu : Nat} {R1 : Int32} {Z : Sg} {rc2 : Int32 → Int32 → Int32 → Sg → Option (Int32 × Sg)} (hr2 : ∀ {v1 : Int32} {v2 : Int32} {v3 : Int32} {z : Sg} {H : Heap} {locs : List Loc} {ls : Array Slot}, rc2 v1 v2 v3 z = some (R1, Z) → GW G I z s.heap H locs → lv_has ls 6 [(0, .ref (gA G 78)), (1, .int v1), (2, .int v2), (3, .int v3)] → W p l e rmM_wordFrom s m args below meth c H locs 0 0 (MQ below (Qi G I R1 Z) args s 0 0 (AD G I)) (F0 m 2 ls [])) {v1 : Int32} {v2 : Int32} {v3 : Int32} {t0 : Int32} {z : Sg} {H : Heap} {locs : List Loc} {ls : Array Slot} (h : pM_wordFrom_21 fu rc2 v1 v2 v3 t0 z = some (R1, Z)) (hG : GW G I z s.heap H locs) (hl : lv_has ls 6 [(0, .ref (gA G 78)), (1, .int v1), (2, .int v2), (3, .int v3)]) : W p l e rmM_wordFrom s m args below meth c H locs 0 0 (MQ below (Qi G I R1 Z) args s 0 0 (AD G I)) (F0 m 21 ls [.int t0]) := by
  unfold pM_wordFrom_21 at h
  refine rIstoreA C dM_wordFrom_21 hl (by decide) [(0, .ref (gA G 78)), (1, .int v1), (2, .int v2), (3, .int v3)] rfl (fun ls hl => ?_)
  refine lv_iconst (v := 0) C.1 C.2.1 dM_wordFrom_23 (by decide) ?_
  refine rIstoreA C dM_wordFrom_24 hl (by decide) [(4, .int t0), (0, .ref (gA G 78)), (1, .int v1), (2, .int v2), (3, .int v3)] rfl (fun ls hl => ?_)
  exact wM_wordFrom_26 C hI hr2 _ h hG (lv_sub hl [2, 3, 4, 5, 1, 0] rfl)
theorem wM_wordFrom_2 {p : Program} {l : Launch} {e : Env} {s : State} {m : MethodId} {args : Array Value} {below : List Frame} {meth : Method} {c : Code} {G : GT} {I : List Nat} (C : CX p s m args meth c NM bM_wordFrom 6 (some .int) G I) (hI : mI I) {fu : Nat} {R1 : Int32} {Z : Sg} : ∀ (k : Nat) {v1 : Int32} {v2 : Int32} {v3 : Int32} {z : Sg} {H : Heap} {locs : List Loc} {ls : Array Slot}, pM_wordFrom_2 fu k v1 v2 v3 z = some (R1, Z) → GW G I z s.heap H locs → lv_has ls 6 [(0, .ref (gA G 78)), (1, .int v1), (2, .int v2), (3, .int v3)] → W p l e rmM_wordFrom s m args below meth c H locs 0 0 (MQ below (Qi G I R1 Z) args s 0 0 (AD G I)) (F0 m 2 ls []) := by
  intro k
  induction k with
  | zero => intro v1 v2 v3 z H locs ls h hG hl; rw [pM_wordFrom_2] at h; cases h
  | succ k ih =>
    intro v1 v2 v3 z H locs ls h hG hl
    rw [pM_wordFrom_2] at h
    refine rIload_n C dM_wordFrom_2 hl 3 rfl ?_
    refine lv_bipush (v := 12) C.1 C.2.1 dM_wordFrom_3 (by decide) ?_
    refine rIcmpge C (tgt := 101) h dM_wordFrom_5 (by decide) (fun h => ?_) (fun h => ?_)
    · refine lv_bipush (v := 12) C.1 C.2.1 dM_wordFrom_101 (by decide) ?_
      exact rReti C hG h dM_wordFrom_103
    · refine rIload_n C dM_wordFrom_8 hl 2 rfl ?_
      refine rIload_n C dM_wordFrom_9 hl 1 rfl ?_
      refine lv_isub C.1 C.2.1 dM_wordFrom_10 ?_
      refine lv_bipush (v := 8) C.1 C.2.1 dM_wordFrom_11 (by decide) ?_
      refine rIcmpgt C (tgt := 20) h dM_wordFrom_13 (by decide) (fun h => ?_) (fun h => ?_)
      · refine lv_iconst (v := 0) C.1 C.2.1 dM_wordFrom_20 (by decide) ?_
        exact wM_wordFrom_21 C hI ih h hG (lv_sub hl [0, 1, 2, 3] rfl)
      · refine lv_iconst (v := 1) C.1 C.2.1 dM_wordFrom_16 (by decide) ?_
        refine lv_goto (tgt := 21) C.1 C.2.1 dM_wordFrom_17 (by decide) ?_
        exact wM_wordFrom_21 C hI ih h hG (lv_sub hl [0, 1, 2, 3] rfl)
theorem cM_wordFrom {l : Launch} {G : GT} {I : List Nat} (hI : mI I) {fu : Nat} {v1 : Int32} {v2 : Int32} {z : Sg} {R1 : Int32} {Z : Sg} (h : pM_wordFrom fu v1 v2 z = some (R1, Z)) : Mt l yM_wordFrom rmM_wordFrom bM_wordFrom 6 (some .int) G I z [.ref (gA G 78), .int v1, .int v2] (Qi G I R1 Z) := by
  refine entM (by decide +kernel) (Nat.le_of_ble_eq_true rfl) ?_
  intro p e s m below meth c C hG ls hl
  have hl : lv_has ls 6 [(0, .ref (gA G 78)), (1, .int v1), (2, .int v2)] := hl
  unfold pM_wordFrom at h
  refine lv_iconst (v := 0) C.1 C.2.1 dM_wordFrom_0 (by decide) ?_
  refine rIstoreA_n C dM_wordFrom_1 hl (by decide) [(0, .ref (gA G 78)), (1, .int v1), (2, .int v2)] rfl (fun ls hl => ?_)
  exact wM_wordFrom_2 C hI _ h hG (lv_sub hl [1, 2, 3, 0] rfl)
theorem dM_next_0 : decode bM_next 0 = .ok (.aload_n 0, 1) := by decide +kernel
theorem dM_next_1 : decode bM_next 1 = .ok (.getfield 122, 3) := by decide +kernel
theorem dM_next_4 : decode bM_next 4 = .ok (.aload_n 0, 1) := by decide +kernel
theorem dM_next_5 : decode bM_next 5 = .ok (.getfield 70, 3) := by decide +kernel
theorem dM_next_8 : decode bM_next 8 = .ok (.if_icmp .ge 44, 3) := by decide +kernel
theorem dM_next_11 : decode bM_next 11 = .ok (.aload_n 0, 1) := by decide +kernel
theorem dM_next_12 : decode bM_next 12 = .ok (.getfield 22, 3) := by decide +kernel
theorem dM_next_15 : decode bM_next 15 = .ok (.aload_n 0, 1) := by decide +kernel
theorem dM_next_16 : decode bM_next 16 = .ok (.getfield 122, 3) := by decide +kernel
theorem dM_next_19 : decode bM_next 19 = .ok (.iaload, 1) := by decide +kernel
theorem dM_next_20 : decode bM_next 20 = .ok (.bipush 32, 2) := by decide +kernel
theorem dM_next_22 : decode bM_next 22 = .ok (.if_icmp .eq 17, 3) := by decide +kernel
theorem dM_next_25 : decode bM_next 25 = .ok (.aload_n 0, 1) := by decide +kernel
theorem dM_next_26 : decode bM_next 26 = .ok (.getfield 22, 3) := by decide +kernel
theorem dM_next_29 : decode bM_next 29 = .ok (.aload_n 0, 1) := by decide +kernel
theorem dM_next_30 : decode bM_next 30 = .ok (.getfield 122, 3) := by decide +kernel
theorem dM_next_33 : decode bM_next 33 = .ok (.iaload, 1) := by decide +kernel
theorem dM_next_34 : decode bM_next 34 = .ok (.bipush 10, 2) := by decide +kernel
theorem dM_next_36 : decode bM_next 36 = .ok (.if_icmp .ne 16, 3) := by decide +kernel
theorem dM_next_39 : decode bM_next 39 = .ok (.aload_n 0, 1) := by decide +kernel
theorem dM_next_40 : decode bM_next 40 = .ok (.dup, 1) := by decide +kernel
theorem dM_next_41 : decode bM_next 41 = .ok (.getfield 122, 3) := by decide +kernel
theorem dM_next_44 : decode bM_next 44 = .ok (.iconst 1, 1) := by decide +kernel
theorem dM_next_45 : decode bM_next 45 = .ok (.iadd, 1) := by decide +kernel
theorem dM_next_46 : decode bM_next 46 = .ok (.putfield 122, 3) := by decide +kernel
theorem dM_next_49 : decode bM_next 49 = .ok (.goto (-49), 3) := by decide +kernel
theorem dM_next_52 : decode bM_next 52 = .ok (.aload_n 0, 1) := by decide +kernel
theorem dM_next_53 : decode bM_next 53 = .ok (.aload_n 0, 1) := by decide +kernel
theorem dM_next_54 : decode bM_next 54 = .ok (.getfield 122, 3) := by decide +kernel
theorem dM_next_57 : decode bM_next 57 = .ok (.putfield 125, 3) := by decide +kernel
theorem dM_next_60 : decode bM_next 60 = .ok (.aload_n 0, 1) := by decide +kernel
theorem dM_next_61 : decode bM_next 61 = .ok (.iconst 0, 1) := by decide +kernel
theorem dM_next_62 : decode bM_next 62 = .ok (.putfield 128, 3) := by decide +kernel
theorem dM_next_65 : decode bM_next 65 = .ok (.aload_n 0, 1) := by decide +kernel
theorem dM_next_66 : decode bM_next 66 = .ok (.iconst 0, 1) := by decide +kernel
theorem dM_next_67 : decode bM_next 67 = .ok (.putfield 131, 3) := by decide +kernel
theorem dM_next_70 : decode bM_next 70 = .ok (.aload_n 0, 1) := by decide +kernel
theorem dM_next_71 : decode bM_next 71 = .ok (.getfield 122, 3) := by decide +kernel
theorem dM_next_74 : decode bM_next 74 = .ok (.aload_n 0, 1) := by decide +kernel
theorem dM_next_75 : decode bM_next 75 = .ok (.getfield 70, 3) := by decide +kernel
theorem dM_next_78 : decode bM_next 78 = .ok (.if_icmp .ne 4, 3) := by decide +kernel
theorem dM_next_81 : decode bM_next 81 = .ok (.return_, 1) := by decide +kernel
theorem dM_next_82 : decode bM_next 82 = .ok (.aload_n 0, 1) := by decide +kernel
theorem dM_next_83 : decode bM_next 83 = .ok (.getfield 22, 3) := by decide +kernel
theorem dM_next_86 : decode bM_next 86 = .ok (.aload_n 0, 1) := by decide +kernel
theorem dM_next_87 : decode bM_next 87 = .ok (.getfield 122, 3) := by decide +kernel
theorem dM_next_90 : decode bM_next 90 = .ok (.iaload, 1) := by decide +kernel
theorem dM_next_91 : decode bM_next 91 = .ok (.istore_n 1, 1) := by decide +kernel
theorem dM_next_92 : decode bM_next 92 = .ok (.iload_n 1, 1) := by decide +kernel
theorem dM_next_93 : decode bM_next 93 = .ok (.bipush 97, 2) := by decide +kernel
theorem dM_next_95 : decode bM_next 95 = .ok (.bipush 122, 2) := by decide +kernel
theorem dM_next_97 : decode bM_next 97 = .ok (.invokestatic 81, 3) := by decide +kernel
theorem dM_next_100 : decode bM_next 100 = .ok (.ifCond .eq 117, 3) := by decide +kernel
theorem dM_next_103 : decode bM_next 103 = .ok (.aload_n 0, 1) := by decide +kernel
theorem dM_next_104 : decode bM_next 104 = .ok (.getfield 122, 3) := by decide +kernel
theorem dM_next_107 : decode bM_next 107 = .ok (.aload_n 0, 1) := by decide +kernel
theorem dM_next_108 : decode bM_next 108 = .ok (.getfield 70, 3) := by decide +kernel
theorem dM_next_111 : decode bM_next 111 = .ok (.if_icmp .ge 35, 3) := by decide +kernel
theorem dM_next_114 : decode bM_next 114 = .ok (.aload_n 0, 1) := by decide +kernel
theorem dM_next_115 : decode bM_next 115 = .ok (.getfield 22, 3) := by decide +kernel
theorem dM_next_118 : decode bM_next 118 = .ok (.aload_n 0, 1) := by decide +kernel
theorem dM_next_119 : decode bM_next 119 = .ok (.getfield 122, 3) := by decide +kernel
theorem dM_next_122 : decode bM_next 122 = .ok (.iaload, 1) := by decide +kernel
theorem dM_next_123 : decode bM_next 123 = .ok (.bipush 97, 2) := by decide +kernel
theorem dM_next_125 : decode bM_next 125 = .ok (.bipush 122, 2) := by decide +kernel
theorem dM_next_127 : decode bM_next 127 = .ok (.invokestatic 81, 3) := by decide +kernel
theorem dM_next_130 : decode bM_next 130 = .ok (.ifCond .eq 16, 3) := by decide +kernel
theorem dM_next_133 : decode bM_next 133 = .ok (.aload_n 0, 1) := by decide +kernel
theorem dM_next_134 : decode bM_next 134 = .ok (.dup, 1) := by decide +kernel
theorem dM_next_135 : decode bM_next 135 = .ok (.getfield 122, 3) := by decide +kernel
theorem dM_next_138 : decode bM_next 138 = .ok (.iconst 1, 1) := by decide +kernel
theorem dM_next_139 : decode bM_next 139 = .ok (.iadd, 1) := by decide +kernel
theorem dM_next_140 : decode bM_next 140 = .ok (.putfield 122, 3) := by decide +kernel
theorem dM_next_143 : decode bM_next 143 = .ok (.goto (-40), 3) := by decide +kernel
theorem dM_next_146 : decode bM_next 146 = .ok (.aload_n 0, 1) := by decide +kernel
theorem dM_next_147 : decode bM_next 147 = .ok (.aload_n 0, 1) := by decide +kernel
theorem dM_next_148 : decode bM_next 148 = .ok (.getfield 125, 3) := by decide +kernel
theorem dM_next_151 : decode bM_next 151 = .ok (.aload_n 0, 1) := by decide +kernel
theorem dM_next_152 : decode bM_next 152 = .ok (.getfield 122, 3) := by decide +kernel
theorem dM_next_155 : decode bM_next 155 = .ok (.invokevirtual 134, 3) := by decide +kernel
theorem dM_next_158 : decode bM_next 158 = .ok (.istore_n 2, 1) := by decide +kernel
theorem dM_next_159 : decode bM_next 159 = .ok (.aload_n 0, 1) := by decide +kernel
theorem dM_next_160 : decode bM_next 160 = .ok (.iload_n 2, 1) := by decide +kernel
theorem dM_next_161 : decode bM_next 161 = .ok (.iconst 3, 1) := by decide +kernel
theorem dM_next_162 : decode bM_next 162 = .ok (.if_icmp .ge 7, 3) := by decide +kernel
theorem dM_next_165 : decode bM_next 165 = .ok (.iconst 3, 1) := by decide +kernel
theorem dM_next_166 : decode bM_next 166 = .ok (.goto 29, 3) := by decide +kernel
theorem dM_next_169 : decode bM_next 169 = .ok (.iload_n 2, 1) := by decide +kernel
theorem dM_next_170 : decode bM_next 170 = .ok (.bipush 9, 2) := by decide +kernel
theorem dM_next_172 : decode bM_next 172 = .ok (.if_icmp .ge 7, 3) := by decide +kernel
theorem dM_next_175 : decode bM_next 175 = .ok (.iconst 2, 1) := by decide +kernel
theorem dM_next_176 : decode bM_next 176 = .ok (.goto 19, 3) := by decide +kernel
theorem dM_next_179 : decode bM_next 179 = .ok (.iload_n 2, 1) := by decide +kernel
theorem dM_next_180 : decode bM_next 180 = .ok (.bipush 12, 2) := by decide +kernel
theorem dM_next_182 : decode bM_next 182 = .ok (.if_icmp .ne 7, 3) := by decide +kernel
theorem dM_next_185 : decode bM_next 185 = .ok (.iconst (-1), 1) := by decide +kernel
theorem dM_next_186 : decode bM_next 186 = .ok (.goto 9, 3) := by decide +kernel
theorem dM_next_189 : decode bM_next 189 = .ok (.iconst 4, 1) := by decide +kernel
theorem dM_next_190 : decode bM_next 190 = .ok (.iload_n 2, 1) := by decide +kernel
theorem dM_next_191 : decode bM_next 191 = .ok (.iadd, 1) := by decide +kernel
theorem dM_next_192 : decode bM_next 192 = .ok (.bipush 9, 2) := by decide +kernel
theorem dM_next_194 : decode bM_next 194 = .ok (.isub, 1) := by decide +kernel
theorem dM_next_195 : decode bM_next 195 = .ok (.putfield 128, 3) := by decide +kernel
theorem dM_next_198 : decode bM_next 198 = .ok (.aload_n 0, 1) := by decide +kernel
theorem dM_next_199 : decode bM_next 199 = .ok (.iload_n 2, 1) := by decide +kernel
theorem dM_next_200 : decode bM_next 200 = .ok (.iconst 3, 1) := by decide +kernel
theorem dM_next_201 : decode bM_next 201 = .ok (.if_icmp .ge 7, 3) := by decide +kernel
theorem dM_next_204 : decode bM_next 204 = .ok (.iload_n 2, 1) := by decide +kernel
theorem dM_next_205 : decode bM_next 205 = .ok (.goto 6, 3) := by decide +kernel
theorem dM_next_208 : decode bM_next 208 = .ok (.iload_n 2, 1) := by decide +kernel
theorem dM_next_209 : decode bM_next 209 = .ok (.iconst 3, 1) := by decide +kernel
theorem dM_next_210 : decode bM_next 210 = .ok (.isub, 1) := by decide +kernel
theorem dM_next_211 : decode bM_next 211 = .ok (.putfield 131, 3) := by decide +kernel
theorem dM_next_214 : decode bM_next 214 = .ok (.goto 189, 3) := by decide +kernel
theorem dM_next_217 : decode bM_next 217 = .ok (.iload_n 1, 1) := by decide +kernel
theorem dM_next_218 : decode bM_next 218 = .ok (.bipush 48, 2) := by decide +kernel
theorem dM_next_220 : decode bM_next 220 = .ok (.bipush 57, 2) := by decide +kernel
theorem dM_next_222 : decode bM_next 222 = .ok (.invokestatic 81, 3) := by decide +kernel
theorem dM_next_225 : decode bM_next 225 = .ok (.ifCond .eq 101, 3) := by decide +kernel
theorem dM_next_228 : decode bM_next 228 = .ok (.iconst 0, 1) := by decide +kernel
theorem dM_next_229 : decode bM_next 229 = .ok (.istore_n 2, 1) := by decide +kernel
theorem dM_next_230 : decode bM_next 230 = .ok (.aload_n 0, 1) := by decide +kernel
theorem dM_next_231 : decode bM_next 231 = .ok (.getfield 122, 3) := by decide +kernel
theorem dM_next_234 : decode bM_next 234 = .ok (.aload_n 0, 1) := by decide +kernel
theorem dM_next_235 : decode bM_next 235 = .ok (.getfield 70, 3) := by decide +kernel
theorem dM_next_238 : decode bM_next 238 = .ok (.if_icmp .ge 71, 3) := by decide +kernel
theorem dM_next_241 : decode bM_next 241 = .ok (.aload_n 0, 1) := by decide +kernel
theorem dM_next_242 : decode bM_next 242 = .ok (.getfield 22, 3) := by decide +kernel
theorem dM_next_245 : decode bM_next 245 = .ok (.aload_n 0, 1) := by decide +kernel
theorem dM_next_246 : decode bM_next 246 = .ok (.getfield 122, 3) := by decide +kernel
theorem dM_next_249 : decode bM_next 249 = .ok (.iaload, 1) := by decide +kernel
theorem dM_next_250 : decode bM_next 250 = .ok (.bipush 48, 2) := by decide +kernel
theorem dM_next_252 : decode bM_next 252 = .ok (.bipush 57, 2) := by decide +kernel
theorem dM_next_254 : decode bM_next 254 = .ok (.invokestatic 81, 3) := by decide +kernel
theorem dM_next_257 : decode bM_next 257 = .ok (.ifCond .eq 52, 3) := by decide +kernel
theorem dM_next_260 : decode bM_next 260 = .ok (.aload_n 0, 1) := by decide +kernel
theorem dM_next_261 : decode bM_next 261 = .ok (.iload_n 2, 1) := by decide +kernel
theorem dM_next_262 : decode bM_next 262 = .ok (.iconst 4, 1) := by decide +kernel
theorem dM_next_263 : decode bM_next 263 = .ok (.if_icmp .ge 26, 3) := by decide +kernel
theorem dM_next_266 : decode bM_next 266 = .ok (.bipush 10, 2) := by decide +kernel
theorem dM_next_268 : decode bM_next 268 = .ok (.aload_n 0, 1) := by decide +kernel
theorem dM_next_269 : decode bM_next 269 = .ok (.getfield 131, 3) := by decide +kernel
theorem dM_next_272 : decode bM_next 272 = .ok (.imul, 1) := by decide +kernel
theorem dM_next_273 : decode bM_next 273 = .ok (.aload_n 0, 1) := by decide +kernel
theorem dM_next_274 : decode bM_next 274 = .ok (.getfield 22, 3) := by decide +kernel
theorem dM_next_277 : decode bM_next 277 = .ok (.aload_n 0, 1) := by decide +kernel
theorem dM_next_278 : decode bM_next 278 = .ok (.getfield 122, 3) := by decide +kernel
theorem dM_next_281 : decode bM_next 281 = .ok (.iaload, 1) := by decide +kernel
theorem dM_next_282 : decode bM_next 282 = .ok (.iadd, 1) := by decide +kernel
theorem dM_next_283 : decode bM_next 283 = .ok (.bipush 48, 2) := by decide +kernel
theorem dM_next_285 : decode bM_next 285 = .ok (.isub, 1) := by decide +kernel
theorem dM_next_286 : decode bM_next 286 = .ok (.goto 4, 3) := by decide +kernel
theorem dM_next_289 : decode bM_next 289 = .ok (.iconst 0, 1) := by decide +kernel
theorem dM_next_290 : decode bM_next 290 = .ok (.putfield 131, 3) := by decide +kernel
theorem dM_next_293 : decode bM_next 293 = .ok (.iinc 2 1, 3) := by decide +kernel
theorem dM_next_296 : decode bM_next 296 = .ok (.aload_n 0, 1) := by decide +kernel
theorem dM_next_297 : decode bM_next 297 = .ok (.dup, 1) := by decide +kernel
theorem dM_next_298 : decode bM_next 298 = .ok (.getfield 122, 3) := by decide +kernel
theorem dM_next_301 : decode bM_next 301 = .ok (.iconst 1, 1) := by decide +kernel
theorem dM_next_302 : decode bM_next 302 = .ok (.iadd, 1) := by decide +kernel
theorem dM_next_303 : decode bM_next 303 = .ok (.putfield 122, 3) := by decide +kernel
theorem dM_next_306 : decode bM_next 306 = .ok (.goto (-76), 3) := by decide +kernel
theorem dM_next_309 : decode bM_next 309 = .ok (.aload_n 0, 1) := by decide +kernel
theorem dM_next_310 : decode bM_next 310 = .ok (.iload_n 2, 1) := by decide +kernel
theorem dM_next_311 : decode bM_next 311 = .ok (.iconst 4, 1) := by decide +kernel
theorem dM_next_312 : decode bM_next 312 = .ok (.if_icmp .le 7, 3) := by decide +kernel
theorem dM_next_315 : decode bM_next 315 = .ok (.iconst (-1), 1) := by decide +kernel
theorem dM_next_316 : decode bM_next 316 = .ok (.goto 4, 3) := by decide +kernel
theorem dM_next_319 : decode bM_next 319 = .ok (.iconst 1, 1) := by decide +kernel
theorem dM_next_320 : decode bM_next 320 = .ok (.putfield 128, 3) := by decide +kernel
theorem dM_next_323 : decode bM_next 323 = .ok (.goto 80, 3) := by decide +kernel
theorem dM_next_326 : decode bM_next 326 = .ok (.iload_n 1, 1) := by decide +kernel
theorem dM_next_327 : decode bM_next 327 = .ok (.bipush 40, 2) := by decide +kernel
theorem dM_next_329 : decode bM_next 329 = .ok (.if_icmp .eq 45, 3) := by decide +kernel
theorem dM_next_332 : decode bM_next 332 = .ok (.iload_n 1, 1) := by decide +kernel
theorem dM_next_333 : decode bM_next 333 = .ok (.bipush 41, 2) := by decide +kernel
theorem dM_next_335 : decode bM_next 335 = .ok (.if_icmp .eq 39, 3) := by decide +kernel
theorem dM_next_338 : decode bM_next 338 = .ok (.iload_n 1, 1) := by decide +kernel
theorem dM_next_339 : decode bM_next 339 = .ok (.bipush 59, 2) := by decide +kernel
theorem dM_next_341 : decode bM_next 341 = .ok (.if_icmp .eq 33, 3) := by decide +kernel
theorem dM_next_344 : decode bM_next 344 = .ok (.iload_n 1, 1) := by decide +kernel
theorem dM_next_345 : decode bM_next 345 = .ok (.bipush 43, 2) := by decide +kernel
theorem dM_next_347 : decode bM_next 347 = .ok (.if_icmp .eq 27, 3) := by decide +kernel
theorem dM_next_350 : decode bM_next 350 = .ok (.iload_n 1, 1) := by decide +kernel
theorem dM_next_351 : decode bM_next 351 = .ok (.bipush 45, 2) := by decide +kernel
theorem dM_next_353 : decode bM_next 353 = .ok (.if_icmp .eq 21, 3) := by decide +kernel
theorem dM_next_356 : decode bM_next 356 = .ok (.iload_n 1, 1) := by decide +kernel
theorem dM_next_357 : decode bM_next 357 = .ok (.bipush 42, 2) := by decide +kernel
theorem dM_next_359 : decode bM_next 359 = .ok (.if_icmp .eq 15, 3) := by decide +kernel
theorem dM_next_362 : decode bM_next 362 = .ok (.iload_n 1, 1) := by decide +kernel
theorem dM_next_363 : decode bM_next 363 = .ok (.bipush 60, 2) := by decide +kernel
theorem dM_next_365 : decode bM_next 365 = .ok (.if_icmp .eq 9, 3) := by decide +kernel
theorem dM_next_368 : decode bM_next 368 = .ok (.iload_n 1, 1) := by decide +kernel
theorem dM_next_369 : decode bM_next 369 = .ok (.bipush 61, 2) := by decide +kernel
theorem dM_next_371 : decode bM_next 371 = .ok (.if_icmp .ne 7, 3) := by decide +kernel
theorem dM_next_374 : decode bM_next 374 = .ok (.iconst 1, 1) := by decide +kernel
theorem dM_next_375 : decode bM_next 375 = .ok (.goto 4, 3) := by decide +kernel
theorem dM_next_378 : decode bM_next 378 = .ok (.iconst 0, 1) := by decide +kernel
theorem dM_next_379 : decode bM_next 379 = .ok (.istore_n 2, 1) := by decide +kernel
theorem dM_next_380 : decode bM_next 380 = .ok (.aload_n 0, 1) := by decide +kernel
theorem dM_next_381 : decode bM_next 381 = .ok (.iload_n 2, 1) := by decide +kernel
theorem dM_next_382 : decode bM_next 382 = .ok (.ifCond .eq 7, 3) := by decide +kernel
theorem dM_next_385 : decode bM_next 385 = .ok (.iload_n 1, 1) := by decide +kernel
theorem dM_next_386 : decode bM_next 386 = .ok (.goto 4, 3) := by decide +kernel
theorem dM_next_389 : decode bM_next 389 = .ok (.iconst (-1), 1) := by decide +kernel
theorem dM_next_390 : decode bM_next 390 = .ok (.putfield 128, 3) := by decide +kernel
theorem dM_next_393 : decode bM_next 393 = .ok (.aload_n 0, 1) := by decide +kernel
theorem dM_next_394 : decode bM_next 394 = .ok (.dup, 1) := by decide +kernel
theorem dM_next_395 : decode bM_next 395 = .ok (.getfield 122, 3) := by decide +kernel
theorem dM_next_398 : decode bM_next 398 = .ok (.iconst 1, 1) := by decide +kernel
theorem dM_next_399 : decode bM_next 399 = .ok (.iadd, 1) := by decide +kernel
theorem dM_next_400 : decode bM_next 400 = .ok (.putfield 122, 3) := by decide +kernel
theorem dM_next_403 : decode bM_next 403 = .ok (.return_, 1) := by decide +kernel
theorem wM_next_39 {p : Program} {l : Launch} {e : Env} {s : State} {m : MethodId} {args : Array Value} {below : List Frame} {meth : Method} {c : Code} {G : GT} {I : List Nat} (C : CX p s m args meth c NM bM_next 3 none G I) (hI : mI I) {fu : Nat} {Z : Sg} {rc0 : Sg → Option Sg} (hr0 : ∀ {z : Sg} {H : Heap} {locs : List Loc} {ls : Array Slot}, rc0 z = some Z → GW G I z s.heap H locs → lv_has ls 3 [(0, .ref (gA G 78))] → W p l e rmM_next s m args below meth c H locs 0 0 (MQ below (Qv G I Z) args s 0 0 (AD G I)) (F0 m 0 ls [])) {z : Sg} {H : Heap} {locs : List Loc} {ls : Array Slot} (h : pM_next_39 fu rc0 z = some Z) (hG : GW G I z s.heap H locs) (hl : lv_has ls 3 [(0, .ref (gA G 78))]) : W p l e rmM_next s m args below meth c H locs 0 0 (MQ below (Qv G I Z) args s 0 0 (AD G I)) (F0 m 39 ls []) := by
  unfold pM_next_39 at h
  refine rAload_n C dM_next_39 hl 0 rfl ?_
  refine lv_dup C.1 C.2.1 dM_next_40 rfl ?_
  refine rGet C hG (hI 78 (by decide) (by decide)) e_78 fiM_18 (v := .int (z 78 18)) rfl k_824 dM_next_41 ?_
  refine lv_iconst (v := 1) C.1 C.2.1 dM_next_44 (by decide) ?_
  refine lv_iadd C.1 C.2.1 dM_next_45 ?_
  refine rPut C hG (hI 78 (by decide) (by decide)) e_78 fiM_18 tokM nmM rfl (fpM_18 _) (Nat.le_of_ble_eq_true rfl) rfl rfl k_824 h dM_next_46 (fun H locs z9 h hG => ?_)
  refine lv_goto (tgt := 0) C.1 C.2.1 dM_next_49 (by decide) ?_
  exact hr0 h hG (lv_sub hl [0] rfl)
theorem wM_next_211 {p : Program} {l : Launch} {e : Env} {s : State} {m : MethodId} {args : Array Value} {below : List Frame} {meth : Method} {c : Code} {G : GT} {I : List Nat} (C : CX p s m args meth c NM bM_next 3 none G I) (hI : mI I) {fu : Nat} {Z : Sg} {t1 : Int32} {z : Sg} {H : Heap} {locs : List Loc} {ls : Array Slot} (h : pM_next_211 fu t1 z = some Z) (hG : GW G I z s.heap H locs) (hl : lv_has ls 3 []) : W p l e rmM_next s m args below meth c H locs 0 0 (MQ below (Qv G I Z) args s 0 0 (AD G I)) (F0 m 211 ls [.int t1, .ref (gA G 78)]) := by
  unfold pM_next_211 at h
  refine rPut C hG (hI 78 (by decide) (by decide)) e_78 fiM_21 tokM nmM rfl (fpM_21 _) (Nat.le_of_ble_eq_true rfl) rfl rfl k_827 h dM_next_211 (fun H locs z24 h hG => ?_)
  refine lv_goto (tgt := 403) C.1 C.2.1 dM_next_214 (by decide) ?_
  exact rRetv C hG h dM_next_403
theorem wM_next_195 {p : Program} {l : Launch} {e : Env} {s : State} {m : MethodId} {args : Array Value} {below : List Frame} {meth : Method} {c : Code} {G : GT} {I : List Nat} (C : CX p s m args meth c NM bM_next 3 none G I) (hI : mI I) {fu : Nat} {Z : Sg} {v2 : Int32} {t1 : Int32} {z : Sg} {H : Heap} {locs : List Loc} {ls : Array Slot} (h : pM_next_195 fu v2 t1 z = some Z) (hG : GW G I z s.heap H locs) (hl : lv_has ls 3 [(0, .ref (gA G 78)), (2, .int v2)]) : W p l e rmM_next s m args below meth c H locs 0 0 (MQ below (Qv G I Z) args s 0 0 (AD G I)) (F0 m 195 ls [.int t1, .ref (gA G 78)]) := by
  unfold pM_next_195 at h
  refine rPut C hG (hI 78 (by decide) (by decide)) e_78 fiM_20 tokM nmM rfl (fpM_20 _) (Nat.le_of_ble_eq_true rfl) rfl rfl k_826 h dM_next_195 (fun H locs z23 h hG => ?_)
  refine rAload_n C dM_next_198 hl 0 rfl ?_
  refine rIload_n C dM_next_199 hl 1 rfl ?_
  refine lv_iconst (v := 3) C.1 C.2.1 dM_next_200 (by decide) ?_
  refine rIcmpge C (tgt := 208) h dM_next_201 (by decide) (fun h => ?_) (fun h => ?_)
  · refine rIload_n C dM_next_208 hl 1 rfl ?_
    refine lv_iconst (v := 3) C.1 C.2.1 dM_next_209 (by decide) ?_
    refine lv_isub C.1 C.2.1 dM_next_210 ?_
    exact wM_next_211 C hI h hG (lv_sub hl [] rfl)
  · refine rIload_n C dM_next_204 hl 1 rfl ?_
    refine lv_goto (tgt := 211) C.1 C.2.1 dM_next_205 (by decide) ?_
    exact wM_next_211 C hI h hG (lv_sub hl [] rfl)
theorem wM_next_146 {p : Program} {l : Launch} {e : Env} {s : State} {m : MethodId} {args : Array Value} {below : List Frame} {meth : Method} {c : Code} {G : GT} {I : List Nat} (C : CX p s m args meth c NM bM_next 3 none G I) (hI : mI I) {fu : Nat} {Z : Sg} {z : Sg} {H : Heap} {locs : List Loc} {ls : Array Slot} (h : pM_next_146 fu z = some Z) (hG : GW G I z s.heap H locs) (hl : lv_has ls 3 [(0, .ref (gA G 78))]) : W p l e rmM_next s m args below meth c H locs 0 0 (MQ below (Qv G I Z) args s 0 0 (AD G I)) (F0 m 146 ls []) := by
  unfold pM_next_146 at h
  refine rAload_n C dM_next_146 hl 0 rfl ?_
  refine rAload_n C dM_next_147 hl 0 rfl ?_
  refine rGet C hG (hI 78 (by decide) (by decide)) e_78 fiM_19 (v := .int (z 78 19)) rfl k_825 dM_next_148 ?_
  refine rAload_n C dM_next_151 hl 0 rfl ?_
  refine rGet C hG (hI 78 (by decide) (by decide)) e_78 fiM_18 (v := .int (z 78 18)) rfl k_824 dM_next_152 ?_
  refine rCVi [.int (z 78 19), .int (z 78 18)] [] C hG h (fun h => cM_wordFrom hI h) mvM_wordFrom k_770 ⟨Nat.le_of_ble_eq_true rfl, Nat.le_of_ble_eq_true rfl⟩ ⟨rfl, rfl⟩ (rRecv C hG (hI 78 (by decide) (by decide)) e_78 rfl) rfl hl.1 (Nat.le_of_ble_eq_true rfl) dM_next_155 ⟨Nat.zero_le _, Nat.zero_le _⟩ rfl (fun H locs x21 z20 h hG => ?_)
  refine rIstoreA_n C dM_next_158 hl (by decide) [(0, .ref (gA G 78))] rfl (fun ls hl => ?_)
  refine rAload_n C dM_next_159 hl 1 rfl ?_
  refine rIload_n C dM_next_160 hl 0 rfl ?_
  refine lv_iconst (v := 3) C.1 C.2.1 dM_next_161 (by decide) ?_
  refine rIcmpge C (tgt := 169) h dM_next_162 (by decide) (fun h => ?_) (fun h => ?_)
  · refine rIload_n C dM_next_169 hl 0 rfl ?_
    refine lv_bipush (v := 9) C.1 C.2.1 dM_next_170 (by decide) ?_
    refine rIcmpge C (tgt := 179) h dM_next_172 (by decide) (fun h => ?_) (fun h => ?_)
    · refine rIload_n C dM_next_179 hl 0 rfl ?_
      refine lv_bipush (v := 12) C.1 C.2.1 dM_next_180 (by decide) ?_
      refine rIcmpne C (tgt := 189) h dM_next_182 (by decide) (fun h => ?_) (fun h => ?_)
      · refine lv_iconst (v := 4) C.1 C.2.1 dM_next_189 (by decide) ?_
        refine rIload_n C dM_next_190 hl 0 rfl ?_
        refine lv_iadd C.1 C.2.1 dM_next_191 ?_
        refine lv_bipush (v := 9) C.1 C.2.1 dM_next_192 (by decide) ?_
        refine lv_isub C.1 C.2.1 dM_next_194 ?_
        exact wM_next_195 C hI h hG (lv_sub hl [1, 0] rfl)
      · refine lv_iconst (v := (-1)) C.1 C.2.1 dM_next_185 (by decide) ?_
        refine lv_goto (tgt := 195) C.1 C.2.1 dM_next_186 (by decide) ?_
        exact wM_next_195 C hI h hG (lv_sub hl [1, 0] rfl)
    · refine lv_iconst (v := 2) C.1 C.2.1 dM_next_175 (by decide) ?_
      refine lv_goto (tgt := 195) C.1 C.2.1 dM_next_176 (by decide) ?_
      exact wM_next_195 C hI h hG (lv_sub hl [1, 0] rfl)
  · refine lv_iconst (v := 3) C.1 C.2.1 dM_next_165 (by decide) ?_
    refine lv_goto (tgt := 195) C.1 C.2.1 dM_next_166 (by decide) ?_
    exact wM_next_195 C hI h hG (lv_sub hl [1, 0] rfl)
theorem wM_next_103 {p : Program} {l : Launch} {e : Env} {s : State} {m : MethodId} {args : Array Value} {below : List Frame} {meth : Method} {c : Code} {G : GT} {I : List Nat} (C : CX p s m args meth c NM bM_next 3 none G I) (hI : mI I) {fu : Nat} {Z : Sg} : ∀ (k : Nat) {z : Sg} {H : Heap} {locs : List Loc} {ls : Array Slot}, pM_next_103 fu k z = some Z → GW G I z s.heap H locs → lv_has ls 3 [(0, .ref (gA G 78))] → W p l e rmM_next s m args below meth c H locs 0 0 (MQ below (Qv G I Z) args s 0 0 (AD G I)) (F0 m 103 ls []) := by
  intro k
  induction k with
  | zero => intro z H locs ls h hG hl; rw [pM_next_103] at h; cases h
  | succ k ih =>
    intro z H locs ls h hG hl
    rw [pM_next_103] at h
    refine rAload_n C dM_next_103 hl 0 rfl ?_
    refine rGet C hG (hI 78 (by decide) (by decide)) e_78 fiM_18 (v := .int (z 78 18)) rfl k_824 dM_next_104 ?_
    refine rAload_n C dM_next_107 hl 0 rfl ?_
    refine rGet C hG (hI 78 (by decide) (by decide)) e_78 fiM_6 (v := .int (z 78 6)) rfl k_812 dM_next_108 ?_
    refine rIcmpge C (tgt := 146) h dM_next_111 (by decide) (fun h => ?_) (fun h => ?_)
    · exact wM_next_146 C hI h hG (lv_sub hl [0] rfl)
    · refine rAload_n C dM_next_114 hl 0 rfl ?_
      refine rGet C hG (hI 78 (by decide) (by decide)) e_78 fiM_5 (v := .ref (gA G 83)) rfl k_811 dM_next_115 ?_
      refine rAload_n C dM_next_118 hl 0 rfl ?_
      refine rGet C hG (hI 78 (by decide) (by decide)) e_78 fiM_18 (v := .int (z 78 18)) rfl k_824 dM_next_119 ?_
      refine rIald C hG (hI 83 (by decide) (by decide)) e_83 h dM_next_122 (fun h => ?_)
      refine lv_bipush (v := 97) C.1 C.2.1 dM_next_123 (by decide) ?_
      refine lv_bipush (v := 122) C.1 C.2.1 dM_next_125 (by decide) ?_
      refine rCSi [.int (ga z 83 (z 78 18)), .int 97, .int 122] [] C hG h (fun h => cM_in hI h) mvM_in k_767 ⟨Nat.le_of_ble_eq_true rfl, Nat.le_of_ble_eq_true rfl⟩ ⟨rfl, rfl⟩ rfl hl.1 (Nat.le_of_ble_eq_true rfl) dM_next_127 ⟨Nat.zero_le _, Nat.zero_le _⟩ rfl (fun H locs x13 z12 h hG => ?_)
      refine rIfeq C (tgt := 146) h dM_next_130 (by decide) (fun h => ?_) (fun h => ?_)
      · exact wM_next_146 C hI h hG (lv_sub hl [0] rfl)
      · refine rAload_n C dM_next_133 hl 0 rfl ?_
        refine lv_dup C.1 C.2.1 dM_next_134 rfl ?_
        refine rGet C hG (hI 78 (by decide) (by decide)) e_78 fiM_18 (v := .int (z12 78 18)) rfl k_824 dM_next_135 ?_
        refine lv_iconst (v := 1) C.1 C.2.1 dM_next_138 (by decide) ?_
        refine lv_iadd C.1 C.2.1 dM_next_139 ?_
        refine rPut C hG (hI 78 (by decide) (by decide)) e_78 fiM_18 tokM nmM rfl (fpM_18 _) (Nat.le_of_ble_eq_true rfl) rfl rfl k_824 h dM_next_140 (fun H locs z14 h hG => ?_)
        refine lv_goto (tgt := 103) C.1 C.2.1 dM_next_143 (by decide) ?_
        exact ih h hG (lv_sub hl [0] rfl)
theorem wM_next_290 {p : Program} {l : Launch} {e : Env} {s : State} {m : MethodId} {args : Array Value} {below : List Frame} {meth : Method} {c : Code} {G : GT} {I : List Nat} (C : CX p s m args meth c NM bM_next 3 none G I) (hI : mI I) {fu : Nat} {Z : Sg} {rc230 : Int32 → Sg → Option Sg} (hr230 : ∀ {v2 : Int32} {z : Sg} {H : Heap} {locs : List Loc} {ls : Array Slot}, rc230 v2 z = some Z → GW G I z s.heap H locs → lv_has ls 3 [(0, .ref (gA G 78)), (2, .int v2)] → W p l e rmM_next s m args below meth c H locs 0 0 (MQ below (Qv G I Z) args s 0 0 (AD G I)) (F0 m 230 ls [])) {v2 : Int32} {t1 : Int32} {z : Sg} {H : Heap} {locs : List Loc} {ls : Array Slot} (h : pM_next_290 fu rc230 v2 t1 z = some Z) (hG : GW G I z s.heap H locs) (hl : lv_has ls 3 [(0, .ref (gA G 78)), (2, .int v2)]) : W p l e rmM_next s m args below meth c H locs 0 0 (MQ below (Qv G I Z) args s 0 0 (AD G I)) (F0 m 290 ls [.int t1, .ref (gA G 78)]) := by
  unfold pM_next_290 at h
  refine rPut C hG (hI 78 (by decide) (by decide)) e_78 fiM_21 tokM nmM rfl (fpM_21 _) (Nat.le_of_ble_eq_true rfl) rfl rfl k_827 h dM_next_290 (fun H locs z17 h hG => ?_)
  refine rIinc C dM_next_293 hl 1 rfl (d := 1) (by decide) h (by decide) [(0, .ref (gA G 78))] rfl (fun x18 ls h hl => ?_)
  refine rAload_n C dM_next_296 hl 1 rfl ?_
  refine lv_dup C.1 C.2.1 dM_next_297 rfl ?_
  refine rGet C hG (hI 78 (by decide) (by decide)) e_78 fiM_18 (v := .int (z17 78 18)) rfl k_824 dM_next_298 ?_
  refine lv_iconst (v := 1) C.1 C.2.1 dM_next_301 (by decide) ?_
  refine lv_iadd C.1 C.2.1 dM_next_302 ?_
  refine rPut C hG (hI 78 (by decide) (by decide)) e_78 fiM_18 tokM nmM rfl (fpM_18 _) (Nat.le_of_ble_eq_true rfl) rfl rfl k_824 h dM_next_303 (fun H locs z19 h hG => ?_)
  refine lv_goto (tgt := 230) C.1 C.2.1 dM_next_306 (by decide) ?_
  exact hr230 h hG (lv_sub hl [1, 0] rfl)
theorem wM_next_320 {p : Program} {l : Launch} {e : Env} {s : State} {m : MethodId} {args : Array Value} {below : List Frame} {meth : Method} {c : Code} {G : GT} {I : List Nat} (C : CX p s m args meth c NM bM_next 3 none G I) (hI : mI I) {fu : Nat} {Z : Sg} {t1 : Int32} {z : Sg} {H : Heap} {locs : List Loc} {ls : Array Slot} (h : pM_next_320 fu t1 z = some Z) (hG : GW G I z s.heap H locs) (hl : lv_has ls 3 []) : W p l e rmM_next s m args below meth c H locs 0 0 (MQ below (Qv G I Z) args s 0 0 (AD G I)) (F0 m 320 ls [.int t1, .ref (gA G 78)]) := by
  unfold pM_next_320 at h
  refine rPut C hG (hI 78 (by decide) (by decide)) e_78 fiM_20 tokM nmM rfl (fpM_20 _) (Nat.le_of_ble_eq_true rfl) rfl rfl k_826 h dM_next_320 (fun H locs z22 h hG => ?_)
  refine lv_goto (tgt := 403) C.1 C.2.1 dM_next_323 (by decide) ?_
  exact rRetv C hG h dM_next_403
theorem wM_next_309 {p : Program} {l : Launch} {e : Env} {s : State} {m : MethodId} {args : Array Value} {below : List Frame} {meth : Method} {c : Code} {G : GT} {I : List Nat} (C : CX p s m args meth c NM bM_next 3 none G I) (hI : mI I) {fu : Nat} {Z : Sg} {v2 : Int32} {z : Sg} {H : Heap} {locs : List Loc} {ls : Array Slot} (h : pM_next_309 fu v2 z = some Z) (hG : GW G I z s.heap H locs) (hl : lv_has ls 3 [(0, .ref (gA G 78)), (2, .int v2)]) : W p l e rmM_next s m args below meth c H locs 0 0 (MQ below (Qv G I Z) args s 0 0 (AD G I)) (F0 m 309 ls []) := by
  unfold pM_next_309 at h
  refine rAload_n C dM_next_309 hl 0 rfl ?_
  refine rIload_n C dM_next_310 hl 1 rfl ?_
  refine lv_iconst (v := 4) C.1 C.2.1 dM_next_311 (by decide) ?_
  refine rIcmple C (tgt := 319) h dM_next_312 (by decide) (fun h => ?_) (fun h => ?_)
  · refine lv_iconst (v := 1) C.1 C.2.1 dM_next_319 (by decide) ?_
    exact wM_next_320 C hI h hG (lv_sub hl [] rfl)
  · refine lv_iconst (v := (-1)) C.1 C.2.1 dM_next_315 (by decide) ?_
    refine lv_goto (tgt := 320) C.1 C.2.1 dM_next_316 (by decide) ?_
    exact wM_next_320 C hI h hG (lv_sub hl [] rfl)
theorem wM_next_230 {p : Program} {l : Launch} {e : Env} {s : State} {m : MethodId} {args : Array Value} {below : List Frame} {meth : Method} {c : Code} {G : GT} {I : List Nat} (C : CX p s m args meth c NM bM_next 3 none G I) (hI : mI I) {fu : Nat} {Z : Sg} : ∀ (k : Nat) {v2 : Int32} {z : Sg} {H : Heap} {locs : List Loc} {ls : Array Slot}, pM_next_230 fu k v2 z = some Z → GW G I z s.heap H locs → lv_has ls 3 [(0, .ref (gA G 78)), (2, .int v2)] → W p l e rmM_next s m args below meth c H locs 0 0 (MQ below (Qv G I Z) args s 0 0 (AD G I)) (F0 m 230 ls []) := by
  intro k
  induction k with
  | zero => intro v2 z H locs ls h hG hl; rw [pM_next_230] at h; cases h
  | succ k ih =>
    intro v2 z H locs ls h hG hl
    rw [pM_next_230] at h
    refine rAload_n C dM_next_230 hl 0 rfl ?_
    refine rGet C hG (hI 78 (by decide) (by decide)) e_78 fiM_18 (v := .int (z 78 18)) rfl k_824 dM_next_231 ?_
    refine rAload_n C dM_next_234 hl 0 rfl ?_
    refine rGet C hG (hI 78 (by decide) (by decide)) e_78 fiM_6 (v := .int (z 78 6)) rfl k_812 dM_next_235 ?_
    refine rIcmpge C (tgt := 309) h dM_next_238 (by decide) (fun h => ?_) (fun h => ?_)
    · exact wM_next_309 C hI h hG (lv_sub hl [0, 1] rfl)
    · refine rAload_n C dM_next_241 hl 0 rfl ?_
      refine rGet C hG (hI 78 (by decide) (by decide)) e_78 fiM_5 (v := .ref (gA G 83)) rfl k_811 dM_next_242 ?_
      refine rAload_n C dM_next_245 hl 0 rfl ?_
      refine rGet C hG (hI 78 (by decide) (by decide)) e_78 fiM_18 (v := .int (z 78 18)) rfl k_824 dM_next_246 ?_
      refine rIald C hG (hI 83 (by decide) (by decide)) e_83 h dM_next_249 (fun h => ?_)
      refine lv_bipush (v := 48) C.1 C.2.1 dM_next_250 (by decide) ?_
      refine lv_bipush (v := 57) C.1 C.2.1 dM_next_252 (by decide) ?_
      refine rCSi [.int (ga z 83 (z 78 18)), .int 48, .int 57] [] C hG h (fun h => cM_in hI h) mvM_in k_767 ⟨Nat.le_of_ble_eq_true rfl, Nat.le_of_ble_eq_true rfl⟩ ⟨rfl, rfl⟩ rfl hl.1 (Nat.le_of_ble_eq_true rfl) dM_next_254 ⟨Nat.zero_le _, Nat.zero_le _⟩ rfl (fun H locs x11 z10 h hG => ?_)
      refine rIfeq C (tgt := 309) h dM_next_257 (by decide) (fun h => ?_) (fun h => ?_)
      · exact wM_next_309 C hI h hG (lv_sub hl [0, 1] rfl)
      · refine rAload_n C dM_next_260 hl 0 rfl ?_
        refine rIload_n C dM_next_261 hl 1 rfl ?_
        refine lv_iconst (v := 4) C.1 C.2.1 dM_next_262 (by decide) ?_
        refine rIcmpge C (tgt := 289) h dM_next_263 (by decide) (fun h => ?_) (fun h => ?_)
        · refine lv_iconst (v := 0) C.1 C.2.1 dM_next_289 (by decide) ?_
          exact wM_next_290 C hI ih h hG (lv_sub hl [0, 1] rfl)
        · refine lv_bipush (v := 10) C.1 C.2.1 dM_next_266 (by decide) ?_
          refine rAload_n C dM_next_268 hl 0 rfl ?_
          refine rGet C hG (hI 78 (by decide) (by decide)) e_78 fiM_21 (v := .int (z10 78 21)) rfl k_827 dM_next_269 ?_
          refine lv_imul C.1 C.2.1 dM_next_272 ?_
          refine rAload_n C dM_next_273 hl 0 rfl ?_
          refine rGet C hG (hI 78 (by decide) (by decide)) e_78 fiM_5 (v := .ref (gA G 83)) rfl k_811 dM_next_274 ?_
          refine rAload_n C dM_next_277 hl 0 rfl ?_
          refine rGet C hG (hI 78 (by decide) (by decide)) e_78 fiM_18 (v := .int (z10 78 18)) rfl k_824 dM_next_278 ?_
          refine rIald C hG (hI 83 (by decide) (by decide)) e_83 h dM_next_281 (fun h => ?_)
          refine lv_iadd C.1 C.2.1 dM_next_282 ?_
          refine lv_bipush (v := 48) C.1 C.2.1 dM_next_283 (by decide) ?_
          refine lv_isub C.1 C.2.1 dM_next_285 ?_
          refine lv_goto (tgt := 290) C.1 C.2.1 dM_next_286 (by decide) ?_
          exact wM_next_290 C hI ih h hG (lv_sub hl [0, 1] rfl)
theorem wM_next_390 {p : Program} {l : Launch} {e : Env} {s : State} {m : MethodId} {args : Array Value} {below : List Frame} {meth : Method} {c : Code} {G : GT} {I : List Nat} (C : CX p s m args meth c NM bM_next 3 none G I) (hI : mI I) {fu : Nat} {Z : Sg} {t1 : Int32} {z : Sg} {H : Heap} {locs : List Loc} {ls : Array Slot} (h : pM_next_390 fu t1 z = some Z) (hG : GW G I z s.heap H locs) (hl : lv_has ls 3 [(0, .ref (gA G 78))]) : W p l e rmM_next s m args below meth c H locs 0 0 (MQ below (Qv G I Z) args s 0 0 (AD G I)) (F0 m 390 ls [.int t1, .ref (gA G 78)]) := by
  unfold pM_next_390 at h
  refine rPut C hG (hI 78 (by decide) (by decide)) e_78 fiM_20 tokM nmM rfl (fpM_20 _) (Nat.le_of_ble_eq_true rfl) rfl rfl k_826 h dM_next_390 (fun H locs z15 h hG => ?_)
  refine rAload_n C dM_next_393 hl 0 rfl ?_
  refine lv_dup C.1 C.2.1 dM_next_394 rfl ?_
  refine rGet C hG (hI 78 (by decide) (by decide)) e_78 fiM_18 (v := .int (z15 78 18)) rfl k_824 dM_next_395 ?_
  refine lv_iconst (v := 1) C.1 C.2.1 dM_next_398 (by decide) ?_
  refine lv_iadd C.1 C.2.1 dM_next_399 ?_
  refine rPut C hG (hI 78 (by decide) (by decide)) e_78 fiM_18 tokM nmM rfl (fpM_18 _) (Nat.le_of_ble_eq_true rfl) rfl rfl k_824 h dM_next_400 (fun H locs z16 h hG => ?_)
  exact rRetv C hG h dM_next_403
theorem wM_next_379 {p : Program} {l : Launch} {e : Env} {s : State} {m : MethodId} {args : Array Value} {below : List Frame} {meth : Method} {c : Code} {G : GT} {I : List Nat} (C : CX p s m args meth c NM bM_next 3 none G I) (hI : mI I) {fu : Nat} {Z : Sg} {v1 : Int32} {t0 : Int32} {z : Sg} {H : Heap} {locs : List Loc} {ls : Array Slot} (h : pM_next_379 fu v1 t0 z = some Z) (hG : GW G I z s.heap H locs) (hl : lv_has ls 3 [(0, .ref (gA G 78)), (1, .int v1)]) : W p l e rmM_next s m args below meth c H locs 0 0 (MQ below (Qv G I Z) args s 0 0 (AD G I)) (F0 m 379 ls [.int t0]) := by
  unfold pM_next_379 at h
  refine rIstoreA_n C dM_next_379 hl (by decide) [(0, .ref (gA G 78)), (1, .int v1)] rfl (fun ls hl => ?_)
  refine rAload_n C dM_next_380 hl 1 rfl ?_
  refine rIload_n C dM_next_381 hl 0 rfl ?_
  refine rIfeq C (tgt := 389) h dM_next_382 (by decide) (fun h => ?_) (fun h => ?_)
  · refine lv_iconst (v := (-1)) C.1 C.2.1 dM_next_389 (by decide) ?_
    exact wM_next_390 C hI h hG (lv_sub hl [1] rfl)
  · refine rIload_n C dM_next_385 hl 2 rfl ?_
    refine lv_goto (tgt := 390) C.1 C.2.1 dM_next_386 (by decide) ?_
    exact wM_next_390 C hI h hG (lv_sub hl [1] rfl)
theorem wM_next_374 {p : Program} {l : Launch} {e : Env} {s : State} {m : MethodId} {args : Array Value} {below : List Frame} {meth : Method} {c : Code} {G : GT} {I : List Nat} (C : CX p s m args meth c NM bM_next 3 none G I) (hI : mI I) {fu : Nat} {Z : Sg} {v1 : Int32} {z : Sg} {H : Heap} {locs : List Loc} {ls : Array Slot} (h : pM_next_374 fu v1 z = some Z) (hG : GW G I z s.heap H locs) (hl : lv_has ls 3 [(0, .ref (gA G 78)), (1, .int v1)]) : W p l e rmM_next s m args below meth c H locs 0 0 (MQ below (Qv G I Z) args s 0 0 (AD G I)) (F0 m 374 ls []) := by
  unfold pM_next_374 at h
  refine lv_iconst (v := 1) C.1 C.2.1 dM_next_374 (by decide) ?_
  refine lv_goto (tgt := 379) C.1 C.2.1 dM_next_375 (by decide) ?_
  exact wM_next_379 C hI h hG (lv_sub hl [0, 1] rfl)
theorem wM_next_52 {p : Program} {l : Launch} {e : Env} {s : State} {m : MethodId} {args : Array Value} {below : List Frame} {meth : Method} {c : Code} {G : GT} {I : List Nat} (C : CX p s m args meth c NM bM_next 3 none G I) (hI : mI I) {fu : Nat} {Z : Sg} {z : Sg} {H : Heap} {locs : List Loc} {ls : Array Slot} (h : pM_next_52 fu z = some Z) (hG : GW G I z s.heap H locs) (hl : lv_has ls 3 [(0, .ref (gA G 78))]) : W p l e rmM_next s m args below meth c H locs 0 0 (MQ below (Qv G I Z) args s 0 0 (AD G I)) (F0 m 52 ls []) := by
  unfold pM_next_52 at h
  refine rAload_n C dM_next_52 hl 0 rfl ?_
  refine rAload_n C dM_next_53 hl 0 rfl ?_
  refine rGet C hG (hI 78 (by decide) (by decide)) e_78 fiM_18 (v := .int (z 78 18)) rfl k_824 dM_next_54 ?_
  refine rPut C hG (hI 78 (by decide) (by decide)) e_78 fiM_19 tokM nmM rfl (fpM_19 _) (Nat.le_of_ble_eq_true rfl) rfl rfl k_825 h dM_next_57 (fun H locs z1 h hG => ?_)
  refine rAload_n C dM_next_60 hl 0 rfl ?_
  refine lv_iconst (v := 0) C.1 C.2.1 dM_next_61 (by decide) ?_
  refine rPut C hG (hI 78 (by decide) (by decide)) e_78 fiM_20 tokM nmM rfl (fpM_20 _) (Nat.le_of_ble_eq_true rfl) rfl rfl k_826 h dM_next_62 (fun H locs z2 h hG => ?_)
  refine rAload_n C dM_next_65 hl 0 rfl ?_
  refine lv_iconst (v := 0) C.1 C.2.1 dM_next_66 (by decide) ?_
  refine rPut C hG (hI 78 (by decide) (by decide)) e_78 fiM_21 tokM nmM rfl (fpM_21 _) (Nat.le_of_ble_eq_true rfl) rfl rfl k_827 h dM_next_67 (fun H locs z3 h hG => ?_)
  refine rAload_n C dM_next_70 hl 0 rfl ?_
  refine rGet C hG (hI 78 (by decide) (by decide)) e_78 fiM_18 (v := .int (z3 78 18)) rfl k_824 dM_next_71 ?_
  refine rAload_n C dM_next_74 hl 0 rfl ?_
  refine rGet C hG (hI 78 (by decide) (by decide)) e_78 fiM_6 (v := .int (z3 78 6)) rfl k_812 dM_next_75 ?_
  refine rIcmpne C (tgt := 82) h dM_next_78 (by decide) (fun h => ?_) (fun h => ?_)
  · refine rAload_n C dM_next_82 hl 0 rfl ?_
    refine rGet C hG (hI 78 (by decide) (by decide)) e_78 fiM_5 (v := .ref (gA G 83)) rfl k_811 dM_next_83 ?_
    refine rAload_n C dM_next_86 hl 0 rfl ?_
    refine rGet C hG (hI 78 (by decide) (by decide)) e_78 fiM_18 (v := .int (z3 78 18)) rfl k_824 dM_next_87 ?_
    refine rIald C hG (hI 83 (by decide) (by decide)) e_83 h dM_next_90 (fun h => ?_)
    refine rIstore_n C dM_next_91 hl h (by decide) [(0, .ref (gA G 78))] rfl (fun x4 ls h hl => ?_)
    refine rIload_n C dM_next_92 hl 0 rfl ?_
    refine lv_bipush (v := 97) C.1 C.2.1 dM_next_93 (by decide) ?_
    refine lv_bipush (v := 122) C.1 C.2.1 dM_next_95 (by decide) ?_
    refine rCSi [.int x4, .int 97, .int 122] [] C hG h (fun h => cM_in hI h) mvM_in k_767 ⟨Nat.le_of_ble_eq_true rfl, Nat.le_of_ble_eq_true rfl⟩ ⟨rfl, rfl⟩ rfl hl.1 (Nat.le_of_ble_eq_true rfl) dM_next_97 ⟨Nat.zero_le _, Nat.zero_le _⟩ rfl (fun H locs x6 z5 h hG => ?_)
    refine rIfeq C (tgt := 217) h dM_next_100 (by decide) (fun h => ?_) (fun h => ?_)
    · refine rIload_n C dM_next_217 hl 0 rfl ?_
      refine lv_bipush (v := 48) C.1 C.2.1 dM_next_218 (by decide) ?_
      refine lv_bipush (v := 57) C.1 C.2.1 dM_next_220 (by decide) ?_
      refine rCSi [.int x4, .int 48, .int 57] [] C hG h (fun h => cM_in hI h) mvM_in k_767 ⟨Nat.le_of_ble_eq_true rfl, Nat.le_of_ble_eq_true rfl⟩ ⟨rfl, rfl⟩ rfl hl.1 (Nat.le_of_ble_eq_true rfl) dM_next_222 ⟨Nat.zero_le _, Nat.zero_le _⟩ rfl (fun H locs x8 z7 h hG => ?_)
      refine rIfeq C (tgt := 326) h dM_next_225 (by decide) (fun h => ?_) (fun h => ?_)
      · refine rIload_n C dM_next_326 hl 0 rfl ?_
        refine lv_bipush (v := 40) C.1 C.2.1 dM_next_327 (by decide) ?_
        refine rIcmpeq C (tgt := 374) h dM_next_329 (by decide) (fun h => ?_) (fun h => ?_)
        · exact wM_next_374 C hI h hG (lv_sub hl [1, 0] rfl)
        · refine rIload_n C dM_next_332 hl 0 rfl ?_
          refine lv_bipush (v := 41) C.1 C.2.1 dM_next_333 (by decide) ?_
          refine rIcmpeq C (tgt := 374) h dM_next_335 (by decide) (fun h => ?_) (fun h => ?_)
          · exact wM_next_374 C hI h hG (lv_sub hl [1, 0] rfl)
          · refine rIload_n C dM_next_338 hl 0 rfl ?_
            refine lv_bipush (v := 59) C.1 C.2.1 dM_next_339 (by decide) ?_
            refine rIcmpeq C (tgt := 374) h dM_next_341 (by decide) (fun h => ?_) (fun h => ?_)
            · exact wM_next_374 C hI h hG (lv_sub hl [1, 0] rfl)
            · refine rIload_n C dM_next_344 hl 0 rfl ?_
              refine lv_bipush (v := 43) C.1 C.2.1 dM_next_345 (by decide) ?_
              refine rIcmpeq C (tgt := 374) h dM_next_347 (by decide) (fun h => ?_) (fun h => ?_)
              · exact wM_next_374 C hI h hG (lv_sub hl [1, 0] rfl)
              · refine rIload_n C dM_next_350 hl 0 rfl ?_
                refine lv_bipush (v := 45) C.1 C.2.1 dM_next_351 (by decide) ?_
                refine rIcmpeq C (tgt := 374) h dM_next_353 (by decide) (fun h => ?_) (fun h => ?_)
                · exact wM_next_374 C hI h hG (lv_sub hl [1, 0] rfl)
                · refine rIload_n C dM_next_356 hl 0 rfl ?_
                  refine lv_bipush (v := 42) C.1 C.2.1 dM_next_357 (by decide) ?_
                  refine rIcmpeq C (tgt := 374) h dM_next_359 (by decide) (fun h => ?_) (fun h => ?_)
                  · exact wM_next_374 C hI h hG (lv_sub hl [1, 0] rfl)
                  · refine rIload_n C dM_next_362 hl 0 rfl ?_
                    refine lv_bipush (v := 60) C.1 C.2.1 dM_next_363 (by decide) ?_
                    refine rIcmpeq C (tgt := 374) h dM_next_365 (by decide) (fun h => ?_) (fun h => ?_)
                    · exact wM_next_374 C hI h hG (lv_sub hl [1, 0] rfl)
                    · refine rIload_n C dM_next_368 hl 0 rfl ?_
                      refine lv_bipush (v := 61) C.1 C.2.1 dM_next_369 (by decide) ?_
                      refine rIcmpne C (tgt := 378) h dM_next_371 (by decide) (fun h => ?_) (fun h => ?_)
                      · refine lv_iconst (v := 0) C.1 C.2.1 dM_next_378 (by decide) ?_
                        exact wM_next_379 C hI h hG (lv_sub hl [1, 0] rfl)
                      · exact wM_next_374 C hI h hG (lv_sub hl [1, 0] rfl)
      · refine lv_iconst (v := 0) C.1 C.2.1 dM_next_228 (by decide) ?_
        refine rIstoreA_n C dM_next_229 hl (by decide) [(1, .int x4), (0, .ref (gA G 78))] rfl (fun ls hl => ?_)
        exact wM_next_230 C hI _ h hG (lv_sub hl [2, 0] rfl)
    · exact wM_next_103 C hI _ h hG (lv_sub hl [1] rfl)
  · exact rRetv C hG h dM_next_81
theorem wM_next_0 {p : Program} {l : Launch} {e : Env} {s : State} {m : MethodId} {args : Array Value} {below : List Frame} {meth : Method} {c : Code} {G : GT} {I : List Nat} (C : CX p s m args meth c NM bM_next 3 none G I) (hI : mI I) {fu : Nat} {Z : Sg} : ∀ (k : Nat) {z : Sg} {H : Heap} {locs : List Loc} {ls : Array Slot}, pM_next_0 fu k z = some Z → GW G I z s.heap H locs → lv_has ls 3 [(0, .ref (gA G 78))] → W p l e rmM_next s m args below meth c H locs 0 0 (MQ below (Qv G I Z) args s 0 0 (AD G I)) (F0 m 0 ls []) := by
  intro k
  induction k with
  | zero => intro z H locs ls h hG hl; rw [pM_next_0] at h; cases h
  | succ k ih =>
    intro z H locs ls h hG hl
    rw [pM_next_0] at h
    refine rAload_n C dM_next_0 hl 0 rfl ?_
    refine rGet C hG (hI 78 (by decide) (by decide)) e_78 fiM_18 (v := .int (z 78 18)) rfl k_824 dM_next_1 ?_
    refine rAload_n C dM_next_4 hl 0 rfl ?_
    refine rGet C hG (hI 78 (by decide) (by decide)) e_78 fiM_6 (v := .int (z 78 6)) rfl k_812 dM_next_5 ?_
    refine rIcmpge C (tgt := 52) h dM_next_8 (by decide) (fun h => ?_) (fun h => ?_)
    · exact wM_next_52 C hI h hG (lv_sub hl [0] rfl)
    · refine rAload_n C dM_next_11 hl 0 rfl ?_
      refine rGet C hG (hI 78 (by decide) (by decide)) e_78 fiM_5 (v := .ref (gA G 83)) rfl k_811 dM_next_12 ?_
      refine rAload_n C dM_next_15 hl 0 rfl ?_
      refine rGet C hG (hI 78 (by decide) (by decide)) e_78 fiM_18 (v := .int (z 78 18)) rfl k_824 dM_next_16 ?_
      refine rIald C hG (hI 83 (by decide) (by decide)) e_83 h dM_next_19 (fun h => ?_)
      refine lv_bipush (v := 32) C.1 C.2.1 dM_next_20 (by decide) ?_
      refine rIcmpeq C (tgt := 39) h dM_next_22 (by decide) (fun h => ?_) (fun h => ?_)
      · exact wM_next_39 C hI ih h hG (lv_sub hl [0] rfl)
      · refine rAload_n C dM_next_25 hl 0 rfl ?_
        refine rGet C hG (hI 78 (by decide) (by decide)) e_78 fiM_5 (v := .ref (gA G 83)) rfl k_811 dM_next_26 ?_
        refine rAload_n C dM_next_29 hl 0 rfl ?_
        refine rGet C hG (hI 78 (by decide) (by decide)) e_78 fiM_18 (v := .int (z 78 18)) rfl k_824 dM_next_30 ?_
        refine rIald C hG (hI 83 (by decide) (by decide)) e_83 h dM_next_33 (fun h => ?_)
        refine lv_bipush (v := 10) C.1 C.2.1 dM_next_34 (by decide) ?_
        refine rIcmpne C (tgt := 52) h dM_next_36 (by decide) (fun h => ?_) (fun h => ?_)
        · exact wM_next_52 C hI h hG (lv_sub hl [0] rfl)
        · exact wM_next_39 C hI ih h hG (lv_sub hl [0] rfl)
theorem cM_next {l : Launch} {G : GT} {I : List Nat} (hI : mI I) {fu : Nat} {z : Sg} {Z : Sg} (h : pM_next fu z = some Z) : Mt l yM_next rmM_next bM_next 3 none G I z [.ref (gA G 78)] (Qv G I Z) := by
  refine entM (by decide +kernel) (Nat.le_of_ble_eq_true rfl) ?_
  intro p e s m below meth c C hG ls hl
  have hl : lv_has ls 3 [(0, .ref (gA G 78))] := hl
  unfold pM_next at h
  exact wM_next_0 C hI _ h hG (lv_sub hl [0] rfl)
theorem dM_puts_0 : decode bM_puts 0 = .ok (.aload_n 0, 1) := by decide +kernel
theorem dM_puts_1 : decode bM_puts 1 = .ok (.getfield 25, 3) := by decide +kernel
theorem dM_puts_4 : decode bM_puts 4 = .ok (.sipush 200, 3) := by decide +kernel
theorem dM_puts_7 : decode bM_puts 7 = .ok (.aload_n 0, 1) := by decide +kernel
theorem dM_puts_8 : decode bM_puts 8 = .ok (.getfield 113, 3) := by decide +kernel
theorem dM_puts_11 : decode bM_puts 11 = .ok (.imul, 1) := by decide +kernel
theorem dM_puts_12 : decode bM_puts 12 = .ok (.aload_n 0, 1) := by decide +kernel
theorem dM_puts_13 : decode bM_puts 13 = .ok (.getfield 137, 3) := by decide +kernel
theorem dM_puts_16 : decode bM_puts 16 = .ok (.iadd, 1) := by decide +kernel
theorem dM_puts_17 : decode bM_puts 17 = .ok (.iload_n 1, 1) := by decide +kernel
theorem dM_puts_18 : decode bM_puts 18 = .ok (.iastore, 1) := by decide +kernel
theorem dM_puts_19 : decode bM_puts 19 = .ok (.aload_n 0, 1) := by decide +kernel
theorem dM_puts_20 : decode bM_puts 20 = .ok (.dup, 1) := by decide +kernel
theorem dM_puts_21 : decode bM_puts 21 = .ok (.getfield 137, 3) := by decide +kernel
theorem dM_puts_24 : decode bM_puts 24 = .ok (.iconst 1, 1) := by decide +kernel
theorem dM_puts_25 : decode bM_puts 25 = .ok (.iadd, 1) := by decide +kernel
theorem dM_puts_26 : decode bM_puts 26 = .ok (.putfield 137, 3) := by decide +kernel
theorem dM_puts_29 : decode bM_puts 29 = .ok (.return_, 1) := by decide +kernel
theorem cM_puts {l : Launch} {G : GT} {I : List Nat} (hI : mI I) {fu : Nat} {v1 : Int32} {z : Sg} {Z : Sg} (h : pM_puts fu v1 z = some Z) : Mt l yM_puts rmM_puts bM_puts 2 none G I z [.ref (gA G 78), .int v1] (Qv G I Z) := by
  refine entM (by decide +kernel) (Nat.le_of_ble_eq_true rfl) ?_
  intro p e s m below meth c C hG ls hl
  have hl : lv_has ls 2 [(0, .ref (gA G 78)), (1, .int v1)] := hl
  unfold pM_puts at h
  refine rAload_n C dM_puts_0 hl 0 rfl ?_
  refine rGet C hG (hI 78 (by decide) (by decide)) e_78 fiM_7 (v := .ref (gA G 84)) rfl k_813 dM_puts_1 ?_
  refine lv_sipush (v := 200) C.1 C.2.1 dM_puts_4 (by decide) ?_
  refine rAload_n C dM_puts_7 hl 0 rfl ?_
  refine rGet C hG (hI 78 (by decide) (by decide)) e_78 fiM_9 (v := .int (z 78 9)) rfl k_815 dM_puts_8 ?_
  refine lv_imul C.1 C.2.1 dM_puts_11 ?_
  refine rAload_n C dM_puts_12 hl 0 rfl ?_
  refine rGet C hG (hI 78 (by decide) (by decide)) e_78 fiM_26 (v := .int (z 78 26)) rfl k_832 dM_puts_13 ?_
  refine lv_iadd C.1 C.2.1 dM_puts_16 ?_
  refine rIload_n C dM_puts_17 hl 1 rfl ?_
  refine rIast C hG (hI 84 (by decide) (by decide)) e_84 h dM_puts_18 (fun H locs z1 h hG => ?_)
  refine rAload_n C dM_puts_19 hl 0 rfl ?_
  refine lv_dup C.1 C.2.1 dM_puts_20 rfl ?_
  refine rGet C hG (hI 78 (by decide) (by decide)) e_78 fiM_26 (v := .int (z1 78 26)) rfl k_832 dM_puts_21 ?_
  refine lv_iconst (v := 1) C.1 C.2.1 dM_puts_24 (by decide) ?_
  refine lv_iadd C.1 C.2.1 dM_puts_25 ?_
  refine rPut C hG (hI 78 (by decide) (by decide)) e_78 fiM_26 tokM nmM rfl (fpM_26 _) (Nat.le_of_ble_eq_true rfl) rfl rfl k_832 h dM_puts_26 (fun H locs z2 h hG => ?_)
  exact rRetv C hG h dM_puts_29
theorem dM_rank_0 : decode bM_rank 0 = .ok (.iload_n 0, 1) := by decide +kernel
theorem dM_rank_1 : decode bM_rank 1 = .ok (.ifCond .ne 7, 3) := by decide +kernel
theorem dM_rank_4 : decode bM_rank 4 = .ok (.iconst 0, 1) := by decide +kernel
theorem dM_rank_5 : decode bM_rank 5 = .ok (.goto 66, 3) := by decide +kernel
theorem dM_rank_8 : decode bM_rank 8 = .ok (.iload_n 0, 1) := by decide +kernel
theorem dM_rank_9 : decode bM_rank 9 = .ok (.bipush 11, 2) := by decide +kernel
theorem dM_rank_11 : decode bM_rank 11 = .ok (.if_icmp .ne 7, 3) := by decide +kernel
theorem dM_rank_14 : decode bM_rank 14 = .ok (.iconst 1, 1) := by decide +kernel
theorem dM_rank_15 : decode bM_rank 15 = .ok (.goto 56, 3) := by decide +kernel
theorem dM_rank_18 : decode bM_rank 18 = .ok (.iload_n 0, 1) := by decide +kernel
theorem dM_rank_19 : decode bM_rank 19 = .ok (.bipush 12, 2) := by decide +kernel
theorem dM_rank_21 : decode bM_rank 21 = .ok (.if_icmp .ne 7, 3) := by decide +kernel
theorem dM_rank_24 : decode bM_rank 24 = .ok (.iconst 2, 1) := by decide +kernel
theorem dM_rank_25 : decode bM_rank 25 = .ok (.goto 46, 3) := by decide +kernel
theorem dM_rank_28 : decode bM_rank 28 = .ok (.iload_n 0, 1) := by decide +kernel
theorem dM_rank_29 : decode bM_rank 29 = .ok (.bipush 13, 2) := by decide +kernel
theorem dM_rank_31 : decode bM_rank 31 = .ok (.if_icmp .ne 7, 3) := by decide +kernel
theorem dM_rank_34 : decode bM_rank 34 = .ok (.iconst 3, 1) := by decide +kernel
theorem dM_rank_35 : decode bM_rank 35 = .ok (.goto 36, 3) := by decide +kernel
theorem dM_rank_38 : decode bM_rank 38 = .ok (.iload_n 0, 1) := by decide +kernel
theorem dM_rank_39 : decode bM_rank 39 = .ok (.bipush 15, 2) := by decide +kernel
theorem dM_rank_41 : decode bM_rank 41 = .ok (.if_icmp .gt 7, 3) := by decide +kernel
theorem dM_rank_44 : decode bM_rank 44 = .ok (.iconst 4, 1) := by decide +kernel
theorem dM_rank_45 : decode bM_rank 45 = .ok (.goto 26, 3) := by decide +kernel
theorem dM_rank_48 : decode bM_rank 48 = .ok (.iload_n 0, 1) := by decide +kernel
theorem dM_rank_49 : decode bM_rank 49 = .ok (.bipush 17, 2) := by decide +kernel
theorem dM_rank_51 : decode bM_rank 51 = .ok (.if_icmp .gt 7, 3) := by decide +kernel
theorem dM_rank_54 : decode bM_rank 54 = .ok (.iconst 5, 1) := by decide +kernel
theorem dM_rank_55 : decode bM_rank 55 = .ok (.goto 16, 3) := by decide +kernel
theorem dM_rank_58 : decode bM_rank 58 = .ok (.iload_n 0, 1) := by decide +kernel
theorem dM_rank_59 : decode bM_rank 59 = .ok (.bipush 18, 2) := by decide +kernel
theorem dM_rank_61 : decode bM_rank 61 = .ok (.if_icmp .ne 8, 3) := by decide +kernel
theorem dM_rank_64 : decode bM_rank 64 = .ok (.bipush 6, 2) := by decide +kernel
theorem dM_rank_66 : decode bM_rank 66 = .ok (.goto 5, 3) := by decide +kernel
theorem dM_rank_69 : decode bM_rank 69 = .ok (.bipush 7, 2) := by decide +kernel
theorem dM_rank_71 : decode bM_rank 71 = .ok (.ireturn, 1) := by decide +kernel
theorem cM_rank {l : Launch} {G : GT} {I : List Nat} (hI : mI I) {fu : Nat} {v0 : Int32} {z : Sg} {R1 : Int32} {Z : Sg} (h : pM_rank fu v0 z = some (R1, Z)) : Mt l yM_rank rmM_rank bM_rank 1 (some .int) G I z [.int v0] (Qi G I R1 Z) := by
  refine entM (by decide +kernel) (Nat.le_of_ble_eq_true rfl) ?_
  intro p e s m below meth c C hG ls hl
  have hl : lv_has ls 1 [(0, .int v0)] := hl
  unfold pM_rank at h
  refine rIload_n C dM_rank_0 hl 0 rfl ?_
  refine rIfne C (tgt := 8) h dM_rank_1 (by decide) (fun h => ?_) (fun h => ?_)
  · refine rIload_n C dM_rank_8 hl 0 rfl ?_
    refine lv_bipush (v := 11) C.1 C.2.1 dM_rank_9 (by decide) ?_
    refine rIcmpne C (tgt := 18) h dM_rank_11 (by decide) (fun h => ?_) (fun h => ?_)
    · refine rIload_n C dM_rank_18 hl 0 rfl ?_
      refine lv_bipush (v := 12) C.1 C.2.1 dM_rank_19 (by decide) ?_
      refine rIcmpne C (tgt := 28) h dM_rank_21 (by decide) (fun h => ?_) (fun h => ?_)
      · refine rIload_n C dM_rank_28 hl 0 rfl ?_
        refine lv_bipush (v := 13) C.1 C.2.1 dM_rank_29 (by decide) ?_
        refine rIcmpne C (tgt := 38) h dM_rank_31 (by decide) (fun h => ?_) (fun h => ?_)
        · refine rIload_n C dM_rank_38 hl 0 rfl ?_
          refine lv_bipush (v := 15) C.1 C.2.1 dM_rank_39 (by decide) ?_
          refine rIcmpgt C (tgt := 48) h dM_rank_41 (by decide) (fun h => ?_) (fun h => ?_)
          · refine rIload_n C dM_rank_48 hl 0 rfl ?_
            refine lv_bipush (v := 17) C.1 C.2.1 dM_rank_49 (by decide) ?_
            refine rIcmpgt C (tgt := 58) h dM_rank_51 (by decide) (fun h => ?_) (fun h => ?_)
            · refine rIload_n C dM_rank_58 hl 0 rfl ?_
              refine lv_bipush (v := 18) C.1 C.2.1 dM_rank_59 (by decide) ?_
              refine rIcmpne C (tgt := 69) h dM_rank_61 (by decide) (fun h => ?_) (fun h => ?_)
              · refine lv_bipush (v := 7) C.1 C.2.1 dM_rank_69 (by decide) ?_
                exact rReti C hG h dM_rank_71
              · refine lv_bipush (v := 6) C.1 C.2.1 dM_rank_64 (by decide) ?_
                refine lv_goto (tgt := 71) C.1 C.2.1 dM_rank_66 (by decide) ?_
                exact rReti C hG h dM_rank_71
            · refine lv_iconst (v := 5) C.1 C.2.1 dM_rank_54 (by decide) ?_
              refine lv_goto (tgt := 71) C.1 C.2.1 dM_rank_55 (by decide) ?_
              exact rReti C hG h dM_rank_71
          · refine lv_iconst (v := 4) C.1 C.2.1 dM_rank_44 (by decide) ?_
            refine lv_goto (tgt := 71) C.1 C.2.1 dM_rank_45 (by decide) ?_
            exact rReti C hG h dM_rank_71
        · refine lv_iconst (v := 3) C.1 C.2.1 dM_rank_34 (by decide) ?_
          refine lv_goto (tgt := 71) C.1 C.2.1 dM_rank_35 (by decide) ?_
          exact rReti C hG h dM_rank_71
      · refine lv_iconst (v := 2) C.1 C.2.1 dM_rank_24 (by decide) ?_
        refine lv_goto (tgt := 71) C.1 C.2.1 dM_rank_25 (by decide) ?_
        exact rReti C hG h dM_rank_71
    · refine lv_iconst (v := 1) C.1 C.2.1 dM_rank_14 (by decide) ?_
      refine lv_goto (tgt := 71) C.1 C.2.1 dM_rank_15 (by decide) ?_
      exact rReti C hG h dM_rank_71
  · refine lv_iconst (v := 0) C.1 C.2.1 dM_rank_4 (by decide) ?_
    refine lv_goto (tgt := 71) C.1 C.2.1 dM_rank_5 (by decide) ?_
    exact rReti C hG h dM_rank_71
theorem dM_unwinds_0 : decode bM_unwinds 0 = .ok (.aload_n 0, 1) := by decide +kernel
theorem dM_unwinds_1 : decode bM_unwinds 1 = .ok (.getfield 140, 3) := by decide +kernel
theorem dM_unwinds_4 : decode bM_unwinds 4 = .ok (.ifCond .le 75, 3) := by decide +kernel
theorem dM_unwinds_7 : decode bM_unwinds 7 = .ok (.aload_n 0, 1) := by decide +kernel
theorem dM_unwinds_8 : decode bM_unwinds 8 = .ok (.getfield 52, 3) := by decide +kernel
theorem dM_unwinds_11 : decode bM_unwinds 11 = .ok (.aload_n 0, 1) := by decide +kernel
theorem dM_unwinds_12 : decode bM_unwinds 12 = .ok (.getfield 140, 3) := by decide +kernel
theorem dM_unwinds_15 : decode bM_unwinds 15 = .ok (.iconst 1, 1) := by decide +kernel
theorem dM_unwinds_16 : decode bM_unwinds 16 = .ok (.isub, 1) := by decide +kernel
theorem dM_unwinds_17 : decode bM_unwinds 17 = .ok (.iaload, 1) := by decide +kernel
theorem dM_unwinds_18 : decode bM_unwinds 18 = .ok (.invokestatic 143, 3) := by decide +kernel
theorem dM_unwinds_21 : decode bM_unwinds 21 = .ok (.iload_n 1, 1) := by decide +kernel
theorem dM_unwinds_22 : decode bM_unwinds 22 = .ok (.if_icmp .lt 57, 3) := by decide +kernel
theorem dM_unwinds_25 : decode bM_unwinds 25 = .ok (.aload_n 0, 1) := by decide +kernel
theorem dM_unwinds_26 : decode bM_unwinds 26 = .ok (.dup, 1) := by decide +kernel
theorem dM_unwinds_27 : decode bM_unwinds 27 = .ok (.getfield 140, 3) := by decide +kernel
theorem dM_unwinds_30 : decode bM_unwinds 30 = .ok (.iconst 1, 1) := by decide +kernel
theorem dM_unwinds_31 : decode bM_unwinds 31 = .ok (.isub, 1) := by decide +kernel
theorem dM_unwinds_32 : decode bM_unwinds 32 = .ok (.putfield 140, 3) := by decide +kernel
theorem dM_unwinds_35 : decode bM_unwinds 35 = .ok (.aload_n 0, 1) := by decide +kernel
theorem dM_unwinds_36 : decode bM_unwinds 36 = .ok (.getfield 52, 3) := by decide +kernel
theorem dM_unwinds_39 : decode bM_unwinds 39 = .ok (.aload_n 0, 1) := by decide +kernel
theorem dM_unwinds_40 : decode bM_unwinds 40 = .ok (.getfield 140, 3) := by decide +kernel
theorem dM_unwinds_43 : decode bM_unwinds 43 = .ok (.iaload, 1) := by decide +kernel
theorem dM_unwinds_44 : decode bM_unwinds 44 = .ok (.istore_n 2, 1) := by decide +kernel
theorem dM_unwinds_45 : decode bM_unwinds 45 = .ok (.aload_n 0, 1) := by decide +kernel
theorem dM_unwinds_46 : decode bM_unwinds 46 = .ok (.dup, 1) := by decide +kernel
theorem dM_unwinds_47 : decode bM_unwinds 47 = .ok (.getfield 146, 3) := by decide +kernel
theorem dM_unwinds_50 : decode bM_unwinds 50 = .ok (.iload_n 2, 1) := by decide +kernel
theorem dM_unwinds_51 : decode bM_unwinds 51 = .ok (.bipush 13, 2) := by decide +kernel
theorem dM_unwinds_53 : decode bM_unwinds 53 = .ok (.if_icmp .eq 9, 3) := by decide +kernel
theorem dM_unwinds_56 : decode bM_unwinds 56 = .ok (.iload_n 2, 1) := by decide +kernel
theorem dM_unwinds_57 : decode bM_unwinds 57 = .ok (.bipush 19, 2) := by decide +kernel
theorem dM_unwinds_59 : decode bM_unwinds 59 = .ok (.if_icmp .ne 7, 3) := by decide +kernel
theorem dM_unwinds_62 : decode bM_unwinds 62 = .ok (.iconst 1, 1) := by decide +kernel
theorem dM_unwinds_63 : decode bM_unwinds 63 = .ok (.goto 4, 3) := by decide +kernel
theorem dM_unwinds_66 : decode bM_unwinds 66 = .ok (.iconst 0, 1) := by decide +kernel
theorem dM_unwinds_67 : decode bM_unwinds 67 = .ok (.isub, 1) := by decide +kernel
theorem dM_unwinds_68 : decode bM_unwinds 68 = .ok (.putfield 146, 3) := by decide +kernel
theorem dM_unwinds_71 : decode bM_unwinds 71 = .ok (.aload_n 0, 1) := by decide +kernel
theorem dM_unwinds_72 : decode bM_unwinds 72 = .ok (.iload_n 2, 1) := by decide +kernel
theorem dM_unwinds_73 : decode bM_unwinds 73 = .ok (.invokevirtual 149, 3) := by decide +kernel
theorem dM_unwinds_76 : decode bM_unwinds 76 = .ok (.goto (-76), 3) := by decide +kernel
theorem dM_unwinds_79 : decode bM_unwinds 79 = .ok (.return_, 1) := by decide +kernel
theorem wM_unwinds_67 {p : Program} {l : Launch} {e : Env} {s : State} {m : MethodId} {args : Array Value} {below : List Frame} {meth : Method} {c : Code} {G : GT} {I : List Nat} (C : CX p s m args meth c NM bM_unwinds 3 none G I) (hI : mI I) {fu : Nat} {Z : Sg} {rc0 : Int32 → Sg → Option Sg} (hr0 : ∀ {v1 : Int32} {z : Sg} {H : Heap} {locs : List Loc} {ls : Array Slot}, rc0 v1 z = some Z → GW G I z s.heap H locs → lv_has ls 3 [(0, .ref (gA G 78)), (1, .int v1)] → W p l e rmM_unwinds s m args below meth c H locs 0 0 (MQ below (Qv G I Z) args s 0 0 (AD G I)) (F0 m 0 ls [])) {v1 : Int32} {v2 : Int32} {t1 : Int32} {t2 : Int32} {z : Sg} {H : Heap} {locs : List Loc} {ls : Array Slot} (h : pM_unwinds_67 fu rc0 v1 v2 t1 t2 z = some Z) (hG : GW G I z s.heap H locs) (hl : lv_has ls 3 [(0, .ref (gA G 78)), (1, .int v1), (2, .int v2)]) : W p l e rmM_unwinds s m args below meth c H locs 0 0 (MQ below (Qv G I Z) args s 0 0 (AD G I)) (F0 m 67 ls [.int t2, .int t1, .ref (gA G 78)]) := by
  unfold pM_unwinds_67 at h
  refine lv_isub C.1 C.2.1 dM_unwinds_67 ?_
  refine rPut C hG (hI 78 (by decide) (by decide)) e_78 fiM_25 tokM nmM rfl (fpM_25 _) (Nat.le_of_ble_eq_true rfl) rfl rfl k_831 h dM_unwinds_68 (fun H locs z5 h hG => ?_)
  refine rAload_n C dM_unwinds_71 hl 0 rfl ?_
  refine rIload_n C dM_unwinds_72 hl 2 rfl ?_
  refine rCVv [.int v2] [] C hG h (fun h => cM_puts hI h) mvM_puts k_779 ⟨Nat.le_of_ble_eq_true rfl, Nat.le_of_ble_eq_true rfl⟩ ⟨rfl, rfl⟩ (rRecv C hG (hI 78 (by decide) (by decide)) e_78 rfl) rfl hl.1 (Nat.le_of_ble_eq_true rfl) dM_unwinds_73 ⟨Nat.zero_le _, Nat.zero_le _⟩ rfl (fun H locs z6 h hG => ?_)
  refine lv_goto (tgt := 0) C.1 C.2.1 dM_unwinds_76 (by decide) ?_
  exact hr0 h hG (lv_sub hl [0, 1] rfl)
theorem wM_unwinds_62 {p : Program} {l : Launch} {e : Env} {s : State} {m : MethodId} {args : Array Value} {below : List Frame} {meth : Method} {c : Code} {G : GT} {I : List Nat} (C : CX p s m args meth c NM bM_unwinds 3 none G I) (hI : mI I) {fu : Nat} {Z : Sg} {rc0 : Int32 → Sg → Option Sg} (hr0 : ∀ {v1 : Int32} {z : Sg} {H : Heap} {locs : List Loc} {ls : Array Slot}, rc0 v1 z = some Z → GW G I z s.heap H locs → lv_has ls 3 [(0, .ref (gA G 78)), (1, .int v1)] → W p l e rmM_unwinds s m args below meth c H locs 0 0 (MQ below (Qv G I Z) args s 0 0 (AD G I)) (F0 m 0 ls [])) {v1 : Int32} {v2 : Int32} {t1 : Int32} {z : Sg} {H : Heap} {locs : List Loc} {ls : Array Slot} (h : pM_unwinds_62 fu rc0 v1 v2 t1 z = some Z) (hG : GW G I z s.heap H locs) (hl : lv_has ls 3 [(0, .ref (gA G 78)), (1, .int v1), (2, .int v2)]) : W p l e rmM_unwinds s m args below meth c H locs 0 0 (MQ below (Qv G I Z) args s 0 0 (AD G I)) (F0 m 62 ls [.int t1, .ref (gA G 78)]) := by
  unfold pM_unwinds_62 at h
  refine lv_iconst (v := 1) C.1 C.2.1 dM_unwinds_62 (by decide) ?_
  refine lv_goto (tgt := 67) C.1 C.2.1 dM_unwinds_63 (by decide) ?_
  exact wM_unwinds_67 C hI hr0 h hG (lv_sub hl [0, 1, 2] rfl)
theorem wM_unwinds_0 {p : Program} {l : Launch} {e : Env} {s : State} {m : MethodId} {args : Array Value} {below : List Frame} {meth : Method} {c : Code} {G : GT} {I : List Nat} (C : CX p s m args meth c NM bM_unwinds 3 none G I) (hI : mI I) {fu : Nat} {Z : Sg} : ∀ (k : Nat) {v1 : Int32} {z : Sg} {H : Heap} {locs : List Loc} {ls : Array Slot}, pM_unwinds_0 fu k v1 z = some Z → GW G I z s.heap H locs → lv_has ls 3 [(0, .ref (gA G 78)), (1, .int v1)] → W p l e rmM_unwinds s m args below meth c H locs 0 0 (MQ below (Qv G I Z) args s 0 0 (AD G I)) (F0 m 0 ls []) := by
  intro k
  induction k with
  | zero => intro v1 z H locs ls h hG hl; rw [pM_unwinds_0] at h; cases h
  | succ k ih =>
    intro v1 z H locs ls h hG hl
    rw [pM_unwinds_0] at h
    refine rAload_n C dM_unwinds_0 hl 0 rfl ?_
    refine rGet C hG (hI 78 (by decide) (by decide)) e_78 fiM_24 (v := .int (z 78 24)) rfl k_830 dM_unwinds_1 ?_
    refine rIfle C (tgt := 79) h dM_unwinds_4 (by decide) (fun h => ?_) (fun h => ?_)
    · exact rRetv C hG h dM_unwinds_79
    · refine rAload_n C dM_unwinds_7 hl 0 rfl ?_
      refine rGet C hG (hI 78 (by decide) (by decide)) e_78 fiM_23 (v := .ref (gA G 93)) rfl k_829 dM_unwinds_8 ?_
      refine rAload_n C dM_unwinds_11 hl 0 rfl ?_
      refine rGet C hG (hI 78 (by decide) (by decide)) e_78 fiM_24 (v := .int (z 78 24)) rfl k_830 dM_unwinds_12 ?_
      refine lv_iconst (v := 1) C.1 C.2.1 dM_unwinds_15 (by decide) ?_
      refine lv_isub C.1 C.2.1 dM_unwinds_16 ?_
      refine rIald C hG (hI 93 (by decide) (by decide)) e_93 h dM_unwinds_17 (fun h => ?_)
      refine rCSi [.int (ga z 93 ((z 78 24) - 1))] [] C hG h (fun h => cM_rank hI h) mvM_rank k_787 ⟨Nat.le_of_ble_eq_true rfl, Nat.le_of_ble_eq_true rfl⟩ ⟨rfl, rfl⟩ rfl hl.1 (Nat.le_of_ble_eq_true rfl) dM_unwinds_18 ⟨Nat.zero_le _, Nat.zero_le _⟩ rfl (fun H locs x2 z1 h hG => ?_)
      refine rIload_n C dM_unwinds_21 hl 1 rfl ?_
      refine rIcmplt C (tgt := 79) h dM_unwinds_22 (by decide) (fun h => ?_) (fun h => ?_)
      · exact rRetv C hG h dM_unwinds_79
      · refine rAload_n C dM_unwinds_25 hl 0 rfl ?_
        refine lv_dup C.1 C.2.1 dM_unwinds_26 rfl ?_
        refine rGet C hG (hI 78 (by decide) (by decide)) e_78 fiM_24 (v := .int (z1 78 24)) rfl k_830 dM_unwinds_27 ?_
        refine lv_iconst (v := 1) C.1 C.2.1 dM_unwinds_30 (by decide) ?_
        refine lv_isub C.1 C.2.1 dM_unwinds_31 ?_
        refine rPut C hG (hI 78 (by decide) (by decide)) e_78 fiM_24 tokM nmM rfl (fpM_24 _) (Nat.le_of_ble_eq_true rfl) rfl rfl k_830 h dM_unwinds_32 (fun H locs z3 h hG => ?_)
        refine rAload_n C dM_unwinds_35 hl 0 rfl ?_
        refine rGet C hG (hI 78 (by decide) (by decide)) e_78 fiM_23 (v := .ref (gA G 93)) rfl k_829 dM_unwinds_36 ?_
        refine rAload_n C dM_unwinds_39 hl 0 rfl ?_
        refine rGet C hG (hI 78 (by decide) (by decide)) e_78 fiM_24 (v := .int (z3 78 24)) rfl k_830 dM_unwinds_40 ?_
        refine rIald C hG (hI 93 (by decide) (by decide)) e_93 h dM_unwinds_43 (fun h => ?_)
        refine rIstore_n C dM_unwinds_44 hl h (by decide) [(0, .ref (gA G 78)), (1, .int v1)] rfl (fun x4 ls h hl => ?_)
        refine rAload_n C dM_unwinds_45 hl 1 rfl ?_
        refine lv_dup C.1 C.2.1 dM_unwinds_46 rfl ?_
        refine rGet C hG (hI 78 (by decide) (by decide)) e_78 fiM_25 (v := .int (z3 78 25)) rfl k_831 dM_unwinds_47 ?_
        refine rIload_n C dM_unwinds_50 hl 0 rfl ?_
        refine lv_bipush (v := 13) C.1 C.2.1 dM_unwinds_51 (by decide) ?_
        refine rIcmpeq C (tgt := 62) h dM_unwinds_53 (by decide) (fun h => ?_) (fun h => ?_)
        · exact wM_unwinds_62 C hI ih h hG (lv_sub hl [1, 2, 0] rfl)
        · refine rIload_n C dM_unwinds_56 hl 0 rfl ?_
          refine lv_bipush (v := 19) C.1 C.2.1 dM_unwinds_57 (by decide) ?_
          refine rIcmpne C (tgt := 66) h dM_unwinds_59 (by decide) (fun h => ?_) (fun h => ?_)
          · refine lv_iconst (v := 0) C.1 C.2.1 dM_unwinds_66 (by decide) ?_
            exact wM_unwinds_67 C hI ih h hG (lv_sub hl [1, 2, 0] rfl)
          · exact wM_unwinds_62 C hI ih h hG (lv_sub hl [1, 2, 0] rfl)
theorem cM_unwinds {l : Launch} {G : GT} {I : List Nat} (hI : mI I) {fu : Nat} {v1 : Int32} {z : Sg} {Z : Sg} (h : pM_unwinds fu v1 z = some Z) : Mt l yM_unwinds rmM_unwinds bM_unwinds 3 none G I z [.ref (gA G 78), .int v1] (Qv G I Z) := by
  refine entM (by decide +kernel) (Nat.le_of_ble_eq_true rfl) ?_
  intro p e s m below meth c C hG ls hl
  have hl : lv_has ls 3 [(0, .ref (gA G 78)), (1, .int v1)] := hl
  unfold pM_unwinds at h
  exact wM_unwinds_0 C hI _ h hG (lv_sub hl [0, 1] rfl)
theorem dM_holds_0 : decode bM_holds 0 = .ok (.aload_n 0, 1) := by decide +kernel
theorem dM_holds_1 : decode bM_holds 1 = .ok (.getfield 52, 3) := by decide +kernel
theorem dM_holds_4 : decode bM_holds 4 = .ok (.aload_n 0, 1) := by decide +kernel
theorem dM_holds_5 : decode bM_holds 5 = .ok (.getfield 140, 3) := by decide +kernel
theorem dM_holds_8 : decode bM_holds 8 = .ok (.iload_n 1, 1) := by decide +kernel
theorem dM_holds_9 : decode bM_holds 9 = .ok (.iastore, 1) := by decide +kernel
theorem dM_holds_10 : decode bM_holds 10 = .ok (.aload_n 0, 1) := by decide +kernel
theorem dM_holds_11 : decode bM_holds 11 = .ok (.dup, 1) := by decide +kernel
theorem dM_holds_12 : decode bM_holds 12 = .ok (.getfield 140, 3) := by decide +kernel
theorem dM_holds_15 : decode bM_holds 15 = .ok (.iconst 1, 1) := by decide +kernel
theorem dM_holds_16 : decode bM_holds 16 = .ok (.iadd, 1) := by decide +kernel
theorem dM_holds_17 : decode bM_holds 17 = .ok (.putfield 140, 3) := by decide +kernel
theorem dM_holds_20 : decode bM_holds 20 = .ok (.return_, 1) := by decide +kernel
theorem cM_holds {l : Launch} {G : GT} {I : List Nat} (hI : mI I) {fu : Nat} {v1 : Int32} {z : Sg} {Z : Sg} (h : pM_holds fu v1 z = some Z) : Mt l yM_holds rmM_holds bM_holds 2 none G I z [.ref (gA G 78), .int v1] (Qv G I Z) := by
  refine entM (by decide +kernel) (Nat.le_of_ble_eq_true rfl) ?_
  intro p e s m below meth c C hG ls hl
  have hl : lv_has ls 2 [(0, .ref (gA G 78)), (1, .int v1)] := hl
  unfold pM_holds at h
  refine rAload_n C dM_holds_0 hl 0 rfl ?_
  refine rGet C hG (hI 78 (by decide) (by decide)) e_78 fiM_23 (v := .ref (gA G 93)) rfl k_829 dM_holds_1 ?_
  refine rAload_n C dM_holds_4 hl 0 rfl ?_
  refine rGet C hG (hI 78 (by decide) (by decide)) e_78 fiM_24 (v := .int (z 78 24)) rfl k_830 dM_holds_5 ?_
  refine rIload_n C dM_holds_8 hl 1 rfl ?_
  refine rIast C hG (hI 93 (by decide) (by decide)) e_93 h dM_holds_9 (fun H locs z1 h hG => ?_)
  refine rAload_n C dM_holds_10 hl 0 rfl ?_
  refine lv_dup C.1 C.2.1 dM_holds_11 rfl ?_
  refine rGet C hG (hI 78 (by decide) (by decide)) e_78 fiM_24 (v := .int (z1 78 24)) rfl k_830 dM_holds_12 ?_
  refine lv_iconst (v := 1) C.1 C.2.1 dM_holds_15 (by decide) ?_
  refine lv_iadd C.1 C.2.1 dM_holds_16 ?_
  refine rPut C hG (hI 78 (by decide) (by decide)) e_78 fiM_24 tokM nmM rfl (fpM_24 _) (Nat.le_of_ble_eq_true rfl) rfl rfl k_830 h dM_holds_17 (fun H locs z2 h hG => ?_)
  exact rRetv C hG h dM_holds_20
theorem dM_opensOne_0 : decode bM_opensOne 0 = .ok (.aload_n 0, 1) := by decide +kernel
theorem dM_opensOne_1 : decode bM_opensOne 1 = .ok (.getfield 146, 3) := by decide +kernel
theorem dM_opensOne_4 : decode bM_opensOne 4 = .ok (.iconst 5, 1) := by decide +kernel
theorem dM_opensOne_5 : decode bM_opensOne 5 = .ok (.if_icmp .ne 5, 3) := by decide +kernel
theorem dM_opensOne_8 : decode bM_opensOne 8 = .ok (.iconst 0, 1) := by decide +kernel
theorem dM_opensOne_9 : decode bM_opensOne 9 = .ok (.ireturn, 1) := by decide +kernel
theorem dM_opensOne_10 : decode bM_opensOne 10 = .ok (.aload_n 0, 1) := by decide +kernel
theorem dM_opensOne_11 : decode bM_opensOne 11 = .ok (.dup, 1) := by decide +kernel
theorem dM_opensOne_12 : decode bM_opensOne 12 = .ok (.getfield 146, 3) := by decide +kernel
theorem dM_opensOne_15 : decode bM_opensOne 15 = .ok (.iconst 1, 1) := by decide +kernel
theorem dM_opensOne_16 : decode bM_opensOne 16 = .ok (.iadd, 1) := by decide +kernel
theorem dM_opensOne_17 : decode bM_opensOne 17 = .ok (.putfield 146, 3) := by decide +kernel
theorem dM_opensOne_20 : decode bM_opensOne 20 = .ok (.aload_n 0, 1) := by decide +kernel
theorem dM_opensOne_21 : decode bM_opensOne 21 = .ok (.iload_n 1, 1) := by decide +kernel
theorem dM_opensOne_22 : decode bM_opensOne 22 = .ok (.invokevirtual 153, 3) := by decide +kernel
theorem dM_opensOne_25 : decode bM_opensOne 25 = .ok (.iconst 1, 1) := by decide +kernel
theorem dM_opensOne_26 : decode bM_opensOne 26 = .ok (.ireturn, 1) := by decide +kernel
theorem cM_opensOne {l : Launch} {G : GT} {I : List Nat} (hI : mI I) {fu : Nat} {v1 : Int32} {z : Sg} {R1 : Int32} {Z : Sg} (h : pM_opensOne fu v1 z = some (R1, Z)) : Mt l yM_opensOne rmM_opensOne bM_opensOne 2 (some .boolean) G I z [.ref (gA G 78), .int v1] (Qi G I R1 Z) := by
  refine entM (by decide +kernel) (Nat.le_of_ble_eq_true rfl) ?_
  intro p e s m below meth c C hG ls hl
  have hl : lv_has ls 2 [(0, .ref (gA G 78)), (1, .int v1)] := hl
  unfold pM_opensOne at h
  refine rAload_n C dM_opensOne_0 hl 0 rfl ?_
  refine rGet C hG (hI 78 (by decide) (by decide)) e_78 fiM_25 (v := .int (z 78 25)) rfl k_831 dM_opensOne_1 ?_
  refine lv_iconst (v := 5) C.1 C.2.1 dM_opensOne_4 (by decide) ?_
  refine rIcmpne C (tgt := 10) h dM_opensOne_5 (by decide) (fun h => ?_) (fun h => ?_)
  · refine rAload_n C dM_opensOne_10 hl 0 rfl ?_
    refine lv_dup C.1 C.2.1 dM_opensOne_11 rfl ?_
    refine rGet C hG (hI 78 (by decide) (by decide)) e_78 fiM_25 (v := .int (z 78 25)) rfl k_831 dM_opensOne_12 ?_
    refine lv_iconst (v := 1) C.1 C.2.1 dM_opensOne_15 (by decide) ?_
    refine lv_iadd C.1 C.2.1 dM_opensOne_16 ?_
    refine rPut C hG (hI 78 (by decide) (by decide)) e_78 fiM_25 tokM nmM rfl (fpM_25 _) (Nat.le_of_ble_eq_true rfl) rfl rfl k_831 h dM_opensOne_17 (fun H locs z1 h hG => ?_)
    refine rAload_n C dM_opensOne_20 hl 0 rfl ?_
    refine rIload_n C dM_opensOne_21 hl 1 rfl ?_
    refine rCVv [.int v1] [] C hG h (fun h => cM_holds hI h) mvM_holds k_794 ⟨Nat.le_of_ble_eq_true rfl, Nat.le_of_ble_eq_true rfl⟩ ⟨rfl, rfl⟩ (rRecv C hG (hI 78 (by decide) (by decide)) e_78 rfl) rfl hl.1 (Nat.le_of_ble_eq_true rfl) dM_opensOne_22 ⟨Nat.zero_le _, Nat.zero_le _⟩ rfl (fun H locs z2 h hG => ?_)
    refine lv_iconst (v := 1) C.1 C.2.1 dM_opensOne_25 (by decide) ?_
    exact rRetn C hG (ty := .boolean) rfl rfl h dM_opensOne_26
  · refine lv_iconst (v := 0) C.1 C.2.1 dM_opensOne_8 (by decide) ?_
    exact rRetn C hG (ty := .boolean) rfl rfl h dM_opensOne_9
theorem dM_signOf_0 : decode bM_signOf 0 = .ok (.aload_n 0, 1) := by decide +kernel
theorem dM_signOf_1 : decode bM_signOf 1 = .ok (.getfield 128, 3) := by decide +kernel
theorem dM_signOf_4 : decode bM_signOf 4 = .ok (.iconst 4, 1) := by decide +kernel
theorem dM_signOf_5 : decode bM_signOf 5 = .ok (.if_icmp .ne 8, 3) := by decide +kernel
theorem dM_signOf_8 : decode bM_signOf 8 = .ok (.bipush 11, 2) := by decide +kernel
theorem dM_signOf_10 : decode bM_signOf 10 = .ok (.goto 87, 3) := by decide +kernel
theorem dM_signOf_13 : decode bM_signOf 13 = .ok (.aload_n 0, 1) := by decide +kernel
theorem dM_signOf_14 : decode bM_signOf 14 = .ok (.getfield 128, 3) := by decide +kernel
theorem dM_signOf_17 : decode bM_signOf 17 = .ok (.iconst 5, 1) := by decide +kernel
theorem dM_signOf_18 : decode bM_signOf 18 = .ok (.if_icmp .ne 8, 3) := by decide +kernel
theorem dM_signOf_21 : decode bM_signOf 21 = .ok (.bipush 12, 2) := by decide +kernel
theorem dM_signOf_23 : decode bM_signOf 23 = .ok (.goto 74, 3) := by decide +kernel
theorem dM_signOf_26 : decode bM_signOf 26 = .ok (.aload_n 0, 1) := by decide +kernel
theorem dM_signOf_27 : decode bM_signOf 27 = .ok (.getfield 128, 3) := by decide +kernel
theorem dM_signOf_30 : decode bM_signOf 30 = .ok (.bipush 60, 2) := by decide +kernel
theorem dM_signOf_32 : decode bM_signOf 32 = .ok (.if_icmp .ne 8, 3) := by decide +kernel
theorem dM_signOf_35 : decode bM_signOf 35 = .ok (.bipush 14, 2) := by decide +kernel
theorem dM_signOf_37 : decode bM_signOf 37 = .ok (.goto 60, 3) := by decide +kernel
theorem dM_signOf_40 : decode bM_signOf 40 = .ok (.aload_n 0, 1) := by decide +kernel
theorem dM_signOf_41 : decode bM_signOf 41 = .ok (.getfield 128, 3) := by decide +kernel
theorem dM_signOf_44 : decode bM_signOf 44 = .ok (.bipush 61, 2) := by decide +kernel
theorem dM_signOf_46 : decode bM_signOf 46 = .ok (.if_icmp .ne 8, 3) := by decide +kernel
theorem dM_signOf_49 : decode bM_signOf 49 = .ok (.bipush 15, 2) := by decide +kernel
theorem dM_signOf_51 : decode bM_signOf 51 = .ok (.goto 46, 3) := by decide +kernel
theorem dM_signOf_54 : decode bM_signOf 54 = .ok (.aload_n 0, 1) := by decide +kernel
theorem dM_signOf_55 : decode bM_signOf 55 = .ok (.getfield 128, 3) := by decide +kernel
theorem dM_signOf_58 : decode bM_signOf 58 = .ok (.bipush 43, 2) := by decide +kernel
theorem dM_signOf_60 : decode bM_signOf 60 = .ok (.if_icmp .ne 8, 3) := by decide +kernel
theorem dM_signOf_63 : decode bM_signOf 63 = .ok (.bipush 16, 2) := by decide +kernel
theorem dM_signOf_65 : decode bM_signOf 65 = .ok (.goto 32, 3) := by decide +kernel
theorem dM_signOf_68 : decode bM_signOf 68 = .ok (.aload_n 0, 1) := by decide +kernel
theorem dM_signOf_69 : decode bM_signOf 69 = .ok (.getfield 128, 3) := by decide +kernel
theorem dM_signOf_72 : decode bM_signOf 72 = .ok (.bipush 45, 2) := by decide +kernel
theorem dM_signOf_74 : decode bM_signOf 74 = .ok (.if_icmp .ne 8, 3) := by decide +kernel
theorem dM_signOf_77 : decode bM_signOf 77 = .ok (.bipush 17, 2) := by decide +kernel
theorem dM_signOf_79 : decode bM_signOf 79 = .ok (.goto 18, 3) := by decide +kernel
theorem dM_signOf_82 : decode bM_signOf 82 = .ok (.aload_n 0, 1) := by decide +kernel
theorem dM_signOf_83 : decode bM_signOf 83 = .ok (.getfield 128, 3) := by decide +kernel
theorem dM_signOf_86 : decode bM_signOf 86 = .ok (.bipush 42, 2) := by decide +kernel
theorem dM_signOf_88 : decode bM_signOf 88 = .ok (.if_icmp .ne 8, 3) := by decide +kernel
theorem dM_signOf_91 : decode bM_signOf 91 = .ok (.bipush 18, 2) := by decide +kernel
theorem dM_signOf_93 : decode bM_signOf 93 = .ok (.goto 4, 3) := by decide +kernel
theorem dM_signOf_96 : decode bM_signOf 96 = .ok (.iconst (-1), 1) := by decide +kernel
theorem dM_signOf_97 : decode bM_signOf 97 = .ok (.ireturn, 1) := by decide +kernel
theorem cM_signOf {l : Launch} {G : GT} {I : List Nat} (hI : mI I) {fu : Nat} {z : Sg} {R1 : Int32} {Z : Sg} (h : pM_signOf fu z = some (R1, Z)) : Mt l yM_signOf rmM_signOf bM_signOf 1 (some .int) G I z [.ref (gA G 78)] (Qi G I R1 Z) := by
  refine entM (by decide +kernel) (Nat.le_of_ble_eq_true rfl) ?_
  intro p e s m below meth c C hG ls hl
  have hl : lv_has ls 1 [(0, .ref (gA G 78))] := hl
  unfold pM_signOf at h
  refine rAload_n C dM_signOf_0 hl 0 rfl ?_
  refine rGet C hG (hI 78 (by decide) (by decide)) e_78 fiM_20 (v := .int (z 78 20)) rfl k_826 dM_signOf_1 ?_
  refine lv_iconst (v := 4) C.1 C.2.1 dM_signOf_4 (by decide) ?_
  refine rIcmpne C (tgt := 13) h dM_signOf_5 (by decide) (fun h => ?_) (fun h => ?_)
  · refine rAload_n C dM_signOf_13 hl 0 rfl ?_
    refine rGet C hG (hI 78 (by decide) (by decide)) e_78 fiM_20 (v := .int (z 78 20)) rfl k_826 dM_signOf_14 ?_
    refine lv_iconst (v := 5) C.1 C.2.1 dM_signOf_17 (by decide) ?_
    refine rIcmpne C (tgt := 26) h dM_signOf_18 (by decide) (fun h => ?_) (fun h => ?_)
    · refine rAload_n C dM_signOf_26 hl 0 rfl ?_
      refine rGet C hG (hI 78 (by decide) (by decide)) e_78 fiM_20 (v := .int (z 78 20)) rfl k_826 dM_signOf_27 ?_
      refine lv_bipush (v := 60) C.1 C.2.1 dM_signOf_30 (by decide) ?_
      refine rIcmpne C (tgt := 40) h dM_signOf_32 (by decide) (fun h => ?_) (fun h => ?_)
      · refine rAload_n C dM_signOf_40 hl 0 rfl ?_
        refine rGet C hG (hI 78 (by decide) (by decide)) e_78 fiM_20 (v := .int (z 78 20)) rfl k_826 dM_signOf_41 ?_
        refine lv_bipush (v := 61) C.1 C.2.1 dM_signOf_44 (by decide) ?_
        refine rIcmpne C (tgt := 54) h dM_signOf_46 (by decide) (fun h => ?_) (fun h => ?_)
        · refine rAload_n C dM_signOf_54 hl 0 rfl ?_
          refine rGet C hG (hI 78 (by decide) (by decide)) e_78 fiM_20 (v := .int (z 78 20)) rfl k_826 dM_signOf_55 ?_
          refine lv_bipush (v := 43) C.1 C.2.1 dM_signOf_58 (by decide) ?_
          refine rIcmpne C (tgt := 68) h dM_signOf_60 (by decide) (fun h => ?_) (fun h => ?_)
          · refine rAload_n C dM_signOf_68 hl 0 rfl ?_
            refine rGet C hG (hI 78 (by decide) (by decide)) e_78 fiM_20 (v := .int (z 78 20)) rfl k_826 dM_signOf_69 ?_
            refine lv_bipush (v := 45) C.1 C.2.1 dM_signOf_72 (by decide) ?_
            refine rIcmpne C (tgt := 82) h dM_signOf_74 (by decide) (fun h => ?_) (fun h => ?_)
            · refine rAload_n C dM_signOf_82 hl 0 rfl ?_
              refine rGet C hG (hI 78 (by decide) (by decide)) e_78 fiM_20 (v := .int (z 78 20)) rfl k_826 dM_signOf_83 ?_
              refine lv_bipush (v := 42) C.1 C.2.1 dM_signOf_86 (by decide) ?_
              refine rIcmpne C (tgt := 96) h dM_signOf_88 (by decide) (fun h => ?_) (fun h => ?_)
              · refine lv_iconst (v := (-1)) C.1 C.2.1 dM_signOf_96 (by decide) ?_
                exact rReti C hG h dM_signOf_97
              · refine lv_bipush (v := 18) C.1 C.2.1 dM_signOf_91 (by decide) ?_
                refine lv_goto (tgt := 97) C.1 C.2.1 dM_signOf_93 (by decide) ?_
                exact rReti C hG h dM_signOf_97
            · refine lv_bipush (v := 17) C.1 C.2.1 dM_signOf_77 (by decide) ?_
              refine lv_goto (tgt := 97) C.1 C.2.1 dM_signOf_79 (by decide) ?_
              exact rReti C hG h dM_signOf_97
          · refine lv_bipush (v := 16) C.1 C.2.1 dM_signOf_63 (by decide) ?_
            refine lv_goto (tgt := 97) C.1 C.2.1 dM_signOf_65 (by decide) ?_
            exact rReti C hG h dM_signOf_97
        · refine lv_bipush (v := 15) C.1 C.2.1 dM_signOf_49 (by decide) ?_
          refine lv_goto (tgt := 97) C.1 C.2.1 dM_signOf_51 (by decide) ?_
          exact rReti C hG h dM_signOf_97
      · refine lv_bipush (v := 14) C.1 C.2.1 dM_signOf_35 (by decide) ?_
        refine lv_goto (tgt := 97) C.1 C.2.1 dM_signOf_37 (by decide) ?_
        exact rReti C hG h dM_signOf_97
    · refine lv_bipush (v := 12) C.1 C.2.1 dM_signOf_21 (by decide) ?_
      refine lv_goto (tgt := 97) C.1 C.2.1 dM_signOf_23 (by decide) ?_
      exact rReti C hG h dM_signOf_97
  · refine lv_bipush (v := 11) C.1 C.2.1 dM_signOf_8 (by decide) ?_
    refine lv_goto (tgt := 97) C.1 C.2.1 dM_signOf_10 (by decide) ?_
    exact rReti C hG h dM_signOf_97
theorem dM_between_0 : decode bM_between 0 = .ok (.aload_n 0, 1) := by decide +kernel
theorem dM_between_1 : decode bM_between 1 = .ok (.iload_n 1, 1) := by decide +kernel
theorem dM_between_2 : decode bM_between 2 = .ok (.invokestatic 143, 3) := by decide +kernel
theorem dM_between_5 : decode bM_between 5 = .ok (.iconst 4, 1) := by decide +kernel
theorem dM_between_6 : decode bM_between 6 = .ok (.if_icmp .ne 7, 3) := by decide +kernel
theorem dM_between_9 : decode bM_between 9 = .ok (.iconst 5, 1) := by decide +kernel
theorem dM_between_10 : decode bM_between 10 = .ok (.goto 7, 3) := by decide +kernel
theorem dM_between_13 : decode bM_between 13 = .ok (.iload_n 1, 1) := by decide +kernel
theorem dM_between_14 : decode bM_between 14 = .ok (.invokestatic 143, 3) := by decide +kernel
theorem dM_between_17 : decode bM_between 17 = .ok (.invokevirtual 156, 3) := by decide +kernel
theorem dM_between_20 : decode bM_between 20 = .ok (.iload_n 1, 1) := by decide +kernel
theorem dM_between_21 : decode bM_between 21 = .ok (.invokestatic 143, 3) := by decide +kernel
theorem dM_between_24 : decode bM_between 24 = .ok (.iconst 4, 1) := by decide +kernel
theorem dM_between_25 : decode bM_between 25 = .ok (.if_icmp .ne 30, 3) := by decide +kernel
theorem dM_between_28 : decode bM_between 28 = .ok (.aload_n 0, 1) := by decide +kernel
theorem dM_between_29 : decode bM_between 29 = .ok (.getfield 140, 3) := by decide +kernel
theorem dM_between_32 : decode bM_between 32 = .ok (.ifCond .le 23, 3) := by decide +kernel
theorem dM_between_35 : decode bM_between 35 = .ok (.aload_n 0, 1) := by decide +kernel
theorem dM_between_36 : decode bM_between 36 = .ok (.getfield 52, 3) := by decide +kernel
theorem dM_between_39 : decode bM_between 39 = .ok (.aload_n 0, 1) := by decide +kernel
theorem dM_between_40 : decode bM_between 40 = .ok (.getfield 140, 3) := by decide +kernel
theorem dM_between_43 : decode bM_between 43 = .ok (.iconst 1, 1) := by decide +kernel
theorem dM_between_44 : decode bM_between 44 = .ok (.isub, 1) := by decide +kernel
theorem dM_between_45 : decode bM_between 45 = .ok (.iaload, 1) := by decide +kernel
theorem dM_between_46 : decode bM_between 46 = .ok (.invokestatic 143, 3) := by decide +kernel
theorem dM_between_49 : decode bM_between 49 = .ok (.iconst 4, 1) := by decide +kernel
theorem dM_between_50 : decode bM_between 50 = .ok (.if_icmp .ne 5, 3) := by decide +kernel
theorem dM_between_53 : decode bM_between 53 = .ok (.iconst 0, 1) := by decide +kernel
theorem dM_between_54 : decode bM_between 54 = .ok (.ireturn, 1) := by decide +kernel
theorem dM_between_55 : decode bM_between 55 = .ok (.aload_n 0, 1) := by decide +kernel
theorem dM_between_56 : decode bM_between 56 = .ok (.iload_n 1, 1) := by decide +kernel
theorem dM_between_57 : decode bM_between 57 = .ok (.invokevirtual 153, 3) := by decide +kernel
theorem dM_between_60 : decode bM_between 60 = .ok (.iconst 1, 1) := by decide +kernel
theorem dM_between_61 : decode bM_between 61 = .ok (.ireturn, 1) := by decide +kernel
theorem wM_between_55 {p : Program} {l : Launch} {e : Env} {s : State} {m : MethodId} {args : Array Value} {below : List Frame} {meth : Method} {c : Code} {G : GT} {I : List Nat} (C : CX p s m args meth c NM bM_between 2 (some .boolean) G I) (hI : mI I) {fu : Nat} {R1 : Int32} {Z : Sg} {v1 : Int32} {z : Sg} {H : Heap} {locs : List Loc} {ls : Array Slot} (h : pM_between_55 fu v1 z = some (R1, Z)) (hG : GW G I z s.heap H locs) (hl : lv_has ls 2 [(0, .ref (gA G 78)), (1, .int v1)]) : W p l e rmM_between s m args below meth c H locs 0 0 (MQ below (Qi G I R1 Z) args s 0 0 (AD G I)) (F0 m 55 ls []) := by
  unfold pM_between_55 at h
  refine rAload_n C dM_between_55 hl 0 rfl ?_
  refine rIload_n C dM_between_56 hl 1 rfl ?_
  refine rCVv [.int v1] [] C hG h (fun h => cM_holds hI h) mvM_holds k_794 ⟨Nat.le_of_ble_eq_true rfl, Nat.le_of_ble_eq_true rfl⟩ ⟨rfl, rfl⟩ (rRecv C hG (hI 78 (by decide) (by decide)) e_78 rfl) rfl hl.1 (Nat.le_of_ble_eq_true rfl) dM_between_57 ⟨Nat.zero_le _, Nat.zero_le _⟩ rfl (fun H locs z10 h hG => ?_)
  refine lv_iconst (v := 1) C.1 C.2.1 dM_between_60 (by decide) ?_
  exact rRetn C hG (ty := .boolean) rfl rfl h dM_between_61
theorem wM_between_17 {p : Program} {l : Launch} {e : Env} {s : State} {m : MethodId} {args : Array Value} {below : List Frame} {meth : Method} {c : Code} {G : GT} {I : List Nat} (C : CX p s m args meth c NM bM_between 2 (some .boolean) G I) (hI : mI I) {fu : Nat} {R1 : Int32} {Z : Sg} {v1 : Int32} {t1 : Int32} {z : Sg} {H : Heap} {locs : List Loc} {ls : Array Slot} (h : pM_between_17 fu v1 t1 z = some (R1, Z)) (hG : GW G I z s.heap H locs) (hl : lv_has ls 2 [(0, .ref (gA G 78)), (1, .int v1)]) : W p l e rmM_between s m args below meth c H locs 0 0 (MQ below (Qi G I R1 Z) args s 0 0 (AD G I)) (F0 m 17 ls [.int t1, .ref (gA G 78)]) := by
  unfold pM_between_17 at h
  refine rCVv [.int t1] [] C hG h (fun h => cM_unwinds hI h) mvM_unwinds k_783 ⟨Nat.le_of_ble_eq_true rfl, Nat.le_of_ble_eq_true rfl⟩ ⟨rfl, rfl⟩ (rRecv C hG (hI 78 (by decide) (by decide)) e_78 rfl) rfl hl.1 (Nat.le_of_ble_eq_true rfl) dM_between_17 ⟨Nat.zero_le _, Nat.zero_le _⟩ rfl (fun H locs z5 h hG => ?_)
  refine rIload_n C dM_between_20 hl 1 rfl ?_
  refine rCSi [.int v1] [] C hG h (fun h => cM_rank hI h) mvM_rank k_787 ⟨Nat.le_of_ble_eq_true rfl, Nat.le_of_ble_eq_true rfl⟩ ⟨rfl, rfl⟩ rfl hl.1 (Nat.le_of_ble_eq_true rfl) dM_between_21 ⟨Nat.zero_le _, Nat.zero_le _⟩ rfl (fun H locs x7 z6 h hG => ?_)
  refine lv_iconst (v := 4) C.1 C.2.1 dM_between_24 (by decide) ?_
  refine rIcmpne C (tgt := 55) h dM_between_25 (by decide) (fun h => ?_) (fun h => ?_)
  · exact wM_between_55 C hI h hG (lv_sub hl [0, 1] rfl)
  · refine rAload_n C dM_between_28 hl 0 rfl ?_
    refine rGet C hG (hI 78 (by decide) (by decide)) e_78 fiM_24 (v := .int (z6 78 24)) rfl k_830 dM_between_29 ?_
    refine rIfle C (tgt := 55) h dM_between_32 (by decide) (fun h => ?_) (fun h => ?_)
    · exact wM_between_55 C hI h hG (lv_sub hl [0, 1] rfl)
    · refine rAload_n C dM_between_35 hl 0 rfl ?_
      refine rGet C hG (hI 78 (by decide) (by decide)) e_78 fiM_23 (v := .ref (gA G 93)) rfl k_829 dM_between_36 ?_
      refine rAload_n C dM_between_39 hl 0 rfl ?_
      refine rGet C hG (hI 78 (by decide) (by decide)) e_78 fiM_24 (v := .int (z6 78 24)) rfl k_830 dM_between_40 ?_
      refine lv_iconst (v := 1) C.1 C.2.1 dM_between_43 (by decide) ?_
      refine lv_isub C.1 C.2.1 dM_between_44 ?_
      refine rIald C hG (hI 93 (by decide) (by decide)) e_93 h dM_between_45 (fun h => ?_)
      refine rCSi [.int (ga z6 93 ((z6 78 24) - 1))] [] C hG h (fun h => cM_rank hI h) mvM_rank k_787 ⟨Nat.le_of_ble_eq_true rfl, Nat.le_of_ble_eq_true rfl⟩ ⟨rfl, rfl⟩ rfl hl.1 (Nat.le_of_ble_eq_true rfl) dM_between_46 ⟨Nat.zero_le _, Nat.zero_le _⟩ rfl (fun H locs x9 z8 h hG => ?_)
      refine lv_iconst (v := 4) C.1 C.2.1 dM_between_49 (by decide) ?_
      refine rIcmpne C (tgt := 55) h dM_between_50 (by decide) (fun h => ?_) (fun h => ?_)
      · exact wM_between_55 C hI h hG (lv_sub hl [0, 1] rfl)
      · refine lv_iconst (v := 0) C.1 C.2.1 dM_between_53 (by decide) ?_
        exact rRetn C hG (ty := .boolean) rfl rfl h dM_between_54
theorem cM_between {l : Launch} {G : GT} {I : List Nat} (hI : mI I) {fu : Nat} {v1 : Int32} {z : Sg} {R1 : Int32} {Z : Sg} (h : pM_between fu v1 z = some (R1, Z)) : Mt l yM_between rmM_between bM_between 2 (some .boolean) G I z [.ref (gA G 78), .int v1] (Qi G I R1 Z) := by
  refine entM (by decide +kernel) (Nat.le_of_ble_eq_true rfl) ?_
  intro p e s m below meth c C hG ls hl
  have hl : lv_has ls 2 [(0, .ref (gA G 78)), (1, .int v1)] := hl
  unfold pM_between at h
  refine rAload_n C dM_between_0 hl 0 rfl ?_
  refine rIload_n C dM_between_1 hl 1 rfl ?_
  refine rCSi [.int v1] [.ref (gA G 78)] C hG h (fun h => cM_rank hI h) mvM_rank k_787 ⟨Nat.le_of_ble_eq_true rfl, Nat.le_of_ble_eq_true rfl⟩ ⟨rfl, rfl⟩ rfl hl.1 (Nat.le_of_ble_eq_true rfl) dM_between_2 ⟨Nat.zero_le _, Nat.zero_le _⟩ rfl (fun H locs x2 z1 h hG => ?_)
  refine lv_iconst (v := 4) C.1 C.2.1 dM_between_5 (by decide) ?_
  refine rIcmpne C (tgt := 13) h dM_between_6 (by decide) (fun h => ?_) (fun h => ?_)
  · refine rIload_n C dM_between_13 hl 1 rfl ?_
    refine rCSi [.int v1] [.ref (gA G 78)] C hG h (fun h => cM_rank hI h) mvM_rank k_787 ⟨Nat.le_of_ble_eq_true rfl, Nat.le_of_ble_eq_true rfl⟩ ⟨rfl, rfl⟩ rfl hl.1 (Nat.le_of_ble_eq_true rfl) dM_between_14 ⟨Nat.zero_le _, Nat.zero_le _⟩ rfl (fun H locs x4 z3 h hG => ?_)
    exact wM_between_17 C hI h hG (lv_sub hl [0, 1] rfl)
  · refine lv_iconst (v := 5) C.1 C.2.1 dM_between_9 (by decide) ?_
    refine lv_goto (tgt := 17) C.1 C.2.1 dM_between_10 (by decide) ?_
    exact wM_between_17 C hI h hG (lv_sub hl [0, 1] rfl)
