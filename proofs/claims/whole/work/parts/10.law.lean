theorem dL_clear_0 : decode bL_clear 0 = .ok (.aload_n 0, 1) := by decide +kernel
theorem dL_clear_1 : decode bL_clear 1 = .ok (.iconst 0, 1) := by decide +kernel
theorem dL_clear_2 : decode bL_clear 2 = .ok (.putfield 21, 3) := by decide +kernel
theorem dL_clear_5 : decode bL_clear 5 = .ok (.return_, 1) := by decide +kernel
theorem cL_clear {l : Launch} {G : GT} {I : List Nat} (hI : cI I) {b : Nat} (hb : isLaw b) {fu : Nat} {z : Sg} {Z : Sg} (h : pL_clear fu b z = some Z) : Mt l yL_clear rmL_clear bL_clear 1 none G I z [.ref (gA G b)] (Qv G I Z) := by
  refine entM (by decide +kernel) (Nat.le_of_ble_eq_true rfl) ?_
  intro p e s m below meth c C hG ls hl
  have hl : lv_has ls 1 [(0, .ref (gA G b))] := hl
  unfold pL_clear at h
  refine rAload_n C dL_clear_0 hl 0 rfl ?_
  refine lv_iconst (v := 0) C.1 C.2.1 dL_clear_1 (by decide) ?_
  refine rPut C hG (hI _ hb.lt0) (eL_0 hb) fiL_3 tokL nmL rfl (fpL_3 _) (Nat.le_of_ble_eq_true rfl) rfl rfl k_44 h dL_clear_2 (fun H locs z1 h hG => ?_)
  exact rRetv C hG h dL_clear_5
theorem dL_add_0 : decode bL_add 0 = .ok (.aload_n 0, 1) := by decide +kernel
theorem dL_add_1 : decode bL_add 1 = .ok (.getfield 21, 3) := by decide +kernel
theorem dL_add_4 : decode bL_add 4 = .ok (.sipush 160, 3) := by decide +kernel
theorem dL_add_7 : decode bL_add 7 = .ok (.if_icmp .ge 23, 3) := by decide +kernel
theorem dL_add_10 : decode bL_add 10 = .ok (.aload_n 0, 1) := by decide +kernel
theorem dL_add_11 : decode bL_add 11 = .ok (.getfield 9, 3) := by decide +kernel
theorem dL_add_14 : decode bL_add 14 = .ok (.aload_n 0, 1) := by decide +kernel
theorem dL_add_15 : decode bL_add 15 = .ok (.getfield 21, 3) := by decide +kernel
theorem dL_add_18 : decode bL_add 18 = .ok (.iload_n 1, 1) := by decide +kernel
theorem dL_add_19 : decode bL_add 19 = .ok (.iastore, 1) := by decide +kernel
theorem dL_add_20 : decode bL_add 20 = .ok (.aload_n 0, 1) := by decide +kernel
theorem dL_add_21 : decode bL_add 21 = .ok (.dup, 1) := by decide +kernel
theorem dL_add_22 : decode bL_add 22 = .ok (.getfield 21, 3) := by decide +kernel
theorem dL_add_25 : decode bL_add 25 = .ok (.iconst 1, 1) := by decide +kernel
theorem dL_add_26 : decode bL_add 26 = .ok (.iadd, 1) := by decide +kernel
theorem dL_add_27 : decode bL_add 27 = .ok (.putfield 21, 3) := by decide +kernel
theorem dL_add_30 : decode bL_add 30 = .ok (.return_, 1) := by decide +kernel
theorem cL_add {l : Launch} {G : GT} {I : List Nat} (hI : cI I) {b : Nat} (hb : isLaw b) {fu : Nat} {v1 : Int32} {z : Sg} {Z : Sg} (h : pL_add fu b v1 z = some Z) : Mt l yL_add rmL_add bL_add 2 none G I z [.ref (gA G b), .int v1] (Qv G I Z) := by
  refine entM (by decide +kernel) (Nat.le_of_ble_eq_true rfl) ?_
  intro p e s m below meth c C hG ls hl
  have hl : lv_has ls 2 [(0, .ref (gA G b)), (1, .int v1)] := hl
  unfold pL_add at h
  refine rAload_n C dL_add_0 hl 0 rfl ?_
  refine rGet C hG (hI _ hb.lt0) (eL_0 hb) fiL_3 (v := .int (z b 3)) rfl k_44 dL_add_1 ?_
  refine lv_sipush (v := 160) C.1 C.2.1 dL_add_4 (by decide) ?_
  refine rIcmpge C (tgt := 30) h dL_add_7 (by decide) (fun h => ?_) (fun h => ?_)
  · exact rRetv C hG h dL_add_30
  · refine rAload_n C dL_add_10 hl 0 rfl ?_
    refine rGet C hG (hI _ hb.lt0) (eL_0 hb) fiL_0 (v := .ref (gA G (b + 1))) rfl k_41 dL_add_11 ?_
    refine rAload_n C dL_add_14 hl 0 rfl ?_
    refine rGet C hG (hI _ hb.lt0) (eL_0 hb) fiL_3 (v := .int (z b 3)) rfl k_44 dL_add_15 ?_
    refine rIload_n C dL_add_18 hl 1 rfl ?_
    refine rIast C hG (hI _ (hb.lt (k := 1) (by decide))) (eL_1 hb) h dL_add_19 (fun H locs z1 h hG => ?_)
    refine rAload_n C dL_add_20 hl 0 rfl ?_
    refine lv_dup C.1 C.2.1 dL_add_21 rfl ?_
    refine rGet C hG (hI _ hb.lt0) (eL_0 hb) fiL_3 (v := .int (z1 b 3)) rfl k_44 dL_add_22 ?_
    refine lv_iconst (v := 1) C.1 C.2.1 dL_add_25 (by decide) ?_
    refine lv_iadd C.1 C.2.1 dL_add_26 ?_
    refine rPut C hG (hI _ hb.lt0) (eL_0 hb) fiL_3 tokL nmL rfl (fpL_3 _) (Nat.le_of_ble_eq_true rfl) rfl rfl k_44 h dL_add_27 (fun H locs z2 h hG => ?_)
    exact rRetv C hG h dL_add_30
theorem dL_endPart_0 : decode bL_endPart 0 = .ok (.aload_n 0, 1) := by decide +kernel
theorem dL_endPart_1 : decode bL_endPart 1 = .ok (.getfield 15, 3) := by decide +kernel
theorem dL_endPart_4 : decode bL_endPart 4 = .ok (.iload_n 1, 1) := by decide +kernel
theorem dL_endPart_5 : decode bL_endPart 5 = .ok (.aload_n 0, 1) := by decide +kernel
theorem dL_endPart_6 : decode bL_endPart 6 = .ok (.getfield 21, 3) := by decide +kernel
theorem dL_endPart_9 : decode bL_endPart 9 = .ok (.iastore, 1) := by decide +kernel
theorem dL_endPart_10 : decode bL_endPart 10 = .ok (.return_, 1) := by decide +kernel
theorem cL_endPart {l : Launch} {G : GT} {I : List Nat} (hI : cI I) {b : Nat} (hb : isLaw b) {fu : Nat} {v1 : Int32} {z : Sg} {Z : Sg} (h : pL_endPart fu b v1 z = some Z) : Mt l yL_endPart rmL_endPart bL_endPart 2 none G I z [.ref (gA G b), .int v1] (Qv G I Z) := by
  refine entM (by decide +kernel) (Nat.le_of_ble_eq_true rfl) ?_
  intro p e s m below meth c C hG ls hl
  have hl : lv_has ls 2 [(0, .ref (gA G b)), (1, .int v1)] := hl
  unfold pL_endPart at h
  refine rAload_n C dL_endPart_0 hl 0 rfl ?_
  refine rGet C hG (hI _ hb.lt0) (eL_0 hb) fiL_1 (v := .ref (gA G (b + 2))) rfl k_42 dL_endPart_1 ?_
  refine rIload_n C dL_endPart_4 hl 1 rfl ?_
  refine rAload_n C dL_endPart_5 hl 0 rfl ?_
  refine rGet C hG (hI _ hb.lt0) (eL_0 hb) fiL_3 (v := .int (z b 3)) rfl k_44 dL_endPart_6 ?_
  refine rIast C hG (hI _ (hb.lt (k := 2) (by decide))) (eL_2 hb) h dL_endPart_9 (fun H locs z1 h hG => ?_)
  exact rRetv C hG h dL_endPart_10
theorem dL_become_0 : decode bL_become 0 = .ok (.aload_n 1, 1) := by decide +kernel
theorem dL_become_1 : decode bL_become 1 = .ok (.getfield 9, 3) := by decide +kernel
theorem dL_become_4 : decode bL_become 4 = .ok (.iconst 0, 1) := by decide +kernel
theorem dL_become_5 : decode bL_become 5 = .ok (.aload_n 0, 1) := by decide +kernel
theorem dL_become_6 : decode bL_become 6 = .ok (.getfield 9, 3) := by decide +kernel
theorem dL_become_9 : decode bL_become 9 = .ok (.iconst 0, 1) := by decide +kernel
theorem dL_become_10 : decode bL_become 10 = .ok (.sipush 160, 3) := by decide +kernel
theorem dL_become_13 : decode bL_become 13 = .ok (.invokestatic 25, 3) := by decide +kernel
theorem dL_become_16 : decode bL_become 16 = .ok (.aload_n 1, 1) := by decide +kernel
theorem dL_become_17 : decode bL_become 17 = .ok (.getfield 15, 3) := by decide +kernel
theorem dL_become_20 : decode bL_become 20 = .ok (.iconst 0, 1) := by decide +kernel
theorem dL_become_21 : decode bL_become 21 = .ok (.aload_n 0, 1) := by decide +kernel
theorem dL_become_22 : decode bL_become 22 = .ok (.getfield 15, 3) := by decide +kernel
theorem dL_become_25 : decode bL_become 25 = .ok (.iconst 0, 1) := by decide +kernel
theorem dL_become_26 : decode bL_become 26 = .ok (.iconst 3, 1) := by decide +kernel
theorem dL_become_27 : decode bL_become 27 = .ok (.invokestatic 25, 3) := by decide +kernel
theorem dL_become_30 : decode bL_become 30 = .ok (.aload_n 0, 1) := by decide +kernel
theorem dL_become_31 : decode bL_become 31 = .ok (.aload_n 1, 1) := by decide +kernel
theorem dL_become_32 : decode bL_become 32 = .ok (.getfield 21, 3) := by decide +kernel
theorem dL_become_35 : decode bL_become 35 = .ok (.putfield 21, 3) := by decide +kernel
theorem dL_become_38 : decode bL_become 38 = .ok (.return_, 1) := by decide +kernel
theorem cL_become {l : Launch} {G : GT} {I : List Nat} (hI : cI I) {b : Nat} (hb : isLaw b) {b2 : Nat} (hb2 : isLaw b2) {fu : Nat} {z : Sg} {Z : Sg} (h : pL_become fu b b2 z = some Z) : Mt l yL_become rmL_become bL_become 2 none G I z [.ref (gA G b), .ref (gA G b2)] (Qv G I Z) := by
  refine entM (by decide +kernel) (Nat.le_of_ble_eq_true rfl) ?_
  intro p e s m below meth c C hG ls hl
  have hl : lv_has ls 2 [(0, .ref (gA G b)), (1, .ref (gA G b2))] := hl
  unfold pL_become at h
  refine rAload_n C dL_become_0 hl 1 rfl ?_
  refine rGet C hG (hI _ hb2.lt0) (eL_0 hb2) fiL_0 (v := .ref (gA G (b2 + 1))) rfl k_41 dL_become_1 ?_
  refine lv_iconst (v := 0) C.1 C.2.1 dL_become_4 (by decide) ?_
  refine rAload_n C dL_become_5 hl 0 rfl ?_
  refine rGet C hG (hI _ hb.lt0) (eL_0 hb) fiL_0 (v := .ref (gA G (b + 1))) rfl k_41 dL_become_6 ?_
  refine lv_iconst (v := 0) C.1 C.2.1 dL_become_9 (by decide) ?_
  refine lv_sipush (v := 160) C.1 C.2.1 dL_become_10 (by decide) ?_
  refine rCopy C hG (hI _ (hb2.lt (k := 1) (by decide))) (hI _ (hb.lt (k := 1) (by decide))) (eL_1 hb2) (eL_1 hb) k_366 cpw h hl.1 (Nat.le_of_ble_eq_true rfl) (Nat.le_of_ble_eq_true rfl) dL_become_13 (fun H locs z1 h hG => ?_)
  refine rAload_n C dL_become_16 hl 1 rfl ?_
  refine rGet C hG (hI _ hb2.lt0) (eL_0 hb2) fiL_1 (v := .ref (gA G (b2 + 2))) rfl k_42 dL_become_17 ?_
  refine lv_iconst (v := 0) C.1 C.2.1 dL_become_20 (by decide) ?_
  refine rAload_n C dL_become_21 hl 0 rfl ?_
  refine rGet C hG (hI _ hb.lt0) (eL_0 hb) fiL_1 (v := .ref (gA G (b + 2))) rfl k_42 dL_become_22 ?_
  refine lv_iconst (v := 0) C.1 C.2.1 dL_become_25 (by decide) ?_
  refine lv_iconst (v := 3) C.1 C.2.1 dL_become_26 (by decide) ?_
  refine rCopy C hG (hI _ (hb2.lt (k := 2) (by decide))) (hI _ (hb.lt (k := 2) (by decide))) (eL_2 hb2) (eL_2 hb) k_366 cpw h hl.1 (Nat.le_of_ble_eq_true rfl) (Nat.le_of_ble_eq_true rfl) dL_become_27 (fun H locs z2 h hG => ?_)
  refine rAload_n C dL_become_30 hl 0 rfl ?_
  refine rAload_n C dL_become_31 hl 1 rfl ?_
  refine rGet C hG (hI _ hb2.lt0) (eL_0 hb2) fiL_3 (v := .int (z2 b2 3)) rfl k_44 dL_become_32 ?_
  refine rPut C hG (hI _ hb.lt0) (eL_0 hb) fiL_3 tokL nmL rfl (fpL_3 _) (Nat.le_of_ble_eq_true rfl) rfl rfl k_44 h dL_become_35 (fun H locs z3 h hG => ?_)
  exact rRetv C hG h dL_become_38
theorem dS_within_0 : decode bS_within 0 = .ok (.iload_n 0, 1) := by decide +kernel
theorem dS_within_1 : decode bS_within 1 = .ok (.ifCond .lt 12, 3) := by decide +kernel
theorem dS_within_4 : decode bS_within 4 = .ok (.iload_n 0, 1) := by decide +kernel
theorem dS_within_5 : decode bS_within 5 = .ok (.iload_n 1, 1) := by decide +kernel
theorem dS_within_6 : decode bS_within 6 = .ok (.if_icmp .gt 7, 3) := by decide +kernel
theorem dS_within_9 : decode bS_within 9 = .ok (.iconst 1, 1) := by decide +kernel
theorem dS_within_10 : decode bS_within 10 = .ok (.goto 4, 3) := by decide +kernel
theorem dS_within_13 : decode bS_within 13 = .ok (.iconst 0, 1) := by decide +kernel
theorem dS_within_14 : decode bS_within 14 = .ok (.ireturn, 1) := by decide +kernel
theorem cS_within {l : Launch} {G : GT} {I : List Nat} (hI : cI I) {fu : Nat} {v0 : Int32} {v1 : Int32} {z : Sg} {R1 : Int32} {Z : Sg} (h : pS_within fu v0 v1 z = some (R1, Z)) : Mt l yS_within rmS_within bS_within 2 (some .boolean) G I z [.int v0, .int v1] (Qi G I R1 Z) := by
  refine entM (by decide +kernel) (Nat.le_of_ble_eq_true rfl) ?_
  intro p e s m below meth c C hG ls hl
  have hl : lv_has ls 2 [(0, .int v0), (1, .int v1)] := hl
  unfold pS_within at h
  refine rIload_n C dS_within_0 hl 0 rfl ?_
  refine rIflt C (tgt := 13) h dS_within_1 (by decide) (fun h => ?_) (fun h => ?_)
  · refine lv_iconst (v := 0) C.1 C.2.1 dS_within_13 (by decide) ?_
    exact rRetn C hG (ty := .boolean) rfl rfl h dS_within_14
  · refine rIload_n C dS_within_4 hl 0 rfl ?_
    refine rIload_n C dS_within_5 hl 1 rfl ?_
    refine rIcmpgt C (tgt := 13) h dS_within_6 (by decide) (fun h => ?_) (fun h => ?_)
    · refine lv_iconst (v := 0) C.1 C.2.1 dS_within_13 (by decide) ?_
      exact rRetn C hG (ty := .boolean) rfl rfl h dS_within_14
    · refine lv_iconst (v := 1) C.1 C.2.1 dS_within_9 (by decide) ?_
      refine lv_goto (tgt := 14) C.1 C.2.1 dS_within_10 (by decide) ?_
      exact rRetn C hG (ty := .boolean) rfl rfl h dS_within_14
theorem dL_joined_0 : decode bL_joined 0 = .ok (.iload_n 0, 1) := by decide +kernel
theorem dL_joined_1 : decode bL_joined 1 = .ok (.tableswitch 97 (-14) (-9) #[93, 89, 78, 67, 53, 39], 39) := by decide +kernel
theorem dL_joined_40 : decode bL_joined 40 = .ok (.iload_n 1, 1) := by decide +kernel
theorem dL_joined_41 : decode bL_joined 41 = .ok (.ifCond .ne 7, 3) := by decide +kernel
theorem dL_joined_44 : decode bL_joined 44 = .ok (.iload_n 2, 1) := by decide +kernel
theorem dL_joined_45 : decode bL_joined 45 = .ok (.ifCond .eq 7, 3) := by decide +kernel
theorem dL_joined_48 : decode bL_joined 48 = .ok (.iconst 1, 1) := by decide +kernel
theorem dL_joined_49 : decode bL_joined 49 = .ok (.goto 4, 3) := by decide +kernel
theorem dL_joined_52 : decode bL_joined 52 = .ok (.iconst 0, 1) := by decide +kernel
theorem dL_joined_53 : decode bL_joined 53 = .ok (.ireturn, 1) := by decide +kernel
theorem dL_joined_54 : decode bL_joined 54 = .ok (.iload_n 1, 1) := by decide +kernel
theorem dL_joined_55 : decode bL_joined 55 = .ok (.ifCond .eq 11, 3) := by decide +kernel
theorem dL_joined_58 : decode bL_joined 58 = .ok (.iload_n 2, 1) := by decide +kernel
theorem dL_joined_59 : decode bL_joined 59 = .ok (.ifCond .eq 7, 3) := by decide +kernel
theorem dL_joined_62 : decode bL_joined 62 = .ok (.iconst 1, 1) := by decide +kernel
theorem dL_joined_63 : decode bL_joined 63 = .ok (.goto 4, 3) := by decide +kernel
theorem dL_joined_66 : decode bL_joined 66 = .ok (.iconst 0, 1) := by decide +kernel
theorem dL_joined_67 : decode bL_joined 67 = .ok (.ireturn, 1) := by decide +kernel
theorem dL_joined_68 : decode bL_joined 68 = .ok (.iload_n 1, 1) := by decide +kernel
theorem dL_joined_69 : decode bL_joined 69 = .ok (.iload_n 2, 1) := by decide +kernel
theorem dL_joined_70 : decode bL_joined 70 = .ok (.if_icmp .ge 7, 3) := by decide +kernel
theorem dL_joined_73 : decode bL_joined 73 = .ok (.iconst 1, 1) := by decide +kernel
theorem dL_joined_74 : decode bL_joined 74 = .ok (.goto 4, 3) := by decide +kernel
theorem dL_joined_77 : decode bL_joined 77 = .ok (.iconst 0, 1) := by decide +kernel
theorem dL_joined_78 : decode bL_joined 78 = .ok (.ireturn, 1) := by decide +kernel
theorem dL_joined_79 : decode bL_joined 79 = .ok (.iload_n 1, 1) := by decide +kernel
theorem dL_joined_80 : decode bL_joined 80 = .ok (.iload_n 2, 1) := by decide +kernel
theorem dL_joined_81 : decode bL_joined 81 = .ok (.if_icmp .ne 7, 3) := by decide +kernel
theorem dL_joined_84 : decode bL_joined 84 = .ok (.iconst 1, 1) := by decide +kernel
theorem dL_joined_85 : decode bL_joined 85 = .ok (.goto 4, 3) := by decide +kernel
theorem dL_joined_88 : decode bL_joined 88 = .ok (.iconst 0, 1) := by decide +kernel
theorem dL_joined_89 : decode bL_joined 89 = .ok (.ireturn, 1) := by decide +kernel
theorem dL_joined_90 : decode bL_joined 90 = .ok (.iload_n 1, 1) := by decide +kernel
theorem dL_joined_91 : decode bL_joined 91 = .ok (.iload_n 2, 1) := by decide +kernel
theorem dL_joined_92 : decode bL_joined 92 = .ok (.iadd, 1) := by decide +kernel
theorem dL_joined_93 : decode bL_joined 93 = .ok (.ireturn, 1) := by decide +kernel
theorem dL_joined_94 : decode bL_joined 94 = .ok (.iload_n 1, 1) := by decide +kernel
theorem dL_joined_95 : decode bL_joined 95 = .ok (.iload_n 2, 1) := by decide +kernel
theorem dL_joined_96 : decode bL_joined 96 = .ok (.isub, 1) := by decide +kernel
theorem dL_joined_97 : decode bL_joined 97 = .ok (.ireturn, 1) := by decide +kernel
theorem dL_joined_98 : decode bL_joined 98 = .ok (.iload_n 1, 1) := by decide +kernel
theorem dL_joined_99 : decode bL_joined 99 = .ok (.iload_n 2, 1) := by decide +kernel
theorem dL_joined_100 : decode bL_joined 100 = .ok (.imul, 1) := by decide +kernel
theorem dL_joined_101 : decode bL_joined 101 = .ok (.ireturn, 1) := by decide +kernel
theorem wL_joined_48 {p : Program} {l : Launch} {e : Env} {s : State} {m : MethodId} {args : Array Value} {below : List Frame} {meth : Method} {c : Code} {G : GT} {I : List Nat} (C : CX p s m args meth c NL bL_joined 3 (some .int) G I) (hI : cI I) {fu : Nat} {R1 : Int32} {Z : Sg} {z : Sg} {H : Heap} {locs : List Loc} {ls : Array Slot} (h : pL_joined_48 fu z = some (R1, Z)) (hG : GW G I z s.heap H locs) (hl : lv_has ls 3 []) : W p l e rmL_joined s m args below meth c H locs 0 0 (MQ below (Qi G I R1 Z) args s 0 0 (AD G I)) (F0 m 48 ls []) := by
  unfold pL_joined_48 at h
  refine lv_iconst (v := 1) C.1 C.2.1 dL_joined_48 (by decide) ?_
  refine lv_goto (tgt := 53) C.1 C.2.1 dL_joined_49 (by decide) ?_
  exact rReti C hG h dL_joined_53
theorem cL_joined {l : Launch} {G : GT} {I : List Nat} (hI : cI I) {fu : Nat} {v0 : Int32} {v1 : Int32} {v2 : Int32} {z : Sg} {R1 : Int32} {Z : Sg} (h : pL_joined fu v0 v1 v2 z = some (R1, Z)) : Mt l yL_joined rmL_joined bL_joined 3 (some .int) G I z [.int v0, .int v1, .int v2] (Qi G I R1 Z) := by
  refine entM (by decide +kernel) (Nat.le_of_ble_eq_true rfl) ?_
  intro p e s m below meth c C hG ls hl
  have hl : lv_has ls 3 [(0, .int v0), (1, .int v1), (2, .int v2)] := hl
  unfold pL_joined at h
  refine rIload_n C dL_joined_0 hl 0 rfl ?_
  by_cases q1_0 : v0 = (-14)
  · replace h := ifP q1_0 h
    refine rSwT C dL_joined_1 (-14) q1_0 (by decide) (off := 93) (tgt := 94) (by decide) (by decide) ?_
    refine rIload_n C dL_joined_94 hl 1 rfl ?_
    refine rIload_n C dL_joined_95 hl 2 rfl ?_
    refine lv_isub C.1 C.2.1 dL_joined_96 ?_
    exact rReti C hG h dL_joined_97
  replace h := ifN q1_0 h
  by_cases q1_1 : v0 = (-13)
  · replace h := ifP q1_1 h
    refine rSwT C dL_joined_1 (-13) q1_1 (by decide) (off := 89) (tgt := 90) (by decide) (by decide) ?_
    refine rIload_n C dL_joined_90 hl 1 rfl ?_
    refine rIload_n C dL_joined_91 hl 2 rfl ?_
    refine lv_iadd C.1 C.2.1 dL_joined_92 ?_
    exact rReti C hG h dL_joined_93
  replace h := ifN q1_1 h
  by_cases q1_2 : v0 = (-12)
  · replace h := ifP q1_2 h
    refine rSwT C dL_joined_1 (-12) q1_2 (by decide) (off := 78) (tgt := 79) (by decide) (by decide) ?_
    refine rIload_n C dL_joined_79 hl 1 rfl ?_
    refine rIload_n C dL_joined_80 hl 2 rfl ?_
    refine rIcmpne C (tgt := 88) h dL_joined_81 (by decide) (fun h => ?_) (fun h => ?_)
    · refine lv_iconst (v := 0) C.1 C.2.1 dL_joined_88 (by decide) ?_
      exact rReti C hG h dL_joined_89
    · refine lv_iconst (v := 1) C.1 C.2.1 dL_joined_84 (by decide) ?_
      refine lv_goto (tgt := 89) C.1 C.2.1 dL_joined_85 (by decide) ?_
      exact rReti C hG h dL_joined_89
  replace h := ifN q1_2 h
  by_cases q1_3 : v0 = (-11)
  · replace h := ifP q1_3 h
    refine rSwT C dL_joined_1 (-11) q1_3 (by decide) (off := 67) (tgt := 68) (by decide) (by decide) ?_
    refine rIload_n C dL_joined_68 hl 1 rfl ?_
    refine rIload_n C dL_joined_69 hl 2 rfl ?_
    refine rIcmpge C (tgt := 77) h dL_joined_70 (by decide) (fun h => ?_) (fun h => ?_)
    · refine lv_iconst (v := 0) C.1 C.2.1 dL_joined_77 (by decide) ?_
      exact rReti C hG h dL_joined_78
    · refine lv_iconst (v := 1) C.1 C.2.1 dL_joined_73 (by decide) ?_
      refine lv_goto (tgt := 78) C.1 C.2.1 dL_joined_74 (by decide) ?_
      exact rReti C hG h dL_joined_78
  replace h := ifN q1_3 h
  by_cases q1_4 : v0 = (-10)
  · replace h := ifP q1_4 h
    refine rSwT C dL_joined_1 (-10) q1_4 (by decide) (off := 53) (tgt := 54) (by decide) (by decide) ?_
    refine rIload_n C dL_joined_54 hl 1 rfl ?_
    refine rIfeq C (tgt := 66) h dL_joined_55 (by decide) (fun h => ?_) (fun h => ?_)
    · refine lv_iconst (v := 0) C.1 C.2.1 dL_joined_66 (by decide) ?_
      exact rReti C hG h dL_joined_67
    · refine rIload_n C dL_joined_58 hl 2 rfl ?_
      refine rIfeq C (tgt := 66) h dL_joined_59 (by decide) (fun h => ?_) (fun h => ?_)
      · refine lv_iconst (v := 0) C.1 C.2.1 dL_joined_66 (by decide) ?_
        exact rReti C hG h dL_joined_67
      · refine lv_iconst (v := 1) C.1 C.2.1 dL_joined_62 (by decide) ?_
        refine lv_goto (tgt := 67) C.1 C.2.1 dL_joined_63 (by decide) ?_
        exact rReti C hG h dL_joined_67
  replace h := ifN q1_4 h
  by_cases q1_5 : v0 = (-9)
  · replace h := ifP q1_5 h
    refine rSwT C dL_joined_1 (-9) q1_5 (by decide) (off := 39) (tgt := 40) (by decide) (by decide) ?_
    refine rIload_n C dL_joined_40 hl 1 rfl ?_
    refine rIfne C (tgt := 48) h dL_joined_41 (by decide) (fun h => ?_) (fun h => ?_)
    · exact wL_joined_48 C hI h hG (lv_sub hl [] rfl)
    · refine rIload_n C dL_joined_44 hl 2 rfl ?_
      refine rIfeq C (tgt := 52) h dL_joined_45 (by decide) (fun h => ?_) (fun h => ?_)
      · refine lv_iconst (v := 0) C.1 C.2.1 dL_joined_52 (by decide) ?_
        exact rReti C hG h dL_joined_53
      · exact wL_joined_48 C hI h hG (lv_sub hl [] rfl)
  replace h := ifN q1_5 h
  refine rSwD C dL_joined_1 (tgt := 98) (by have q1_0n := ne_toInt (k := (-14)) q1_0 (by decide); have q1_1n := ne_toInt (k := (-13)) q1_1 (by decide); have q1_2n := ne_toInt (k := (-12)) q1_2 (by decide); have q1_3n := ne_toInt (k := (-11)) q1_3 (by decide); have q1_4n := ne_toInt (k := (-10)) q1_4 (by decide); have q1_5n := ne_toInt (k := (-9)) q1_5 (by decide); omega) (by decide) ?_
  refine rIload_n C dL_joined_98 hl 1 rfl ?_
  refine rIload_n C dL_joined_99 hl 2 rfl ?_
  refine lv_imul C.1 C.2.1 dL_joined_100 ?_
  exact rReti C hG h dL_joined_101
theorem dL_says_0 : decode bL_says 0 = .ok (.iconst 0, 1) := by decide +kernel
theorem dL_says_1 : decode bL_says 1 = .ok (.istore_n 3, 1) := by decide +kernel
theorem dL_says_2 : decode bL_says 2 = .ok (.iload_n 1, 1) := by decide +kernel
theorem dL_says_3 : decode bL_says 3 = .ok (.ifCond .ne 7, 3) := by decide +kernel
theorem dL_says_6 : decode bL_says 6 = .ok (.iconst 0, 1) := by decide +kernel
theorem dL_says_7 : decode bL_says 7 = .ok (.goto 11, 3) := by decide +kernel
theorem dL_says_10 : decode bL_says 10 = .ok (.aload_n 0, 1) := by decide +kernel
theorem dL_says_11 : decode bL_says 11 = .ok (.getfield 15, 3) := by decide +kernel
theorem dL_says_14 : decode bL_says 14 = .ok (.iload_n 1, 1) := by decide +kernel
theorem dL_says_15 : decode bL_says 15 = .ok (.iconst 1, 1) := by decide +kernel
theorem dL_says_16 : decode bL_says 16 = .ok (.isub, 1) := by decide +kernel
theorem dL_says_17 : decode bL_says 17 = .ok (.iaload, 1) := by decide +kernel
theorem dL_says_18 : decode bL_says 18 = .ok (.istore 4, 2) := by decide +kernel
theorem dL_says_20 : decode bL_says 20 = .ok (.iload 4, 2) := by decide +kernel
theorem dL_says_22 : decode bL_says 22 = .ok (.aload_n 0, 1) := by decide +kernel
theorem dL_says_23 : decode bL_says 23 = .ok (.getfield 15, 3) := by decide +kernel
theorem dL_says_26 : decode bL_says 26 = .ok (.iload_n 1, 1) := by decide +kernel
theorem dL_says_27 : decode bL_says 27 = .ok (.iaload, 1) := by decide +kernel
theorem dL_says_28 : decode bL_says 28 = .ok (.if_icmp .ge 151, 3) := by decide +kernel
theorem dL_says_31 : decode bL_says 31 = .ok (.aload_n 0, 1) := by decide +kernel
theorem dL_says_32 : decode bL_says 32 = .ok (.getfield 9, 3) := by decide +kernel
theorem dL_says_35 : decode bL_says 35 = .ok (.iload 4, 2) := by decide +kernel
theorem dL_says_37 : decode bL_says 37 = .ok (.iaload, 1) := by decide +kernel
theorem dL_says_38 : decode bL_says 38 = .ok (.istore 5, 2) := by decide +kernel
theorem dL_says_40 : decode bL_says 40 = .ok (.iload 5, 2) := by decide +kernel
theorem dL_says_42 : decode bL_says 42 = .ok (.bipush (-6), 2) := by decide +kernel
theorem dL_says_44 : decode bL_says 44 = .ok (.if_icmp .lt 38, 3) := by decide +kernel
theorem dL_says_47 : decode bL_says 47 = .ok (.iload_n 3, 1) := by decide +kernel
theorem dL_says_48 : decode bL_says 48 = .ok (.sipush 160, 3) := by decide +kernel
theorem dL_says_51 : decode bL_says 51 = .ok (.if_icmp .ge 122, 3) := by decide +kernel
theorem dL_says_54 : decode bL_says 54 = .ok (.aload_n 0, 1) := by decide +kernel
theorem dL_says_55 : decode bL_says 55 = .ok (.getfield 18, 3) := by decide +kernel
theorem dL_says_58 : decode bL_says 58 = .ok (.iload_n 3, 1) := by decide +kernel
theorem dL_says_59 : decode bL_says 59 = .ok (.iload 5, 2) := by decide +kernel
theorem dL_says_61 : decode bL_says 61 = .ok (.ifCond .lt 8, 3) := by decide +kernel
theorem dL_says_64 : decode bL_says 64 = .ok (.iload 5, 2) := by decide +kernel
theorem dL_says_66 : decode bL_says 66 = .ok (.goto 9, 3) := by decide +kernel
theorem dL_says_69 : decode bL_says 69 = .ok (.aload_n 2, 1) := by decide +kernel
theorem dL_says_70 : decode bL_says 70 = .ok (.iconst (-1), 1) := by decide +kernel
theorem dL_says_71 : decode bL_says 71 = .ok (.iload 5, 2) := by decide +kernel
theorem dL_says_73 : decode bL_says 73 = .ok (.isub, 1) := by decide +kernel
theorem dL_says_74 : decode bL_says 74 = .ok (.iaload, 1) := by decide +kernel
theorem dL_says_75 : decode bL_says 75 = .ok (.iastore, 1) := by decide +kernel
theorem dL_says_76 : decode bL_says 76 = .ok (.iinc 3 1, 3) := by decide +kernel
theorem dL_says_79 : decode bL_says 79 = .ok (.goto 94, 3) := by decide +kernel
theorem dL_says_82 : decode bL_says 82 = .ok (.iload 5, 2) := by decide +kernel
theorem dL_says_84 : decode bL_says 84 = .ok (.bipush (-8), 2) := by decide +kernel
theorem dL_says_86 : decode bL_says 86 = .ok (.if_icmp .lt 52, 3) := by decide +kernel
theorem dL_says_89 : decode bL_says 89 = .ok (.iload_n 3, 1) := by decide +kernel
theorem dL_says_90 : decode bL_says 90 = .ok (.iconst 1, 1) := by decide +kernel
theorem dL_says_91 : decode bL_says 91 = .ok (.if_icmp .lt 82, 3) := by decide +kernel
theorem dL_says_94 : decode bL_says 94 = .ok (.aload_n 0, 1) := by decide +kernel
theorem dL_says_95 : decode bL_says 95 = .ok (.getfield 18, 3) := by decide +kernel
theorem dL_says_98 : decode bL_says 98 = .ok (.iload_n 3, 1) := by decide +kernel
theorem dL_says_99 : decode bL_says 99 = .ok (.iconst 1, 1) := by decide +kernel
theorem dL_says_100 : decode bL_says 100 = .ok (.isub, 1) := by decide +kernel
theorem dL_says_101 : decode bL_says 101 = .ok (.iaload, 1) := by decide +kernel
theorem dL_says_102 : decode bL_says 102 = .ok (.istore 6, 2) := by decide +kernel
theorem dL_says_104 : decode bL_says 104 = .ok (.aload_n 0, 1) := by decide +kernel
theorem dL_says_105 : decode bL_says 105 = .ok (.getfield 18, 3) := by decide +kernel
theorem dL_says_108 : decode bL_says 108 = .ok (.iload_n 3, 1) := by decide +kernel
theorem dL_says_109 : decode bL_says 109 = .ok (.iconst 1, 1) := by decide +kernel
theorem dL_says_110 : decode bL_says 110 = .ok (.isub, 1) := by decide +kernel
theorem dL_says_111 : decode bL_says 111 = .ok (.iload 5, 2) := by decide +kernel
theorem dL_says_113 : decode bL_says 113 = .ok (.bipush (-8), 2) := by decide +kernel
theorem dL_says_115 : decode bL_says 115 = .ok (.if_icmp .ne 9, 3) := by decide +kernel
theorem dL_says_118 : decode bL_says 118 = .ok (.iload 6, 2) := by decide +kernel
theorem dL_says_120 : decode bL_says 120 = .ok (.ineg, 1) := by decide +kernel
theorem dL_says_121 : decode bL_says 121 = .ok (.goto 13, 3) := by decide +kernel
theorem dL_says_124 : decode bL_says 124 = .ok (.iload 6, 2) := by decide +kernel
theorem dL_says_126 : decode bL_says 126 = .ok (.ifCond .ne 7, 3) := by decide +kernel
theorem dL_says_129 : decode bL_says 129 = .ok (.iconst 1, 1) := by decide +kernel
theorem dL_says_130 : decode bL_says 130 = .ok (.goto 4, 3) := by decide +kernel
theorem dL_says_133 : decode bL_says 133 = .ok (.iconst 0, 1) := by decide +kernel
theorem dL_says_134 : decode bL_says 134 = .ok (.iastore, 1) := by decide +kernel
theorem dL_says_135 : decode bL_says 135 = .ok (.goto 38, 3) := by decide +kernel
theorem dL_says_138 : decode bL_says 138 = .ok (.iload_n 3, 1) := by decide +kernel
theorem dL_says_139 : decode bL_says 139 = .ok (.iconst 2, 1) := by decide +kernel
theorem dL_says_140 : decode bL_says 140 = .ok (.if_icmp .lt 33, 3) := by decide +kernel
theorem dL_says_143 : decode bL_says 143 = .ok (.iinc 3 (-1), 3) := by decide +kernel
theorem dL_says_146 : decode bL_says 146 = .ok (.aload_n 0, 1) := by decide +kernel
theorem dL_says_147 : decode bL_says 147 = .ok (.getfield 18, 3) := by decide +kernel
theorem dL_says_150 : decode bL_says 150 = .ok (.iload_n 3, 1) := by decide +kernel
theorem dL_says_151 : decode bL_says 151 = .ok (.iconst 1, 1) := by decide +kernel
theorem dL_says_152 : decode bL_says 152 = .ok (.isub, 1) := by decide +kernel
theorem dL_says_153 : decode bL_says 153 = .ok (.iload 5, 2) := by decide +kernel
theorem dL_says_155 : decode bL_says 155 = .ok (.aload_n 0, 1) := by decide +kernel
theorem dL_says_156 : decode bL_says 156 = .ok (.getfield 18, 3) := by decide +kernel
theorem dL_says_159 : decode bL_says 159 = .ok (.iload_n 3, 1) := by decide +kernel
theorem dL_says_160 : decode bL_says 160 = .ok (.iconst 1, 1) := by decide +kernel
theorem dL_says_161 : decode bL_says 161 = .ok (.isub, 1) := by decide +kernel
theorem dL_says_162 : decode bL_says 162 = .ok (.iaload, 1) := by decide +kernel
theorem dL_says_163 : decode bL_says 163 = .ok (.aload_n 0, 1) := by decide +kernel
theorem dL_says_164 : decode bL_says 164 = .ok (.getfield 18, 3) := by decide +kernel
theorem dL_says_167 : decode bL_says 167 = .ok (.iload_n 3, 1) := by decide +kernel
theorem dL_says_168 : decode bL_says 168 = .ok (.iaload, 1) := by decide +kernel
theorem dL_says_169 : decode bL_says 169 = .ok (.invokestatic 31, 3) := by decide +kernel
theorem dL_says_172 : decode bL_says 172 = .ok (.iastore, 1) := by decide +kernel
theorem dL_says_173 : decode bL_says 173 = .ok (.iinc 4 1, 3) := by decide +kernel
theorem dL_says_176 : decode bL_says 176 = .ok (.goto (-156), 3) := by decide +kernel
theorem dL_says_179 : decode bL_says 179 = .ok (.iload_n 1, 1) := by decide +kernel
theorem dL_says_180 : decode bL_says 180 = .ok (.iconst 1, 1) := by decide +kernel
theorem dL_says_181 : decode bL_says 181 = .ok (.if_icmp .ne 8, 3) := by decide +kernel
theorem dL_says_184 : decode bL_says 184 = .ok (.bipush (-99), 2) := by decide +kernel
theorem dL_says_186 : decode bL_says 186 = .ok (.goto 4, 3) := by decide +kernel
theorem dL_says_189 : decode bL_says 189 = .ok (.iconst 0, 1) := by decide +kernel
theorem dL_says_190 : decode bL_says 190 = .ok (.istore 4, 2) := by decide +kernel
theorem dL_says_192 : decode bL_says 192 = .ok (.iload_n 1, 1) := by decide +kernel
theorem dL_says_193 : decode bL_says 193 = .ok (.iconst 1, 1) := by decide +kernel
theorem dL_says_194 : decode bL_says 194 = .ok (.if_icmp .ne 8, 3) := by decide +kernel
theorem dL_says_197 : decode bL_says 197 = .ok (.bipush 99, 2) := by decide +kernel
theorem dL_says_199 : decode bL_says 199 = .ok (.goto 5, 3) := by decide +kernel
theorem dL_says_202 : decode bL_says 202 = .ok (.bipush 11, 2) := by decide +kernel
theorem dL_says_204 : decode bL_says 204 = .ok (.istore 5, 2) := by decide +kernel
theorem dL_says_206 : decode bL_says 206 = .ok (.iload 4, 2) := by decide +kernel
theorem dL_says_208 : decode bL_says 208 = .ok (.iload 5, 2) := by decide +kernel
theorem dL_says_210 : decode bL_says 210 = .ok (.aload_n 0, 1) := by decide +kernel
theorem dL_says_211 : decode bL_says 211 = .ok (.getfield 18, 3) := by decide +kernel
theorem dL_says_214 : decode bL_says 214 = .ok (.iconst 0, 1) := by decide +kernel
theorem dL_says_215 : decode bL_says 215 = .ok (.iaload, 1) := by decide +kernel
theorem dL_says_216 : decode bL_says 216 = .ok (.invokestatic 35, 3) := by decide +kernel
theorem dL_says_219 : decode bL_says 219 = .ok (.invokestatic 41, 3) := by decide +kernel
theorem dL_says_222 : decode bL_says 222 = .ok (.ireturn, 1) := by decide +kernel
theorem wL_says_173 {p : Program} {l : Launch} {e : Env} {s : State} {m : MethodId} {args : Array Value} {below : List Frame} {meth : Method} {c : Code} {G : GT} {I : List Nat} (C : CX p s m args meth c NL bL_says 7 (some .int) G I) (hI : cI I) {b : Nat} (hb : isLaw b) {nc : Nat} (hnc : nc ∈ I ∧ ∀ g, eW G nc g = eI G 6 g) {fu : Nat} {R1 : Int32} {Z : Sg} {rc20 : Int32 → Int32 → Int32 → Sg → Option (Int32 × Sg)} (hr20 : ∀ {v1 : Int32} {v3 : Int32} {v4 : Int32} {z : Sg} {H : Heap} {locs : List Loc} {ls : Array Slot}, rc20 v1 v3 v4 z = some (R1, Z) → GW G I z s.heap H locs → lv_has ls 7 [(0, .ref (gA G b)), (1, .int v1), (2, .ref (gA G nc)), (3, .int v3), (4, .int v4)] → W p l e rmL_says s m args below meth c H locs 0 0 (MQ below (Qi G I R1 Z) args s 0 0 (AD G I)) (F0 m 20 ls [])) {v1 : Int32} {v3 : Int32} {v4 : Int32} {z : Sg} {H : Heap} {locs : List Loc} {ls : Array Slot} (h : pL_says_173 fu b nc rc20 v1 v3 v4 z = some (R1, Z)) (hG : GW G I z s.heap H locs) (hl : lv_has ls 7 [(0, .ref (gA G b)), (1, .int v1), (2, .ref (gA G nc)), (3, .int v3), (4, .int v4)]) : W p l e rmL_says s m args below meth c H locs 0 0 (MQ below (Qi G I R1 Z) args s 0 0 (AD G I)) (F0 m 173 ls []) := by
  unfold pL_says_173 at h
  refine rIinc C dL_says_173 hl 4 rfl (d := 1) (by decide) h (by decide) [(0, .ref (gA G b)), (1, .int v1), (2, .ref (gA G nc)), (3, .int v3)] rfl (fun x7 ls h hl => ?_)
  refine lv_goto (tgt := 20) C.1 C.2.1 dL_says_176 (by decide) ?_
  exact hr20 h hG (lv_sub hl [1, 2, 3, 4, 0] rfl)
theorem wL_says_134 {p : Program} {l : Launch} {e : Env} {s : State} {m : MethodId} {args : Array Value} {below : List Frame} {meth : Method} {c : Code} {G : GT} {I : List Nat} (C : CX p s m args meth c NL bL_says 7 (some .int) G I) (hI : cI I) {b : Nat} (hb : isLaw b) {nc : Nat} (hnc : nc ∈ I ∧ ∀ g, eW G nc g = eI G 6 g) {fu : Nat} {R1 : Int32} {Z : Sg} {rc20 : Int32 → Int32 → Int32 → Sg → Option (Int32 × Sg)} (hr20 : ∀ {v1 : Int32} {v3 : Int32} {v4 : Int32} {z : Sg} {H : Heap} {locs : List Loc} {ls : Array Slot}, rc20 v1 v3 v4 z = some (R1, Z) → GW G I z s.heap H locs → lv_has ls 7 [(0, .ref (gA G b)), (1, .int v1), (2, .ref (gA G nc)), (3, .int v3), (4, .int v4)] → W p l e rmL_says s m args below meth c H locs 0 0 (MQ below (Qi G I R1 Z) args s 0 0 (AD G I)) (F0 m 20 ls [])) {v1 : Int32} {v3 : Int32} {v4 : Int32} {t1 : Int32} {t2 : Int32} {z : Sg} {H : Heap} {locs : List Loc} {ls : Array Slot} (h : pL_says_134 fu b nc rc20 v1 v3 v4 t1 t2 z = some (R1, Z)) (hG : GW G I z s.heap H locs) (hl : lv_has ls 7 [(0, .ref (gA G b)), (1, .int v1), (2, .ref (gA G nc)), (3, .int v3), (4, .int v4)]) : W p l e rmL_says s m args below meth c H locs 0 0 (MQ below (Qi G I R1 Z) args s 0 0 (AD G I)) (F0 m 134 ls [.int t2, .int t1, .ref (gA G (b + 3))]) := by
  unfold pL_says_134 at h
  refine rIast C hG (hI _ (hb.lt (k := 3) (by decide))) (eL_3 hb) h dL_says_134 (fun H locs z8 h hG => ?_)
  refine lv_goto (tgt := 173) C.1 C.2.1 dL_says_135 (by decide) ?_
  exact wL_says_173 C hI hb hnc hr20 h hG (lv_sub hl [0, 1, 2, 3, 4] rfl)
theorem wL_says_204 {p : Program} {l : Launch} {e : Env} {s : State} {m : MethodId} {args : Array Value} {below : List Frame} {meth : Method} {c : Code} {G : GT} {I : List Nat} (C : CX p s m args meth c NL bL_says 7 (some .int) G I) (hI : cI I) {b : Nat} (hb : isLaw b) {nc : Nat} (hnc : nc ∈ I ∧ ∀ g, eW G nc g = eI G 6 g) {fu : Nat} {R1 : Int32} {Z : Sg} {v4 : Int32} {t0 : Int32} {z : Sg} {H : Heap} {locs : List Loc} {ls : Array Slot} (h : pL_says_204 fu b nc v4 t0 z = some (R1, Z)) (hG : GW G I z s.heap H locs) (hl : lv_has ls 7 [(0, .ref (gA G b)), (4, .int v4)]) : W p l e rmL_says s m args below meth c H locs 0 0 (MQ below (Qi G I R1 Z) args s 0 0 (AD G I)) (F0 m 204 ls [.int t0]) := by
  unfold pL_says_204 at h
  refine rIstoreA C dL_says_204 hl (by decide) [(0, .ref (gA G b)), (4, .int v4)] rfl (fun ls hl => ?_)
  refine rIload C dL_says_206 hl 2 rfl ?_
  refine rIload C dL_says_208 hl 0 rfl ?_
  refine rAload_n C dL_says_210 hl 1 rfl ?_
  refine rGet C hG (hI _ hb.lt0) (eL_0 hb) fiL_2 (v := .ref (gA G (b + 3))) rfl k_43 dL_says_211 ?_
  refine lv_iconst (v := 0) C.1 C.2.1 dL_says_214 (by decide) ?_
  refine rIaldK C hG (hI _ (hb.lt (k := 3) (by decide))) (eL_3 hb) 0 (by decide) (by decide) dL_says_215 ?_
  refine rMin C k_472 mt_min hl.1 (Nat.le_of_ble_eq_true rfl) (Nat.le_of_ble_eq_true rfl) ⟨Nat.zero_le _, Nat.zero_le _⟩ dL_says_216 ?_
  refine rMax C k_473 mt_max hl.1 (Nat.le_of_ble_eq_true rfl) (Nat.le_of_ble_eq_true rfl) ⟨Nat.zero_le _, Nat.zero_le _⟩ dL_says_219 ?_
  exact rReti C hG h dL_says_222
theorem wL_says_190 {p : Program} {l : Launch} {e : Env} {s : State} {m : MethodId} {args : Array Value} {below : List Frame} {meth : Method} {c : Code} {G : GT} {I : List Nat} (C : CX p s m args meth c NL bL_says 7 (some .int) G I) (hI : cI I) {b : Nat} (hb : isLaw b) {nc : Nat} (hnc : nc ∈ I ∧ ∀ g, eW G nc g = eI G 6 g) {fu : Nat} {R1 : Int32} {Z : Sg} {v1 : Int32} {t0 : Int32} {z : Sg} {H : Heap} {locs : List Loc} {ls : Array Slot} (h : pL_says_190 fu b nc v1 t0 z = some (R1, Z)) (hG : GW G I z s.heap H locs) (hl : lv_has ls 7 [(0, .ref (gA G b)), (1, .int v1)]) : W p l e rmL_says s m args below meth c H locs 0 0 (MQ below (Qi G I R1 Z) args s 0 0 (AD G I)) (F0 m 190 ls [.int t0]) := by
  unfold pL_says_190 at h
  refine rIstoreA C dL_says_190 hl (by decide) [(0, .ref (gA G b)), (1, .int v1)] rfl (fun ls hl => ?_)
  refine rIload_n C dL_says_192 hl 2 rfl ?_
  refine lv_iconst (v := 1) C.1 C.2.1 dL_says_193 (by decide) ?_
  refine rIcmpne C (tgt := 202) h dL_says_194 (by decide) (fun h => ?_) (fun h => ?_)
  · refine lv_bipush (v := 11) C.1 C.2.1 dL_says_202 (by decide) ?_
    exact wL_says_204 C hI hb hnc h hG (lv_sub hl [1, 0] rfl)
  · refine lv_bipush (v := 99) C.1 C.2.1 dL_says_197 (by decide) ?_
    refine lv_goto (tgt := 204) C.1 C.2.1 dL_says_199 (by decide) ?_
    exact wL_says_204 C hI hb hnc h hG (lv_sub hl [1, 0] rfl)
theorem wL_says_75 {p : Program} {l : Launch} {e : Env} {s : State} {m : MethodId} {args : Array Value} {below : List Frame} {meth : Method} {c : Code} {G : GT} {I : List Nat} (C : CX p s m args meth c NL bL_says 7 (some .int) G I) (hI : cI I) {b : Nat} (hb : isLaw b) {nc : Nat} (hnc : nc ∈ I ∧ ∀ g, eW G nc g = eI G 6 g) {fu : Nat} {R1 : Int32} {Z : Sg} {rc20 : Int32 → Int32 → Int32 → Sg → Option (Int32 × Sg)} (hr20 : ∀ {v1 : Int32} {v3 : Int32} {v4 : Int32} {z : Sg} {H : Heap} {locs : List Loc} {ls : Array Slot}, rc20 v1 v3 v4 z = some (R1, Z) → GW G I z s.heap H locs → lv_has ls 7 [(0, .ref (gA G b)), (1, .int v1), (2, .ref (gA G nc)), (3, .int v3), (4, .int v4)] → W p l e rmL_says s m args below meth c H locs 0 0 (MQ below (Qi G I R1 Z) args s 0 0 (AD G I)) (F0 m 20 ls [])) {v1 : Int32} {v3 : Int32} {v4 : Int32} {t1 : Int32} {t2 : Int32} {z : Sg} {H : Heap} {locs : List Loc} {ls : Array Slot} (h : pL_says_75 fu b nc rc20 v1 v3 v4 t1 t2 z = some (R1, Z)) (hG : GW G I z s.heap H locs) (hl : lv_has ls 7 [(0, .ref (gA G b)), (1, .int v1), (2, .ref (gA G nc)), (3, .int v3), (4, .int v4)]) : W p l e rmL_says s m args below meth c H locs 0 0 (MQ below (Qi G I R1 Z) args s 0 0 (AD G I)) (F0 m 75 ls [.int t2, .int t1, .ref (gA G (b + 3))]) := by
  unfold pL_says_75 at h
  refine rIast C hG (hI _ (hb.lt (k := 3) (by decide))) (eL_3 hb) h dL_says_75 (fun H locs z9 h hG => ?_)
  refine rIinc C dL_says_76 hl 3 rfl (d := 1) (by decide) h (by decide) [(0, .ref (gA G b)), (1, .int v1), (2, .ref (gA G nc)), (4, .int v4)] rfl (fun x10 ls h hl => ?_)
  refine lv_goto (tgt := 173) C.1 C.2.1 dL_says_79 (by decide) ?_
  exact wL_says_173 C hI hb hnc hr20 h hG (lv_sub hl [1, 2, 3, 0, 4] rfl)
theorem wL_says_20 {p : Program} {l : Launch} {e : Env} {s : State} {m : MethodId} {args : Array Value} {below : List Frame} {meth : Method} {c : Code} {G : GT} {I : List Nat} (C : CX p s m args meth c NL bL_says 7 (some .int) G I) (hI : cI I) {b : Nat} (hb : isLaw b) {nc : Nat} (hnc : nc ∈ I ∧ ∀ g, eW G nc g = eI G 6 g) {fu : Nat} {R1 : Int32} {Z : Sg} : ∀ (k : Nat) {v1 : Int32} {v3 : Int32} {v4 : Int32} {z : Sg} {H : Heap} {locs : List Loc} {ls : Array Slot}, pL_says_20 fu b nc k v1 v3 v4 z = some (R1, Z) → GW G I z s.heap H locs → lv_has ls 7 [(0, .ref (gA G b)), (1, .int v1), (2, .ref (gA G nc)), (3, .int v3), (4, .int v4)] → W p l e rmL_says s m args below meth c H locs 0 0 (MQ below (Qi G I R1 Z) args s 0 0 (AD G I)) (F0 m 20 ls []) := by
  intro k
  induction k with
  | zero => intro v1 v3 v4 z H locs ls h hG hl; rw [pL_says_20] at h; cases h
  | succ k ih =>
    intro v1 v3 v4 z H locs ls h hG hl
    rw [pL_says_20] at h
    refine rIload C dL_says_20 hl 4 rfl ?_
    refine rAload_n C dL_says_22 hl 0 rfl ?_
    refine rGet C hG (hI _ hb.lt0) (eL_0 hb) fiL_1 (v := .ref (gA G (b + 2))) rfl k_42 dL_says_23 ?_
    refine rIload_n C dL_says_26 hl 1 rfl ?_
    refine rIald C hG (hI _ (hb.lt (k := 2) (by decide))) (eL_2 hb) h dL_says_27 (fun h => ?_)
    refine rIcmpge C (tgt := 179) h dL_says_28 (by decide) (fun h => ?_) (fun h => ?_)
    · refine rIload_n C dL_says_179 hl 1 rfl ?_
      refine lv_iconst (v := 1) C.1 C.2.1 dL_says_180 (by decide) ?_
      refine rIcmpne C (tgt := 189) h dL_says_181 (by decide) (fun h => ?_) (fun h => ?_)
      · refine lv_iconst (v := 0) C.1 C.2.1 dL_says_189 (by decide) ?_
        exact wL_says_190 C hI hb hnc h hG (lv_sub hl [0, 1] rfl)
      · refine lv_bipush (v := (-99)) C.1 C.2.1 dL_says_184 (by decide) ?_
        refine lv_goto (tgt := 190) C.1 C.2.1 dL_says_186 (by decide) ?_
        exact wL_says_190 C hI hb hnc h hG (lv_sub hl [0, 1] rfl)
    · refine rAload_n C dL_says_31 hl 0 rfl ?_
      refine rGet C hG (hI _ hb.lt0) (eL_0 hb) fiL_0 (v := .ref (gA G (b + 1))) rfl k_41 dL_says_32 ?_
      refine rIload C dL_says_35 hl 4 rfl ?_
      refine rIald C hG (hI _ (hb.lt (k := 1) (by decide))) (eL_1 hb) h dL_says_37 (fun h => ?_)
      refine rIstore C dL_says_38 hl h (by decide) [(0, .ref (gA G b)), (1, .int v1), (2, .ref (gA G nc)), (3, .int v3), (4, .int v4)] rfl (fun x1 ls h hl => ?_)
      refine rIload C dL_says_40 hl 0 rfl ?_
      refine lv_bipush (v := (-6)) C.1 C.2.1 dL_says_42 (by decide) ?_
      refine rIcmplt C (tgt := 82) h dL_says_44 (by decide) (fun h => ?_) (fun h => ?_)
      · refine rIload C dL_says_82 hl 0 rfl ?_
        refine lv_bipush (v := (-8)) C.1 C.2.1 dL_says_84 (by decide) ?_
        refine rIcmplt C (tgt := 138) h dL_says_86 (by decide) (fun h => ?_) (fun h => ?_)
        · refine rIload_n C dL_says_138 hl 4 rfl ?_
          refine lv_iconst (v := 2) C.1 C.2.1 dL_says_139 (by decide) ?_
          refine rIcmplt C (tgt := 173) h dL_says_140 (by decide) (fun h => ?_) (fun h => ?_)
          · exact wL_says_173 C hI hb hnc ih h hG (lv_sub hl [1, 2, 3, 4, 5] rfl)
          · refine rIinc C dL_says_143 hl 4 rfl (d := (-1)) (by decide) h (by decide) [(5, .int x1), (0, .ref (gA G b)), (1, .int v1), (2, .ref (gA G nc)), (4, .int v4)] rfl (fun x2 ls h hl => ?_)
            refine rAload_n C dL_says_146 hl 2 rfl ?_
            refine rGet C hG (hI _ hb.lt0) (eL_0 hb) fiL_2 (v := .ref (gA G (b + 3))) rfl k_43 dL_says_147 ?_
            refine rIload_n C dL_says_150 hl 0 rfl ?_
            refine lv_iconst (v := 1) C.1 C.2.1 dL_says_151 (by decide) ?_
            refine lv_isub C.1 C.2.1 dL_says_152 ?_
            refine rIload C dL_says_153 hl 1 rfl ?_
            refine rAload_n C dL_says_155 hl 2 rfl ?_
            refine rGet C hG (hI _ hb.lt0) (eL_0 hb) fiL_2 (v := .ref (gA G (b + 3))) rfl k_43 dL_says_156 ?_
            refine rIload_n C dL_says_159 hl 0 rfl ?_
            refine lv_iconst (v := 1) C.1 C.2.1 dL_says_160 (by decide) ?_
            refine lv_isub C.1 C.2.1 dL_says_161 ?_
            refine rIald C hG (hI _ (hb.lt (k := 3) (by decide))) (eL_3 hb) h dL_says_162 (fun h => ?_)
            refine rAload_n C dL_says_163 hl 2 rfl ?_
            refine rGet C hG (hI _ hb.lt0) (eL_0 hb) fiL_2 (v := .ref (gA G (b + 3))) rfl k_43 dL_says_164 ?_
            refine rIload_n C dL_says_167 hl 0 rfl ?_
            refine rIald C hG (hI _ (hb.lt (k := 3) (by decide))) (eL_3 hb) h dL_says_168 (fun h => ?_)
            refine rCSi [.int x1, .int (ga z (b + 3) (x2 - 1)), .int (ga z (b + 3) x2)] [.int (x2 - 1), .ref (gA G (b + 3))] C hG h (fun h => cL_joined hI h) mvL_joined k_469 ⟨Nat.le_of_ble_eq_true rfl, Nat.le_of_ble_eq_true rfl⟩ ⟨rfl, rfl⟩ rfl hl.1 (Nat.le_of_ble_eq_true rfl) dL_says_169 ⟨Nat.zero_le _, Nat.zero_le _⟩ rfl (fun H locs x4 z3 h hG => ?_)
            refine rIast C hG (hI _ (hb.lt (k := 3) (by decide))) (eL_3 hb) h dL_says_172 (fun H locs z5 h hG => ?_)
            exact wL_says_173 C hI hb hnc ih h hG (lv_sub hl [2, 3, 4, 0, 5] rfl)
        · refine rIload_n C dL_says_89 hl 4 rfl ?_
          refine lv_iconst (v := 1) C.1 C.2.1 dL_says_90 (by decide) ?_
          refine rIcmplt C (tgt := 173) h dL_says_91 (by decide) (fun h => ?_) (fun h => ?_)
          · exact wL_says_173 C hI hb hnc ih h hG (lv_sub hl [1, 2, 3, 4, 5] rfl)
          · refine rAload_n C dL_says_94 hl 1 rfl ?_
            refine rGet C hG (hI _ hb.lt0) (eL_0 hb) fiL_2 (v := .ref (gA G (b + 3))) rfl k_43 dL_says_95 ?_
            refine rIload_n C dL_says_98 hl 4 rfl ?_
            refine lv_iconst (v := 1) C.1 C.2.1 dL_says_99 (by decide) ?_
            refine lv_isub C.1 C.2.1 dL_says_100 ?_
            refine rIald C hG (hI _ (hb.lt (k := 3) (by decide))) (eL_3 hb) h dL_says_101 (fun h => ?_)
            refine rIstore C dL_says_102 hl h (by decide) [(5, .int x1), (0, .ref (gA G b)), (1, .int v1), (2, .ref (gA G nc)), (3, .int v3), (4, .int v4)] rfl (fun x6 ls h hl => ?_)
            refine rAload_n C dL_says_104 hl 2 rfl ?_
            refine rGet C hG (hI _ hb.lt0) (eL_0 hb) fiL_2 (v := .ref (gA G (b + 3))) rfl k_43 dL_says_105 ?_
            refine rIload_n C dL_says_108 hl 5 rfl ?_
            refine lv_iconst (v := 1) C.1 C.2.1 dL_says_109 (by decide) ?_
            refine lv_isub C.1 C.2.1 dL_says_110 ?_
            refine rIload C dL_says_111 hl 1 rfl ?_
            refine lv_bipush (v := (-8)) C.1 C.2.1 dL_says_113 (by decide) ?_
            refine rIcmpne C (tgt := 124) h dL_says_115 (by decide) (fun h => ?_) (fun h => ?_)
            · refine rIload C dL_says_124 hl 0 rfl ?_
              refine rIfne C (tgt := 133) h dL_says_126 (by decide) (fun h => ?_) (fun h => ?_)
              · refine lv_iconst (v := 0) C.1 C.2.1 dL_says_133 (by decide) ?_
                exact wL_says_134 C hI hb hnc ih h hG (lv_sub hl [2, 3, 4, 5, 6] rfl)
              · refine lv_iconst (v := 1) C.1 C.2.1 dL_says_129 (by decide) ?_
                refine lv_goto (tgt := 134) C.1 C.2.1 dL_says_130 (by decide) ?_
                exact wL_says_134 C hI hb hnc ih h hG (lv_sub hl [2, 3, 4, 5, 6] rfl)
            · refine rIload C dL_says_118 hl 0 rfl ?_
              refine lv_ineg C.1 C.2.1 dL_says_120 ?_
              refine lv_goto (tgt := 134) C.1 C.2.1 dL_says_121 (by decide) ?_
              exact wL_says_134 C hI hb hnc ih h hG (lv_sub hl [2, 3, 4, 5, 6] rfl)
      · refine rIload_n C dL_says_47 hl 4 rfl ?_
        refine lv_sipush (v := 160) C.1 C.2.1 dL_says_48 (by decide) ?_
        refine rIcmpge C (tgt := 173) h dL_says_51 (by decide) (fun h => ?_) (fun h => ?_)
        · exact wL_says_173 C hI hb hnc ih h hG (lv_sub hl [1, 2, 3, 4, 5] rfl)
        · refine rAload_n C dL_says_54 hl 1 rfl ?_
          refine rGet C hG (hI _ hb.lt0) (eL_0 hb) fiL_2 (v := .ref (gA G (b + 3))) rfl k_43 dL_says_55 ?_
          refine rIload_n C dL_says_58 hl 4 rfl ?_
          refine rIload C dL_says_59 hl 0 rfl ?_
          refine rIflt C (tgt := 69) h dL_says_61 (by decide) (fun h => ?_) (fun h => ?_)
          · refine rAload_n C dL_says_69 hl 3 rfl ?_
            refine lv_iconst (v := (-1)) C.1 C.2.1 dL_says_70 (by decide) ?_
            refine rIload C dL_says_71 hl 0 rfl ?_
            refine lv_isub C.1 C.2.1 dL_says_73 ?_
            refine rIald C hG hnc.1 hnc.2 h dL_says_74 (fun h => ?_)
            exact wL_says_75 C hI hb hnc ih h hG (lv_sub hl [1, 2, 3, 4, 5] rfl)
          · refine rIload C dL_says_64 hl 0 rfl ?_
            refine lv_goto (tgt := 75) C.1 C.2.1 dL_says_66 (by decide) ?_
            exact wL_says_75 C hI hb hnc ih h hG (lv_sub hl [1, 2, 3, 4, 5] rfl)
theorem wL_says_18 {p : Program} {l : Launch} {e : Env} {s : State} {m : MethodId} {args : Array Value} {below : List Frame} {meth : Method} {c : Code} {G : GT} {I : List Nat} (C : CX p s m args meth c NL bL_says 7 (some .int) G I) (hI : cI I) {b : Nat} (hb : isLaw b) {nc : Nat} (hnc : nc ∈ I ∧ ∀ g, eW G nc g = eI G 6 g) {fu : Nat} {R1 : Int32} {Z : Sg} {v1 : Int32} {v3 : Int32} {t0 : Int32} {z : Sg} {H : Heap} {locs : List Loc} {ls : Array Slot} (h : pL_says_18 fu b nc v1 v3 t0 z = some (R1, Z)) (hG : GW G I z s.heap H locs) (hl : lv_has ls 7 [(0, .ref (gA G b)), (1, .int v1), (2, .ref (gA G nc)), (3, .int v3)]) : W p l e rmL_says s m args below meth c H locs 0 0 (MQ below (Qi G I R1 Z) args s 0 0 (AD G I)) (F0 m 18 ls [.int t0]) := by
  unfold pL_says_18 at h
  refine rIstoreA C dL_says_18 hl (by decide) [(0, .ref (gA G b)), (1, .int v1), (2, .ref (gA G nc)), (3, .int v3)] rfl (fun ls hl => ?_)
  exact wL_says_20 C hI hb hnc _ h hG (lv_sub hl [1, 2, 3, 4, 0] rfl)
theorem cL_says {l : Launch} {G : GT} {I : List Nat} (hI : cI I) {b : Nat} (hb : isLaw b) {nc : Nat} (hnc : nc ∈ I ∧ ∀ g, eW G nc g = eI G 6 g) {fu : Nat} {v1 : Int32} {z : Sg} {R1 : Int32} {Z : Sg} (h : pL_says fu b nc v1 z = some (R1, Z)) : Mt l yL_says rmL_says bL_says 7 (some .int) G I z [.ref (gA G b), .int v1, .ref (gA G nc)] (Qi G I R1 Z) := by
  refine entM (by decide +kernel) (Nat.le_of_ble_eq_true rfl) ?_
  intro p e s m below meth c C hG ls hl
  have hl : lv_has ls 7 [(0, .ref (gA G b)), (1, .int v1), (2, .ref (gA G nc))] := hl
  unfold pL_says at h
  refine lv_iconst (v := 0) C.1 C.2.1 dL_says_0 (by decide) ?_
  refine rIstoreA_n C dL_says_1 hl (by decide) [(0, .ref (gA G b)), (1, .int v1), (2, .ref (gA G nc))] rfl (fun ls hl => ?_)
  refine rIload_n C dL_says_2 hl 2 rfl ?_
  refine rIfne C (tgt := 10) h dL_says_3 (by decide) (fun h => ?_) (fun h => ?_)
  · refine rAload_n C dL_says_10 hl 1 rfl ?_
    refine rGet C hG (hI _ hb.lt0) (eL_0 hb) fiL_1 (v := .ref (gA G (b + 2))) rfl k_42 dL_says_11 ?_
    refine rIload_n C dL_says_14 hl 2 rfl ?_
    refine lv_iconst (v := 1) C.1 C.2.1 dL_says_15 (by decide) ?_
    refine lv_isub C.1 C.2.1 dL_says_16 ?_
    refine rIald C hG (hI _ (hb.lt (k := 2) (by decide))) (eL_2 hb) h dL_says_17 (fun h => ?_)
    exact wL_says_18 C hI hb hnc h hG (lv_sub hl [1, 2, 3, 0] rfl)
  · refine lv_iconst (v := 0) C.1 C.2.1 dL_says_6 (by decide) ?_
    refine lv_goto (tgt := 18) C.1 C.2.1 dL_says_7 (by decide) ?_
    exact wL_says_18 C hI hb hnc h hG (lv_sub hl [1, 2, 3, 0] rfl)
theorem dS_isA_0 : decode bS_isA 0 = .ok (.iload_n 0, 1) := by decide +kernel
theorem dS_isA_1 : decode bS_isA 1 = .ok (.istore_n 2, 1) := by decide +kernel
theorem dS_isA_2 : decode bS_isA 2 = .ok (.iconst 0, 1) := by decide +kernel
theorem dS_isA_3 : decode bS_isA 3 = .ok (.istore_n 3, 1) := by decide +kernel
theorem dS_isA_4 : decode bS_isA 4 = .ok (.iload_n 3, 1) := by decide +kernel
theorem dS_isA_5 : decode bS_isA 5 = .ok (.bipush 6, 2) := by decide +kernel
theorem dS_isA_7 : decode bS_isA 7 = .ok (.if_icmp .ge 30, 3) := by decide +kernel
theorem dS_isA_10 : decode bS_isA 10 = .ok (.iload_n 2, 1) := by decide +kernel
theorem dS_isA_11 : decode bS_isA 11 = .ok (.iconst 5, 1) := by decide +kernel
theorem dS_isA_12 : decode bS_isA 12 = .ok (.invokestatic 108, 3) := by decide +kernel
theorem dS_isA_15 : decode bS_isA 15 = .ok (.ifCond .eq 22, 3) := by decide +kernel
theorem dS_isA_18 : decode bS_isA 18 = .ok (.iload_n 2, 1) := by decide +kernel
theorem dS_isA_19 : decode bS_isA 19 = .ok (.iload_n 1, 1) := by decide +kernel
theorem dS_isA_20 : decode bS_isA 20 = .ok (.if_icmp .ne 5, 3) := by decide +kernel
theorem dS_isA_23 : decode bS_isA 23 = .ok (.iconst 1, 1) := by decide +kernel
theorem dS_isA_24 : decode bS_isA 24 = .ok (.ireturn, 1) := by decide +kernel
theorem dS_isA_25 : decode bS_isA 25 = .ok (.getstatic 259, 3) := by decide +kernel
theorem dS_isA_28 : decode bS_isA 28 = .ok (.iload_n 2, 1) := by decide +kernel
theorem dS_isA_29 : decode bS_isA 29 = .ok (.iaload, 1) := by decide +kernel
theorem dS_isA_30 : decode bS_isA 30 = .ok (.istore_n 2, 1) := by decide +kernel
theorem dS_isA_31 : decode bS_isA 31 = .ok (.iinc 3 1, 3) := by decide +kernel
theorem dS_isA_34 : decode bS_isA 34 = .ok (.goto (-30), 3) := by decide +kernel
theorem dS_isA_37 : decode bS_isA 37 = .ok (.iconst 0, 1) := by decide +kernel
theorem dS_isA_38 : decode bS_isA 38 = .ok (.ireturn, 1) := by decide +kernel
theorem wS_isA_4 {p : Program} {l : Launch} {e : Env} {s : State} {m : MethodId} {args : Array Value} {below : List Frame} {meth : Method} {c : Code} {G : GT} {I : List Nat} (C : CX p s m args meth c NS bS_isA 4 (some .boolean) G I) (hI : cI I) {fu : Nat} {R1 : Int32} {Z : Sg} : ∀ (k : Nat) {v1 : Int32} {v2 : Int32} {v3 : Int32} {z : Sg} {H : Heap} {locs : List Loc} {ls : Array Slot}, pS_isA_4 fu k v1 v2 v3 z = some (R1, Z) → GW G I z s.heap H locs → lv_has ls 4 [(1, .int v1), (2, .int v2), (3, .int v3)] → W p l e rmS_isA s m args below meth c H locs 0 0 (MQ below (Qi G I R1 Z) args s 0 0 (AD G I)) (F0 m 4 ls []) := by
  intro k
  induction k with
  | zero => intro v1 v2 v3 z H locs ls h hG hl; rw [pS_isA_4] at h; cases h
  | succ k ih =>
    intro v1 v2 v3 z H locs ls h hG hl
    rw [pS_isA_4] at h
    refine rIload_n C dS_isA_4 hl 2 rfl ?_
    refine lv_bipush (v := 6) C.1 C.2.1 dS_isA_5 (by decide) ?_
    refine rIcmpge C (tgt := 37) h dS_isA_7 (by decide) (fun h => ?_) (fun h => ?_)
    · refine lv_iconst (v := 0) C.1 C.2.1 dS_isA_37 (by decide) ?_
      exact rRetn C hG (ty := .boolean) rfl rfl h dS_isA_38
    · refine rIload_n C dS_isA_10 hl 1 rfl ?_
      refine lv_iconst (v := 5) C.1 C.2.1 dS_isA_11 (by decide) ?_
      refine rCSi [.int v2, .int 5] [] C hG h (fun h => cS_within hI h) mvS_within k_423 ⟨Nat.le_of_ble_eq_true rfl, Nat.le_of_ble_eq_true rfl⟩ ⟨rfl, rfl⟩ rfl hl.1 (Nat.le_of_ble_eq_true rfl) dS_isA_12 ⟨Nat.zero_le _, Nat.zero_le _⟩ rfl (fun H locs x2 z1 h hG => ?_)
      refine rIfeq C (tgt := 37) h dS_isA_15 (by decide) (fun h => ?_) (fun h => ?_)
      · refine lv_iconst (v := 0) C.1 C.2.1 dS_isA_37 (by decide) ?_
        exact rRetn C hG (ty := .boolean) rfl rfl h dS_isA_38
      · refine rIload_n C dS_isA_18 hl 1 rfl ?_
        refine rIload_n C dS_isA_19 hl 0 rfl ?_
        refine rIcmpne C (tgt := 25) h dS_isA_20 (by decide) (fun h => ?_) (fun h => ?_)
        · refine rGetsK C hG k_520 dS_isA_25 ?_
          refine rIload_n C dS_isA_28 hl 1 rfl ?_
          refine rTabK C hG h dS_isA_29 (fun h => ?_)
          refine rIstore_n C dS_isA_30 hl h (by decide) [(1, .int v1), (3, .int v3)] rfl (fun x3 ls h hl => ?_)
          refine rIinc C dS_isA_31 hl 2 rfl (d := 1) (by decide) h (by decide) [(2, .int x3), (1, .int v1)] rfl (fun x4 ls h hl => ?_)
          refine lv_goto (tgt := 4) C.1 C.2.1 dS_isA_34 (by decide) ?_
          exact ih h hG (lv_sub hl [2, 1, 0] rfl)
        · refine lv_iconst (v := 1) C.1 C.2.1 dS_isA_23 (by decide) ?_
          exact rRetn C hG (ty := .boolean) rfl rfl h dS_isA_24
theorem cS_isA {l : Launch} {G : GT} {I : List Nat} (hI : cI I) {fu : Nat} {v0 : Int32} {v1 : Int32} {z : Sg} {R1 : Int32} {Z : Sg} (h : pS_isA fu v0 v1 z = some (R1, Z)) : Mt l yS_isA rmS_isA bS_isA 4 (some .boolean) G I z [.int v0, .int v1] (Qi G I R1 Z) := by
  refine entM (by decide +kernel) (Nat.le_of_ble_eq_true rfl) ?_
  intro p e s m below meth c C hG ls hl
  have hl : lv_has ls 4 [(0, .int v0), (1, .int v1)] := hl
  unfold pS_isA at h
  refine rIload_n C dS_isA_0 hl 0 rfl ?_
  refine rIstoreA_n C dS_isA_1 hl (by decide) [(0, .int v0), (1, .int v1)] rfl (fun ls hl => ?_)
  refine lv_iconst (v := 0) C.1 C.2.1 dS_isA_2 (by decide) ?_
  refine rIstoreA_n C dS_isA_3 hl (by decide) [(2, .int v0), (0, .int v0), (1, .int v1)] rfl (fun ls hl => ?_)
  exact wS_isA_4 C hI _ h hG (lv_sub hl [3, 1, 0] rfl)
theorem dB_clear_0 : decode bB_clear 0 = .ok (.aload_n 0, 1) := by decide +kernel
theorem dB_clear_1 : decode bB_clear 1 = .ok (.iconst (-1), 1) := by decide +kernel
theorem dB_clear_2 : decode bB_clear 2 = .ok (.putfield 9, 3) := by decide +kernel
theorem dB_clear_5 : decode bB_clear 5 = .ok (.aload_n 0, 1) := by decide +kernel
theorem dB_clear_6 : decode bB_clear 6 = .ok (.iconst (-1), 1) := by decide +kernel
theorem dB_clear_7 : decode bB_clear 7 = .ok (.putfield 15, 3) := by decide +kernel
theorem dB_clear_10 : decode bB_clear 10 = .ok (.return_, 1) := by decide +kernel
theorem cB_clear {l : Launch} {G : GT} {I : List Nat} (hI : cI I) {fu : Nat} {z : Sg} {Z : Sg} (h : pB_clear fu z = some Z) : Mt l yB_clear rmB_clear bB_clear 1 none G I z [.ref (gA G 5)] (Qv G I Z) := by
  refine entM (by decide +kernel) (Nat.le_of_ble_eq_true rfl) ?_
  intro p e s m below meth c C hG ls hl
  have hl : lv_has ls 1 [(0, .ref (gA G 5))] := hl
  unfold pB_clear at h
  refine rAload_n C dB_clear_0 hl 0 rfl ?_
  refine lv_iconst (v := (-1)) C.1 C.2.1 dB_clear_1 (by decide) ?_
  refine rPut C hG (hI 5 (by decide)) e_5 fiB_0 tokB nmB rfl (fpB_0 _) (Nat.le_of_ble_eq_true rfl) rfl rfl k_88 h dB_clear_2 (fun H locs z1 h hG => ?_)
  refine rAload_n C dB_clear_5 hl 0 rfl ?_
  refine lv_iconst (v := (-1)) C.1 C.2.1 dB_clear_6 (by decide) ?_
  refine rPut C hG (hI 5 (by decide)) e_5 fiB_1 tokB nmB rfl (fpB_1 _) (Nat.le_of_ble_eq_true rfl) rfl rfl k_89 h dB_clear_7 (fun H locs z2 h hG => ?_)
  exact rRetv C hG h dB_clear_10
theorem dB_offer_0 : decode bB_offer 0 = .ok (.iload_n 2, 1) := by decide +kernel
theorem dB_offer_1 : decode bB_offer 1 = .ok (.aload_n 0, 1) := by decide +kernel
theorem dB_offer_2 : decode bB_offer 2 = .ok (.getfield 15, 3) := by decide +kernel
theorem dB_offer_5 : decode bB_offer 5 = .ok (.if_icmp .le 13, 3) := by decide +kernel
theorem dB_offer_8 : decode bB_offer 8 = .ok (.aload_n 0, 1) := by decide +kernel
theorem dB_offer_9 : decode bB_offer 9 = .ok (.iload_n 1, 1) := by decide +kernel
theorem dB_offer_10 : decode bB_offer 10 = .ok (.putfield 9, 3) := by decide +kernel
theorem dB_offer_13 : decode bB_offer 13 = .ok (.aload_n 0, 1) := by decide +kernel
theorem dB_offer_14 : decode bB_offer 14 = .ok (.iload_n 2, 1) := by decide +kernel
theorem dB_offer_15 : decode bB_offer 15 = .ok (.putfield 15, 3) := by decide +kernel
theorem dB_offer_18 : decode bB_offer 18 = .ok (.return_, 1) := by decide +kernel
theorem cB_offer {l : Launch} {G : GT} {I : List Nat} (hI : cI I) {fu : Nat} {v1 : Int32} {v2 : Int32} {z : Sg} {Z : Sg} (h : pB_offer fu v1 v2 z = some Z) : Mt l yB_offer rmB_offer bB_offer 3 none G I z [.ref (gA G 5), .int v1, .int v2] (Qv G I Z) := by
  refine entM (by decide +kernel) (Nat.le_of_ble_eq_true rfl) ?_
  intro p e s m below meth c C hG ls hl
  have hl : lv_has ls 3 [(0, .ref (gA G 5)), (1, .int v1), (2, .int v2)] := hl
  unfold pB_offer at h
  refine rIload_n C dB_offer_0 hl 2 rfl ?_
  refine rAload_n C dB_offer_1 hl 0 rfl ?_
  refine rGet C hG (hI 5 (by decide)) e_5 fiB_1 (v := .int (z 5 1)) rfl k_89 dB_offer_2 ?_
  refine rIcmple C (tgt := 18) h dB_offer_5 (by decide) (fun h => ?_) (fun h => ?_)
  · exact rRetv C hG h dB_offer_18
  · refine rAload_n C dB_offer_8 hl 0 rfl ?_
    refine rIload_n C dB_offer_9 hl 1 rfl ?_
    refine rPut C hG (hI 5 (by decide)) e_5 fiB_0 tokB nmB rfl (fpB_0 _) (Nat.le_of_ble_eq_true rfl) rfl rfl k_88 h dB_offer_10 (fun H locs z1 h hG => ?_)
    refine rAload_n C dB_offer_13 hl 0 rfl ?_
    refine rIload_n C dB_offer_14 hl 2 rfl ?_
    refine rPut C hG (hI 5 (by decide)) e_5 fiB_1 tokB nmB rfl (fpB_1 _) (Nat.le_of_ble_eq_true rfl) rfl rfl k_89 h dB_offer_15 (fun H locs z2 h hG => ?_)
    exact rRetv C hG h dB_offer_18
theorem dB_tells_0 : decode bB_tells 0 = .ok (.iload_n 1, 1) := by decide +kernel
theorem dB_tells_1 : decode bB_tells 1 = .ok (.ifCond .ne 10, 3) := by decide +kernel
theorem dB_tells_4 : decode bB_tells 4 = .ok (.aload_n 0, 1) := by decide +kernel
theorem dB_tells_5 : decode bB_tells 5 = .ok (.getfield 9, 3) := by decide +kernel
theorem dB_tells_8 : decode bB_tells 8 = .ok (.goto 7, 3) := by decide +kernel
theorem dB_tells_11 : decode bB_tells 11 = .ok (.aload_n 0, 1) := by decide +kernel
theorem dB_tells_12 : decode bB_tells 12 = .ok (.getfield 15, 3) := by decide +kernel
theorem dB_tells_15 : decode bB_tells 15 = .ok (.ireturn, 1) := by decide +kernel
theorem cB_tells {l : Launch} {G : GT} {I : List Nat} (hI : cI I) {fu : Nat} {v1 : Int32} {z : Sg} {R1 : Int32} {Z : Sg} (h : pB_tells fu v1 z = some (R1, Z)) : Mt l yB_tells rmB_tells bB_tells 2 (some .int) G I z [.ref (gA G 5), .int v1] (Qi G I R1 Z) := by
  refine entM (by decide +kernel) (Nat.le_of_ble_eq_true rfl) ?_
  intro p e s m below meth c C hG ls hl
  have hl : lv_has ls 2 [(0, .ref (gA G 5)), (1, .int v1)] := hl
  unfold pB_tells at h
  refine rIload_n C dB_tells_0 hl 1 rfl ?_
  refine rIfne C (tgt := 11) h dB_tells_1 (by decide) (fun h => ?_) (fun h => ?_)
  · refine rAload_n C dB_tells_11 hl 0 rfl ?_
    refine rGet C hG (hI 5 (by decide)) e_5 fiB_1 (v := .int (z 5 1)) rfl k_89 dB_tells_12 ?_
    exact rReti C hG h dB_tells_15
  · refine rAload_n C dB_tells_4 hl 0 rfl ?_
    refine rGet C hG (hI 5 (by decide)) e_5 fiB_0 (v := .int (z 5 0)) rfl k_88 dB_tells_5 ?_
    refine lv_goto (tgt := 15) C.1 C.2.1 dB_tells_8 (by decide) ?_
    exact rReti C hG h dB_tells_15
theorem dH_isMissing_0 : decode bH_isMissing 0 = .ok (.aload_n 0, 1) := by decide +kernel
theorem dH_isMissing_1 : decode bH_isMissing 1 = .ok (.getfield 15, 3) := by decide +kernel
theorem dH_isMissing_4 : decode bH_isMissing 4 = .ok (.ifCond .ge 7, 3) := by decide +kernel
theorem dH_isMissing_7 : decode bH_isMissing 7 = .ok (.iconst 1, 1) := by decide +kernel
theorem dH_isMissing_8 : decode bH_isMissing 8 = .ok (.goto 4, 3) := by decide +kernel
theorem dH_isMissing_11 : decode bH_isMissing 11 = .ok (.iconst 0, 1) := by decide +kernel
theorem dH_isMissing_12 : decode bH_isMissing 12 = .ok (.ireturn, 1) := by decide +kernel
theorem cH_isMissing {l : Launch} {G : GT} {I : List Nat} (hI : cI I) {b : Nat} (hb : isSheet b) {fu : Nat} {z : Sg} {R1 : Int32} {Z : Sg} (h : pH_isMissing fu b z = some (R1, Z)) : Mt l yH_isMissing rmH_isMissing bH_isMissing 1 (some .boolean) G I z [.ref (gA G b)] (Qi G I R1 Z) := by
  refine entM (by decide +kernel) (Nat.le_of_ble_eq_true rfl) ?_
  intro p e s m below meth c C hG ls hl
  have hl : lv_has ls 1 [(0, .ref (gA G b))] := hl
  unfold pH_isMissing at h
  refine rAload_n C dH_isMissing_0 hl 0 rfl ?_
  refine rGet C hG (hI _ hb.lt0) (eH_0 hb) fiH_1 (v := .int (z b 1)) rfl k_119 dH_isMissing_1 ?_
  refine rIfge C (tgt := 11) h dH_isMissing_4 (by decide) (fun h => ?_) (fun h => ?_)
  · refine lv_iconst (v := 0) C.1 C.2.1 dH_isMissing_11 (by decide) ?_
    exact rRetn C hG (ty := .boolean) rfl rfl h dH_isMissing_12
  · refine lv_iconst (v := 1) C.1 C.2.1 dH_isMissing_7 (by decide) ?_
    refine lv_goto (tgt := 12) C.1 C.2.1 dH_isMissing_8 (by decide) ?_
    exact rRetn C hG (ty := .boolean) rfl rfl h dH_isMissing_12
theorem dH_remake_0 : decode bH_remake 0 = .ok (.aload_n 0, 1) := by decide +kernel
theorem dH_remake_1 : decode bH_remake 1 = .ok (.iload_n 1, 1) := by decide +kernel
theorem dH_remake_2 : decode bH_remake 2 = .ok (.putfield 15, 3) := by decide +kernel
theorem dH_remake_5 : decode bH_remake 5 = .ok (.aload_n 0, 1) := by decide +kernel
theorem dH_remake_6 : decode bH_remake 6 = .ok (.iload_n 2, 1) := by decide +kernel
theorem dH_remake_7 : decode bH_remake 7 = .ok (.putfield 19, 3) := by decide +kernel
theorem dH_remake_10 : decode bH_remake 10 = .ok (.iconst 0, 1) := by decide +kernel
theorem dH_remake_11 : decode bH_remake 11 = .ok (.istore_n 3, 1) := by decide +kernel
theorem dH_remake_12 : decode bH_remake 12 = .ok (.iload_n 3, 1) := by decide +kernel
theorem dH_remake_13 : decode bH_remake 13 = .ok (.bipush 40, 2) := by decide +kernel
theorem dH_remake_15 : decode bH_remake 15 = .ok (.if_icmp .ge 16, 3) := by decide +kernel
theorem dH_remake_18 : decode bH_remake 18 = .ok (.aload_n 0, 1) := by decide +kernel
theorem dH_remake_19 : decode bH_remake 19 = .ok (.getfield 9, 3) := by decide +kernel
theorem dH_remake_22 : decode bH_remake 22 = .ok (.iload_n 3, 1) := by decide +kernel
theorem dH_remake_23 : decode bH_remake 23 = .ok (.iconst 0, 1) := by decide +kernel
theorem dH_remake_24 : decode bH_remake 24 = .ok (.iastore, 1) := by decide +kernel
theorem dH_remake_25 : decode bH_remake 25 = .ok (.iinc 3 1, 3) := by decide +kernel
theorem dH_remake_28 : decode bH_remake 28 = .ok (.goto (-16), 3) := by decide +kernel
theorem dH_remake_31 : decode bH_remake 31 = .ok (.return_, 1) := by decide +kernel
theorem wH_remake_12 {p : Program} {l : Launch} {e : Env} {s : State} {m : MethodId} {args : Array Value} {below : List Frame} {meth : Method} {c : Code} {G : GT} {I : List Nat} (C : CX p s m args meth c NH bH_remake 4 none G I) (hI : cI I) {b : Nat} (hb : isSheet b) {fu : Nat} {Z : Sg} : ∀ (k : Nat) {v3 : Int32} {z : Sg} {H : Heap} {locs : List Loc} {ls : Array Slot}, pH_remake_12 fu b k v3 z = some Z → GW G I z s.heap H locs → lv_has ls 4 [(0, .ref (gA G b)), (3, .int v3)] → W p l e rmH_remake s m args below meth c H locs 0 0 (MQ below (Qv G I Z) args s 0 0 (AD G I)) (F0 m 12 ls []) := by
  intro k
  induction k with
  | zero => intro v3 z H locs ls h hG hl; rw [pH_remake_12] at h; cases h
  | succ k ih =>
    intro v3 z H locs ls h hG hl
    rw [pH_remake_12] at h
    refine rIload_n C dH_remake_12 hl 1 rfl ?_
    refine lv_bipush (v := 40) C.1 C.2.1 dH_remake_13 (by decide) ?_
    refine rIcmpge C (tgt := 31) h dH_remake_15 (by decide) (fun h => ?_) (fun h => ?_)
    · exact rRetv C hG h dH_remake_31
    · refine rAload_n C dH_remake_18 hl 0 rfl ?_
      refine rGet C hG (hI _ hb.lt0) (eH_0 hb) fiH_0 (v := .ref (gA G (b + 1))) rfl k_117 dH_remake_19 ?_
      refine rIload_n C dH_remake_22 hl 1 rfl ?_
      refine lv_iconst (v := 0) C.1 C.2.1 dH_remake_23 (by decide) ?_
      refine rIast C hG (hI _ (hb.lt (k := 1) (by decide))) (eH_1 hb) h dH_remake_24 (fun H locs z3 h hG => ?_)
      refine rIinc C dH_remake_25 hl 1 rfl (d := 1) (by decide) h (by decide) [(0, .ref (gA G b))] rfl (fun x4 ls h hl => ?_)
      refine lv_goto (tgt := 12) C.1 C.2.1 dH_remake_28 (by decide) ?_
      exact ih h hG (lv_sub hl [1, 0] rfl)
theorem cH_remake {l : Launch} {G : GT} {I : List Nat} (hI : cI I) {b : Nat} (hb : isSheet b) {fu : Nat} {v1 : Int32} {v2 : Int32} {z : Sg} {Z : Sg} (h : pH_remake fu b v1 v2 z = some Z) : Mt l yH_remake rmH_remake bH_remake 4 none G I z [.ref (gA G b), .int v1, .int v2] (Qv G I Z) := by
  refine entM (by decide +kernel) (Nat.le_of_ble_eq_true rfl) ?_
  intro p e s m below meth c C hG ls hl
  have hl : lv_has ls 4 [(0, .ref (gA G b)), (1, .int v1), (2, .int v2)] := hl
  unfold pH_remake at h
  refine rAload_n C dH_remake_0 hl 0 rfl ?_
  refine rIload_n C dH_remake_1 hl 1 rfl ?_
  refine rPut C hG (hI _ hb.lt0) (eH_0 hb) fiH_1 tokH nmH rfl (fpH_1 _) (Nat.le_of_ble_eq_true rfl) rfl rfl k_119 h dH_remake_2 (fun H locs z1 h hG => ?_)
  refine rAload_n C dH_remake_5 hl 0 rfl ?_
  refine rIload_n C dH_remake_6 hl 2 rfl ?_
  refine rPut C hG (hI _ hb.lt0) (eH_0 hb) fiH_2 tokH nmH rfl (fpH_2 _) (Nat.le_of_ble_eq_true rfl) rfl rfl k_121 h dH_remake_7 (fun H locs z2 h hG => ?_)
  refine lv_iconst (v := 0) C.1 C.2.1 dH_remake_10 (by decide) ?_
  refine rIstoreA_n C dH_remake_11 hl (by decide) [(0, .ref (gA G b)), (1, .int v1), (2, .int v2)] rfl (fun ls hl => ?_)
  exact wH_remake_12 C hI hb _ h hG (lv_sub hl [1, 0] rfl)
theorem dH_write_0 : decode bH_write 0 = .ok (.aload_n 0, 1) := by decide +kernel
theorem dH_write_1 : decode bH_write 1 = .ok (.getfield 9, 3) := by decide +kernel
theorem dH_write_4 : decode bH_write 4 = .ok (.iload_n 1, 1) := by decide +kernel
theorem dH_write_5 : decode bH_write 5 = .ok (.aload_n 0, 1) := by decide +kernel
theorem dH_write_6 : decode bH_write 6 = .ok (.getfield 15, 3) := by decide +kernel
theorem dH_write_9 : decode bH_write 9 = .ok (.ifCond .ne 8, 3) := by decide +kernel
theorem dH_write_12 : decode bH_write 12 = .ok (.iload_n 2, 1) := by decide +kernel
theorem dH_write_13 : decode bH_write 13 = .ok (.i2b, 1) := by decide +kernel
theorem dH_write_14 : decode bH_write 14 = .ok (.goto 17, 3) := by decide +kernel
theorem dH_write_17 : decode bH_write 17 = .ok (.aload_n 0, 1) := by decide +kernel
theorem dH_write_18 : decode bH_write 18 = .ok (.getfield 15, 3) := by decide +kernel
theorem dH_write_21 : decode bH_write 21 = .ok (.iconst 1, 1) := by decide +kernel
theorem dH_write_22 : decode bH_write 22 = .ok (.if_icmp .ne 8, 3) := by decide +kernel
theorem dH_write_25 : decode bH_write 25 = .ok (.iload_n 2, 1) := by decide +kernel
theorem dH_write_26 : decode bH_write 26 = .ok (.i2s, 1) := by decide +kernel
theorem dH_write_27 : decode bH_write 27 = .ok (.goto 4, 3) := by decide +kernel
theorem dH_write_30 : decode bH_write 30 = .ok (.iload_n 2, 1) := by decide +kernel
theorem dH_write_31 : decode bH_write 31 = .ok (.iastore, 1) := by decide +kernel
theorem dH_write_32 : decode bH_write 32 = .ok (.return_, 1) := by decide +kernel
theorem wH_write_31 {p : Program} {l : Launch} {e : Env} {s : State} {m : MethodId} {args : Array Value} {below : List Frame} {meth : Method} {c : Code} {G : GT} {I : List Nat} (C : CX p s m args meth c NH bH_write 3 none G I) (hI : cI I) {b : Nat} (hb : isSheet b) {fu : Nat} {Z : Sg} {t1 : Int32} {t2 : Int32} {z : Sg} {H : Heap} {locs : List Loc} {ls : Array Slot} (h : pH_write_31 fu b t1 t2 z = some Z) (hG : GW G I z s.heap H locs) (hl : lv_has ls 3 []) : W p l e rmH_write s m args below meth c H locs 0 0 (MQ below (Qv G I Z) args s 0 0 (AD G I)) (F0 m 31 ls [.int t2, .int t1, .ref (gA G (b + 1))]) := by
  unfold pH_write_31 at h
  refine rIast C hG (hI _ (hb.lt (k := 1) (by decide))) (eH_1 hb) h dH_write_31 (fun H locs z1 h hG => ?_)
  exact rRetv C hG h dH_write_32
theorem cH_write {l : Launch} {G : GT} {I : List Nat} (hI : cI I) {b : Nat} (hb : isSheet b) {fu : Nat} {v1 : Int32} {v2 : Int32} {z : Sg} {Z : Sg} (h : pH_write fu b v1 v2 z = some Z) : Mt l yH_write rmH_write bH_write 3 none G I z [.ref (gA G b), .int v1, .int v2] (Qv G I Z) := by
  refine entM (by decide +kernel) (Nat.le_of_ble_eq_true rfl) ?_
  intro p e s m below meth c C hG ls hl
  have hl : lv_has ls 3 [(0, .ref (gA G b)), (1, .int v1), (2, .int v2)] := hl
  unfold pH_write at h
  refine rAload_n C dH_write_0 hl 0 rfl ?_
  refine rGet C hG (hI _ hb.lt0) (eH_0 hb) fiH_0 (v := .ref (gA G (b + 1))) rfl k_117 dH_write_1 ?_
  refine rIload_n C dH_write_4 hl 1 rfl ?_
  refine rAload_n C dH_write_5 hl 0 rfl ?_
  refine rGet C hG (hI _ hb.lt0) (eH_0 hb) fiH_1 (v := .int (z b 1)) rfl k_119 dH_write_6 ?_
  refine rIfne C (tgt := 17) h dH_write_9 (by decide) (fun h => ?_) (fun h => ?_)
  · refine rAload_n C dH_write_17 hl 0 rfl ?_
    refine rGet C hG (hI _ hb.lt0) (eH_0 hb) fiH_1 (v := .int (z b 1)) rfl k_119 dH_write_18 ?_
    refine lv_iconst (v := 1) C.1 C.2.1 dH_write_21 (by decide) ?_
    refine rIcmpne C (tgt := 30) h dH_write_22 (by decide) (fun h => ?_) (fun h => ?_)
    · refine rIload_n C dH_write_30 hl 2 rfl ?_
      exact wH_write_31 C hI hb h hG (lv_sub hl [] rfl)
    · refine rIload_n C dH_write_25 hl 2 rfl ?_
      refine lv_i2s C.1 C.2.1 dH_write_26 rfl ?_
      refine lv_goto (tgt := 31) C.1 C.2.1 dH_write_27 (by decide) ?_
      exact wH_write_31 C hI hb h hG (lv_sub hl [] rfl)
  · refine rIload_n C dH_write_12 hl 2 rfl ?_
    refine lv_i2b C.1 C.2.1 dH_write_13 rfl ?_
    refine lv_goto (tgt := 31) C.1 C.2.1 dH_write_14 (by decide) ?_
    exact wH_write_31 C hI hb h hG (lv_sub hl [] rfl)
theorem dH_holds_0 : decode bH_holds 0 = .ok (.iload_n 1, 1) := by decide +kernel
theorem dH_holds_1 : decode bH_holds 1 = .ok (.ifCond .lt 25, 3) := by decide +kernel
theorem dH_holds_4 : decode bH_holds 4 = .ok (.iload_n 1, 1) := by decide +kernel
theorem dH_holds_5 : decode bH_holds 5 = .ok (.aload_n 0, 1) := by decide +kernel
theorem dH_holds_6 : decode bH_holds 6 = .ok (.getfield 19, 3) := by decide +kernel
theorem dH_holds_9 : decode bH_holds 9 = .ok (.if_icmp .gt 17, 3) := by decide +kernel
theorem dH_holds_12 : decode bH_holds 12 = .ok (.iload_n 2, 1) := by decide +kernel
theorem dH_holds_13 : decode bH_holds 13 = .ok (.aload_n 0, 1) := by decide +kernel
theorem dH_holds_14 : decode bH_holds 14 = .ok (.getfield 19, 3) := by decide +kernel
theorem dH_holds_17 : decode bH_holds 17 = .ok (.iload_n 1, 1) := by decide +kernel
theorem dH_holds_18 : decode bH_holds 18 = .ok (.isub, 1) := by decide +kernel
theorem dH_holds_19 : decode bH_holds 19 = .ok (.if_icmp .gt 7, 3) := by decide +kernel
theorem dH_holds_22 : decode bH_holds 22 = .ok (.iconst 1, 1) := by decide +kernel
theorem dH_holds_23 : decode bH_holds 23 = .ok (.goto 4, 3) := by decide +kernel
theorem dH_holds_26 : decode bH_holds 26 = .ok (.iconst 0, 1) := by decide +kernel
theorem dH_holds_27 : decode bH_holds 27 = .ok (.ireturn, 1) := by decide +kernel
theorem cH_holds {l : Launch} {G : GT} {I : List Nat} (hI : cI I) {b : Nat} (hb : isSheet b) {fu : Nat} {v1 : Int32} {v2 : Int32} {z : Sg} {R1 : Int32} {Z : Sg} (h : pH_holds fu b v1 v2 z = some (R1, Z)) : Mt l yH_holds rmH_holds bH_holds 3 (some .boolean) G I z [.ref (gA G b), .int v1, .int v2] (Qi G I R1 Z) := by
  refine entM (by decide +kernel) (Nat.le_of_ble_eq_true rfl) ?_
  intro p e s m below meth c C hG ls hl
  have hl : lv_has ls 3 [(0, .ref (gA G b)), (1, .int v1), (2, .int v2)] := hl
  unfold pH_holds at h
  refine rIload_n C dH_holds_0 hl 1 rfl ?_
  refine rIflt C (tgt := 26) h dH_holds_1 (by decide) (fun h => ?_) (fun h => ?_)
  · refine lv_iconst (v := 0) C.1 C.2.1 dH_holds_26 (by decide) ?_
    exact rRetn C hG (ty := .boolean) rfl rfl h dH_holds_27
  · refine rIload_n C dH_holds_4 hl 1 rfl ?_
    refine rAload_n C dH_holds_5 hl 0 rfl ?_
    refine rGet C hG (hI _ hb.lt0) (eH_0 hb) fiH_2 (v := .int (z b 2)) rfl k_121 dH_holds_6 ?_
    refine rIcmpgt C (tgt := 26) h dH_holds_9 (by decide) (fun h => ?_) (fun h => ?_)
    · refine lv_iconst (v := 0) C.1 C.2.1 dH_holds_26 (by decide) ?_
      exact rRetn C hG (ty := .boolean) rfl rfl h dH_holds_27
    · refine rIload_n C dH_holds_12 hl 2 rfl ?_
      refine rAload_n C dH_holds_13 hl 0 rfl ?_
      refine rGet C hG (hI _ hb.lt0) (eH_0 hb) fiH_2 (v := .int (z b 2)) rfl k_121 dH_holds_14 ?_
      refine rIload_n C dH_holds_17 hl 1 rfl ?_
      refine lv_isub C.1 C.2.1 dH_holds_18 ?_
      refine rIcmpgt C (tgt := 26) h dH_holds_19 (by decide) (fun h => ?_) (fun h => ?_)
      · refine lv_iconst (v := 0) C.1 C.2.1 dH_holds_26 (by decide) ?_
        exact rRetn C hG (ty := .boolean) rfl rfl h dH_holds_27
      · refine lv_iconst (v := 1) C.1 C.2.1 dH_holds_22 (by decide) ?_
        refine lv_goto (tgt := 27) C.1 C.2.1 dH_holds_23 (by decide) ?_
        exact rRetn C hG (ty := .boolean) rfl rfl h dH_holds_27
