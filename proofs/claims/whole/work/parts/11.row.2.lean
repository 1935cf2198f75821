theorem dR_clashBits_0 : decode bR_clashBits 0 = .ok (.iconst 0, 1) := by decide +kernel
theorem dR_clashBits_1 : decode bR_clashBits 1 = .ok (.istore_n 1, 1) := by decide +kernel
theorem dR_clashBits_2 : decode bR_clashBits 2 = .ok (.iconst 0, 1) := by decide +kernel
theorem dR_clashBits_3 : decode bR_clashBits 3 = .ok (.istore_n 2, 1) := by decide +kernel
theorem dR_clashBits_4 : decode bR_clashBits 4 = .ok (.iload_n 2, 1) := by decide +kernel
theorem dR_clashBits_5 : decode bR_clashBits 5 = .ok (.aload_n 0, 1) := by decide +kernel
theorem dR_clashBits_6 : decode bR_clashBits 6 = .ok (.getfield 39, 3) := by decide +kernel
theorem dR_clashBits_9 : decode bR_clashBits 9 = .ok (.if_icmp .ge 27, 3) := by decide +kernel
theorem dR_clashBits_12 : decode bR_clashBits 12 = .ok (.aload_n 0, 1) := by decide +kernel
theorem dR_clashBits_13 : decode bR_clashBits 13 = .ok (.iload_n 2, 1) := by decide +kernel
theorem dR_clashBits_14 : decode bR_clashBits 14 = .ok (.invokevirtual 61, 3) := by decide +kernel
theorem dR_clashBits_17 : decode bR_clashBits 17 = .ok (.aload_n 0, 1) := by decide +kernel
theorem dR_clashBits_18 : decode bR_clashBits 18 = .ok (.invokevirtual 65, 3) := by decide +kernel
theorem dR_clashBits_21 : decode bR_clashBits 21 = .ok (.ifCond .eq 9, 3) := by decide +kernel
theorem dR_clashBits_24 : decode bR_clashBits 24 = .ok (.iload_n 1, 1) := by decide +kernel
theorem dR_clashBits_25 : decode bR_clashBits 25 = .ok (.iconst 1, 1) := by decide +kernel
theorem dR_clashBits_26 : decode bR_clashBits 26 = .ok (.iload_n 2, 1) := by decide +kernel
theorem dR_clashBits_27 : decode bR_clashBits 27 = .ok (.ishl, 1) := by decide +kernel
theorem dR_clashBits_28 : decode bR_clashBits 28 = .ok (.ior, 1) := by decide +kernel
theorem dR_clashBits_29 : decode bR_clashBits 29 = .ok (.istore_n 1, 1) := by decide +kernel
theorem dR_clashBits_30 : decode bR_clashBits 30 = .ok (.iinc 2 1, 3) := by decide +kernel
theorem dR_clashBits_33 : decode bR_clashBits 33 = .ok (.goto (-29), 3) := by decide +kernel
theorem dR_clashBits_36 : decode bR_clashBits 36 = .ok (.iload_n 1, 1) := by decide +kernel
theorem dR_clashBits_37 : decode bR_clashBits 37 = .ok (.ireturn, 1) := by decide +kernel
theorem wR_clashBits_30 {p : Program} {l : Launch} {e : Env} {s : State} {m : MethodId} {args : Array Value} {below : List Frame} {meth : Method} {c : Code} {G : GT} {I : List Nat} (C : CX p s m args meth c NR bR_clashBits 3 (some .int) G I) (hI : cI I) {r : Nat} (hr : isRow r) {fu : Nat} {R1 : Int32} {Z : Sg} {rc4 : Int32 → Int32 → Sg → Option (Int32 × Sg)} (hr4 : ∀ {v1 : Int32} {v2 : Int32} {z : Sg} {H : Heap} {locs : List Loc} {ls : Array Slot}, rc4 v1 v2 z = some (R1, Z) → GW G I z s.heap H locs → lv_has ls 3 [(0, .ref (gA G r)), (1, .int v1), (2, .int v2)] → W p l e rmR_clashBits s m args below meth c H locs 0 0 (MQ below (Qi G I R1 Z) args s 0 0 (AD G I)) (F0 m 4 ls [])) {v1 : Int32} {v2 : Int32} {z : Sg} {H : Heap} {locs : List Loc} {ls : Array Slot} (h : pR_clashBits_30 fu r rc4 v1 v2 z = some (R1, Z)) (hG : GW G I z s.heap H locs) (hl : lv_has ls 3 [(0, .ref (gA G r)), (1, .int v1), (2, .int v2)]) : W p l e rmR_clashBits s m args below meth c H locs 0 0 (MQ below (Qi G I R1 Z) args s 0 0 (AD G I)) (F0 m 30 ls []) := by
  unfold pR_clashBits_30 at h
  refine rIinc C dR_clashBits_30 hl 2 rfl (d := 1) (by decide) h (by decide) [(0, .ref (gA G r)), (1, .int v1)] rfl (fun x5 ls h hl => ?_)
  refine lv_goto (tgt := 4) C.1 C.2.1 dR_clashBits_33 (by decide) ?_
  exact hr4 h hG (lv_sub hl [1, 2, 0] rfl)
theorem wR_clashBits_4 {p : Program} {l : Launch} {e : Env} {s : State} {m : MethodId} {args : Array Value} {below : List Frame} {meth : Method} {c : Code} {G : GT} {I : List Nat} (C : CX p s m args meth c NR bR_clashBits 3 (some .int) G I) (hI : cI I) {r : Nat} (hr : isRow r) {fu : Nat} {R1 : Int32} {Z : Sg} : ∀ (k : Nat) {v1 : Int32} {v2 : Int32} {z : Sg} {H : Heap} {locs : List Loc} {ls : Array Slot}, pR_clashBits_4 fu r k v1 v2 z = some (R1, Z) → GW G I z s.heap H locs → lv_has ls 3 [(0, .ref (gA G r)), (1, .int v1), (2, .int v2)] → W p l e rmR_clashBits s m args below meth c H locs 0 0 (MQ below (Qi G I R1 Z) args s 0 0 (AD G I)) (F0 m 4 ls []) := by
  intro k
  induction k with
  | zero => intro v1 v2 z H locs ls h hG hl; rw [pR_clashBits_4] at h; cases h
  | succ k ih =>
    intro v1 v2 z H locs ls h hG hl
    rw [pR_clashBits_4] at h
    refine rIload_n C dR_clashBits_4 hl 2 rfl ?_
    refine rAload_n C dR_clashBits_5 hl 0 rfl ?_
    refine rGet C hG (hI _ hr.lt0) (eR_0 hr) fiR_3 (v := .int (z r 3)) rfl k_145 dR_clashBits_6 ?_
    refine rIcmpge C (tgt := 36) h dR_clashBits_9 (by decide) (fun h => ?_) (fun h => ?_)
    · refine rIload_n C dR_clashBits_36 hl 1 rfl ?_
      exact rReti C hG h dR_clashBits_37
    · refine rAload_n C dR_clashBits_12 hl 0 rfl ?_
      refine rIload_n C dR_clashBits_13 hl 2 rfl ?_
      refine rCVv [.int v2] [] C hG h (fun h => cR_lookAt hI hr h) mvR_lookAt k_544 ⟨Nat.le_of_ble_eq_true rfl, Nat.le_of_ble_eq_true rfl⟩ ⟨rfl, rfl⟩ (rRecv C hG (hI _ hr.lt0) (eR_0 hr) rfl) rfl hl.1 (Nat.le_of_ble_eq_true rfl) dR_clashBits_14 ⟨Nat.zero_le _, Nat.zero_le _⟩ rfl (fun H locs z1 h hG => ?_)
      refine rAload_n C dR_clashBits_17 hl 0 rfl ?_
      refine rCVi [] [] C hG h (fun h => cR_clashes hI hr h) mvR_clashes k_527 ⟨Nat.le_of_ble_eq_true rfl, Nat.le_of_ble_eq_true rfl⟩ ⟨rfl, rfl⟩ (rRecv C hG (hI _ hr.lt0) (eR_0 hr) rfl) rfl hl.1 (Nat.le_of_ble_eq_true rfl) dR_clashBits_18 ⟨Nat.zero_le _, Nat.zero_le _⟩ rfl (fun H locs x3 z2 h hG => ?_)
      refine rIfeq C (tgt := 30) h dR_clashBits_21 (by decide) (fun h => ?_) (fun h => ?_)
      · exact wR_clashBits_30 C hI hr ih h hG (lv_sub hl [0, 1, 2] rfl)
      · refine rIload_n C dR_clashBits_24 hl 1 rfl ?_
        refine lv_iconst (v := 1) C.1 C.2.1 dR_clashBits_25 (by decide) ?_
        refine rIload_n C dR_clashBits_26 hl 2 rfl ?_
        refine lv_ishl C.1 C.2.1 dR_clashBits_27 ?_
        refine lv_ior C.1 C.2.1 dR_clashBits_28 ?_
        refine rIstore_n C dR_clashBits_29 hl h (by decide) [(0, .ref (gA G r)), (2, .int v2)] rfl (fun x4 ls h hl => ?_)
        exact wR_clashBits_30 C hI hr ih h hG (lv_sub hl [1, 0, 2] rfl)
theorem cR_clashBits {l : Launch} {G : GT} {I : List Nat} (hI : cI I) {r : Nat} (hr : isRow r) {fu : Nat} {z : Sg} {R1 : Int32} {Z : Sg} (h : pR_clashBits fu r z = some (R1, Z)) : Mt l yR_clashBits rmR_clashBits bR_clashBits 3 (some .int) G I z [.ref (gA G r)] (Qi G I R1 Z) := by
  refine entM (by decide +kernel) (Nat.le_of_ble_eq_true rfl) ?_
  intro p e s m below meth c C hG ls hl
  have hl : lv_has ls 3 [(0, .ref (gA G r))] := hl
  unfold pR_clashBits at h
  refine lv_iconst (v := 0) C.1 C.2.1 dR_clashBits_0 (by decide) ?_
  refine rIstoreA_n C dR_clashBits_1 hl (by decide) [(0, .ref (gA G r))] rfl (fun ls hl => ?_)
  refine lv_iconst (v := 0) C.1 C.2.1 dR_clashBits_2 (by decide) ?_
  refine rIstoreA_n C dR_clashBits_3 hl (by decide) [(1, .int 0), (0, .ref (gA G r))] rfl (fun ls hl => ?_)
  exact wR_clashBits_4 C hI hr _ h hG (lv_sub hl [2, 1, 0] rfl)
theorem dR_anySpent_0 : decode bR_anySpent 0 = .ok (.iconst 0, 1) := by decide +kernel
theorem dR_anySpent_1 : decode bR_anySpent 1 = .ok (.istore_n 1, 1) := by decide +kernel
theorem dR_anySpent_2 : decode bR_anySpent 2 = .ok (.iload_n 1, 1) := by decide +kernel
theorem dR_anySpent_3 : decode bR_anySpent 3 = .ok (.aload_n 0, 1) := by decide +kernel
theorem dR_anySpent_4 : decode bR_anySpent 4 = .ok (.getfield 39, 3) := by decide +kernel
theorem dR_anySpent_7 : decode bR_anySpent 7 = .ok (.if_icmp .ge 24, 3) := by decide +kernel
theorem dR_anySpent_10 : decode bR_anySpent 10 = .ok (.aload_n 0, 1) := by decide +kernel
theorem dR_anySpent_11 : decode bR_anySpent 11 = .ok (.getfield 17, 3) := by decide +kernel
theorem dR_anySpent_14 : decode bR_anySpent 14 = .ok (.iconst 2, 1) := by decide +kernel
theorem dR_anySpent_15 : decode bR_anySpent 15 = .ok (.aaload, 1) := by decide +kernel
theorem dR_anySpent_16 : decode bR_anySpent 16 = .ok (.iload_n 1, 1) := by decide +kernel
theorem dR_anySpent_17 : decode bR_anySpent 17 = .ok (.iaload, 1) := by decide +kernel
theorem dR_anySpent_18 : decode bR_anySpent 18 = .ok (.bipush 99, 2) := by decide +kernel
theorem dR_anySpent_20 : decode bR_anySpent 20 = .ok (.if_icmp .lt 5, 3) := by decide +kernel
theorem dR_anySpent_23 : decode bR_anySpent 23 = .ok (.iconst 1, 1) := by decide +kernel
theorem dR_anySpent_24 : decode bR_anySpent 24 = .ok (.ireturn, 1) := by decide +kernel
theorem dR_anySpent_25 : decode bR_anySpent 25 = .ok (.iinc 1 1, 3) := by decide +kernel
theorem dR_anySpent_28 : decode bR_anySpent 28 = .ok (.goto (-26), 3) := by decide +kernel
theorem dR_anySpent_31 : decode bR_anySpent 31 = .ok (.iconst 0, 1) := by decide +kernel
theorem dR_anySpent_32 : decode bR_anySpent 32 = .ok (.ireturn, 1) := by decide +kernel
theorem wR_anySpent_2 {p : Program} {l : Launch} {e : Env} {s : State} {m : MethodId} {args : Array Value} {below : List Frame} {meth : Method} {c : Code} {G : GT} {I : List Nat} (C : CX p s m args meth c NR bR_anySpent 2 (some .boolean) G I) (hI : cI I) {r : Nat} (hr : isRow r) {fu : Nat} {R1 : Int32} {Z : Sg} : ∀ (k : Nat) {v1 : Int32} {z : Sg} {H : Heap} {locs : List Loc} {ls : Array Slot}, pR_anySpent_2 fu r k v1 z = some (R1, Z) → GW G I z s.heap H locs → lv_has ls 2 [(0, .ref (gA G r)), (1, .int v1)] → W p l e rmR_anySpent s m args below meth c H locs 0 0 (MQ below (Qi G I R1 Z) args s 0 0 (AD G I)) (F0 m 2 ls []) := by
  intro k
  induction k with
  | zero => intro v1 z H locs ls h hG hl; rw [pR_anySpent_2] at h; cases h
  | succ k ih =>
    intro v1 z H locs ls h hG hl
    rw [pR_anySpent_2] at h
    refine rIload_n C dR_anySpent_2 hl 1 rfl ?_
    refine rAload_n C dR_anySpent_3 hl 0 rfl ?_
    refine rGet C hG (hI _ hr.lt0) (eR_0 hr) fiR_3 (v := .int (z r 3)) rfl k_145 dR_anySpent_4 ?_
    refine rIcmpge C (tgt := 31) h dR_anySpent_7 (by decide) (fun h => ?_) (fun h => ?_)
    · refine lv_iconst (v := 0) C.1 C.2.1 dR_anySpent_31 (by decide) ?_
      exact rRetn C hG (ty := .boolean) rfl rfl h dR_anySpent_32
    · refine rAload_n C dR_anySpent_10 hl 0 rfl ?_
      refine rGet C hG (hI _ hr.lt0) (eR_0 hr) fiR_2 (v := .ref (gA G (r + 2))) rfl k_141 dR_anySpent_11 ?_
      refine lv_iconst (v := 2) C.1 C.2.1 dR_anySpent_14 (by decide) ?_
      refine rAaldK C hG (hI _ (hr.lt (k := 2) (by decide))) (eR_2 hr) (t0 := 3) rfl rfl 2 (by decide) (by decide) (r + 5) rfl dR_anySpent_15 ?_
      refine rIload_n C dR_anySpent_16 hl 1 rfl ?_
      refine rIald C hG (hI _ (hr.lt (k := 5) (by decide))) (eR_5 hr) h dR_anySpent_17 (fun h => ?_)
      refine lv_bipush (v := 99) C.1 C.2.1 dR_anySpent_18 (by decide) ?_
      refine rIcmplt C (tgt := 25) h dR_anySpent_20 (by decide) (fun h => ?_) (fun h => ?_)
      · refine rIinc C dR_anySpent_25 hl 1 rfl (d := 1) (by decide) h (by decide) [(0, .ref (gA G r))] rfl (fun x1 ls h hl => ?_)
        refine lv_goto (tgt := 2) C.1 C.2.1 dR_anySpent_28 (by decide) ?_
        exact ih h hG (lv_sub hl [1, 0] rfl)
      · refine lv_iconst (v := 1) C.1 C.2.1 dR_anySpent_23 (by decide) ?_
        exact rRetn C hG (ty := .boolean) rfl rfl h dR_anySpent_24
theorem cR_anySpent {l : Launch} {G : GT} {I : List Nat} (hI : cI I) {r : Nat} (hr : isRow r) {fu : Nat} {z : Sg} {R1 : Int32} {Z : Sg} (h : pR_anySpent fu r z = some (R1, Z)) : Mt l yR_anySpent rmR_anySpent bR_anySpent 2 (some .boolean) G I z [.ref (gA G r)] (Qi G I R1 Z) := by
  refine entM (by decide +kernel) (Nat.le_of_ble_eq_true rfl) ?_
  intro p e s m below meth c C hG ls hl
  have hl : lv_has ls 2 [(0, .ref (gA G r))] := hl
  unfold pR_anySpent at h
  refine lv_iconst (v := 0) C.1 C.2.1 dR_anySpent_0 (by decide) ?_
  refine rIstoreA_n C dR_anySpent_1 hl (by decide) [(0, .ref (gA G r))] rfl (fun ls hl => ?_)
  exact wR_anySpent_2 C hI hr _ h hG (lv_sub hl [1, 0] rfl)
theorem dR_nextLot_0 : decode bR_nextLot 0 = .ok (.lload_n 0, 1) := by decide +kernel
theorem dR_nextLot_1 : decode bR_nextLot 1 = .ok (.ldc2_w 120, 3) := by decide +kernel
theorem dR_nextLot_4 : decode bR_nextLot 4 = .ok (.lmul, 1) := by decide +kernel
theorem dR_nextLot_5 : decode bR_nextLot 5 = .ok (.ldc2_w 122, 3) := by decide +kernel
theorem dR_nextLot_8 : decode bR_nextLot 8 = .ok (.lrem, 1) := by decide +kernel
theorem dR_nextLot_9 : decode bR_nextLot 9 = .ok (.lreturn, 1) := by decide +kernel
theorem cR_nextLot {l : Launch} {G : GT} {I : List Nat} (hI : cI I) {fu : Nat} {v0 : Int64} {z : Sg} {R1 : Int64} {Z : Sg} (h : pR_nextLot fu v0 z = some (R1, Z)) : Mt l yR_nextLot rmR_nextLot bR_nextLot 2 (some .long) G I z [.long v0] (Ql G I R1 Z) := by
  refine entM (by decide +kernel) (Nat.le_of_ble_eq_true rfl) ?_
  intro p e s m below meth c C hG ls hl
  have hl : lv_has ls 2 [(0, .long v0)] := hl
  unfold pR_nextLot at h
  refine rLload_n C dR_nextLot_0 hl 0 rfl ?_
  refine lv_ldc2 C.1 C.2.1 C.2.2.2.1 (C.2.2.2.2.1 _ k_711) dR_nextLot_1 ?_
  refine lv_lmul C.1 C.2.1 dR_nextLot_4 ?_
  refine lv_ldc2 C.1 C.2.1 C.2.2.2.1 (C.2.2.2.2.1 _ k_712) dR_nextLot_5 ?_
  refine lv_lrem C.1 C.2.1 dR_nextLot_8 (by decide) ?_
  exact rRetl C hG h dR_nextLot_9
theorem dR_cutByGusts_0 : decode bR_cutByGusts 0 = .ok (.iload_n 1, 1) := by decide +kernel
theorem dR_cutByGusts_1 : decode bR_cutByGusts 1 = .ok (.i2l, 1) := by decide +kernel
theorem dR_cutByGusts_2 : decode bR_cutByGusts 2 = .ok (.lconst 1, 1) := by decide +kernel
theorem dR_cutByGusts_3 : decode bR_cutByGusts 3 = .ok (.ladd, 1) := by decide +kernel
theorem dR_cutByGusts_4 : decode bR_cutByGusts 4 = .ok (.lstore_n 2, 1) := by decide +kernel
theorem dR_cutByGusts_5 : decode bR_cutByGusts 5 = .ok (.iconst 0, 1) := by decide +kernel
theorem dR_cutByGusts_6 : decode bR_cutByGusts 6 = .ok (.istore 4, 2) := by decide +kernel
theorem dR_cutByGusts_8 : decode bR_cutByGusts 8 = .ok (.iconst 0, 1) := by decide +kernel
theorem dR_cutByGusts_9 : decode bR_cutByGusts 9 = .ok (.istore 5, 2) := by decide +kernel
theorem dR_cutByGusts_11 : decode bR_cutByGusts 11 = .ok (.iload 5, 2) := by decide +kernel
theorem dR_cutByGusts_13 : decode bR_cutByGusts 13 = .ok (.bipush 10, 2) := by decide +kernel
theorem dR_cutByGusts_15 : decode bR_cutByGusts 15 = .ok (.if_icmp .ge 71, 3) := by decide +kernel
theorem dR_cutByGusts_18 : decode bR_cutByGusts 18 = .ok (.lload_n 2, 1) := by decide +kernel
theorem dR_cutByGusts_19 : decode bR_cutByGusts 19 = .ok (.invokestatic 112, 3) := by decide +kernel
theorem dR_cutByGusts_22 : decode bR_cutByGusts 22 = .ok (.lstore_n 2, 1) := by decide +kernel
theorem dR_cutByGusts_23 : decode bR_cutByGusts 23 = .ok (.lload_n 2, 1) := by decide +kernel
theorem dR_cutByGusts_24 : decode bR_cutByGusts 24 = .ok (.ldc2_w 116, 3) := by decide +kernel
theorem dR_cutByGusts_27 : decode bR_cutByGusts 27 = .ok (.lrem, 1) := by decide +kernel
theorem dR_cutByGusts_28 : decode bR_cutByGusts 28 = .ok (.l2i, 1) := by decide +kernel
theorem dR_cutByGusts_29 : decode bR_cutByGusts 29 = .ok (.istore 6, 2) := by decide +kernel
theorem dR_cutByGusts_31 : decode bR_cutByGusts 31 = .ok (.lload_n 2, 1) := by decide +kernel
theorem dR_cutByGusts_32 : decode bR_cutByGusts 32 = .ok (.invokestatic 112, 3) := by decide +kernel
theorem dR_cutByGusts_35 : decode bR_cutByGusts 35 = .ok (.lstore_n 2, 1) := by decide +kernel
theorem dR_cutByGusts_36 : decode bR_cutByGusts 36 = .ok (.iload 6, 2) := by decide +kernel
theorem dR_cutByGusts_38 : decode bR_cutByGusts 38 = .ok (.aload_n 0, 1) := by decide +kernel
theorem dR_cutByGusts_39 : decode bR_cutByGusts 39 = .ok (.getfield 39, 3) := by decide +kernel
theorem dR_cutByGusts_42 : decode bR_cutByGusts 42 = .ok (.if_icmp .ge 29, 3) := by decide +kernel
theorem dR_cutByGusts_45 : decode bR_cutByGusts 45 = .ok (.aload_n 0, 1) := by decide +kernel
theorem dR_cutByGusts_46 : decode bR_cutByGusts 46 = .ok (.getfield 17, 3) := by decide +kernel
theorem dR_cutByGusts_49 : decode bR_cutByGusts 49 = .ok (.iconst 1, 1) := by decide +kernel
theorem dR_cutByGusts_50 : decode bR_cutByGusts 50 = .ok (.aaload, 1) := by decide +kernel
theorem dR_cutByGusts_51 : decode bR_cutByGusts 51 = .ok (.iload 6, 2) := by decide +kernel
theorem dR_cutByGusts_53 : decode bR_cutByGusts 53 = .ok (.aload_n 0, 1) := by decide +kernel
theorem dR_cutByGusts_54 : decode bR_cutByGusts 54 = .ok (.getfield 17, 3) := by decide +kernel
theorem dR_cutByGusts_57 : decode bR_cutByGusts 57 = .ok (.iconst 1, 1) := by decide +kernel
theorem dR_cutByGusts_58 : decode bR_cutByGusts 58 = .ok (.aaload, 1) := by decide +kernel
theorem dR_cutByGusts_59 : decode bR_cutByGusts 59 = .ok (.iload 6, 2) := by decide +kernel
theorem dR_cutByGusts_61 : decode bR_cutByGusts 61 = .ok (.iaload, 1) := by decide +kernel
theorem dR_cutByGusts_62 : decode bR_cutByGusts 62 = .ok (.i2l, 1) := by decide +kernel
theorem dR_cutByGusts_63 : decode bR_cutByGusts 63 = .ok (.lload_n 2, 1) := by decide +kernel
theorem dR_cutByGusts_64 : decode bR_cutByGusts 64 = .ok (.ladd, 1) := by decide +kernel
theorem dR_cutByGusts_65 : decode bR_cutByGusts 65 = .ok (.ldc2_w 118, 3) := by decide +kernel
theorem dR_cutByGusts_68 : decode bR_cutByGusts 68 = .ok (.lrem, 1) := by decide +kernel
theorem dR_cutByGusts_69 : decode bR_cutByGusts 69 = .ok (.l2i, 1) := by decide +kernel
theorem dR_cutByGusts_70 : decode bR_cutByGusts 70 = .ok (.iastore, 1) := by decide +kernel
theorem dR_cutByGusts_71 : decode bR_cutByGusts 71 = .ok (.iload 4, 2) := by decide +kernel
theorem dR_cutByGusts_73 : decode bR_cutByGusts 73 = .ok (.aload_n 0, 1) := by decide +kernel
theorem dR_cutByGusts_74 : decode bR_cutByGusts 74 = .ok (.invokevirtual 109, 3) := by decide +kernel
theorem dR_cutByGusts_77 : decode bR_cutByGusts 77 = .ok (.iadd, 1) := by decide +kernel
theorem dR_cutByGusts_78 : decode bR_cutByGusts 78 = .ok (.istore 4, 2) := by decide +kernel
theorem dR_cutByGusts_80 : decode bR_cutByGusts 80 = .ok (.iinc 5 1, 3) := by decide +kernel
theorem dR_cutByGusts_83 : decode bR_cutByGusts 83 = .ok (.goto (-72), 3) := by decide +kernel
theorem dR_cutByGusts_86 : decode bR_cutByGusts 86 = .ok (.iload 4, 2) := by decide +kernel
theorem dR_cutByGusts_88 : decode bR_cutByGusts 88 = .ok (.ireturn, 1) := by decide +kernel
theorem wR_cutByGusts_71 {p : Program} {l : Launch} {e : Env} {s : State} {m : MethodId} {args : Array Value} {below : List Frame} {meth : Method} {c : Code} {G : GT} {I : List Nat} (C : CX p s m args meth c NR bR_cutByGusts 7 (some .int) G I) (hI : cI I) {r : Nat} (hr : isRow r) {fu : Nat} {R1 : Int32} {Z : Sg} {rc11 : Int64 → Int32 → Int32 → Sg → Option (Int32 × Sg)} (hr11 : ∀ {v2 : Int64} {v4 : Int32} {v5 : Int32} {z : Sg} {H : Heap} {locs : List Loc} {ls : Array Slot}, rc11 v2 v4 v5 z = some (R1, Z) → GW G I z s.heap H locs → lv_has ls 7 [(0, .ref (gA G r)), (2, .long v2), (4, .int v4), (5, .int v5)] → W p l e rmR_cutByGusts s m args below meth c H locs 0 0 (MQ below (Qi G I R1 Z) args s 0 0 (AD G I)) (F0 m 11 ls [])) {v2 : Int64} {v4 : Int32} {v5 : Int32} {z : Sg} {H : Heap} {locs : List Loc} {ls : Array Slot} (h : pR_cutByGusts_71 fu r rc11 v2 v4 v5 z = some (R1, Z)) (hG : GW G I z s.heap H locs) (hl : lv_has ls 7 [(0, .ref (gA G r)), (2, .long v2), (4, .int v4), (5, .int v5)]) : W p l e rmR_cutByGusts s m args below meth c H locs 0 0 (MQ below (Qi G I R1 Z) args s 0 0 (AD G I)) (F0 m 71 ls []) := by
  unfold pR_cutByGusts_71 at h
  refine rIload C dR_cutByGusts_71 hl 2 rfl ?_
  refine rAload_n C dR_cutByGusts_73 hl 0 rfl ?_
  refine rCVi [] [.int v4] C hG h (fun h => cR_swingOn hI hr h) mvR_swingOn k_561 ⟨Nat.le_of_ble_eq_true rfl, Nat.le_of_ble_eq_true rfl⟩ ⟨rfl, rfl⟩ (rRecv C hG (hI _ hr.lt0) (eR_0 hr) rfl) rfl hl.1 (Nat.le_of_ble_eq_true rfl) dR_cutByGusts_74 ⟨Nat.zero_le _, Nat.zero_le _⟩ rfl (fun H locs x11 z10 h hG => ?_)
  refine lv_iadd C.1 C.2.1 dR_cutByGusts_77 ?_
  refine rIstore C dR_cutByGusts_78 hl h (by decide) [(0, .ref (gA G r)), (2, .long v2), (5, .int v5)] rfl (fun x12 ls h hl => ?_)
  refine rIinc C dR_cutByGusts_80 hl 3 rfl (d := 1) (by decide) h (by decide) [(4, .int x12), (0, .ref (gA G r)), (2, .long v2)] rfl (fun x13 ls h hl => ?_)
  refine lv_goto (tgt := 11) C.1 C.2.1 dR_cutByGusts_83 (by decide) ?_
  exact hr11 h hG (lv_sub hl [2, 3, 1, 0] rfl)
theorem wR_cutByGusts_11 {p : Program} {l : Launch} {e : Env} {s : State} {m : MethodId} {args : Array Value} {below : List Frame} {meth : Method} {c : Code} {G : GT} {I : List Nat} (C : CX p s m args meth c NR bR_cutByGusts 7 (some .int) G I) (hI : cI I) {r : Nat} (hr : isRow r) {fu : Nat} {R1 : Int32} {Z : Sg} : ∀ (k : Nat) {v2 : Int64} {v4 : Int32} {v5 : Int32} {z : Sg} {H : Heap} {locs : List Loc} {ls : Array Slot}, pR_cutByGusts_11 fu r k v2 v4 v5 z = some (R1, Z) → GW G I z s.heap H locs → lv_has ls 7 [(0, .ref (gA G r)), (2, .long v2), (4, .int v4), (5, .int v5)] → W p l e rmR_cutByGusts s m args below meth c H locs 0 0 (MQ below (Qi G I R1 Z) args s 0 0 (AD G I)) (F0 m 11 ls []) := by
  intro k
  induction k with
  | zero => intro v2 v4 v5 z H locs ls h hG hl; rw [pR_cutByGusts_11] at h; cases h
  | succ k ih =>
    intro v2 v4 v5 z H locs ls h hG hl
    rw [pR_cutByGusts_11] at h
    refine rIload C dR_cutByGusts_11 hl 3 rfl ?_
    refine lv_bipush (v := 10) C.1 C.2.1 dR_cutByGusts_13 (by decide) ?_
    refine rIcmpge C (tgt := 86) h dR_cutByGusts_15 (by decide) (fun h => ?_) (fun h => ?_)
    · refine rIload C dR_cutByGusts_86 hl 2 rfl ?_
      exact rReti C hG h dR_cutByGusts_88
    · refine rLload_n C dR_cutByGusts_18 hl 1 rfl ?_
      refine rCSl [.long v2] [] C hG h (fun h => cR_nextLot hI h) mvR_nextLot k_708 ⟨Nat.le_of_ble_eq_true rfl, Nat.le_of_ble_eq_true rfl⟩ ⟨rfl, rfl⟩ rfl hl.1 (Nat.le_of_ble_eq_true rfl) dR_cutByGusts_19 ⟨Nat.zero_le _, Nat.zero_le _⟩ rfl (fun H locs y3 z2 h hG => ?_)
      refine rLstore_n C dR_cutByGusts_22 hl h (by decide) [(0, .ref (gA G r)), (4, .int v4), (5, .int v5)] rfl (fun y4 ls h hl => ?_)
      refine rLload_n C dR_cutByGusts_23 hl 0 rfl ?_
      refine lv_ldc2 C.1 C.2.1 C.2.2.2.1 (C.2.2.2.2.1 _ k_713) dR_cutByGusts_24 ?_
      refine lv_lrem C.1 C.2.1 dR_cutByGusts_27 (by decide) ?_
      refine lv_l2i C.1 C.2.1 dR_cutByGusts_28 rfl ?_
      refine rIstore C dR_cutByGusts_29 hl h (by decide) [(2, .long y4), (0, .ref (gA G r)), (4, .int v4), (5, .int v5)] rfl (fun x5 ls h hl => ?_)
      refine rLload_n C dR_cutByGusts_31 hl 1 rfl ?_
      refine rCSl [.long y4] [] C hG h (fun h => cR_nextLot hI h) mvR_nextLot k_708 ⟨Nat.le_of_ble_eq_true rfl, Nat.le_of_ble_eq_true rfl⟩ ⟨rfl, rfl⟩ rfl hl.1 (Nat.le_of_ble_eq_true rfl) dR_cutByGusts_32 ⟨Nat.zero_le _, Nat.zero_le _⟩ rfl (fun H locs y7 z6 h hG => ?_)
      refine rLstore_n C dR_cutByGusts_35 hl h (by decide) [(6, .int x5), (0, .ref (gA G r)), (4, .int v4), (5, .int v5)] rfl (fun y8 ls h hl => ?_)
      refine rIload C dR_cutByGusts_36 hl 1 rfl ?_
      refine rAload_n C dR_cutByGusts_38 hl 2 rfl ?_
      refine rGet C hG (hI _ hr.lt0) (eR_0 hr) fiR_3 (v := .int (z6 r 3)) rfl k_145 dR_cutByGusts_39 ?_
      refine rIcmpge C (tgt := 71) h dR_cutByGusts_42 (by decide) (fun h => ?_) (fun h => ?_)
      · exact wR_cutByGusts_71 C hI hr ih h hG (lv_sub hl [2, 0, 3, 4] rfl)
      · refine rAload_n C dR_cutByGusts_45 hl 2 rfl ?_
        refine rGet C hG (hI _ hr.lt0) (eR_0 hr) fiR_2 (v := .ref (gA G (r + 2))) rfl k_141 dR_cutByGusts_46 ?_
        refine lv_iconst (v := 1) C.1 C.2.1 dR_cutByGusts_49 (by decide) ?_
        refine rAaldK C hG (hI _ (hr.lt (k := 2) (by decide))) (eR_2 hr) (t0 := 3) rfl rfl 1 (by decide) (by decide) (r + 4) rfl dR_cutByGusts_50 ?_
        refine rIload C dR_cutByGusts_51 hl 1 rfl ?_
        refine rAload_n C dR_cutByGusts_53 hl 2 rfl ?_
        refine rGet C hG (hI _ hr.lt0) (eR_0 hr) fiR_2 (v := .ref (gA G (r + 2))) rfl k_141 dR_cutByGusts_54 ?_
        refine lv_iconst (v := 1) C.1 C.2.1 dR_cutByGusts_57 (by decide) ?_
        refine rAaldK C hG (hI _ (hr.lt (k := 2) (by decide))) (eR_2 hr) (t0 := 3) rfl rfl 1 (by decide) (by decide) (r + 4) rfl dR_cutByGusts_58 ?_
        refine rIload C dR_cutByGusts_59 hl 1 rfl ?_
        refine rIald C hG (hI _ (hr.lt (k := 4) (by decide))) (eR_4 hr) h dR_cutByGusts_61 (fun h => ?_)
        refine lv_i2l C.1 C.2.1 dR_cutByGusts_62 rfl ?_
        refine rLload_n C dR_cutByGusts_63 hl 0 rfl ?_
        refine lv_ladd C.1 C.2.1 dR_cutByGusts_64 ?_
        refine lv_ldc2 C.1 C.2.1 C.2.2.2.1 (C.2.2.2.2.1 _ k_714) dR_cutByGusts_65 ?_
        refine lv_lrem C.1 C.2.1 dR_cutByGusts_68 (by decide) ?_
        refine lv_l2i C.1 C.2.1 dR_cutByGusts_69 rfl ?_
        refine rIast C hG (hI _ (hr.lt (k := 4) (by decide))) (eR_4 hr) h dR_cutByGusts_70 (fun H locs z9 h hG => ?_)
        exact wR_cutByGusts_71 C hI hr ih h hG (lv_sub hl [2, 0, 3, 4] rfl)
theorem cR_cutByGusts {l : Launch} {G : GT} {I : List Nat} (hI : cI I) {r : Nat} (hr : isRow r) {fu : Nat} {v1 : Int32} {z : Sg} {R1 : Int32} {Z : Sg} (h : pR_cutByGusts fu r v1 z = some (R1, Z)) : Mt l yR_cutByGusts rmR_cutByGusts bR_cutByGusts 7 (some .int) G I z [.ref (gA G r), .int v1] (Qi G I R1 Z) := by
  refine entM (by decide +kernel) (Nat.le_of_ble_eq_true rfl) ?_
  intro p e s m below meth c C hG ls hl
  have hl : lv_has ls 7 [(0, .ref (gA G r)), (1, .int v1)] := hl
  unfold pR_cutByGusts at h
  refine rIload_n C dR_cutByGusts_0 hl 1 rfl ?_
  refine lv_i2l C.1 C.2.1 dR_cutByGusts_1 rfl ?_
  refine lv_lconst (v := 1) C.1 C.2.1 dR_cutByGusts_2 (by decide) ?_
  refine lv_ladd C.1 C.2.1 dR_cutByGusts_3 ?_
  refine rLstore_n C dR_cutByGusts_4 hl h (by decide) [(0, .ref (gA G r)), (1, .int v1)] rfl (fun y1 ls h hl => ?_)
  refine lv_iconst (v := 0) C.1 C.2.1 dR_cutByGusts_5 (by decide) ?_
  refine rIstoreA C dR_cutByGusts_6 hl (by decide) [(2, .long y1), (0, .ref (gA G r)), (1, .int v1)] rfl (fun ls hl => ?_)
  refine lv_iconst (v := 0) C.1 C.2.1 dR_cutByGusts_8 (by decide) ?_
  refine rIstoreA C dR_cutByGusts_9 hl (by decide) [(4, .int 0), (2, .long y1), (0, .ref (gA G r)), (1, .int v1)] rfl (fun ls hl => ?_)
  exact wR_cutByGusts_11 C hI hr _ h hG (lv_sub hl [3, 2, 1, 0] rfl)
