theorem dR_inStep_0 : decode bR_inStep 0 = .ok (.aload_n 0, 1) := by decide +kernel
theorem dR_inStep_1 : decode bR_inStep 1 = .ok (.getfield 17, 3) := by decide +kernel
theorem dR_inStep_4 : decode bR_inStep 4 = .ok (.iconst 1, 1) := by decide +kernel
theorem dR_inStep_5 : decode bR_inStep 5 = .ok (.aaload, 1) := by decide +kernel
theorem dR_inStep_6 : decode bR_inStep 6 = .ok (.iload_n 1, 1) := by decide +kernel
theorem dR_inStep_7 : decode bR_inStep 7 = .ok (.iaload, 1) := by decide +kernel
theorem dR_inStep_8 : decode bR_inStep 8 = .ok (.aload_n 0, 1) := by decide +kernel
theorem dR_inStep_9 : decode bR_inStep 9 = .ok (.getfield 9, 3) := by decide +kernel
theorem dR_inStep_12 : decode bR_inStep 12 = .ok (.iconst 1, 1) := by decide +kernel
theorem dR_inStep_13 : decode bR_inStep 13 = .ok (.iaload, 1) := by decide +kernel
theorem dR_inStep_14 : decode bR_inStep 14 = .ok (.if_icmp .ne 7, 3) := by decide +kernel
theorem dR_inStep_17 : decode bR_inStep 17 = .ok (.iconst 1, 1) := by decide +kernel
theorem dR_inStep_18 : decode bR_inStep 18 = .ok (.goto 4, 3) := by decide +kernel
theorem dR_inStep_21 : decode bR_inStep 21 = .ok (.iconst 0, 1) := by decide +kernel
theorem dR_inStep_22 : decode bR_inStep 22 = .ok (.ireturn, 1) := by decide +kernel
theorem cR_inStep {l : Launch} {G : GT} {I : List Nat} (hI : cI I) {r : Nat} (hr : isRow r) {fu : Nat} {v1 : Int32} {z : Sg} {R1 : Int32} {Z : Sg} (h : pR_inStep fu r v1 z = some (R1, Z)) : Mt l yR_inStep rmR_inStep bR_inStep 2 (some .boolean) G I z [.ref (gA G r), .int v1] (Qi G I R1 Z) := by
  refine entM (by decide +kernel) (Nat.le_of_ble_eq_true rfl) ?_
  intro p e s m below meth c C hG ls hl
  have hl : lv_has ls 2 [(0, .ref (gA G r)), (1, .int v1)] := hl
  unfold pR_inStep at h
  refine rAload_n C dR_inStep_0 hl 0 rfl ?_
  refine rGet C hG (hI _ hr.lt0) (eR_0 hr) fiR_2 (v := .ref (gA G (r + 2))) rfl k_141 dR_inStep_1 ?_
  refine lv_iconst (v := 1) C.1 C.2.1 dR_inStep_4 (by decide) ?_
  refine rAaldK C hG (hI _ (hr.lt (k := 2) (by decide))) (eR_2 hr) (t0 := 3) rfl rfl 1 (by decide) (by decide) (r + 4) rfl dR_inStep_5 ?_
  refine rIload_n C dR_inStep_6 hl 1 rfl ?_
  refine rIald C hG (hI _ (hr.lt (k := 4) (by decide))) (eR_4 hr) h dR_inStep_7 (fun h => ?_)
  refine rAload_n C dR_inStep_8 hl 0 rfl ?_
  refine rGet C hG (hI _ hr.lt0) (eR_0 hr) fiR_1 (v := .ref (gA G (r + 1))) rfl k_139 dR_inStep_9 ?_
  refine lv_iconst (v := 1) C.1 C.2.1 dR_inStep_12 (by decide) ?_
  refine rIaldK C hG (hI _ (hr.lt (k := 1) (by decide))) (eR_1 hr) 1 (by decide) (by decide) dR_inStep_13 ?_
  refine rIcmpne C (tgt := 21) h dR_inStep_14 (by decide) (fun h => ?_) (fun h => ?_)
  · refine lv_iconst (v := 0) C.1 C.2.1 dR_inStep_21 (by decide) ?_
    exact rRetn C hG (ty := .boolean) rfl rfl h dR_inStep_22
  · refine lv_iconst (v := 1) C.1 C.2.1 dR_inStep_17 (by decide) ?_
    refine lv_goto (tgt := 22) C.1 C.2.1 dR_inStep_18 (by decide) ?_
    exact rRetn C hG (ty := .boolean) rfl rfl h dR_inStep_22
theorem dR_inStepBits_0 : decode bR_inStepBits 0 = .ok (.iconst 0, 1) := by decide +kernel
theorem dR_inStepBits_1 : decode bR_inStepBits 1 = .ok (.istore_n 1, 1) := by decide +kernel
theorem dR_inStepBits_2 : decode bR_inStepBits 2 = .ok (.iconst 0, 1) := by decide +kernel
theorem dR_inStepBits_3 : decode bR_inStepBits 3 = .ok (.istore_n 2, 1) := by decide +kernel
theorem dR_inStepBits_4 : decode bR_inStepBits 4 = .ok (.iload_n 2, 1) := by decide +kernel
theorem dR_inStepBits_5 : decode bR_inStepBits 5 = .ok (.aload_n 0, 1) := by decide +kernel
theorem dR_inStepBits_6 : decode bR_inStepBits 6 = .ok (.getfield 39, 3) := by decide +kernel
theorem dR_inStepBits_9 : decode bR_inStepBits 9 = .ok (.if_icmp .ge 23, 3) := by decide +kernel
theorem dR_inStepBits_12 : decode bR_inStepBits 12 = .ok (.aload_n 0, 1) := by decide +kernel
theorem dR_inStepBits_13 : decode bR_inStepBits 13 = .ok (.iload_n 2, 1) := by decide +kernel
theorem dR_inStepBits_14 : decode bR_inStepBits 14 = .ok (.invokevirtual 58, 3) := by decide +kernel
theorem dR_inStepBits_17 : decode bR_inStepBits 17 = .ok (.ifCond .eq 9, 3) := by decide +kernel
theorem dR_inStepBits_20 : decode bR_inStepBits 20 = .ok (.iload_n 1, 1) := by decide +kernel
theorem dR_inStepBits_21 : decode bR_inStepBits 21 = .ok (.iconst 1, 1) := by decide +kernel
theorem dR_inStepBits_22 : decode bR_inStepBits 22 = .ok (.iload_n 2, 1) := by decide +kernel
theorem dR_inStepBits_23 : decode bR_inStepBits 23 = .ok (.ishl, 1) := by decide +kernel
theorem dR_inStepBits_24 : decode bR_inStepBits 24 = .ok (.ior, 1) := by decide +kernel
theorem dR_inStepBits_25 : decode bR_inStepBits 25 = .ok (.istore_n 1, 1) := by decide +kernel
theorem dR_inStepBits_26 : decode bR_inStepBits 26 = .ok (.iinc 2 1, 3) := by decide +kernel
theorem dR_inStepBits_29 : decode bR_inStepBits 29 = .ok (.goto (-25), 3) := by decide +kernel
theorem dR_inStepBits_32 : decode bR_inStepBits 32 = .ok (.iload_n 1, 1) := by decide +kernel
theorem dR_inStepBits_33 : decode bR_inStepBits 33 = .ok (.ireturn, 1) := by decide +kernel
theorem wR_inStepBits_26 {p : Program} {l : Launch} {e : Env} {s : State} {m : MethodId} {args : Array Value} {below : List Frame} {meth : Method} {c : Code} {G : GT} {I : List Nat} (C : CX p s m args meth c NR bR_inStepBits 3 (some .int) G I) (hI : cI I) {r : Nat} (hr : isRow r) {fu : Nat} {R1 : Int32} {Z : Sg} {rc4 : Int32 → Int32 → Sg → Option (Int32 × Sg)} (hr4 : ∀ {v1 : Int32} {v2 : Int32} {z : Sg} {H : Heap} {locs : List Loc} {ls : Array Slot}, rc4 v1 v2 z = some (R1, Z) → GW G I z s.heap H locs → lv_has ls 3 [(0, .ref (gA G r)), (1, .int v1), (2, .int v2)] → W p l e rmR_inStepBits s m args below meth c H locs 0 0 (MQ below (Qi G I R1 Z) args s 0 0 (AD G I)) (F0 m 4 ls [])) {v1 : Int32} {v2 : Int32} {z : Sg} {H : Heap} {locs : List Loc} {ls : Array Slot} (h : pR_inStepBits_26 fu r rc4 v1 v2 z = some (R1, Z)) (hG : GW G I z s.heap H locs) (hl : lv_has ls 3 [(0, .ref (gA G r)), (1, .int v1), (2, .int v2)]) : W p l e rmR_inStepBits s m args below meth c H locs 0 0 (MQ below (Qi G I R1 Z) args s 0 0 (AD G I)) (F0 m 26 ls []) := by
  unfold pR_inStepBits_26 at h
  refine rIinc C dR_inStepBits_26 hl 2 rfl (d := 1) (by decide) h (by decide) [(0, .ref (gA G r)), (1, .int v1)] rfl (fun x4 ls h hl => ?_)
  refine lv_goto (tgt := 4) C.1 C.2.1 dR_inStepBits_29 (by decide) ?_
  exact hr4 h hG (lv_sub hl [1, 2, 0] rfl)
theorem wR_inStepBits_4 {p : Program} {l : Launch} {e : Env} {s : State} {m : MethodId} {args : Array Value} {below : List Frame} {meth : Method} {c : Code} {G : GT} {I : List Nat} (C : CX p s m args meth c NR bR_inStepBits 3 (some .int) G I) (hI : cI I) {r : Nat} (hr : isRow r) {fu : Nat} {R1 : Int32} {Z : Sg} : ∀ (k : Nat) {v1 : Int32} {v2 : Int32} {z : Sg} {H : Heap} {locs : List Loc} {ls : Array Slot}, pR_inStepBits_4 fu r k v1 v2 z = some (R1, Z) → GW G I z s.heap H locs → lv_has ls 3 [(0, .ref (gA G r)), (1, .int v1), (2, .int v2)] → W p l e rmR_inStepBits s m args below meth c H locs 0 0 (MQ below (Qi G I R1 Z) args s 0 0 (AD G I)) (F0 m 4 ls []) := by
  intro k
  induction k with
  | zero => intro v1 v2 z H locs ls h hG hl; rw [pR_inStepBits_4] at h; cases h
  | succ k ih =>
    intro v1 v2 z H locs ls h hG hl
    rw [pR_inStepBits_4] at h
    refine rIload_n C dR_inStepBits_4 hl 2 rfl ?_
    refine rAload_n C dR_inStepBits_5 hl 0 rfl ?_
    refine rGet C hG (hI _ hr.lt0) (eR_0 hr) fiR_3 (v := .int (z r 3)) rfl k_145 dR_inStepBits_6 ?_
    refine rIcmpge C (tgt := 32) h dR_inStepBits_9 (by decide) (fun h => ?_) (fun h => ?_)
    · refine rIload_n C dR_inStepBits_32 hl 1 rfl ?_
      exact rReti C hG h dR_inStepBits_33
    · refine rAload_n C dR_inStepBits_12 hl 0 rfl ?_
      refine rIload_n C dR_inStepBits_13 hl 2 rfl ?_
      refine rCVi [.int v2] [] C hG h (fun h => cR_inStep hI hr h) mvR_inStep k_409 ⟨Nat.le_of_ble_eq_true rfl, Nat.le_of_ble_eq_true rfl⟩ ⟨rfl, rfl⟩ (rRecv C hG (hI _ hr.lt0) (eR_0 hr) rfl) rfl hl.1 (Nat.le_of_ble_eq_true rfl) dR_inStepBits_14 ⟨Nat.zero_le _, Nat.zero_le _⟩ rfl (fun H locs x2 z1 h hG => ?_)
      refine rIfeq C (tgt := 26) h dR_inStepBits_17 (by decide) (fun h => ?_) (fun h => ?_)
      · exact wR_inStepBits_26 C hI hr ih h hG (lv_sub hl [0, 1, 2] rfl)
      · refine rIload_n C dR_inStepBits_20 hl 1 rfl ?_
        refine lv_iconst (v := 1) C.1 C.2.1 dR_inStepBits_21 (by decide) ?_
        refine rIload_n C dR_inStepBits_22 hl 2 rfl ?_
        refine lv_ishl C.1 C.2.1 dR_inStepBits_23 ?_
        refine lv_ior C.1 C.2.1 dR_inStepBits_24 ?_
        refine rIstore_n C dR_inStepBits_25 hl h (by decide) [(0, .ref (gA G r)), (2, .int v2)] rfl (fun x3 ls h hl => ?_)
        exact wR_inStepBits_26 C hI hr ih h hG (lv_sub hl [1, 0, 2] rfl)
theorem cR_inStepBits {l : Launch} {G : GT} {I : List Nat} (hI : cI I) {r : Nat} (hr : isRow r) {fu : Nat} {z : Sg} {R1 : Int32} {Z : Sg} (h : pR_inStepBits fu r z = some (R1, Z)) : Mt l yR_inStepBits rmR_inStepBits bR_inStepBits 3 (some .int) G I z [.ref (gA G r)] (Qi G I R1 Z) := by
  refine entM (by decide +kernel) (Nat.le_of_ble_eq_true rfl) ?_
  intro p e s m below meth c C hG ls hl
  have hl : lv_has ls 3 [(0, .ref (gA G r))] := hl
  unfold pR_inStepBits at h
  refine lv_iconst (v := 0) C.1 C.2.1 dR_inStepBits_0 (by decide) ?_
  refine rIstoreA_n C dR_inStepBits_1 hl (by decide) [(0, .ref (gA G r))] rfl (fun ls hl => ?_)
  refine lv_iconst (v := 0) C.1 C.2.1 dR_inStepBits_2 (by decide) ?_
  refine rIstoreA_n C dR_inStepBits_3 hl (by decide) [(1, .int 0), (0, .ref (gA G r))] rfl (fun ls hl => ?_)
  exact wR_inStepBits_4 C hI hr _ h hG (lv_sub hl [2, 1, 0] rfl)
theorem dR_whoAt_0 : decode bR_whoAt 0 = .ok (.iconst 0, 1) := by decide +kernel
theorem dR_whoAt_1 : decode bR_whoAt 1 = .ok (.istore_n 2, 1) := by decide +kernel
theorem dR_whoAt_2 : decode bR_whoAt 2 = .ok (.iload_n 2, 1) := by decide +kernel
theorem dR_whoAt_3 : decode bR_whoAt 3 = .ok (.aload_n 0, 1) := by decide +kernel
theorem dR_whoAt_4 : decode bR_whoAt 4 = .ok (.getfield 39, 3) := by decide +kernel
theorem dR_whoAt_7 : decode bR_whoAt 7 = .ok (.if_icmp .ge 23, 3) := by decide +kernel
theorem dR_whoAt_10 : decode bR_whoAt 10 = .ok (.aload_n 0, 1) := by decide +kernel
theorem dR_whoAt_11 : decode bR_whoAt 11 = .ok (.getfield 17, 3) := by decide +kernel
theorem dR_whoAt_14 : decode bR_whoAt 14 = .ok (.iconst 0, 1) := by decide +kernel
theorem dR_whoAt_15 : decode bR_whoAt 15 = .ok (.aaload, 1) := by decide +kernel
theorem dR_whoAt_16 : decode bR_whoAt 16 = .ok (.iload_n 2, 1) := by decide +kernel
theorem dR_whoAt_17 : decode bR_whoAt 17 = .ok (.iaload, 1) := by decide +kernel
theorem dR_whoAt_18 : decode bR_whoAt 18 = .ok (.iload_n 1, 1) := by decide +kernel
theorem dR_whoAt_19 : decode bR_whoAt 19 = .ok (.if_icmp .ne 5, 3) := by decide +kernel
theorem dR_whoAt_22 : decode bR_whoAt 22 = .ok (.iload_n 2, 1) := by decide +kernel
theorem dR_whoAt_23 : decode bR_whoAt 23 = .ok (.ireturn, 1) := by decide +kernel
theorem dR_whoAt_24 : decode bR_whoAt 24 = .ok (.iinc 2 1, 3) := by decide +kernel
theorem dR_whoAt_27 : decode bR_whoAt 27 = .ok (.goto (-25), 3) := by decide +kernel
theorem dR_whoAt_30 : decode bR_whoAt 30 = .ok (.iconst (-1), 1) := by decide +kernel
theorem dR_whoAt_31 : decode bR_whoAt 31 = .ok (.ireturn, 1) := by decide +kernel
theorem wR_whoAt_2 {p : Program} {l : Launch} {e : Env} {s : State} {m : MethodId} {args : Array Value} {below : List Frame} {meth : Method} {c : Code} {G : GT} {I : List Nat} (C : CX p s m args meth c NR bR_whoAt 3 (some .int) G I) (hI : cI I) {r : Nat} (hr : isRow r) {fu : Nat} {R1 : Int32} {Z : Sg} : ∀ (k : Nat) {v1 : Int32} {v2 : Int32} {z : Sg} {H : Heap} {locs : List Loc} {ls : Array Slot}, pR_whoAt_2 fu r k v1 v2 z = some (R1, Z) → GW G I z s.heap H locs → lv_has ls 3 [(0, .ref (gA G r)), (1, .int v1), (2, .int v2)] → W p l e rmR_whoAt s m args below meth c H locs 0 0 (MQ below (Qi G I R1 Z) args s 0 0 (AD G I)) (F0 m 2 ls []) := by
  intro k
  induction k with
  | zero => intro v1 v2 z H locs ls h hG hl; rw [pR_whoAt_2] at h; cases h
  | succ k ih =>
    intro v1 v2 z H locs ls h hG hl
    rw [pR_whoAt_2] at h
    refine rIload_n C dR_whoAt_2 hl 2 rfl ?_
    refine rAload_n C dR_whoAt_3 hl 0 rfl ?_
    refine rGet C hG (hI _ hr.lt0) (eR_0 hr) fiR_3 (v := .int (z r 3)) rfl k_145 dR_whoAt_4 ?_
    refine rIcmpge C (tgt := 30) h dR_whoAt_7 (by decide) (fun h => ?_) (fun h => ?_)
    · refine lv_iconst (v := (-1)) C.1 C.2.1 dR_whoAt_30 (by decide) ?_
      exact rReti C hG h dR_whoAt_31
    · refine rAload_n C dR_whoAt_10 hl 0 rfl ?_
      refine rGet C hG (hI _ hr.lt0) (eR_0 hr) fiR_2 (v := .ref (gA G (r + 2))) rfl k_141 dR_whoAt_11 ?_
      refine lv_iconst (v := 0) C.1 C.2.1 dR_whoAt_14 (by decide) ?_
      refine rAaldK C hG (hI _ (hr.lt (k := 2) (by decide))) (eR_2 hr) (t0 := 3) rfl rfl 0 (by decide) (by decide) (r + 3) rfl dR_whoAt_15 ?_
      refine rIload_n C dR_whoAt_16 hl 2 rfl ?_
      refine rIald C hG (hI _ (hr.lt (k := 3) (by decide))) (eR_3 hr) h dR_whoAt_17 (fun h => ?_)
      refine rIload_n C dR_whoAt_18 hl 1 rfl ?_
      refine rIcmpne C (tgt := 24) h dR_whoAt_19 (by decide) (fun h => ?_) (fun h => ?_)
      · refine rIinc C dR_whoAt_24 hl 2 rfl (d := 1) (by decide) h (by decide) [(0, .ref (gA G r)), (1, .int v1)] rfl (fun x1 ls h hl => ?_)
        refine lv_goto (tgt := 2) C.1 C.2.1 dR_whoAt_27 (by decide) ?_
        exact ih h hG (lv_sub hl [1, 2, 0] rfl)
      · refine rIload_n C dR_whoAt_22 hl 2 rfl ?_
        exact rReti C hG h dR_whoAt_23
theorem cR_whoAt {l : Launch} {G : GT} {I : List Nat} (hI : cI I) {r : Nat} (hr : isRow r) {fu : Nat} {v1 : Int32} {z : Sg} {R1 : Int32} {Z : Sg} (h : pR_whoAt fu r v1 z = some (R1, Z)) : Mt l yR_whoAt rmR_whoAt bR_whoAt 3 (some .int) G I z [.ref (gA G r), .int v1] (Qi G I R1 Z) := by
  refine entM (by decide +kernel) (Nat.le_of_ble_eq_true rfl) ?_
  intro p e s m below meth c C hG ls hl
  have hl : lv_has ls 3 [(0, .ref (gA G r)), (1, .int v1)] := hl
  unfold pR_whoAt at h
  refine lv_iconst (v := 0) C.1 C.2.1 dR_whoAt_0 (by decide) ?_
  refine rIstoreA_n C dR_whoAt_1 hl (by decide) [(0, .ref (gA G r)), (1, .int v1)] rfl (fun ls hl => ?_)
  exact wR_whoAt_2 C hI hr _ h hG (lv_sub hl [1, 2, 0] rfl)
theorem dR_has_0 : decode bR_has 0 = .ok (.iload_n 1, 1) := by decide +kernel
theorem dR_has_1 : decode bR_has 1 = .ok (.ifCond .lt 15, 3) := by decide +kernel
theorem dR_has_4 : decode bR_has 4 = .ok (.iload_n 1, 1) := by decide +kernel
theorem dR_has_5 : decode bR_has 5 = .ok (.aload_n 0, 1) := by decide +kernel
theorem dR_has_6 : decode bR_has 6 = .ok (.getfield 39, 3) := by decide +kernel
theorem dR_has_9 : decode bR_has 9 = .ok (.if_icmp .ge 7, 3) := by decide +kernel
theorem dR_has_12 : decode bR_has 12 = .ok (.iconst 1, 1) := by decide +kernel
theorem dR_has_13 : decode bR_has 13 = .ok (.goto 4, 3) := by decide +kernel
theorem dR_has_16 : decode bR_has 16 = .ok (.iconst 0, 1) := by decide +kernel
theorem dR_has_17 : decode bR_has 17 = .ok (.ireturn, 1) := by decide +kernel
theorem cR_has {l : Launch} {G : GT} {I : List Nat} (hI : cI I) {r : Nat} (hr : isRow r) {fu : Nat} {v1 : Int32} {z : Sg} {R1 : Int32} {Z : Sg} (h : pR_has fu r v1 z = some (R1, Z)) : Mt l yR_has rmR_has bR_has 2 (some .boolean) G I z [.ref (gA G r), .int v1] (Qi G I R1 Z) := by
  refine entM (by decide +kernel) (Nat.le_of_ble_eq_true rfl) ?_
  intro p e s m below meth c C hG ls hl
  have hl : lv_has ls 2 [(0, .ref (gA G r)), (1, .int v1)] := hl
  unfold pR_has at h
  refine rIload_n C dR_has_0 hl 1 rfl ?_
  refine rIflt C (tgt := 16) h dR_has_1 (by decide) (fun h => ?_) (fun h => ?_)
  · refine lv_iconst (v := 0) C.1 C.2.1 dR_has_16 (by decide) ?_
    exact rRetn C hG (ty := .boolean) rfl rfl h dR_has_17
  · refine rIload_n C dR_has_4 hl 1 rfl ?_
    refine rAload_n C dR_has_5 hl 0 rfl ?_
    refine rGet C hG (hI _ hr.lt0) (eR_0 hr) fiR_3 (v := .int (z r 3)) rfl k_145 dR_has_6 ?_
    refine rIcmpge C (tgt := 16) h dR_has_9 (by decide) (fun h => ?_) (fun h => ?_)
    · refine lv_iconst (v := 0) C.1 C.2.1 dR_has_16 (by decide) ?_
      exact rRetn C hG (ty := .boolean) rfl rfl h dR_has_17
    · refine lv_iconst (v := 1) C.1 C.2.1 dR_has_12 (by decide) ?_
      refine lv_goto (tgt := 17) C.1 C.2.1 dR_has_13 (by decide) ?_
      exact rRetn C hG (ty := .boolean) rfl rfl h dR_has_17
theorem dR_seenAt_0 : decode bR_seenAt 0 = .ok (.iload_n 1, 1) := by decide +kernel
theorem dR_seenAt_1 : decode bR_seenAt 1 = .ok (.aload_n 0, 1) := by decide +kernel
theorem dR_seenAt_2 : decode bR_seenAt 2 = .ok (.getfield 9, 3) := by decide +kernel
theorem dR_seenAt_5 : decode bR_seenAt 5 = .ok (.iconst 0, 1) := by decide +kernel
theorem dR_seenAt_6 : decode bR_seenAt 6 = .ok (.iaload, 1) := by decide +kernel
theorem dR_seenAt_7 : decode bR_seenAt 7 = .ok (.if_icmp .ne 10, 3) := by decide +kernel
theorem dR_seenAt_10 : decode bR_seenAt 10 = .ok (.aload_n 0, 1) := by decide +kernel
theorem dR_seenAt_11 : decode bR_seenAt 11 = .ok (.getfield 9, 3) := by decide +kernel
theorem dR_seenAt_14 : decode bR_seenAt 14 = .ok (.iconst 1, 1) := by decide +kernel
theorem dR_seenAt_15 : decode bR_seenAt 15 = .ok (.iaload, 1) := by decide +kernel
theorem dR_seenAt_16 : decode bR_seenAt 16 = .ok (.ireturn, 1) := by decide +kernel
theorem dR_seenAt_17 : decode bR_seenAt 17 = .ok (.aload_n 0, 1) := by decide +kernel
theorem dR_seenAt_18 : decode bR_seenAt 18 = .ok (.iload_n 1, 1) := by decide +kernel
theorem dR_seenAt_19 : decode bR_seenAt 19 = .ok (.invokevirtual 50, 3) := by decide +kernel
theorem dR_seenAt_22 : decode bR_seenAt 22 = .ok (.istore_n 2, 1) := by decide +kernel
theorem dR_seenAt_23 : decode bR_seenAt 23 = .ok (.aload_n 0, 1) := by decide +kernel
theorem dR_seenAt_24 : decode bR_seenAt 24 = .ok (.getfield 17, 3) := by decide +kernel
theorem dR_seenAt_27 : decode bR_seenAt 27 = .ok (.iconst 1, 1) := by decide +kernel
theorem dR_seenAt_28 : decode bR_seenAt 28 = .ok (.aaload, 1) := by decide +kernel
theorem dR_seenAt_29 : decode bR_seenAt 29 = .ok (.iload_n 2, 1) := by decide +kernel
theorem dR_seenAt_30 : decode bR_seenAt 30 = .ok (.ifCond .ge 10, 3) := by decide +kernel
theorem dR_seenAt_33 : decode bR_seenAt 33 = .ok (.aload_n 0, 1) := by decide +kernel
theorem dR_seenAt_34 : decode bR_seenAt 34 = .ok (.getfield 69, 3) := by decide +kernel
theorem dR_seenAt_37 : decode bR_seenAt 37 = .ok (.goto 4, 3) := by decide +kernel
theorem dR_seenAt_40 : decode bR_seenAt 40 = .ok (.iload_n 2, 1) := by decide +kernel
theorem dR_seenAt_41 : decode bR_seenAt 41 = .ok (.iaload, 1) := by decide +kernel
theorem dR_seenAt_42 : decode bR_seenAt 42 = .ok (.ireturn, 1) := by decide +kernel
theorem cR_seenAt {l : Launch} {G : GT} {I : List Nat} (hI : cI I) {r : Nat} (hr : isRow r) {fu : Nat} {v1 : Int32} {z : Sg} {R1 : Int32} {Z : Sg} (h : pR_seenAt fu r v1 z = some (R1, Z)) : Mt l yR_seenAt rmR_seenAt bR_seenAt 3 (some .int) G I z [.ref (gA G r), .int v1] (Qi G I R1 Z) := by
  refine entM (by decide +kernel) (Nat.le_of_ble_eq_true rfl) ?_
  intro p e s m below meth c C hG ls hl
  have hl : lv_has ls 3 [(0, .ref (gA G r)), (1, .int v1)] := hl
  unfold pR_seenAt at h
  refine rIload_n C dR_seenAt_0 hl 1 rfl ?_
  refine rAload_n C dR_seenAt_1 hl 0 rfl ?_
  refine rGet C hG (hI _ hr.lt0) (eR_0 hr) fiR_1 (v := .ref (gA G (r + 1))) rfl k_139 dR_seenAt_2 ?_
  refine lv_iconst (v := 0) C.1 C.2.1 dR_seenAt_5 (by decide) ?_
  refine rIaldK C hG (hI _ (hr.lt (k := 1) (by decide))) (eR_1 hr) 0 (by decide) (by decide) dR_seenAt_6 ?_
  refine rIcmpne C (tgt := 17) h dR_seenAt_7 (by decide) (fun h => ?_) (fun h => ?_)
  · refine rAload_n C dR_seenAt_17 hl 0 rfl ?_
    refine rIload_n C dR_seenAt_18 hl 1 rfl ?_
    refine rCVi [.int v1] [] C hG h (fun h => cR_whoAt hI hr h) mvR_whoAt k_464 ⟨Nat.le_of_ble_eq_true rfl, Nat.le_of_ble_eq_true rfl⟩ ⟨rfl, rfl⟩ (rRecv C hG (hI _ hr.lt0) (eR_0 hr) rfl) rfl hl.1 (Nat.le_of_ble_eq_true rfl) dR_seenAt_19 ⟨Nat.zero_le _, Nat.zero_le _⟩ rfl (fun H locs x2 z1 h hG => ?_)
    refine rIstoreA_n C dR_seenAt_22 hl (by decide) [(0, .ref (gA G r)), (1, .int v1)] rfl (fun ls hl => ?_)
    refine rAload_n C dR_seenAt_23 hl 1 rfl ?_
    refine rGet C hG (hI _ hr.lt0) (eR_0 hr) fiR_2 (v := .ref (gA G (r + 2))) rfl k_141 dR_seenAt_24 ?_
    refine lv_iconst (v := 1) C.1 C.2.1 dR_seenAt_27 (by decide) ?_
    refine rAaldK C hG (hI _ (hr.lt (k := 2) (by decide))) (eR_2 hr) (t0 := 3) rfl rfl 1 (by decide) (by decide) (r + 4) rfl dR_seenAt_28 ?_
    refine rIload_n C dR_seenAt_29 hl 0 rfl ?_
    refine rIfge C (tgt := 40) h dR_seenAt_30 (by decide) (fun h => ?_) (fun h => ?_)
    · refine rIload_n C dR_seenAt_40 hl 0 rfl ?_
      refine rIald C hG (hI _ (hr.lt (k := 4) (by decide))) (eR_4 hr) h dR_seenAt_41 (fun h => ?_)
      exact rReti C hG h dR_seenAt_42
    · refine rAload_n C dR_seenAt_33 hl 1 rfl ?_
      refine rGet C hG (hI _ hr.lt0) (eR_0 hr) fiR_6 (v := .int (z1 r 6)) rfl k_150 dR_seenAt_34 ?_
      refine lv_goto (tgt := 41) C.1 C.2.1 dR_seenAt_37 (by decide) ?_
      refine rIald C hG (hI _ (hr.lt (k := 4) (by decide))) (eR_4 hr) h dR_seenAt_41 (fun h => ?_)
      exact rReti C hG h dR_seenAt_42
  · refine rAload_n C dR_seenAt_10 hl 0 rfl ?_
    refine rGet C hG (hI _ hr.lt0) (eR_0 hr) fiR_1 (v := .ref (gA G (r + 1))) rfl k_139 dR_seenAt_11 ?_
    refine lv_iconst (v := 1) C.1 C.2.1 dR_seenAt_14 (by decide) ?_
    refine rIaldK C hG (hI _ (hr.lt (k := 1) (by decide))) (eR_1 hr) 1 (by decide) (by decide) dR_seenAt_15 ?_
    exact rReti C hG h dR_seenAt_16
theorem dR_lookAt_0 : decode bR_lookAt 0 = .ok (.aload_n 0, 1) := by decide +kernel
theorem dR_lookAt_1 : decode bR_lookAt 1 = .ok (.iload_n 1, 1) := by decide +kernel
theorem dR_lookAt_2 : decode bR_lookAt 2 = .ok (.putfield 69, 3) := by decide +kernel
theorem dR_lookAt_5 : decode bR_lookAt 5 = .ok (.aload_n 0, 1) := by decide +kernel
theorem dR_lookAt_6 : decode bR_lookAt 6 = .ok (.getfield 17, 3) := by decide +kernel
theorem dR_lookAt_9 : decode bR_lookAt 9 = .ok (.iconst 0, 1) := by decide +kernel
theorem dR_lookAt_10 : decode bR_lookAt 10 = .ok (.aaload, 1) := by decide +kernel
theorem dR_lookAt_11 : decode bR_lookAt 11 = .ok (.iload_n 1, 1) := by decide +kernel
theorem dR_lookAt_12 : decode bR_lookAt 12 = .ok (.iaload, 1) := by decide +kernel
theorem dR_lookAt_13 : decode bR_lookAt 13 = .ok (.istore_n 2, 1) := by decide +kernel
theorem dR_lookAt_14 : decode bR_lookAt 14 = .ok (.aload_n 0, 1) := by decide +kernel
theorem dR_lookAt_15 : decode bR_lookAt 15 = .ok (.getfield 20, 3) := by decide +kernel
theorem dR_lookAt_18 : decode bR_lookAt 18 = .ok (.iconst 0, 1) := by decide +kernel
theorem dR_lookAt_19 : decode bR_lookAt 19 = .ok (.aload_n 0, 1) := by decide +kernel
theorem dR_lookAt_20 : decode bR_lookAt 20 = .ok (.getfield 9, 3) := by decide +kernel
theorem dR_lookAt_23 : decode bR_lookAt 23 = .ok (.iconst 1, 1) := by decide +kernel
theorem dR_lookAt_24 : decode bR_lookAt 24 = .ok (.iaload, 1) := by decide +kernel
theorem dR_lookAt_25 : decode bR_lookAt 25 = .ok (.iastore, 1) := by decide +kernel
theorem dR_lookAt_26 : decode bR_lookAt 26 = .ok (.aload_n 0, 1) := by decide +kernel
theorem dR_lookAt_27 : decode bR_lookAt 27 = .ok (.getfield 20, 3) := by decide +kernel
theorem dR_lookAt_30 : decode bR_lookAt 30 = .ok (.iconst 1, 1) := by decide +kernel
theorem dR_lookAt_31 : decode bR_lookAt 31 = .ok (.aload_n 0, 1) := by decide +kernel
theorem dR_lookAt_32 : decode bR_lookAt 32 = .ok (.getfield 17, 3) := by decide +kernel
theorem dR_lookAt_35 : decode bR_lookAt 35 = .ok (.iconst 1, 1) := by decide +kernel
theorem dR_lookAt_36 : decode bR_lookAt 36 = .ok (.aaload, 1) := by decide +kernel
theorem dR_lookAt_37 : decode bR_lookAt 37 = .ok (.iload_n 1, 1) := by decide +kernel
theorem dR_lookAt_38 : decode bR_lookAt 38 = .ok (.iaload, 1) := by decide +kernel
theorem dR_lookAt_39 : decode bR_lookAt 39 = .ok (.iastore, 1) := by decide +kernel
theorem dR_lookAt_40 : decode bR_lookAt 40 = .ok (.aload_n 0, 1) := by decide +kernel
theorem dR_lookAt_41 : decode bR_lookAt 41 = .ok (.getfield 20, 3) := by decide +kernel
theorem dR_lookAt_44 : decode bR_lookAt 44 = .ok (.iconst 2, 1) := by decide +kernel
theorem dR_lookAt_45 : decode bR_lookAt 45 = .ok (.aload_n 0, 1) := by decide +kernel
theorem dR_lookAt_46 : decode bR_lookAt 46 = .ok (.iload_n 2, 1) := by decide +kernel
theorem dR_lookAt_47 : decode bR_lookAt 47 = .ok (.iconst 1, 1) := by decide +kernel
theorem dR_lookAt_48 : decode bR_lookAt 48 = .ok (.isub, 1) := by decide +kernel
theorem dR_lookAt_49 : decode bR_lookAt 49 = .ok (.invokevirtual 72, 3) := by decide +kernel
theorem dR_lookAt_52 : decode bR_lookAt 52 = .ok (.iastore, 1) := by decide +kernel
theorem dR_lookAt_53 : decode bR_lookAt 53 = .ok (.aload_n 0, 1) := by decide +kernel
theorem dR_lookAt_54 : decode bR_lookAt 54 = .ok (.getfield 20, 3) := by decide +kernel
theorem dR_lookAt_57 : decode bR_lookAt 57 = .ok (.iconst 3, 1) := by decide +kernel
theorem dR_lookAt_58 : decode bR_lookAt 58 = .ok (.aload_n 0, 1) := by decide +kernel
theorem dR_lookAt_59 : decode bR_lookAt 59 = .ok (.iload_n 2, 1) := by decide +kernel
theorem dR_lookAt_60 : decode bR_lookAt 60 = .ok (.iconst 1, 1) := by decide +kernel
theorem dR_lookAt_61 : decode bR_lookAt 61 = .ok (.iadd, 1) := by decide +kernel
theorem dR_lookAt_62 : decode bR_lookAt 62 = .ok (.invokevirtual 72, 3) := by decide +kernel
theorem dR_lookAt_65 : decode bR_lookAt 65 = .ok (.iastore, 1) := by decide +kernel
theorem dR_lookAt_66 : decode bR_lookAt 66 = .ok (.aload_n 0, 1) := by decide +kernel
theorem dR_lookAt_67 : decode bR_lookAt 67 = .ok (.getfield 20, 3) := by decide +kernel
theorem dR_lookAt_70 : decode bR_lookAt 70 = .ok (.iconst 4, 1) := by decide +kernel
theorem dR_lookAt_71 : decode bR_lookAt 71 = .ok (.aload_n 0, 1) := by decide +kernel
theorem dR_lookAt_72 : decode bR_lookAt 72 = .ok (.getfield 17, 3) := by decide +kernel
theorem dR_lookAt_75 : decode bR_lookAt 75 = .ok (.iconst 2, 1) := by decide +kernel
theorem dR_lookAt_76 : decode bR_lookAt 76 = .ok (.aaload, 1) := by decide +kernel
theorem dR_lookAt_77 : decode bR_lookAt 77 = .ok (.iload_n 1, 1) := by decide +kernel
theorem dR_lookAt_78 : decode bR_lookAt 78 = .ok (.iaload, 1) := by decide +kernel
theorem dR_lookAt_79 : decode bR_lookAt 79 = .ok (.iastore, 1) := by decide +kernel
theorem dR_lookAt_80 : decode bR_lookAt 80 = .ok (.aload_n 0, 1) := by decide +kernel
theorem dR_lookAt_81 : decode bR_lookAt 81 = .ok (.getfield 20, 3) := by decide +kernel
theorem dR_lookAt_84 : decode bR_lookAt 84 = .ok (.iconst 5, 1) := by decide +kernel
theorem dR_lookAt_85 : decode bR_lookAt 85 = .ok (.aload_n 0, 1) := by decide +kernel
theorem dR_lookAt_86 : decode bR_lookAt 86 = .ok (.getfield 17, 3) := by decide +kernel
theorem dR_lookAt_89 : decode bR_lookAt 89 = .ok (.iconst 4, 1) := by decide +kernel
theorem dR_lookAt_90 : decode bR_lookAt 90 = .ok (.aaload, 1) := by decide +kernel
theorem dR_lookAt_91 : decode bR_lookAt 91 = .ok (.iload_n 1, 1) := by decide +kernel
theorem dR_lookAt_92 : decode bR_lookAt 92 = .ok (.iaload, 1) := by decide +kernel
theorem dR_lookAt_93 : decode bR_lookAt 93 = .ok (.iastore, 1) := by decide +kernel
theorem dR_lookAt_94 : decode bR_lookAt 94 = .ok (.return_, 1) := by decide +kernel
theorem cR_lookAt {l : Launch} {G : GT} {I : List Nat} (hI : cI I) {r : Nat} (hr : isRow r) {fu : Nat} {v1 : Int32} {z : Sg} {Z : Sg} (h : pR_lookAt fu r v1 z = some Z) : Mt l yR_lookAt rmR_lookAt bR_lookAt 3 none G I z [.ref (gA G r), .int v1] (Qv G I Z) := by
  refine entM (by decide +kernel) (Nat.le_of_ble_eq_true rfl) ?_
  intro p e s m below meth c C hG ls hl
  have hl : lv_has ls 3 [(0, .ref (gA G r)), (1, .int v1)] := hl
  unfold pR_lookAt at h
  refine rAload_n C dR_lookAt_0 hl 0 rfl ?_
  refine rIload_n C dR_lookAt_1 hl 1 rfl ?_
  refine rPut C hG (hI _ hr.lt0) (eR_0 hr) fiR_6 tokR nmR rfl (fpR_6 _) (Nat.le_of_ble_eq_true rfl) rfl rfl k_150 h dR_lookAt_2 (fun H locs z1 h hG => ?_)
  refine rAload_n C dR_lookAt_5 hl 0 rfl ?_
  refine rGet C hG (hI _ hr.lt0) (eR_0 hr) fiR_2 (v := .ref (gA G (r + 2))) rfl k_141 dR_lookAt_6 ?_
  refine lv_iconst (v := 0) C.1 C.2.1 dR_lookAt_9 (by decide) ?_
  refine rAaldK C hG (hI _ (hr.lt (k := 2) (by decide))) (eR_2 hr) (t0 := 3) rfl rfl 0 (by decide) (by decide) (r + 3) rfl dR_lookAt_10 ?_
  refine rIload_n C dR_lookAt_11 hl 1 rfl ?_
  refine rIald C hG (hI _ (hr.lt (k := 3) (by decide))) (eR_3 hr) h dR_lookAt_12 (fun h => ?_)
  refine rIstore_n C dR_lookAt_13 hl h (by decide) [(0, .ref (gA G r)), (1, .int v1)] rfl (fun x2 ls h hl => ?_)
  refine rAload_n C dR_lookAt_14 hl 1 rfl ?_
  refine rGet C hG (hI _ hr.lt0) (eR_0 hr) fiR_5 (v := .ref (gA G (r + 8))) rfl k_148 dR_lookAt_15 ?_
  refine lv_iconst (v := 0) C.1 C.2.1 dR_lookAt_18 (by decide) ?_
  refine rAload_n C dR_lookAt_19 hl 1 rfl ?_
  refine rGet C hG (hI _ hr.lt0) (eR_0 hr) fiR_1 (v := .ref (gA G (r + 1))) rfl k_139 dR_lookAt_20 ?_
  refine lv_iconst (v := 1) C.1 C.2.1 dR_lookAt_23 (by decide) ?_
  refine rIaldK C hG (hI _ (hr.lt (k := 1) (by decide))) (eR_1 hr) 1 (by decide) (by decide) dR_lookAt_24 ?_
  refine rIastK C hG (hI _ (hr.lt (k := 8) (by decide))) (eR_8 hr) 0 (by decide) (by decide) h dR_lookAt_25 (fun H locs z3 h hG => ?_)
  refine rAload_n C dR_lookAt_26 hl 1 rfl ?_
  refine rGet C hG (hI _ hr.lt0) (eR_0 hr) fiR_5 (v := .ref (gA G (r + 8))) rfl k_148 dR_lookAt_27 ?_
  refine lv_iconst (v := 1) C.1 C.2.1 dR_lookAt_30 (by decide) ?_
  refine rAload_n C dR_lookAt_31 hl 1 rfl ?_
  refine rGet C hG (hI _ hr.lt0) (eR_0 hr) fiR_2 (v := .ref (gA G (r + 2))) rfl k_141 dR_lookAt_32 ?_
  refine lv_iconst (v := 1) C.1 C.2.1 dR_lookAt_35 (by decide) ?_
  refine rAaldK C hG (hI _ (hr.lt (k := 2) (by decide))) (eR_2 hr) (t0 := 3) rfl rfl 1 (by decide) (by decide) (r + 4) rfl dR_lookAt_36 ?_
  refine rIload_n C dR_lookAt_37 hl 2 rfl ?_
  refine rIald C hG (hI _ (hr.lt (k := 4) (by decide))) (eR_4 hr) h dR_lookAt_38 (fun h => ?_)
  refine rIastK C hG (hI _ (hr.lt (k := 8) (by decide))) (eR_8 hr) 1 (by decide) (by decide) h dR_lookAt_39 (fun H locs z4 h hG => ?_)
  refine rAload_n C dR_lookAt_40 hl 1 rfl ?_
  refine rGet C hG (hI _ hr.lt0) (eR_0 hr) fiR_5 (v := .ref (gA G (r + 8))) rfl k_148 dR_lookAt_41 ?_
  refine lv_iconst (v := 2) C.1 C.2.1 dR_lookAt_44 (by decide) ?_
  refine rAload_n C dR_lookAt_45 hl 1 rfl ?_
  refine rIload_n C dR_lookAt_46 hl 0 rfl ?_
  refine lv_iconst (v := 1) C.1 C.2.1 dR_lookAt_47 (by decide) ?_
  refine lv_isub C.1 C.2.1 dR_lookAt_48 ?_
  refine rCVi [.int (x2 - 1)] [.int 2, .ref (gA G (r + 8))] C hG h (fun h => cR_seenAt hI hr h) mvR_seenAt k_460 ⟨Nat.le_of_ble_eq_true rfl, Nat.le_of_ble_eq_true rfl⟩ ⟨rfl, rfl⟩ (rRecv C hG (hI _ hr.lt0) (eR_0 hr) rfl) rfl hl.1 (Nat.le_of_ble_eq_true rfl) dR_lookAt_49 ⟨Nat.zero_le _, Nat.zero_le _⟩ rfl (fun H locs x6 z5 h hG => ?_)
  refine rIastK C hG (hI _ (hr.lt (k := 8) (by decide))) (eR_8 hr) 2 (by decide) (by decide) h dR_lookAt_52 (fun H locs z7 h hG => ?_)
  refine rAload_n C dR_lookAt_53 hl 1 rfl ?_
  refine rGet C hG (hI _ hr.lt0) (eR_0 hr) fiR_5 (v := .ref (gA G (r + 8))) rfl k_148 dR_lookAt_54 ?_
  refine lv_iconst (v := 3) C.1 C.2.1 dR_lookAt_57 (by decide) ?_
  refine rAload_n C dR_lookAt_58 hl 1 rfl ?_
  refine rIload_n C dR_lookAt_59 hl 0 rfl ?_
  refine lv_iconst (v := 1) C.1 C.2.1 dR_lookAt_60 (by decide) ?_
  refine lv_iadd C.1 C.2.1 dR_lookAt_61 ?_
  refine rCVi [.int (x2 + 1)] [.int 3, .ref (gA G (r + 8))] C hG h (fun h => cR_seenAt hI hr h) mvR_seenAt k_460 ⟨Nat.le_of_ble_eq_true rfl, Nat.le_of_ble_eq_true rfl⟩ ⟨rfl, rfl⟩ (rRecv C hG (hI _ hr.lt0) (eR_0 hr) rfl) rfl hl.1 (Nat.le_of_ble_eq_true rfl) dR_lookAt_62 ⟨Nat.zero_le _, Nat.zero_le _⟩ rfl (fun H locs x9 z8 h hG => ?_)
  refine rIastK C hG (hI _ (hr.lt (k := 8) (by decide))) (eR_8 hr) 3 (by decide) (by decide) h dR_lookAt_65 (fun H locs z10 h hG => ?_)
  refine rAload_n C dR_lookAt_66 hl 1 rfl ?_
  refine rGet C hG (hI _ hr.lt0) (eR_0 hr) fiR_5 (v := .ref (gA G (r + 8))) rfl k_148 dR_lookAt_67 ?_
  refine lv_iconst (v := 4) C.1 C.2.1 dR_lookAt_70 (by decide) ?_
  refine rAload_n C dR_lookAt_71 hl 1 rfl ?_
  refine rGet C hG (hI _ hr.lt0) (eR_0 hr) fiR_2 (v := .ref (gA G (r + 2))) rfl k_141 dR_lookAt_72 ?_
  refine lv_iconst (v := 2) C.1 C.2.1 dR_lookAt_75 (by decide) ?_
  refine rAaldK C hG (hI _ (hr.lt (k := 2) (by decide))) (eR_2 hr) (t0 := 3) rfl rfl 2 (by decide) (by decide) (r + 5) rfl dR_lookAt_76 ?_
  refine rIload_n C dR_lookAt_77 hl 2 rfl ?_
  refine rIald C hG (hI _ (hr.lt (k := 5) (by decide))) (eR_5 hr) h dR_lookAt_78 (fun h => ?_)
  refine rIastK C hG (hI _ (hr.lt (k := 8) (by decide))) (eR_8 hr) 4 (by decide) (by decide) h dR_lookAt_79 (fun H locs z11 h hG => ?_)
  refine rAload_n C dR_lookAt_80 hl 1 rfl ?_
  refine rGet C hG (hI _ hr.lt0) (eR_0 hr) fiR_5 (v := .ref (gA G (r + 8))) rfl k_148 dR_lookAt_81 ?_
  refine lv_iconst (v := 5) C.1 C.2.1 dR_lookAt_84 (by decide) ?_
  refine rAload_n C dR_lookAt_85 hl 1 rfl ?_
  refine rGet C hG (hI _ hr.lt0) (eR_0 hr) fiR_2 (v := .ref (gA G (r + 2))) rfl k_141 dR_lookAt_86 ?_
  refine lv_iconst (v := 4) C.1 C.2.1 dR_lookAt_89 (by decide) ?_
  refine rAaldK C hG (hI _ (hr.lt (k := 2) (by decide))) (eR_2 hr) (t0 := 3) rfl rfl 4 (by decide) (by decide) (r + 7) rfl dR_lookAt_90 ?_
  refine rIload_n C dR_lookAt_91 hl 2 rfl ?_
  refine rIald C hG (hI _ (hr.lt (k := 7) (by decide))) (eR_7 hr) h dR_lookAt_92 (fun h => ?_)
  refine rIastK C hG (hI _ (hr.lt (k := 8) (by decide))) (eR_8 hr) 5 (by decide) (by decide) h dR_lookAt_93 (fun H locs z12 h hG => ?_)
  exact rRetv C hG h dR_lookAt_94
theorem dR_isFree_0 : decode bR_isFree 0 = .ok (.iload_n 1, 1) := by decide +kernel
theorem dR_isFree_1 : decode bR_isFree 1 = .ok (.bipush 9, 2) := by decide +kernel
theorem dR_isFree_3 : decode bR_isFree 3 = .ok (.invokestatic 46, 3) := by decide +kernel
theorem dR_isFree_6 : decode bR_isFree 6 = .ok (.ifCond .eq 25, 3) := by decide +kernel
theorem dR_isFree_9 : decode bR_isFree 9 = .ok (.iload_n 1, 1) := by decide +kernel
theorem dR_isFree_10 : decode bR_isFree 10 = .ok (.aload_n 0, 1) := by decide +kernel
theorem dR_isFree_11 : decode bR_isFree 11 = .ok (.getfield 9, 3) := by decide +kernel
theorem dR_isFree_14 : decode bR_isFree 14 = .ok (.iconst 0, 1) := by decide +kernel
theorem dR_isFree_15 : decode bR_isFree 15 = .ok (.iaload, 1) := by decide +kernel
theorem dR_isFree_16 : decode bR_isFree 16 = .ok (.if_icmp .eq 15, 3) := by decide +kernel
theorem dR_isFree_19 : decode bR_isFree 19 = .ok (.aload_n 0, 1) := by decide +kernel
theorem dR_isFree_20 : decode bR_isFree 20 = .ok (.iload_n 1, 1) := by decide +kernel
theorem dR_isFree_21 : decode bR_isFree 21 = .ok (.invokevirtual 50, 3) := by decide +kernel
theorem dR_isFree_24 : decode bR_isFree 24 = .ok (.ifCond .ge 7, 3) := by decide +kernel
theorem dR_isFree_27 : decode bR_isFree 27 = .ok (.iconst 1, 1) := by decide +kernel
theorem dR_isFree_28 : decode bR_isFree 28 = .ok (.goto 4, 3) := by decide +kernel
theorem dR_isFree_31 : decode bR_isFree 31 = .ok (.iconst 0, 1) := by decide +kernel
theorem dR_isFree_32 : decode bR_isFree 32 = .ok (.ireturn, 1) := by decide +kernel
theorem cR_isFree {l : Launch} {G : GT} {I : List Nat} (hI : cI I) {r : Nat} (hr : isRow r) {fu : Nat} {v1 : Int32} {z : Sg} {R1 : Int32} {Z : Sg} (h : pR_isFree fu r v1 z = some (R1, Z)) : Mt l yR_isFree rmR_isFree bR_isFree 2 (some .boolean) G I z [.ref (gA G r), .int v1] (Qi G I R1 Z) := by
  refine entM (by decide +kernel) (Nat.le_of_ble_eq_true rfl) ?_
  intro p e s m below meth c C hG ls hl
  have hl : lv_has ls 2 [(0, .ref (gA G r)), (1, .int v1)] := hl
  unfold pR_isFree at h
  refine rIload_n C dR_isFree_0 hl 1 rfl ?_
  refine lv_bipush (v := 9) C.1 C.2.1 dR_isFree_1 (by decide) ?_
  refine rCNi [.int v1, .int 9] [] C hG h (fun h => cS_within hI h) mvS_within C.2.2.2.2.2.2.2.2.1.1 ⟨Nat.le_of_ble_eq_true rfl, Nat.le_of_ble_eq_true rfl⟩ ⟨rfl, rfl⟩ rfl hl.1 (Nat.le_of_ble_eq_true rfl) dR_isFree_3 ⟨Nat.zero_le _, Nat.zero_le _⟩ rfl (fun H locs x2 z1 h hG => ?_)
  refine rIfeq C (tgt := 31) h dR_isFree_6 (by decide) (fun h => ?_) (fun h => ?_)
  · refine lv_iconst (v := 0) C.1 C.2.1 dR_isFree_31 (by decide) ?_
    exact rRetn C hG (ty := .boolean) rfl rfl h dR_isFree_32
  · refine rIload_n C dR_isFree_9 hl 1 rfl ?_
    refine rAload_n C dR_isFree_10 hl 0 rfl ?_
    refine rGet C hG (hI _ hr.lt0) (eR_0 hr) fiR_1 (v := .ref (gA G (r + 1))) rfl k_139 dR_isFree_11 ?_
    refine lv_iconst (v := 0) C.1 C.2.1 dR_isFree_14 (by decide) ?_
    refine rIaldK C hG (hI _ (hr.lt (k := 1) (by decide))) (eR_1 hr) 0 (by decide) (by decide) dR_isFree_15 ?_
    refine rIcmpeq C (tgt := 31) h dR_isFree_16 (by decide) (fun h => ?_) (fun h => ?_)
    · refine lv_iconst (v := 0) C.1 C.2.1 dR_isFree_31 (by decide) ?_
      exact rRetn C hG (ty := .boolean) rfl rfl h dR_isFree_32
    · refine rAload_n C dR_isFree_19 hl 0 rfl ?_
      refine rIload_n C dR_isFree_20 hl 1 rfl ?_
      refine rCVi [.int v1] [] C hG h (fun h => cR_whoAt hI hr h) mvR_whoAt k_464 ⟨Nat.le_of_ble_eq_true rfl, Nat.le_of_ble_eq_true rfl⟩ ⟨rfl, rfl⟩ (rRecv C hG (hI _ hr.lt0) (eR_0 hr) rfl) rfl hl.1 (Nat.le_of_ble_eq_true rfl) dR_isFree_21 ⟨Nat.zero_le _, Nat.zero_le _⟩ rfl (fun H locs x4 z3 h hG => ?_)
      refine rIfge C (tgt := 31) h dR_isFree_24 (by decide) (fun h => ?_) (fun h => ?_)
      · refine lv_iconst (v := 0) C.1 C.2.1 dR_isFree_31 (by decide) ?_
        exact rRetn C hG (ty := .boolean) rfl rfl h dR_isFree_32
      · refine lv_iconst (v := 1) C.1 C.2.1 dR_isFree_27 (by decide) ?_
        refine lv_goto (tgt := 32) C.1 C.2.1 dR_isFree_28 (by decide) ?_
        exact rRetn C hG (ty := .boolean) rfl rfl h dR_isFree_32
theorem dR_add_0 : decode bR_add 0 = .ok (.aload_n 0, 1) := by decide +kernel
theorem dR_add_1 : decode bR_add 1 = .ok (.getfield 39, 3) := by decide +kernel
theorem dR_add_4 : decode bR_add 4 = .ok (.istore 4, 2) := by decide +kernel
theorem dR_add_6 : decode bR_add 6 = .ok (.aload_n 0, 1) := by decide +kernel
theorem dR_add_7 : decode bR_add 7 = .ok (.getfield 17, 3) := by decide +kernel
theorem dR_add_10 : decode bR_add 10 = .ok (.iconst 0, 1) := by decide +kernel
theorem dR_add_11 : decode bR_add 11 = .ok (.aaload, 1) := by decide +kernel
theorem dR_add_12 : decode bR_add 12 = .ok (.iload 4, 2) := by decide +kernel
theorem dR_add_14 : decode bR_add 14 = .ok (.iload_n 2, 1) := by decide +kernel
theorem dR_add_15 : decode bR_add 15 = .ok (.iastore, 1) := by decide +kernel
theorem dR_add_16 : decode bR_add 16 = .ok (.aload_n 0, 1) := by decide +kernel
theorem dR_add_17 : decode bR_add 17 = .ok (.getfield 17, 3) := by decide +kernel
theorem dR_add_20 : decode bR_add 20 = .ok (.iconst 1, 1) := by decide +kernel
theorem dR_add_21 : decode bR_add 21 = .ok (.aaload, 1) := by decide +kernel
theorem dR_add_22 : decode bR_add 22 = .ok (.iload 4, 2) := by decide +kernel
theorem dR_add_24 : decode bR_add 24 = .ok (.iload_n 3, 1) := by decide +kernel
theorem dR_add_25 : decode bR_add 25 = .ok (.iastore, 1) := by decide +kernel
theorem dR_add_26 : decode bR_add 26 = .ok (.aload_n 0, 1) := by decide +kernel
theorem dR_add_27 : decode bR_add 27 = .ok (.getfield 17, 3) := by decide +kernel
theorem dR_add_30 : decode bR_add 30 = .ok (.iconst 2, 1) := by decide +kernel
theorem dR_add_31 : decode bR_add 31 = .ok (.aaload, 1) := by decide +kernel
theorem dR_add_32 : decode bR_add 32 = .ok (.iload 4, 2) := by decide +kernel
theorem dR_add_34 : decode bR_add 34 = .ok (.iconst 0, 1) := by decide +kernel
theorem dR_add_35 : decode bR_add 35 = .ok (.iastore, 1) := by decide +kernel
theorem dR_add_36 : decode bR_add 36 = .ok (.aload_n 0, 1) := by decide +kernel
theorem dR_add_37 : decode bR_add 37 = .ok (.getfield 17, 3) := by decide +kernel
theorem dR_add_40 : decode bR_add 40 = .ok (.iconst 3, 1) := by decide +kernel
theorem dR_add_41 : decode bR_add 41 = .ok (.aaload, 1) := by decide +kernel
theorem dR_add_42 : decode bR_add 42 = .ok (.iload 4, 2) := by decide +kernel
theorem dR_add_44 : decode bR_add 44 = .ok (.iload_n 1, 1) := by decide +kernel
theorem dR_add_45 : decode bR_add 45 = .ok (.bipush 10, 2) := by decide +kernel
theorem dR_add_47 : decode bR_add 47 = .ok (.idiv, 1) := by decide +kernel
theorem dR_add_48 : decode bR_add 48 = .ok (.iastore, 1) := by decide +kernel
theorem dR_add_49 : decode bR_add 49 = .ok (.aload_n 0, 1) := by decide +kernel
theorem dR_add_50 : decode bR_add 50 = .ok (.getfield 17, 3) := by decide +kernel
theorem dR_add_53 : decode bR_add 53 = .ok (.iconst 4, 1) := by decide +kernel
theorem dR_add_54 : decode bR_add 54 = .ok (.aaload, 1) := by decide +kernel
theorem dR_add_55 : decode bR_add 55 = .ok (.iload 4, 2) := by decide +kernel
theorem dR_add_57 : decode bR_add 57 = .ok (.iload_n 1, 1) := by decide +kernel
theorem dR_add_58 : decode bR_add 58 = .ok (.bipush 10, 2) := by decide +kernel
theorem dR_add_60 : decode bR_add 60 = .ok (.irem, 1) := by decide +kernel
theorem dR_add_61 : decode bR_add 61 = .ok (.iastore, 1) := by decide +kernel
theorem dR_add_62 : decode bR_add 62 = .ok (.aload_n 0, 1) := by decide +kernel
theorem dR_add_63 : decode bR_add 63 = .ok (.dup, 1) := by decide +kernel
theorem dR_add_64 : decode bR_add 64 = .ok (.getfield 39, 3) := by decide +kernel
theorem dR_add_67 : decode bR_add 67 = .ok (.iconst 1, 1) := by decide +kernel
theorem dR_add_68 : decode bR_add 68 = .ok (.iadd, 1) := by decide +kernel
theorem dR_add_69 : decode bR_add 69 = .ok (.putfield 39, 3) := by decide +kernel
theorem dR_add_72 : decode bR_add 72 = .ok (.iload 4, 2) := by decide +kernel
theorem dR_add_74 : decode bR_add 74 = .ok (.ireturn, 1) := by decide +kernel
theorem cR_add {l : Launch} {G : GT} {I : List Nat} (hI : cI I) {r : Nat} (hr : isRow r) {fu : Nat} {v1 : Int32} {v2 : Int32} {v3 : Int32} {z : Sg} {R1 : Int32} {Z : Sg} (h : pR_add fu r v1 v2 v3 z = some (R1, Z)) : Mt l yR_add rmR_add bR_add 5 (some .int) G I z [.ref (gA G r), .int v1, .int v2, .int v3] (Qi G I R1 Z) := by
  refine entM (by decide +kernel) (Nat.le_of_ble_eq_true rfl) ?_
  intro p e s m below meth c C hG ls hl
  have hl : lv_has ls 5 [(0, .ref (gA G r)), (1, .int v1), (2, .int v2), (3, .int v3)] := hl
  unfold pR_add at h
  refine rAload_n C dR_add_0 hl 0 rfl ?_
  refine rGet C hG (hI _ hr.lt0) (eR_0 hr) fiR_3 (v := .int (z r 3)) rfl k_145 dR_add_1 ?_
  refine rIstore C dR_add_4 hl h (by decide) [(0, .ref (gA G r)), (1, .int v1), (2, .int v2), (3, .int v3)] rfl (fun x1 ls h hl => ?_)
  refine rAload_n C dR_add_6 hl 1 rfl ?_
  refine rGet C hG (hI _ hr.lt0) (eR_0 hr) fiR_2 (v := .ref (gA G (r + 2))) rfl k_141 dR_add_7 ?_
  refine lv_iconst (v := 0) C.1 C.2.1 dR_add_10 (by decide) ?_
  refine rAaldK C hG (hI _ (hr.lt (k := 2) (by decide))) (eR_2 hr) (t0 := 3) rfl rfl 0 (by decide) (by decide) (r + 3) rfl dR_add_11 ?_
  refine rIload C dR_add_12 hl 0 rfl ?_
  refine rIload_n C dR_add_14 hl 3 rfl ?_
  refine rIast C hG (hI _ (hr.lt (k := 3) (by decide))) (eR_3 hr) h dR_add_15 (fun H locs z2 h hG => ?_)
  refine rAload_n C dR_add_16 hl 1 rfl ?_
  refine rGet C hG (hI _ hr.lt0) (eR_0 hr) fiR_2 (v := .ref (gA G (r + 2))) rfl k_141 dR_add_17 ?_
  refine lv_iconst (v := 1) C.1 C.2.1 dR_add_20 (by decide) ?_
  refine rAaldK C hG (hI _ (hr.lt (k := 2) (by decide))) (eR_2 hr) (t0 := 3) rfl rfl 1 (by decide) (by decide) (r + 4) rfl dR_add_21 ?_
  refine rIload C dR_add_22 hl 0 rfl ?_
  refine rIload_n C dR_add_24 hl 4 rfl ?_
  refine rIast C hG (hI _ (hr.lt (k := 4) (by decide))) (eR_4 hr) h dR_add_25 (fun H locs z3 h hG => ?_)
  refine rAload_n C dR_add_26 hl 1 rfl ?_
  refine rGet C hG (hI _ hr.lt0) (eR_0 hr) fiR_2 (v := .ref (gA G (r + 2))) rfl k_141 dR_add_27 ?_
  refine lv_iconst (v := 2) C.1 C.2.1 dR_add_30 (by decide) ?_
  refine rAaldK C hG (hI _ (hr.lt (k := 2) (by decide))) (eR_2 hr) (t0 := 3) rfl rfl 2 (by decide) (by decide) (r + 5) rfl dR_add_31 ?_
  refine rIload C dR_add_32 hl 0 rfl ?_
  refine lv_iconst (v := 0) C.1 C.2.1 dR_add_34 (by decide) ?_
  refine rIast C hG (hI _ (hr.lt (k := 5) (by decide))) (eR_5 hr) h dR_add_35 (fun H locs z4 h hG => ?_)
  refine rAload_n C dR_add_36 hl 1 rfl ?_
  refine rGet C hG (hI _ hr.lt0) (eR_0 hr) fiR_2 (v := .ref (gA G (r + 2))) rfl k_141 dR_add_37 ?_
  refine lv_iconst (v := 3) C.1 C.2.1 dR_add_40 (by decide) ?_
  refine rAaldK C hG (hI _ (hr.lt (k := 2) (by decide))) (eR_2 hr) (t0 := 3) rfl rfl 3 (by decide) (by decide) (r + 6) rfl dR_add_41 ?_
  refine rIload C dR_add_42 hl 0 rfl ?_
  refine rIload_n C dR_add_44 hl 2 rfl ?_
  refine lv_bipush (v := 10) C.1 C.2.1 dR_add_45 (by decide) ?_
  refine lv_idiv C.1 C.2.1 dR_add_47 (by decide) ?_
  refine rIast C hG (hI _ (hr.lt (k := 6) (by decide))) (eR_6 hr) h dR_add_48 (fun H locs z5 h hG => ?_)
  refine rAload_n C dR_add_49 hl 1 rfl ?_
  refine rGet C hG (hI _ hr.lt0) (eR_0 hr) fiR_2 (v := .ref (gA G (r + 2))) rfl k_141 dR_add_50 ?_
  refine lv_iconst (v := 4) C.1 C.2.1 dR_add_53 (by decide) ?_
  refine rAaldK C hG (hI _ (hr.lt (k := 2) (by decide))) (eR_2 hr) (t0 := 3) rfl rfl 4 (by decide) (by decide) (r + 7) rfl dR_add_54 ?_
  refine rIload C dR_add_55 hl 0 rfl ?_
  refine rIload_n C dR_add_57 hl 2 rfl ?_
  refine lv_bipush (v := 10) C.1 C.2.1 dR_add_58 (by decide) ?_
  refine lv_irem C.1 C.2.1 dR_add_60 (by decide) ?_
  refine rIast C hG (hI _ (hr.lt (k := 7) (by decide))) (eR_7 hr) h dR_add_61 (fun H locs z6 h hG => ?_)
  refine rAload_n C dR_add_62 hl 1 rfl ?_
  refine lv_dup C.1 C.2.1 dR_add_63 rfl ?_
  refine rGet C hG (hI _ hr.lt0) (eR_0 hr) fiR_3 (v := .int (z6 r 3)) rfl k_145 dR_add_64 ?_
  refine lv_iconst (v := 1) C.1 C.2.1 dR_add_67 (by decide) ?_
  refine lv_iadd C.1 C.2.1 dR_add_68 ?_
  refine rPut C hG (hI _ hr.lt0) (eR_0 hr) fiR_3 tokR nmR rfl (fpR_3 _) (Nat.le_of_ble_eq_true rfl) rfl rfl k_145 h dR_add_69 (fun H locs z7 h hG => ?_)
  refine rIload C dR_add_72 hl 0 rfl ?_
  exact rReti C hG h dR_add_74
theorem dR_isFreeFor_0 : decode bR_isFreeFor 0 = .ok (.iload_n 2, 1) := by decide +kernel
theorem dR_isFreeFor_1 : decode bR_isFreeFor 1 = .ok (.aload_n 0, 1) := by decide +kernel
theorem dR_isFreeFor_2 : decode bR_isFreeFor 2 = .ok (.getfield 17, 3) := by decide +kernel
theorem dR_isFreeFor_5 : decode bR_isFreeFor 5 = .ok (.iconst 0, 1) := by decide +kernel
theorem dR_isFreeFor_6 : decode bR_isFreeFor 6 = .ok (.aaload, 1) := by decide +kernel
theorem dR_isFreeFor_7 : decode bR_isFreeFor 7 = .ok (.iload_n 1, 1) := by decide +kernel
theorem dR_isFreeFor_8 : decode bR_isFreeFor 8 = .ok (.iaload, 1) := by decide +kernel
theorem dR_isFreeFor_9 : decode bR_isFreeFor 9 = .ok (.if_icmp .eq 11, 3) := by decide +kernel
theorem dR_isFreeFor_12 : decode bR_isFreeFor 12 = .ok (.aload_n 0, 1) := by decide +kernel
theorem dR_isFreeFor_13 : decode bR_isFreeFor 13 = .ok (.iload_n 2, 1) := by decide +kernel
theorem dR_isFreeFor_14 : decode bR_isFreeFor 14 = .ok (.invokevirtual 54, 3) := by decide +kernel
theorem dR_isFreeFor_17 : decode bR_isFreeFor 17 = .ok (.ifCond .eq 7, 3) := by decide +kernel
theorem dR_isFreeFor_20 : decode bR_isFreeFor 20 = .ok (.iconst 1, 1) := by decide +kernel
theorem dR_isFreeFor_21 : decode bR_isFreeFor 21 = .ok (.goto 4, 3) := by decide +kernel
theorem dR_isFreeFor_24 : decode bR_isFreeFor 24 = .ok (.iconst 0, 1) := by decide +kernel
theorem dR_isFreeFor_25 : decode bR_isFreeFor 25 = .ok (.ireturn, 1) := by decide +kernel
theorem wR_isFreeFor_20 {p : Program} {l : Launch} {e : Env} {s : State} {m : MethodId} {args : Array Value} {below : List Frame} {meth : Method} {c : Code} {G : GT} {I : List Nat} (C : CX p s m args meth c NR bR_isFreeFor 3 (some .boolean) G I) (hI : cI I) {r : Nat} (hr : isRow r) {fu : Nat} {R1 : Int32} {Z : Sg} {z : Sg} {H : Heap} {locs : List Loc} {ls : Array Slot} (h : pR_isFreeFor_20 fu r z = some (R1, Z)) (hG : GW G I z s.heap H locs) (hl : lv_has ls 3 []) : W p l e rmR_isFreeFor s m args below meth c H locs 0 0 (MQ below (Qi G I R1 Z) args s 0 0 (AD G I)) (F0 m 20 ls []) := by
  unfold pR_isFreeFor_20 at h
  refine lv_iconst (v := 1) C.1 C.2.1 dR_isFreeFor_20 (by decide) ?_
  refine lv_goto (tgt := 25) C.1 C.2.1 dR_isFreeFor_21 (by decide) ?_
  exact rRetn C hG (ty := .boolean) rfl rfl h dR_isFreeFor_25
theorem cR_isFreeFor {l : Launch} {G : GT} {I : List Nat} (hI : cI I) {r : Nat} (hr : isRow r) {fu : Nat} {v1 : Int32} {v2 : Int32} {z : Sg} {R1 : Int32} {Z : Sg} (h : pR_isFreeFor fu r v1 v2 z = some (R1, Z)) : Mt l yR_isFreeFor rmR_isFreeFor bR_isFreeFor 3 (some .boolean) G I z [.ref (gA G r), .int v1, .int v2] (Qi G I R1 Z) := by
  refine entM (by decide +kernel) (Nat.le_of_ble_eq_true rfl) ?_
  intro p e s m below meth c C hG ls hl
  have hl : lv_has ls 3 [(0, .ref (gA G r)), (1, .int v1), (2, .int v2)] := hl
  unfold pR_isFreeFor at h
  refine rIload_n C dR_isFreeFor_0 hl 2 rfl ?_
  refine rAload_n C dR_isFreeFor_1 hl 0 rfl ?_
  refine rGet C hG (hI _ hr.lt0) (eR_0 hr) fiR_2 (v := .ref (gA G (r + 2))) rfl k_141 dR_isFreeFor_2 ?_
  refine lv_iconst (v := 0) C.1 C.2.1 dR_isFreeFor_5 (by decide) ?_
  refine rAaldK C hG (hI _ (hr.lt (k := 2) (by decide))) (eR_2 hr) (t0 := 3) rfl rfl 0 (by decide) (by decide) (r + 3) rfl dR_isFreeFor_6 ?_
  refine rIload_n C dR_isFreeFor_7 hl 1 rfl ?_
  refine rIald C hG (hI _ (hr.lt (k := 3) (by decide))) (eR_3 hr) h dR_isFreeFor_8 (fun h => ?_)
  refine rIcmpeq C (tgt := 20) h dR_isFreeFor_9 (by decide) (fun h => ?_) (fun h => ?_)
  · exact wR_isFreeFor_20 C hI hr h hG (lv_sub hl [] rfl)
  · refine rAload_n C dR_isFreeFor_12 hl 0 rfl ?_
    refine rIload_n C dR_isFreeFor_13 hl 2 rfl ?_
    refine rCVi [.int v2] [] C hG h (fun h => cR_isFree hI hr h) mvR_isFree k_499 ⟨Nat.le_of_ble_eq_true rfl, Nat.le_of_ble_eq_true rfl⟩ ⟨rfl, rfl⟩ (rRecv C hG (hI _ hr.lt0) (eR_0 hr) rfl) rfl hl.1 (Nat.le_of_ble_eq_true rfl) dR_isFreeFor_14 ⟨Nat.zero_le _, Nat.zero_le _⟩ rfl (fun H locs x2 z1 h hG => ?_)
    refine rIfeq C (tgt := 24) h dR_isFreeFor_17 (by decide) (fun h => ?_) (fun h => ?_)
    · refine lv_iconst (v := 0) C.1 C.2.1 dR_isFreeFor_24 (by decide) ?_
      exact rRetn C hG (ty := .boolean) rfl rfl h dR_isFreeFor_25
    · exact wR_isFreeFor_20 C hI hr h hG (lv_sub hl [] rfl)
theorem dR_keepsTo_0 : decode bR_keepsTo 0 = .ok (.aload_n 0, 1) := by decide +kernel
theorem dR_keepsTo_1 : decode bR_keepsTo 1 = .ok (.getfield 17, 3) := by decide +kernel
theorem dR_keepsTo_4 : decode bR_keepsTo 4 = .ok (.iconst 3, 1) := by decide +kernel
theorem dR_keepsTo_5 : decode bR_keepsTo 5 = .ok (.aaload, 1) := by decide +kernel
theorem dR_keepsTo_6 : decode bR_keepsTo 6 = .ok (.aload_n 0, 1) := by decide +kernel
theorem dR_keepsTo_7 : decode bR_keepsTo 7 = .ok (.getfield 69, 3) := by decide +kernel
theorem dR_keepsTo_10 : decode bR_keepsTo 10 = .ok (.iaload, 1) := by decide +kernel
theorem dR_keepsTo_11 : decode bR_keepsTo 11 = .ok (.tableswitch 61 1 4 #[29, 61, 36, 49], 29) := by decide +kernel
theorem dR_keepsTo_40 : decode bR_keepsTo 40 = .ok (.aload_n 0, 1) := by decide +kernel
theorem dR_keepsTo_41 : decode bR_keepsTo 41 = .ok (.getfield 9, 3) := by decide +kernel
theorem dR_keepsTo_44 : decode bR_keepsTo 44 = .ok (.iconst 1, 1) := by decide +kernel
theorem dR_keepsTo_45 : decode bR_keepsTo 45 = .ok (.iaload, 1) := by decide +kernel
theorem dR_keepsTo_46 : decode bR_keepsTo 46 = .ok (.ireturn, 1) := by decide +kernel
theorem dR_keepsTo_47 : decode bR_keepsTo 47 = .ok (.aload_n 0, 1) := by decide +kernel
theorem dR_keepsTo_48 : decode bR_keepsTo 48 = .ok (.getfield 9, 3) := by decide +kernel
theorem dR_keepsTo_51 : decode bR_keepsTo 51 = .ok (.iconst 1, 1) := by decide +kernel
theorem dR_keepsTo_52 : decode bR_keepsTo 52 = .ok (.iaload, 1) := by decide +kernel
theorem dR_keepsTo_53 : decode bR_keepsTo 53 = .ok (.bipush 6, 2) := by decide +kernel
theorem dR_keepsTo_55 : decode bR_keepsTo 55 = .ok (.iadd, 1) := by decide +kernel
theorem dR_keepsTo_56 : decode bR_keepsTo 56 = .ok (.bipush 12, 2) := by decide +kernel
theorem dR_keepsTo_58 : decode bR_keepsTo 58 = .ok (.irem, 1) := by decide +kernel
theorem dR_keepsTo_59 : decode bR_keepsTo 59 = .ok (.ireturn, 1) := by decide +kernel
theorem dR_keepsTo_60 : decode bR_keepsTo 60 = .ok (.aload_n 0, 1) := by decide +kernel
theorem dR_keepsTo_61 : decode bR_keepsTo 61 = .ok (.getfield 17, 3) := by decide +kernel
theorem dR_keepsTo_64 : decode bR_keepsTo 64 = .ok (.iconst 4, 1) := by decide +kernel
theorem dR_keepsTo_65 : decode bR_keepsTo 65 = .ok (.aaload, 1) := by decide +kernel
theorem dR_keepsTo_66 : decode bR_keepsTo 66 = .ok (.aload_n 0, 1) := by decide +kernel
theorem dR_keepsTo_67 : decode bR_keepsTo 67 = .ok (.getfield 69, 3) := by decide +kernel
theorem dR_keepsTo_70 : decode bR_keepsTo 70 = .ok (.iaload, 1) := by decide +kernel
theorem dR_keepsTo_71 : decode bR_keepsTo 71 = .ok (.ireturn, 1) := by decide +kernel
theorem dR_keepsTo_72 : decode bR_keepsTo 72 = .ok (.aload_n 0, 1) := by decide +kernel
theorem dR_keepsTo_73 : decode bR_keepsTo 73 = .ok (.getfield 29, 3) := by decide +kernel
theorem dR_keepsTo_76 : decode bR_keepsTo 76 = .ok (.aload_n 0, 1) := by decide +kernel
theorem dR_keepsTo_77 : decode bR_keepsTo 77 = .ok (.getfield 43, 3) := by decide +kernel
theorem dR_keepsTo_80 : decode bR_keepsTo 80 = .ok (.aaload, 1) := by decide +kernel
theorem dR_keepsTo_81 : decode bR_keepsTo 81 = .ok (.iconst 2, 1) := by decide +kernel
theorem dR_keepsTo_82 : decode bR_keepsTo 82 = .ok (.aload_n 0, 1) := by decide +kernel
theorem dR_keepsTo_83 : decode bR_keepsTo 83 = .ok (.getfield 20, 3) := by decide +kernel
theorem dR_keepsTo_86 : decode bR_keepsTo 86 = .ok (.invokevirtual 88, 3) := by decide +kernel
theorem dR_keepsTo_89 : decode bR_keepsTo 89 = .ok (.ireturn, 1) := by decide +kernel
theorem cR_keepsTo {l : Launch} {G : GT} {I : List Nat} (hI : cI I) {r : Nat} (hr : isRow r) {fu : Nat} {z : Sg} {R1 : Int32} {Z : Sg} (h : pR_keepsTo fu r z = some (R1, Z)) : Mt l yR_keepsTo rmR_keepsTo bR_keepsTo 1 (some .int) G I z [.ref (gA G r)] (Qi G I R1 Z) := by
  refine entM (by decide +kernel) (Nat.le_of_ble_eq_true rfl) ?_
  intro p e s m below meth c C hG ls hl
  have hl : lv_has ls 1 [(0, .ref (gA G r))] := hl
  unfold pR_keepsTo at h
  refine rAload_n C dR_keepsTo_0 hl 0 rfl ?_
  refine rGet C hG (hI _ hr.lt0) (eR_0 hr) fiR_2 (v := .ref (gA G (r + 2))) rfl k_141 dR_keepsTo_1 ?_
  refine lv_iconst (v := 3) C.1 C.2.1 dR_keepsTo_4 (by decide) ?_
  refine rAaldK C hG (hI _ (hr.lt (k := 2) (by decide))) (eR_2 hr) (t0 := 3) rfl rfl 3 (by decide) (by decide) (r + 6) rfl dR_keepsTo_5 ?_
  refine rAload_n C dR_keepsTo_6 hl 0 rfl ?_
  refine rGet C hG (hI _ hr.lt0) (eR_0 hr) fiR_6 (v := .int (z r 6)) rfl k_150 dR_keepsTo_7 ?_
  refine rIald C hG (hI _ (hr.lt (k := 6) (by decide))) (eR_6 hr) h dR_keepsTo_10 (fun h => ?_)
  by_cases q11_0 : ga z (r + 6) (z r 6) = 1
  · replace h := ifP q11_0 h
    refine rSwT C dR_keepsTo_11 1 q11_0 (by decide) (off := 29) (tgt := 40) (by decide) (by decide) ?_
    refine rAload_n C dR_keepsTo_40 hl 0 rfl ?_
    refine rGet C hG (hI _ hr.lt0) (eR_0 hr) fiR_1 (v := .ref (gA G (r + 1))) rfl k_139 dR_keepsTo_41 ?_
    refine lv_iconst (v := 1) C.1 C.2.1 dR_keepsTo_44 (by decide) ?_
    refine rIaldK C hG (hI _ (hr.lt (k := 1) (by decide))) (eR_1 hr) 1 (by decide) (by decide) dR_keepsTo_45 ?_
    exact rReti C hG h dR_keepsTo_46
  replace h := ifN q11_0 h
  by_cases q11_1 : ga z (r + 6) (z r 6) = 2
  · replace h := ifP q11_1 h
    refine rSwT C dR_keepsTo_11 2 q11_1 (by decide) (off := 61) (tgt := 72) (by decide) (by decide) ?_
    refine rAload_n C dR_keepsTo_72 hl 0 rfl ?_
    refine rGet C hG (hI _ hr.lt0) (eR_0 hr) fiR_0 (v := .ref (gA G 1)) rfl k_138 dR_keepsTo_73 ?_
    refine rAload_n C dR_keepsTo_76 hl 0 rfl ?_
    refine rGet C hG (hI _ hr.lt0) (eR_0 hr) fiR_4 (v := .int (z r 4)) rfl k_146 dR_keepsTo_77 ?_
    refine rAald C hG (hI 1 (by decide)) e_1 (t0 := 1) rfl rfl h dR_keepsTo_80 (fun hq80 h => ?_)
    refine lv_iconst (v := 2) C.1 C.2.1 dR_keepsTo_81 (by decide) ?_
    refine rAload_n C dR_keepsTo_82 hl 0 rfl ?_
    refine rGet C hG (hI _ hr.lt0) (eR_0 hr) fiR_5 (v := .ref (gA G (r + 8))) rfl k_148 dR_keepsTo_83 ?_
    refine rCVi [.int 2, .ref (gA G (r + 8))] [] C hG h (fun h => cL_says hI (isLaw.of hq80) ⟨(hI _ (hr.lt (k := 8) (by decide))), (eR_8 hr)⟩ h) mvL_says k_508 ⟨Nat.le_of_ble_eq_true rfl, Nat.le_of_ble_eq_true rfl⟩ ⟨rfl, rfl⟩ (rRecv C hG (hI _ (isLaw.of hq80).lt0) (eL_0 (isLaw.of hq80)) rfl) rfl hl.1 (Nat.le_of_ble_eq_true rfl) dR_keepsTo_86 ⟨Nat.zero_le _, Nat.zero_le _⟩ rfl (fun H locs x2 z1 h hG => ?_)
    exact rReti C hG h dR_keepsTo_89
  replace h := ifN q11_1 h
  by_cases q11_2 : ga z (r + 6) (z r 6) = 3
  · replace h := ifP q11_2 h
    refine rSwT C dR_keepsTo_11 3 q11_2 (by decide) (off := 36) (tgt := 47) (by decide) (by decide) ?_
    refine rAload_n C dR_keepsTo_47 hl 0 rfl ?_
    refine rGet C hG (hI _ hr.lt0) (eR_0 hr) fiR_1 (v := .ref (gA G (r + 1))) rfl k_139 dR_keepsTo_48 ?_
    refine lv_iconst (v := 1) C.1 C.2.1 dR_keepsTo_51 (by decide) ?_
    refine rIaldK C hG (hI _ (hr.lt (k := 1) (by decide))) (eR_1 hr) 1 (by decide) (by decide) dR_keepsTo_52 ?_
    refine lv_bipush (v := 6) C.1 C.2.1 dR_keepsTo_53 (by decide) ?_
    refine lv_iadd C.1 C.2.1 dR_keepsTo_55 ?_
    refine lv_bipush (v := 12) C.1 C.2.1 dR_keepsTo_56 (by decide) ?_
    refine lv_irem C.1 C.2.1 dR_keepsTo_58 (by decide) ?_
    exact rReti C hG h dR_keepsTo_59
  replace h := ifN q11_2 h
  by_cases q11_3 : ga z (r + 6) (z r 6) = 4
  · replace h := ifP q11_3 h
    refine rSwT C dR_keepsTo_11 4 q11_3 (by decide) (off := 49) (tgt := 60) (by decide) (by decide) ?_
    refine rAload_n C dR_keepsTo_60 hl 0 rfl ?_
    refine rGet C hG (hI _ hr.lt0) (eR_0 hr) fiR_2 (v := .ref (gA G (r + 2))) rfl k_141 dR_keepsTo_61 ?_
    refine lv_iconst (v := 4) C.1 C.2.1 dR_keepsTo_64 (by decide) ?_
    refine rAaldK C hG (hI _ (hr.lt (k := 2) (by decide))) (eR_2 hr) (t0 := 3) rfl rfl 4 (by decide) (by decide) (r + 7) rfl dR_keepsTo_65 ?_
    refine rAload_n C dR_keepsTo_66 hl 0 rfl ?_
    refine rGet C hG (hI _ hr.lt0) (eR_0 hr) fiR_6 (v := .int (z r 6)) rfl k_150 dR_keepsTo_67 ?_
    refine rIald C hG (hI _ (hr.lt (k := 7) (by decide))) (eR_7 hr) h dR_keepsTo_70 (fun h => ?_)
    exact rReti C hG h dR_keepsTo_71
  replace h := ifN q11_3 h
  refine rSwD C dR_keepsTo_11 (tgt := 72) (by have q11_0n := ne_toInt (k := 1) q11_0 (by decide); have q11_1n := ne_toInt (k := 2) q11_1 (by decide); have q11_2n := ne_toInt (k := 3) q11_2 (by decide); have q11_3n := ne_toInt (k := 4) q11_3 (by decide); omega) (by decide) ?_
  refine rAload_n C dR_keepsTo_72 hl 0 rfl ?_
  refine rGet C hG (hI _ hr.lt0) (eR_0 hr) fiR_0 (v := .ref (gA G 1)) rfl k_138 dR_keepsTo_73 ?_
  refine rAload_n C dR_keepsTo_76 hl 0 rfl ?_
  refine rGet C hG (hI _ hr.lt0) (eR_0 hr) fiR_4 (v := .int (z r 4)) rfl k_146 dR_keepsTo_77 ?_
  refine rAald C hG (hI 1 (by decide)) e_1 (t0 := 1) rfl rfl h dR_keepsTo_80 (fun hq80 h => ?_)
  refine lv_iconst (v := 2) C.1 C.2.1 dR_keepsTo_81 (by decide) ?_
  refine rAload_n C dR_keepsTo_82 hl 0 rfl ?_
  refine rGet C hG (hI _ hr.lt0) (eR_0 hr) fiR_5 (v := .ref (gA G (r + 8))) rfl k_148 dR_keepsTo_83 ?_
  refine rCVi [.int 2, .ref (gA G (r + 8))] [] C hG h (fun h => cL_says hI (isLaw.of hq80) ⟨(hI _ (hr.lt (k := 8) (by decide))), (eR_8 hr)⟩ h) mvL_says k_508 ⟨Nat.le_of_ble_eq_true rfl, Nat.le_of_ble_eq_true rfl⟩ ⟨rfl, rfl⟩ (rRecv C hG (hI _ (isLaw.of hq80).lt0) (eL_0 (isLaw.of hq80)) rfl) rfl hl.1 (Nat.le_of_ble_eq_true rfl) dR_keepsTo_86 ⟨Nat.zero_le _, Nat.zero_le _⟩ rfl (fun H locs x4 z3 h hG => ?_)
  exact rReti C hG h dR_keepsTo_89
theorem dR_howFar_0 : decode bR_howFar 0 = .ok (.aload_n 0, 1) := by decide +kernel
theorem dR_howFar_1 : decode bR_howFar 1 = .ok (.getfield 17, 3) := by decide +kernel
theorem dR_howFar_4 : decode bR_howFar 4 = .ok (.iconst 3, 1) := by decide +kernel
theorem dR_howFar_5 : decode bR_howFar 5 = .ok (.aaload, 1) := by decide +kernel
theorem dR_howFar_6 : decode bR_howFar 6 = .ok (.aload_n 0, 1) := by decide +kernel
theorem dR_howFar_7 : decode bR_howFar 7 = .ok (.getfield 69, 3) := by decide +kernel
theorem dR_howFar_10 : decode bR_howFar 10 = .ok (.iaload, 1) := by decide +kernel
theorem dR_howFar_11 : decode bR_howFar 11 = .ok (.istore_n 1, 1) := by decide +kernel
theorem dR_howFar_12 : decode bR_howFar 12 = .ok (.aload_n 0, 1) := by decide +kernel
theorem dR_howFar_13 : decode bR_howFar 13 = .ok (.getfield 17, 3) := by decide +kernel
theorem dR_howFar_16 : decode bR_howFar 16 = .ok (.iconst 1, 1) := by decide +kernel
theorem dR_howFar_17 : decode bR_howFar 17 = .ok (.aaload, 1) := by decide +kernel
theorem dR_howFar_18 : decode bR_howFar 18 = .ok (.aload_n 0, 1) := by decide +kernel
theorem dR_howFar_19 : decode bR_howFar 19 = .ok (.getfield 69, 3) := by decide +kernel
theorem dR_howFar_22 : decode bR_howFar 22 = .ok (.iaload, 1) := by decide +kernel
theorem dR_howFar_23 : decode bR_howFar 23 = .ok (.istore_n 2, 1) := by decide +kernel
theorem dR_howFar_24 : decode bR_howFar 24 = .ok (.iload_n 1, 1) := by decide +kernel
theorem dR_howFar_25 : decode bR_howFar 25 = .ok (.iconst 5, 1) := by decide +kernel
theorem dR_howFar_26 : decode bR_howFar 26 = .ok (.if_icmp .ne 30, 3) := by decide +kernel
theorem dR_howFar_29 : decode bR_howFar 29 = .ok (.aload_n 0, 1) := by decide +kernel
theorem dR_howFar_30 : decode bR_howFar 30 = .ok (.getfield 9, 3) := by decide +kernel
theorem dR_howFar_33 : decode bR_howFar 33 = .ok (.iconst 3, 1) := by decide +kernel
theorem dR_howFar_34 : decode bR_howFar 34 = .ok (.iaload, 1) := by decide +kernel
theorem dR_howFar_35 : decode bR_howFar 35 = .ok (.iconst 5, 1) := by decide +kernel
theorem dR_howFar_36 : decode bR_howFar 36 = .ok (.irem, 1) := by decide +kernel
theorem dR_howFar_37 : decode bR_howFar 37 = .ok (.ifCond .ne 7, 3) := by decide +kernel
theorem dR_howFar_40 : decode bR_howFar 40 = .ok (.iconst 0, 1) := by decide +kernel
theorem dR_howFar_41 : decode bR_howFar 41 = .ok (.goto 14, 3) := by decide +kernel
theorem dR_howFar_44 : decode bR_howFar 44 = .ok (.aload_n 0, 1) := by decide +kernel
theorem dR_howFar_45 : decode bR_howFar 45 = .ok (.invokevirtual 80, 3) := by decide +kernel
theorem dR_howFar_48 : decode bR_howFar 48 = .ok (.iload_n 2, 1) := by decide +kernel
theorem dR_howFar_49 : decode bR_howFar 49 = .ok (.isub, 1) := by decide +kernel
theorem dR_howFar_50 : decode bR_howFar 50 = .ok (.bipush 12, 2) := by decide +kernel
theorem dR_howFar_52 : decode bR_howFar 52 = .ok (.invokestatic 84, 3) := by decide +kernel
theorem dR_howFar_55 : decode bR_howFar 55 = .ok (.ireturn, 1) := by decide +kernel
theorem dR_howFar_56 : decode bR_howFar 56 = .ok (.aload_n 0, 1) := by decide +kernel
theorem dR_howFar_57 : decode bR_howFar 57 = .ok (.getfield 29, 3) := by decide +kernel
theorem dR_howFar_60 : decode bR_howFar 60 = .ok (.aload_n 0, 1) := by decide +kernel
theorem dR_howFar_61 : decode bR_howFar 61 = .ok (.getfield 43, 3) := by decide +kernel
theorem dR_howFar_64 : decode bR_howFar 64 = .ok (.aaload, 1) := by decide +kernel
theorem dR_howFar_65 : decode bR_howFar 65 = .ok (.iconst 0, 1) := by decide +kernel
theorem dR_howFar_66 : decode bR_howFar 66 = .ok (.aload_n 0, 1) := by decide +kernel
theorem dR_howFar_67 : decode bR_howFar 67 = .ok (.getfield 20, 3) := by decide +kernel
theorem dR_howFar_70 : decode bR_howFar 70 = .ok (.invokevirtual 88, 3) := by decide +kernel
theorem dR_howFar_73 : decode bR_howFar 73 = .ok (.istore_n 3, 1) := by decide +kernel
theorem dR_howFar_74 : decode bR_howFar 74 = .ok (.iload_n 1, 1) := by decide +kernel
theorem dR_howFar_75 : decode bR_howFar 75 = .ok (.iconst 1, 1) := by decide +kernel
theorem dR_howFar_76 : decode bR_howFar 76 = .ok (.invokestatic 94, 3) := by decide +kernel
theorem dR_howFar_79 : decode bR_howFar 79 = .ok (.ifCond .eq 14, 3) := by decide +kernel
theorem dR_howFar_82 : decode bR_howFar 82 = .ok (.aload_n 0, 1) := by decide +kernel
theorem dR_howFar_83 : decode bR_howFar 83 = .ok (.invokevirtual 80, 3) := by decide +kernel
theorem dR_howFar_86 : decode bR_howFar 86 = .ok (.iload_n 2, 1) := by decide +kernel
theorem dR_howFar_87 : decode bR_howFar 87 = .ok (.if_icmp .eq 6, 3) := by decide +kernel
theorem dR_howFar_90 : decode bR_howFar 90 = .ok (.iinc 3 1, 3) := by decide +kernel
theorem dR_howFar_93 : decode bR_howFar 93 = .ok (.iload_n 1, 1) := by decide +kernel
theorem dR_howFar_94 : decode bR_howFar 94 = .ok (.iconst 2, 1) := by decide +kernel
theorem dR_howFar_95 : decode bR_howFar 95 = .ok (.invokestatic 94, 3) := by decide +kernel
theorem dR_howFar_98 : decode bR_howFar 98 = .ok (.ifCond .eq 19, 3) := by decide +kernel
theorem dR_howFar_101 : decode bR_howFar 101 = .ok (.iload_n 3, 1) := by decide +kernel
theorem dR_howFar_102 : decode bR_howFar 102 = .ok (.aload_n 0, 1) := by decide +kernel
theorem dR_howFar_103 : decode bR_howFar 103 = .ok (.getfield 17, 3) := by decide +kernel
theorem dR_howFar_106 : decode bR_howFar 106 = .ok (.iconst 4, 1) := by decide +kernel
theorem dR_howFar_107 : decode bR_howFar 107 = .ok (.aaload, 1) := by decide +kernel
theorem dR_howFar_108 : decode bR_howFar 108 = .ok (.aload_n 0, 1) := by decide +kernel
theorem dR_howFar_109 : decode bR_howFar 109 = .ok (.getfield 69, 3) := by decide +kernel
theorem dR_howFar_112 : decode bR_howFar 112 = .ok (.iaload, 1) := by decide +kernel
theorem dR_howFar_113 : decode bR_howFar 113 = .ok (.iconst 3, 1) := by decide +kernel
theorem dR_howFar_114 : decode bR_howFar 114 = .ok (.idiv, 1) := by decide +kernel
theorem dR_howFar_115 : decode bR_howFar 115 = .ok (.iadd, 1) := by decide +kernel
theorem dR_howFar_116 : decode bR_howFar 116 = .ok (.istore_n 3, 1) := by decide +kernel
theorem dR_howFar_117 : decode bR_howFar 117 = .ok (.iload_n 1, 1) := by decide +kernel
theorem dR_howFar_118 : decode bR_howFar 118 = .ok (.iconst 4, 1) := by decide +kernel
theorem dR_howFar_119 : decode bR_howFar 119 = .ok (.if_icmp .ne 7, 3) := by decide +kernel
theorem dR_howFar_122 : decode bR_howFar 122 = .ok (.iload_n 3, 1) := by decide +kernel
theorem dR_howFar_123 : decode bR_howFar 123 = .ok (.iconst 2, 1) := by decide +kernel
theorem dR_howFar_124 : decode bR_howFar 124 = .ok (.imul, 1) := by decide +kernel
theorem dR_howFar_125 : decode bR_howFar 125 = .ok (.istore_n 3, 1) := by decide +kernel
theorem dR_howFar_126 : decode bR_howFar 126 = .ok (.iload_n 3, 1) := by decide +kernel
theorem dR_howFar_127 : decode bR_howFar 127 = .ok (.bipush 11, 2) := by decide +kernel
theorem dR_howFar_129 : decode bR_howFar 129 = .ok (.invokestatic 97, 3) := by decide +kernel
theorem dR_howFar_132 : decode bR_howFar 132 = .ok (.ireturn, 1) := by decide +kernel
theorem wR_howFar_126 {p : Program} {l : Launch} {e : Env} {s : State} {m : MethodId} {args : Array Value} {below : List Frame} {meth : Method} {c : Code} {G : GT} {I : List Nat} (C : CX p s m args meth c NR bR_howFar 4 (some .int) G I) (hI : cI I) {r : Nat} (hr : isRow r) {fu : Nat} {R1 : Int32} {Z : Sg} {v3 : Int32} {z : Sg} {H : Heap} {locs : List Loc} {ls : Array Slot} (h : pR_howFar_126 fu r v3 z = some (R1, Z)) (hG : GW G I z s.heap H locs) (hl : lv_has ls 4 [(3, .int v3)]) : W p l e rmR_howFar s m args below meth c H locs 0 0 (MQ below (Qi G I R1 Z) args s 0 0 (AD G I)) (F0 m 126 ls []) := by
  unfold pR_howFar_126 at h
  refine rIload_n C dR_howFar_126 hl 0 rfl ?_
  refine lv_bipush (v := 11) C.1 C.2.1 dR_howFar_127 (by decide) ?_
  refine rMin C k_522 mt_min hl.1 (Nat.le_of_ble_eq_true rfl) (Nat.le_of_ble_eq_true rfl) ⟨Nat.zero_le _, Nat.zero_le _⟩ dR_howFar_129 ?_
  exact rReti C hG h dR_howFar_132
theorem wR_howFar_117 {p : Program} {l : Launch} {e : Env} {s : State} {m : MethodId} {args : Array Value} {below : List Frame} {meth : Method} {c : Code} {G : GT} {I : List Nat} (C : CX p s m args meth c NR bR_howFar 4 (some .int) G I) (hI : cI I) {r : Nat} (hr : isRow r) {fu : Nat} {R1 : Int32} {Z : Sg} {v1 : Int32} {v3 : Int32} {z : Sg} {H : Heap} {locs : List Loc} {ls : Array Slot} (h : pR_howFar_117 fu r v1 v3 z = some (R1, Z)) (hG : GW G I z s.heap H locs) (hl : lv_has ls 4 [(1, .int v1), (3, .int v3)]) : W p l e rmR_howFar s m args below meth c H locs 0 0 (MQ below (Qi G I R1 Z) args s 0 0 (AD G I)) (F0 m 117 ls []) := by
  unfold pR_howFar_117 at h
  refine rIload_n C dR_howFar_117 hl 0 rfl ?_
  refine lv_iconst (v := 4) C.1 C.2.1 dR_howFar_118 (by decide) ?_
  refine rIcmpne C (tgt := 126) h dR_howFar_119 (by decide) (fun h => ?_) (fun h => ?_)
  · exact wR_howFar_126 C hI hr h hG (lv_sub hl [1] rfl)
  · refine rIload_n C dR_howFar_122 hl 1 rfl ?_
    refine lv_iconst (v := 2) C.1 C.2.1 dR_howFar_123 (by decide) ?_
    refine lv_imul C.1 C.2.1 dR_howFar_124 ?_
    refine rIstore_n C dR_howFar_125 hl h (by decide) [(1, .int v1)] rfl (fun x17 ls h hl => ?_)
    exact wR_howFar_126 C hI hr h hG (lv_sub hl [0] rfl)
theorem wR_howFar_93 {p : Program} {l : Launch} {e : Env} {s : State} {m : MethodId} {args : Array Value} {below : List Frame} {meth : Method} {c : Code} {G : GT} {I : List Nat} (C : CX p s m args meth c NR bR_howFar 4 (some .int) G I) (hI : cI I) {r : Nat} (hr : isRow r) {fu : Nat} {R1 : Int32} {Z : Sg} {v1 : Int32} {v3 : Int32} {z : Sg} {H : Heap} {locs : List Loc} {ls : Array Slot} (h : pR_howFar_93 fu r v1 v3 z = some (R1, Z)) (hG : GW G I z s.heap H locs) (hl : lv_has ls 4 [(0, .ref (gA G r)), (1, .int v1), (3, .int v3)]) : W p l e rmR_howFar s m args below meth c H locs 0 0 (MQ below (Qi G I R1 Z) args s 0 0 (AD G I)) (F0 m 93 ls []) := by
  unfold pR_howFar_93 at h
  refine rIload_n C dR_howFar_93 hl 1 rfl ?_
  refine lv_iconst (v := 2) C.1 C.2.1 dR_howFar_94 (by decide) ?_
  refine rCNi [.int v1, .int 2] [] C hG h (fun h => cS_isA hI h) mvS_isA C.2.2.2.2.2.2.2.2.1.2 ⟨Nat.le_of_ble_eq_true rfl, Nat.le_of_ble_eq_true rfl⟩ ⟨rfl, rfl⟩ rfl hl.1 (Nat.le_of_ble_eq_true rfl) dR_howFar_95 ⟨Nat.zero_le _, Nat.zero_le _⟩ rfl (fun H locs x15 z14 h hG => ?_)
  refine rIfeq C (tgt := 117) h dR_howFar_98 (by decide) (fun h => ?_) (fun h => ?_)
  · exact wR_howFar_117 C hI hr h hG (lv_sub hl [1, 2] rfl)
  · refine rIload_n C dR_howFar_101 hl 2 rfl ?_
    refine rAload_n C dR_howFar_102 hl 0 rfl ?_
    refine rGet C hG (hI _ hr.lt0) (eR_0 hr) fiR_2 (v := .ref (gA G (r + 2))) rfl k_141 dR_howFar_103 ?_
    refine lv_iconst (v := 4) C.1 C.2.1 dR_howFar_106 (by decide) ?_
    refine rAaldK C hG (hI _ (hr.lt (k := 2) (by decide))) (eR_2 hr) (t0 := 3) rfl rfl 4 (by decide) (by decide) (r + 7) rfl dR_howFar_107 ?_
    refine rAload_n C dR_howFar_108 hl 0 rfl ?_
    refine rGet C hG (hI _ hr.lt0) (eR_0 hr) fiR_6 (v := .int (z14 r 6)) rfl k_150 dR_howFar_109 ?_
    refine rIald C hG (hI _ (hr.lt (k := 7) (by decide))) (eR_7 hr) h dR_howFar_112 (fun h => ?_)
    refine lv_iconst (v := 3) C.1 C.2.1 dR_howFar_113 (by decide) ?_
    refine lv_idiv C.1 C.2.1 dR_howFar_114 (by decide) ?_
    refine lv_iadd C.1 C.2.1 dR_howFar_115 ?_
    refine rIstore_n C dR_howFar_116 hl h (by decide) [(0, .ref (gA G r)), (1, .int v1)] rfl (fun x16 ls h hl => ?_)
    exact wR_howFar_117 C hI hr h hG (lv_sub hl [2, 0] rfl)
theorem cR_howFar {l : Launch} {G : GT} {I : List Nat} (hI : cI I) {r : Nat} (hr : isRow r) {fu : Nat} {z : Sg} {R1 : Int32} {Z : Sg} (h : pR_howFar fu r z = some (R1, Z)) : Mt l yR_howFar rmR_howFar bR_howFar 4 (some .int) G I z [.ref (gA G r)] (Qi G I R1 Z) := by
  refine entM (by decide +kernel) (Nat.le_of_ble_eq_true rfl) ?_
  intro p e s m below meth c C hG ls hl
  have hl : lv_has ls 4 [(0, .ref (gA G r))] := hl
  unfold pR_howFar at h
  refine rAload_n C dR_howFar_0 hl 0 rfl ?_
  refine rGet C hG (hI _ hr.lt0) (eR_0 hr) fiR_2 (v := .ref (gA G (r + 2))) rfl k_141 dR_howFar_1 ?_
  refine lv_iconst (v := 3) C.1 C.2.1 dR_howFar_4 (by decide) ?_
  refine rAaldK C hG (hI _ (hr.lt (k := 2) (by decide))) (eR_2 hr) (t0 := 3) rfl rfl 3 (by decide) (by decide) (r + 6) rfl dR_howFar_5 ?_
  refine rAload_n C dR_howFar_6 hl 0 rfl ?_
  refine rGet C hG (hI _ hr.lt0) (eR_0 hr) fiR_6 (v := .int (z r 6)) rfl k_150 dR_howFar_7 ?_
  refine rIald C hG (hI _ (hr.lt (k := 6) (by decide))) (eR_6 hr) h dR_howFar_10 (fun h => ?_)
  refine rIstore_n C dR_howFar_11 hl h (by decide) [(0, .ref (gA G r))] rfl (fun x1 ls h hl => ?_)
  refine rAload_n C dR_howFar_12 hl 1 rfl ?_
  refine rGet C hG (hI _ hr.lt0) (eR_0 hr) fiR_2 (v := .ref (gA G (r + 2))) rfl k_141 dR_howFar_13 ?_
  refine lv_iconst (v := 1) C.1 C.2.1 dR_howFar_16 (by decide) ?_
  refine rAaldK C hG (hI _ (hr.lt (k := 2) (by decide))) (eR_2 hr) (t0 := 3) rfl rfl 1 (by decide) (by decide) (r + 4) rfl dR_howFar_17 ?_
  refine rAload_n C dR_howFar_18 hl 1 rfl ?_
  refine rGet C hG (hI _ hr.lt0) (eR_0 hr) fiR_6 (v := .int (z r 6)) rfl k_150 dR_howFar_19 ?_
  refine rIald C hG (hI _ (hr.lt (k := 4) (by decide))) (eR_4 hr) h dR_howFar_22 (fun h => ?_)
  refine rIstore_n C dR_howFar_23 hl h (by decide) [(1, .int x1), (0, .ref (gA G r))] rfl (fun x2 ls h hl => ?_)
  refine rIload_n C dR_howFar_24 hl 1 rfl ?_
  refine lv_iconst (v := 5) C.1 C.2.1 dR_howFar_25 (by decide) ?_
  refine rIcmpne C (tgt := 56) h dR_howFar_26 (by decide) (fun h => ?_) (fun h => ?_)
  · refine rAload_n C dR_howFar_56 hl 2 rfl ?_
    refine rGet C hG (hI _ hr.lt0) (eR_0 hr) fiR_0 (v := .ref (gA G 1)) rfl k_138 dR_howFar_57 ?_
    refine rAload_n C dR_howFar_60 hl 2 rfl ?_
    refine rGet C hG (hI _ hr.lt0) (eR_0 hr) fiR_4 (v := .int (z r 4)) rfl k_146 dR_howFar_61 ?_
    refine rAald C hG (hI 1 (by decide)) e_1 (t0 := 1) rfl rfl h dR_howFar_64 (fun hq64 h => ?_)
    refine lv_iconst (v := 0) C.1 C.2.1 dR_howFar_65 (by decide) ?_
    refine rAload_n C dR_howFar_66 hl 2 rfl ?_
    refine rGet C hG (hI _ hr.lt0) (eR_0 hr) fiR_5 (v := .ref (gA G (r + 8))) rfl k_148 dR_howFar_67 ?_
    refine rCVi [.int 0, .ref (gA G (r + 8))] [] C hG h (fun h => cL_says hI (isLaw.of hq64) ⟨(hI _ (hr.lt (k := 8) (by decide))), (eR_8 hr)⟩ h) mvL_says k_508 ⟨Nat.le_of_ble_eq_true rfl, Nat.le_of_ble_eq_true rfl⟩ ⟨rfl, rfl⟩ (rRecv C hG (hI _ (isLaw.of hq64).lt0) (eL_0 (isLaw.of hq64)) rfl) rfl hl.1 (Nat.le_of_ble_eq_true rfl) dR_howFar_70 ⟨Nat.zero_le _, Nat.zero_le _⟩ rfl (fun H locs x4 z3 h hG => ?_)
    refine rIstoreA_n C dR_howFar_73 hl (by decide) [(2, .int x2), (1, .int x1), (0, .ref (gA G r))] rfl (fun ls hl => ?_)
    refine rIload_n C dR_howFar_74 hl 2 rfl ?_
    refine lv_iconst (v := 1) C.1 C.2.1 dR_howFar_75 (by decide) ?_
    refine rCNi [.int x1, .int 1] [] C hG h (fun h => cS_isA hI h) mvS_isA C.2.2.2.2.2.2.2.2.1.2 ⟨Nat.le_of_ble_eq_true rfl, Nat.le_of_ble_eq_true rfl⟩ ⟨rfl, rfl⟩ rfl hl.1 (Nat.le_of_ble_eq_true rfl) dR_howFar_76 ⟨Nat.zero_le _, Nat.zero_le _⟩ rfl (fun H locs x6 z5 h hG => ?_)
    refine rIfeq C (tgt := 93) h dR_howFar_79 (by decide) (fun h => ?_) (fun h => ?_)
    · exact wR_howFar_93 C hI hr h hG (lv_sub hl [3, 2, 0] rfl)
    · refine rAload_n C dR_howFar_82 hl 3 rfl ?_
      refine rCVi [] [] C hG h (fun h => cR_keepsTo hI hr h) mvR_keepsTo k_513 ⟨Nat.le_of_ble_eq_true rfl, Nat.le_of_ble_eq_true rfl⟩ ⟨rfl, rfl⟩ (rRecv C hG (hI _ hr.lt0) (eR_0 hr) rfl) rfl hl.1 (Nat.le_of_ble_eq_true rfl) dR_howFar_83 ⟨Nat.zero_le _, Nat.zero_le _⟩ rfl (fun H locs x8 z7 h hG => ?_)
      refine rIload_n C dR_howFar_86 hl 1 rfl ?_
      refine rIcmpeq C (tgt := 93) h dR_howFar_87 (by decide) (fun h => ?_) (fun h => ?_)
      · exact wR_howFar_93 C hI hr h hG (lv_sub hl [3, 2, 0] rfl)
      · refine rIinc C dR_howFar_90 hl 0 rfl (d := 1) (by decide) h (by decide) [(2, .int x2), (1, .int x1), (0, .ref (gA G r))] rfl (fun x9 ls h hl => ?_)
        exact wR_howFar_93 C hI hr h hG (lv_sub hl [3, 2, 0] rfl)
  · refine rAload_n C dR_howFar_29 hl 2 rfl ?_
    refine rGet C hG (hI _ hr.lt0) (eR_0 hr) fiR_1 (v := .ref (gA G (r + 1))) rfl k_139 dR_howFar_30 ?_
    refine lv_iconst (v := 3) C.1 C.2.1 dR_howFar_33 (by decide) ?_
    refine rIaldK C hG (hI _ (hr.lt (k := 1) (by decide))) (eR_1 hr) 3 (by decide) (by decide) dR_howFar_34 ?_
    refine lv_iconst (v := 5) C.1 C.2.1 dR_howFar_35 (by decide) ?_
    refine lv_irem C.1 C.2.1 dR_howFar_36 (by decide) ?_
    refine rIfne C (tgt := 44) h dR_howFar_37 (by decide) (fun h => ?_) (fun h => ?_)
    · refine rAload_n C dR_howFar_44 hl 2 rfl ?_
      refine rCVi [] [] C hG h (fun h => cR_keepsTo hI hr h) mvR_keepsTo k_513 ⟨Nat.le_of_ble_eq_true rfl, Nat.le_of_ble_eq_true rfl⟩ ⟨rfl, rfl⟩ (rRecv C hG (hI _ hr.lt0) (eR_0 hr) rfl) rfl hl.1 (Nat.le_of_ble_eq_true rfl) dR_howFar_45 ⟨Nat.zero_le _, Nat.zero_le _⟩ rfl (fun H locs x11 z10 h hG => ?_)
      refine rIload_n C dR_howFar_48 hl 0 rfl ?_
      refine lv_isub C.1 C.2.1 dR_howFar_49 ?_
      refine lv_bipush (v := 12) C.1 C.2.1 dR_howFar_50 (by decide) ?_
      refine rCSi [.int (x11 - x2), .int 12] [] C hG h (fun h => cJM_floorMod h) mvJM_floorMod k_514 ⟨Nat.le_of_ble_eq_true rfl, Nat.le_of_ble_eq_true rfl⟩ ⟨rfl, rfl⟩ rfl hl.1 (Nat.le_of_ble_eq_true rfl) dR_howFar_52 ⟨Nat.zero_le _, Nat.zero_le _⟩ rfl (fun H locs x13 z12 h hG => ?_)
      exact rReti C hG h dR_howFar_55
    · refine lv_iconst (v := 0) C.1 C.2.1 dR_howFar_40 (by decide) ?_
      refine lv_goto (tgt := 55) C.1 C.2.1 dR_howFar_41 (by decide) ?_
      exact rReti C hG h dR_howFar_55
theorem dR_clashes_0 : decode bR_clashes 0 = .ok (.aload_n 0, 1) := by decide +kernel
theorem dR_clashes_1 : decode bR_clashes 1 = .ok (.getfield 20, 3) := by decide +kernel
theorem dR_clashes_4 : decode bR_clashes 4 = .ok (.iconst 1, 1) := by decide +kernel
theorem dR_clashes_5 : decode bR_clashes 5 = .ok (.iaload, 1) := by decide +kernel
theorem dR_clashes_6 : decode bR_clashes 6 = .ok (.aload_n 0, 1) := by decide +kernel
theorem dR_clashes_7 : decode bR_clashes 7 = .ok (.getfield 20, 3) := by decide +kernel
theorem dR_clashes_10 : decode bR_clashes 10 = .ok (.iconst 2, 1) := by decide +kernel
theorem dR_clashes_11 : decode bR_clashes 11 = .ok (.iaload, 1) := by decide +kernel
theorem dR_clashes_12 : decode bR_clashes 12 = .ok (.isub, 1) := by decide +kernel
theorem dR_clashes_13 : decode bR_clashes 13 = .ok (.invokestatic 75, 3) := by decide +kernel
theorem dR_clashes_16 : decode bR_clashes 16 = .ok (.bipush 6, 2) := by decide +kernel
theorem dR_clashes_18 : decode bR_clashes 18 = .ok (.if_icmp .eq 24, 3) := by decide +kernel
theorem dR_clashes_21 : decode bR_clashes 21 = .ok (.aload_n 0, 1) := by decide +kernel
theorem dR_clashes_22 : decode bR_clashes 22 = .ok (.getfield 20, 3) := by decide +kernel
theorem dR_clashes_25 : decode bR_clashes 25 = .ok (.iconst 1, 1) := by decide +kernel
theorem dR_clashes_26 : decode bR_clashes 26 = .ok (.iaload, 1) := by decide +kernel
theorem dR_clashes_27 : decode bR_clashes 27 = .ok (.aload_n 0, 1) := by decide +kernel
theorem dR_clashes_28 : decode bR_clashes 28 = .ok (.getfield 20, 3) := by decide +kernel
theorem dR_clashes_31 : decode bR_clashes 31 = .ok (.iconst 3, 1) := by decide +kernel
theorem dR_clashes_32 : decode bR_clashes 32 = .ok (.iaload, 1) := by decide +kernel
theorem dR_clashes_33 : decode bR_clashes 33 = .ok (.isub, 1) := by decide +kernel
theorem dR_clashes_34 : decode bR_clashes 34 = .ok (.invokestatic 75, 3) := by decide +kernel
theorem dR_clashes_37 : decode bR_clashes 37 = .ok (.bipush 6, 2) := by decide +kernel
theorem dR_clashes_39 : decode bR_clashes 39 = .ok (.if_icmp .ne 7, 3) := by decide +kernel
theorem dR_clashes_42 : decode bR_clashes 42 = .ok (.iconst 1, 1) := by decide +kernel
theorem dR_clashes_43 : decode bR_clashes 43 = .ok (.goto 4, 3) := by decide +kernel
theorem dR_clashes_46 : decode bR_clashes 46 = .ok (.iconst 0, 1) := by decide +kernel
theorem dR_clashes_47 : decode bR_clashes 47 = .ok (.ireturn, 1) := by decide +kernel
theorem wR_clashes_42 {p : Program} {l : Launch} {e : Env} {s : State} {m : MethodId} {args : Array Value} {below : List Frame} {meth : Method} {c : Code} {G : GT} {I : List Nat} (C : CX p s m args meth c NR bR_clashes 1 (some .boolean) G I) (hI : cI I) {r : Nat} (hr : isRow r) {fu : Nat} {R1 : Int32} {Z : Sg} {z : Sg} {H : Heap} {locs : List Loc} {ls : Array Slot} (h : pR_clashes_42 fu r z = some (R1, Z)) (hG : GW G I z s.heap H locs) (hl : lv_has ls 1 []) : W p l e rmR_clashes s m args below meth c H locs 0 0 (MQ below (Qi G I R1 Z) args s 0 0 (AD G I)) (F0 m 42 ls []) := by
  unfold pR_clashes_42 at h
  refine lv_iconst (v := 1) C.1 C.2.1 dR_clashes_42 (by decide) ?_
  refine lv_goto (tgt := 47) C.1 C.2.1 dR_clashes_43 (by decide) ?_
  exact rRetn C hG (ty := .boolean) rfl rfl h dR_clashes_47
theorem cR_clashes {l : Launch} {G : GT} {I : List Nat} (hI : cI I) {r : Nat} (hr : isRow r) {fu : Nat} {z : Sg} {R1 : Int32} {Z : Sg} (h : pR_clashes fu r z = some (R1, Z)) : Mt l yR_clashes rmR_clashes bR_clashes 1 (some .boolean) G I z [.ref (gA G r)] (Qi G I R1 Z) := by
  refine entM (by decide +kernel) (Nat.le_of_ble_eq_true rfl) ?_
  intro p e s m below meth c C hG ls hl
  have hl : lv_has ls 1 [(0, .ref (gA G r))] := hl
  unfold pR_clashes at h
  refine rAload_n C dR_clashes_0 hl 0 rfl ?_
  refine rGet C hG (hI _ hr.lt0) (eR_0 hr) fiR_5 (v := .ref (gA G (r + 8))) rfl k_148 dR_clashes_1 ?_
  refine lv_iconst (v := 1) C.1 C.2.1 dR_clashes_4 (by decide) ?_
  refine rIaldK C hG (hI _ (hr.lt (k := 8) (by decide))) (eR_8 hr) 1 (by decide) (by decide) dR_clashes_5 ?_
  refine rAload_n C dR_clashes_6 hl 0 rfl ?_
  refine rGet C hG (hI _ hr.lt0) (eR_0 hr) fiR_5 (v := .ref (gA G (r + 8))) rfl k_148 dR_clashes_7 ?_
  refine lv_iconst (v := 2) C.1 C.2.1 dR_clashes_10 (by decide) ?_
  refine rIaldK C hG (hI _ (hr.lt (k := 8) (by decide))) (eR_8 hr) 2 (by decide) (by decide) dR_clashes_11 ?_
  refine lv_isub C.1 C.2.1 dR_clashes_12 ?_
  refine rAbs C k_531 mt_abs hl.1 (Nat.le_of_ble_eq_true rfl) (Nat.le_of_ble_eq_true rfl) ⟨Nat.zero_le _, Nat.zero_le _⟩ dR_clashes_13 ?_
  refine lv_bipush (v := 6) C.1 C.2.1 dR_clashes_16 (by decide) ?_
  refine rIcmpeq C (tgt := 42) h dR_clashes_18 (by decide) (fun h => ?_) (fun h => ?_)
  · exact wR_clashes_42 C hI hr h hG (lv_sub hl [] rfl)
  · refine rAload_n C dR_clashes_21 hl 0 rfl ?_
    refine rGet C hG (hI _ hr.lt0) (eR_0 hr) fiR_5 (v := .ref (gA G (r + 8))) rfl k_148 dR_clashes_22 ?_
    refine lv_iconst (v := 1) C.1 C.2.1 dR_clashes_25 (by decide) ?_
    refine rIaldK C hG (hI _ (hr.lt (k := 8) (by decide))) (eR_8 hr) 1 (by decide) (by decide) dR_clashes_26 ?_
    refine rAload_n C dR_clashes_27 hl 0 rfl ?_
    refine rGet C hG (hI _ hr.lt0) (eR_0 hr) fiR_5 (v := .ref (gA G (r + 8))) rfl k_148 dR_clashes_28 ?_
    refine lv_iconst (v := 3) C.1 C.2.1 dR_clashes_31 (by decide) ?_
    refine rIaldK C hG (hI _ (hr.lt (k := 8) (by decide))) (eR_8 hr) 3 (by decide) (by decide) dR_clashes_32 ?_
    refine lv_isub C.1 C.2.1 dR_clashes_33 ?_
    refine rAbs C k_531 mt_abs hl.1 (Nat.le_of_ble_eq_true rfl) (Nat.le_of_ble_eq_true rfl) ⟨Nat.zero_le _, Nat.zero_le _⟩ dR_clashes_34 ?_
    refine lv_bipush (v := 6) C.1 C.2.1 dR_clashes_37 (by decide) ?_
    refine rIcmpne C (tgt := 46) h dR_clashes_39 (by decide) (fun h => ?_) (fun h => ?_)
    · refine lv_iconst (v := 0) C.1 C.2.1 dR_clashes_46 (by decide) ?_
      exact rRetn C hG (ty := .boolean) rfl rfl h dR_clashes_47
    · exact wR_clashes_42 C hI hr h hG (lv_sub hl [] rfl)
theorem dR_howTiring_0 : decode bR_howTiring 0 = .ok (.aload_n 0, 1) := by decide +kernel
theorem dR_howTiring_1 : decode bR_howTiring 1 = .ok (.getfield 17, 3) := by decide +kernel
theorem dR_howTiring_4 : decode bR_howTiring 4 = .ok (.iconst 3, 1) := by decide +kernel
theorem dR_howTiring_5 : decode bR_howTiring 5 = .ok (.aaload, 1) := by decide +kernel
theorem dR_howTiring_6 : decode bR_howTiring 6 = .ok (.aload_n 0, 1) := by decide +kernel
theorem dR_howTiring_7 : decode bR_howTiring 7 = .ok (.getfield 69, 3) := by decide +kernel
theorem dR_howTiring_10 : decode bR_howTiring 10 = .ok (.iaload, 1) := by decide +kernel
theorem dR_howTiring_11 : decode bR_howTiring 11 = .ok (.istore_n 1, 1) := by decide +kernel
theorem dR_howTiring_12 : decode bR_howTiring 12 = .ok (.iload_n 1, 1) := by decide +kernel
theorem dR_howTiring_13 : decode bR_howTiring 13 = .ok (.iconst 5, 1) := by decide +kernel
theorem dR_howTiring_14 : decode bR_howTiring 14 = .ok (.if_icmp .ne 5, 3) := by decide +kernel
theorem dR_howTiring_17 : decode bR_howTiring 17 = .ok (.iconst (-1), 1) := by decide +kernel
theorem dR_howTiring_18 : decode bR_howTiring 18 = .ok (.ireturn, 1) := by decide +kernel
theorem dR_howTiring_19 : decode bR_howTiring 19 = .ok (.aload_n 0, 1) := by decide +kernel
theorem dR_howTiring_20 : decode bR_howTiring 20 = .ok (.getfield 29, 3) := by decide +kernel
theorem dR_howTiring_23 : decode bR_howTiring 23 = .ok (.aload_n 0, 1) := by decide +kernel
theorem dR_howTiring_24 : decode bR_howTiring 24 = .ok (.getfield 43, 3) := by decide +kernel
theorem dR_howTiring_27 : decode bR_howTiring 27 = .ok (.aaload, 1) := by decide +kernel
theorem dR_howTiring_28 : decode bR_howTiring 28 = .ok (.iconst 1, 1) := by decide +kernel
theorem dR_howTiring_29 : decode bR_howTiring 29 = .ok (.aload_n 0, 1) := by decide +kernel
theorem dR_howTiring_30 : decode bR_howTiring 30 = .ok (.getfield 20, 3) := by decide +kernel
theorem dR_howTiring_33 : decode bR_howTiring 33 = .ok (.invokevirtual 88, 3) := by decide +kernel
theorem dR_howTiring_36 : decode bR_howTiring 36 = .ok (.aload_n 0, 1) := by decide +kernel
theorem dR_howTiring_37 : decode bR_howTiring 37 = .ok (.invokevirtual 65, 3) := by decide +kernel
theorem dR_howTiring_40 : decode bR_howTiring 40 = .ok (.ifCond .eq 7, 3) := by decide +kernel
theorem dR_howTiring_43 : decode bR_howTiring 43 = .ok (.iconst 5, 1) := by decide +kernel
theorem dR_howTiring_44 : decode bR_howTiring 44 = .ok (.goto 4, 3) := by decide +kernel
theorem dR_howTiring_47 : decode bR_howTiring 47 = .ok (.iconst 0, 1) := by decide +kernel
theorem dR_howTiring_48 : decode bR_howTiring 48 = .ok (.iadd, 1) := by decide +kernel
theorem dR_howTiring_49 : decode bR_howTiring 49 = .ok (.istore_n 2, 1) := by decide +kernel
theorem dR_howTiring_50 : decode bR_howTiring 50 = .ok (.iload_n 1, 1) := by decide +kernel
theorem dR_howTiring_51 : decode bR_howTiring 51 = .ok (.iconst 2, 1) := by decide +kernel
theorem dR_howTiring_52 : decode bR_howTiring 52 = .ok (.invokestatic 94, 3) := by decide +kernel
theorem dR_howTiring_55 : decode bR_howTiring 55 = .ok (.ifCond .eq 7, 3) := by decide +kernel
theorem dR_howTiring_58 : decode bR_howTiring 58 = .ok (.iconst 2, 1) := by decide +kernel
theorem dR_howTiring_59 : decode bR_howTiring 59 = .ok (.iload_n 2, 1) := by decide +kernel
theorem dR_howTiring_60 : decode bR_howTiring 60 = .ok (.imul, 1) := by decide +kernel
theorem dR_howTiring_61 : decode bR_howTiring 61 = .ok (.ireturn, 1) := by decide +kernel
theorem dR_howTiring_62 : decode bR_howTiring 62 = .ok (.iload_n 1, 1) := by decide +kernel
theorem dR_howTiring_63 : decode bR_howTiring 63 = .ok (.iconst 3, 1) := by decide +kernel
theorem dR_howTiring_64 : decode bR_howTiring 64 = .ok (.if_icmp .ne 19, 3) := by decide +kernel
theorem dR_howTiring_67 : decode bR_howTiring 67 = .ok (.iload_n 2, 1) := by decide +kernel
theorem dR_howTiring_68 : decode bR_howTiring 68 = .ok (.aload_n 0, 1) := by decide +kernel
theorem dR_howTiring_69 : decode bR_howTiring 69 = .ok (.getfield 17, 3) := by decide +kernel
theorem dR_howTiring_72 : decode bR_howTiring 72 = .ok (.iconst 4, 1) := by decide +kernel
theorem dR_howTiring_73 : decode bR_howTiring 73 = .ok (.aaload, 1) := by decide +kernel
theorem dR_howTiring_74 : decode bR_howTiring 74 = .ok (.aload_n 0, 1) := by decide +kernel
theorem dR_howTiring_75 : decode bR_howTiring 75 = .ok (.getfield 69, 3) := by decide +kernel
theorem dR_howTiring_78 : decode bR_howTiring 78 = .ok (.iaload, 1) := by decide +kernel
theorem dR_howTiring_79 : decode bR_howTiring 79 = .ok (.isub, 1) := by decide +kernel
theorem dR_howTiring_80 : decode bR_howTiring 80 = .ok (.goto 4, 3) := by decide +kernel
theorem dR_howTiring_83 : decode bR_howTiring 83 = .ok (.iload_n 2, 1) := by decide +kernel
theorem dR_howTiring_84 : decode bR_howTiring 84 = .ok (.ireturn, 1) := by decide +kernel
theorem wR_howTiring_48 {p : Program} {l : Launch} {e : Env} {s : State} {m : MethodId} {args : Array Value} {below : List Frame} {meth : Method} {c : Code} {G : GT} {I : List Nat} (C : CX p s m args meth c NR bR_howTiring 3 (some .int) G I) (hI : cI I) {r : Nat} (hr : isRow r) {fu : Nat} {R1 : Int32} {Z : Sg} {v1 : Int32} {t0 : Int32} {t1 : Int32} {z : Sg} {H : Heap} {locs : List Loc} {ls : Array Slot} (h : pR_howTiring_48 fu r v1 t0 t1 z = some (R1, Z)) (hG : GW G I z s.heap H locs) (hl : lv_has ls 3 [(0, .ref (gA G r)), (1, .int v1)]) : W p l e rmR_howTiring s m args below meth c H locs 0 0 (MQ below (Qi G I R1 Z) args s 0 0 (AD G I)) (F0 m 48 ls [.int t1, .int t0]) := by
  unfold pR_howTiring_48 at h
  refine lv_iadd C.1 C.2.1 dR_howTiring_48 ?_
  refine rIstore_n C dR_howTiring_49 hl h (by decide) [(0, .ref (gA G r)), (1, .int v1)] rfl (fun x6 ls h hl => ?_)
  refine rIload_n C dR_howTiring_50 hl 2 rfl ?_
  refine lv_iconst (v := 2) C.1 C.2.1 dR_howTiring_51 (by decide) ?_
  refine rCNi [.int v1, .int 2] [] C hG h (fun h => cS_isA hI h) mvS_isA C.2.2.2.2.2.2.2.2.1.2 ⟨Nat.le_of_ble_eq_true rfl, Nat.le_of_ble_eq_true rfl⟩ ⟨rfl, rfl⟩ rfl hl.1 (Nat.le_of_ble_eq_true rfl) dR_howTiring_52 ⟨Nat.zero_le _, Nat.zero_le _⟩ rfl (fun H locs x8 z7 h hG => ?_)
  refine rIfeq C (tgt := 62) h dR_howTiring_55 (by decide) (fun h => ?_) (fun h => ?_)
  · refine rIload_n C dR_howTiring_62 hl 2 rfl ?_
    refine lv_iconst (v := 3) C.1 C.2.1 dR_howTiring_63 (by decide) ?_
    refine rIcmpne C (tgt := 83) h dR_howTiring_64 (by decide) (fun h => ?_) (fun h => ?_)
    · refine rIload_n C dR_howTiring_83 hl 0 rfl ?_
      exact rReti C hG h dR_howTiring_84
    · refine rIload_n C dR_howTiring_67 hl 0 rfl ?_
      refine rAload_n C dR_howTiring_68 hl 1 rfl ?_
      refine rGet C hG (hI _ hr.lt0) (eR_0 hr) fiR_2 (v := .ref (gA G (r + 2))) rfl k_141 dR_howTiring_69 ?_
      refine lv_iconst (v := 4) C.1 C.2.1 dR_howTiring_72 (by decide) ?_
      refine rAaldK C hG (hI _ (hr.lt (k := 2) (by decide))) (eR_2 hr) (t0 := 3) rfl rfl 4 (by decide) (by decide) (r + 7) rfl dR_howTiring_73 ?_
      refine rAload_n C dR_howTiring_74 hl 1 rfl ?_
      refine rGet C hG (hI _ hr.lt0) (eR_0 hr) fiR_6 (v := .int (z7 r 6)) rfl k_150 dR_howTiring_75 ?_
      refine rIald C hG (hI _ (hr.lt (k := 7) (by decide))) (eR_7 hr) h dR_howTiring_78 (fun h => ?_)
      refine lv_isub C.1 C.2.1 dR_howTiring_79 ?_
      refine lv_goto (tgt := 84) C.1 C.2.1 dR_howTiring_80 (by decide) ?_
      exact rReti C hG h dR_howTiring_84
  · refine lv_iconst (v := 2) C.1 C.2.1 dR_howTiring_58 (by decide) ?_
    refine rIload_n C dR_howTiring_59 hl 0 rfl ?_
    refine lv_imul C.1 C.2.1 dR_howTiring_60 ?_
    exact rReti C hG h dR_howTiring_61
theorem cR_howTiring {l : Launch} {G : GT} {I : List Nat} (hI : cI I) {r : Nat} (hr : isRow r) {fu : Nat} {z : Sg} {R1 : Int32} {Z : Sg} (h : pR_howTiring fu r z = some (R1, Z)) : Mt l yR_howTiring rmR_howTiring bR_howTiring 3 (some .int) G I z [.ref (gA G r)] (Qi G I R1 Z) := by
  refine entM (by decide +kernel) (Nat.le_of_ble_eq_true rfl) ?_
  intro p e s m below meth c C hG ls hl
  have hl : lv_has ls 3 [(0, .ref (gA G r))] := hl
  unfold pR_howTiring at h
  refine rAload_n C dR_howTiring_0 hl 0 rfl ?_
  refine rGet C hG (hI _ hr.lt0) (eR_0 hr) fiR_2 (v := .ref (gA G (r + 2))) rfl k_141 dR_howTiring_1 ?_
  refine lv_iconst (v := 3) C.1 C.2.1 dR_howTiring_4 (by decide) ?_
  refine rAaldK C hG (hI _ (hr.lt (k := 2) (by decide))) (eR_2 hr) (t0 := 3) rfl rfl 3 (by decide) (by decide) (r + 6) rfl dR_howTiring_5 ?_
  refine rAload_n C dR_howTiring_6 hl 0 rfl ?_
  refine rGet C hG (hI _ hr.lt0) (eR_0 hr) fiR_6 (v := .int (z r 6)) rfl k_150 dR_howTiring_7 ?_
  refine rIald C hG (hI _ (hr.lt (k := 6) (by decide))) (eR_6 hr) h dR_howTiring_10 (fun h => ?_)
  refine rIstore_n C dR_howTiring_11 hl h (by decide) [(0, .ref (gA G r))] rfl (fun x1 ls h hl => ?_)
  refine rIload_n C dR_howTiring_12 hl 0 rfl ?_
  refine lv_iconst (v := 5) C.1 C.2.1 dR_howTiring_13 (by decide) ?_
  refine rIcmpne C (tgt := 19) h dR_howTiring_14 (by decide) (fun h => ?_) (fun h => ?_)
  · refine rAload_n C dR_howTiring_19 hl 1 rfl ?_
    refine rGet C hG (hI _ hr.lt0) (eR_0 hr) fiR_0 (v := .ref (gA G 1)) rfl k_138 dR_howTiring_20 ?_
    refine rAload_n C dR_howTiring_23 hl 1 rfl ?_
    refine rGet C hG (hI _ hr.lt0) (eR_0 hr) fiR_4 (v := .int (z r 4)) rfl k_146 dR_howTiring_24 ?_
    refine rAald C hG (hI 1 (by decide)) e_1 (t0 := 1) rfl rfl h dR_howTiring_27 (fun hq27 h => ?_)
    refine lv_iconst (v := 1) C.1 C.2.1 dR_howTiring_28 (by decide) ?_
    refine rAload_n C dR_howTiring_29 hl 1 rfl ?_
    refine rGet C hG (hI _ hr.lt0) (eR_0 hr) fiR_5 (v := .ref (gA G (r + 8))) rfl k_148 dR_howTiring_30 ?_
    refine rCVi [.int 1, .ref (gA G (r + 8))] [] C hG h (fun h => cL_says hI (isLaw.of hq27) ⟨(hI _ (hr.lt (k := 8) (by decide))), (eR_8 hr)⟩ h) mvL_says k_508 ⟨Nat.le_of_ble_eq_true rfl, Nat.le_of_ble_eq_true rfl⟩ ⟨rfl, rfl⟩ (rRecv C hG (hI _ (isLaw.of hq27).lt0) (eL_0 (isLaw.of hq27)) rfl) rfl hl.1 (Nat.le_of_ble_eq_true rfl) dR_howTiring_33 ⟨Nat.zero_le _, Nat.zero_le _⟩ rfl (fun H locs x3 z2 h hG => ?_)
    refine rAload_n C dR_howTiring_36 hl 1 rfl ?_
    refine rCVi [] [.int x3] C hG h (fun h => cR_clashes hI hr h) mvR_clashes k_527 ⟨Nat.le_of_ble_eq_true rfl, Nat.le_of_ble_eq_true rfl⟩ ⟨rfl, rfl⟩ (rRecv C hG (hI _ hr.lt0) (eR_0 hr) rfl) rfl hl.1 (Nat.le_of_ble_eq_true rfl) dR_howTiring_37 ⟨Nat.zero_le _, Nat.zero_le _⟩ rfl (fun H locs x5 z4 h hG => ?_)
    refine rIfeq C (tgt := 47) h dR_howTiring_40 (by decide) (fun h => ?_) (fun h => ?_)
    · refine lv_iconst (v := 0) C.1 C.2.1 dR_howTiring_47 (by decide) ?_
      exact wR_howTiring_48 C hI hr h hG (lv_sub hl [1, 0] rfl)
    · refine lv_iconst (v := 5) C.1 C.2.1 dR_howTiring_43 (by decide) ?_
      refine lv_goto (tgt := 48) C.1 C.2.1 dR_howTiring_44 (by decide) ?_
      exact wR_howTiring_48 C hI hr h hG (lv_sub hl [1, 0] rfl)
  · refine lv_iconst (v := (-1)) C.1 C.2.1 dR_howTiring_17 (by decide) ?_
    exact rReti C hG h dR_howTiring_18
theorem dR_swingOn_0 : decode bR_swingOn 0 = .ok (.iconst 0, 1) := by decide +kernel
theorem dR_swingOn_1 : decode bR_swingOn 1 = .ok (.istore_n 1, 1) := by decide +kernel
theorem dR_swingOn_2 : decode bR_swingOn 2 = .ok (.iload_n 1, 1) := by decide +kernel
theorem dR_swingOn_3 : decode bR_swingOn 3 = .ok (.aload_n 0, 1) := by decide +kernel
theorem dR_swingOn_4 : decode bR_swingOn 4 = .ok (.getfield 39, 3) := by decide +kernel
theorem dR_swingOn_7 : decode bR_swingOn 7 = .ok (.if_icmp .ge 51, 3) := by decide +kernel
theorem dR_swingOn_10 : decode bR_swingOn 10 = .ok (.aload_n 0, 1) := by decide +kernel
theorem dR_swingOn_11 : decode bR_swingOn 11 = .ok (.iload_n 1, 1) := by decide +kernel
theorem dR_swingOn_12 : decode bR_swingOn 12 = .ok (.invokevirtual 61, 3) := by decide +kernel
theorem dR_swingOn_15 : decode bR_swingOn 15 = .ok (.aload_n 0, 1) := by decide +kernel
theorem dR_swingOn_16 : decode bR_swingOn 16 = .ok (.getfield 23, 3) := by decide +kernel
theorem dR_swingOn_19 : decode bR_swingOn 19 = .ok (.iload_n 1, 1) := by decide +kernel
theorem dR_swingOn_20 : decode bR_swingOn 20 = .ok (.aload_n 0, 1) := by decide +kernel
theorem dR_swingOn_21 : decode bR_swingOn 21 = .ok (.getfield 17, 3) := by decide +kernel
theorem dR_swingOn_24 : decode bR_swingOn 24 = .ok (.iconst 2, 1) := by decide +kernel
theorem dR_swingOn_25 : decode bR_swingOn 25 = .ok (.aaload, 1) := by decide +kernel
theorem dR_swingOn_26 : decode bR_swingOn 26 = .ok (.iload_n 1, 1) := by decide +kernel
theorem dR_swingOn_27 : decode bR_swingOn 27 = .ok (.iaload, 1) := by decide +kernel
theorem dR_swingOn_28 : decode bR_swingOn 28 = .ok (.bipush 99, 2) := by decide +kernel
theorem dR_swingOn_30 : decode bR_swingOn 30 = .ok (.if_icmp .lt 7, 3) := by decide +kernel
theorem dR_swingOn_33 : decode bR_swingOn 33 = .ok (.iconst 0, 1) := by decide +kernel
theorem dR_swingOn_34 : decode bR_swingOn 34 = .ok (.goto 7, 3) := by decide +kernel
theorem dR_swingOn_37 : decode bR_swingOn 37 = .ok (.aload_n 0, 1) := by decide +kernel
theorem dR_swingOn_38 : decode bR_swingOn 38 = .ok (.invokevirtual 100, 3) := by decide +kernel
theorem dR_swingOn_41 : decode bR_swingOn 41 = .ok (.iastore, 1) := by decide +kernel
theorem dR_swingOn_42 : decode bR_swingOn 42 = .ok (.aload_n 0, 1) := by decide +kernel
theorem dR_swingOn_43 : decode bR_swingOn 43 = .ok (.getfield 26, 3) := by decide +kernel
theorem dR_swingOn_46 : decode bR_swingOn 46 = .ok (.iload_n 1, 1) := by decide +kernel
theorem dR_swingOn_47 : decode bR_swingOn 47 = .ok (.aload_n 0, 1) := by decide +kernel
theorem dR_swingOn_48 : decode bR_swingOn 48 = .ok (.invokevirtual 103, 3) := by decide +kernel
theorem dR_swingOn_51 : decode bR_swingOn 51 = .ok (.iastore, 1) := by decide +kernel
theorem dR_swingOn_52 : decode bR_swingOn 52 = .ok (.iinc 1 1, 3) := by decide +kernel
theorem dR_swingOn_55 : decode bR_swingOn 55 = .ok (.goto (-53), 3) := by decide +kernel
theorem dR_swingOn_58 : decode bR_swingOn 58 = .ok (.iconst 0, 1) := by decide +kernel
theorem dR_swingOn_59 : decode bR_swingOn 59 = .ok (.istore_n 1, 1) := by decide +kernel
theorem dR_swingOn_60 : decode bR_swingOn 60 = .ok (.iconst 0, 1) := by decide +kernel
theorem dR_swingOn_61 : decode bR_swingOn 61 = .ok (.istore_n 2, 1) := by decide +kernel
theorem dR_swingOn_62 : decode bR_swingOn 62 = .ok (.iload_n 2, 1) := by decide +kernel
theorem dR_swingOn_63 : decode bR_swingOn 63 = .ok (.aload_n 0, 1) := by decide +kernel
theorem dR_swingOn_64 : decode bR_swingOn 64 = .ok (.getfield 39, 3) := by decide +kernel
theorem dR_swingOn_67 : decode bR_swingOn 67 = .ok (.if_icmp .ge 78, 3) := by decide +kernel
theorem dR_swingOn_70 : decode bR_swingOn 70 = .ok (.aload_n 0, 1) := by decide +kernel
theorem dR_swingOn_71 : decode bR_swingOn 71 = .ok (.getfield 17, 3) := by decide +kernel
theorem dR_swingOn_74 : decode bR_swingOn 74 = .ok (.iconst 1, 1) := by decide +kernel
theorem dR_swingOn_75 : decode bR_swingOn 75 = .ok (.aaload, 1) := by decide +kernel
theorem dR_swingOn_76 : decode bR_swingOn 76 = .ok (.iload_n 2, 1) := by decide +kernel
theorem dR_swingOn_77 : decode bR_swingOn 77 = .ok (.iaload, 1) := by decide +kernel
theorem dR_swingOn_78 : decode bR_swingOn 78 = .ok (.aload_n 0, 1) := by decide +kernel
theorem dR_swingOn_79 : decode bR_swingOn 79 = .ok (.getfield 23, 3) := by decide +kernel
theorem dR_swingOn_82 : decode bR_swingOn 82 = .ok (.iload_n 2, 1) := by decide +kernel
theorem dR_swingOn_83 : decode bR_swingOn 83 = .ok (.iaload, 1) := by decide +kernel
theorem dR_swingOn_84 : decode bR_swingOn 84 = .ok (.iadd, 1) := by decide +kernel
theorem dR_swingOn_85 : decode bR_swingOn 85 = .ok (.istore_n 3, 1) := by decide +kernel
theorem dR_swingOn_86 : decode bR_swingOn 86 = .ok (.iload_n 3, 1) := by decide +kernel
theorem dR_swingOn_87 : decode bR_swingOn 87 = .ok (.bipush 12, 2) := by decide +kernel
theorem dR_swingOn_89 : decode bR_swingOn 89 = .ok (.if_icmp .lt 6, 3) := by decide +kernel
theorem dR_swingOn_92 : decode bR_swingOn 92 = .ok (.iinc 1 1, 3) := by decide +kernel
theorem dR_swingOn_95 : decode bR_swingOn 95 = .ok (.aload_n 0, 1) := by decide +kernel
theorem dR_swingOn_96 : decode bR_swingOn 96 = .ok (.getfield 17, 3) := by decide +kernel
theorem dR_swingOn_99 : decode bR_swingOn 99 = .ok (.iconst 1, 1) := by decide +kernel
theorem dR_swingOn_100 : decode bR_swingOn 100 = .ok (.aaload, 1) := by decide +kernel
theorem dR_swingOn_101 : decode bR_swingOn 101 = .ok (.iload_n 2, 1) := by decide +kernel
theorem dR_swingOn_102 : decode bR_swingOn 102 = .ok (.iload_n 3, 1) := by decide +kernel
theorem dR_swingOn_103 : decode bR_swingOn 103 = .ok (.bipush 12, 2) := by decide +kernel
theorem dR_swingOn_105 : decode bR_swingOn 105 = .ok (.irem, 1) := by decide +kernel
theorem dR_swingOn_106 : decode bR_swingOn 106 = .ok (.iastore, 1) := by decide +kernel
theorem dR_swingOn_107 : decode bR_swingOn 107 = .ok (.aload_n 0, 1) := by decide +kernel
theorem dR_swingOn_108 : decode bR_swingOn 108 = .ok (.getfield 17, 3) := by decide +kernel
theorem dR_swingOn_111 : decode bR_swingOn 111 = .ok (.iconst 2, 1) := by decide +kernel
theorem dR_swingOn_112 : decode bR_swingOn 112 = .ok (.aaload, 1) := by decide +kernel
theorem dR_swingOn_113 : decode bR_swingOn 113 = .ok (.iload_n 2, 1) := by decide +kernel
theorem dR_swingOn_114 : decode bR_swingOn 114 = .ok (.iconst 0, 1) := by decide +kernel
theorem dR_swingOn_115 : decode bR_swingOn 115 = .ok (.bipush 99, 2) := by decide +kernel
theorem dR_swingOn_117 : decode bR_swingOn 117 = .ok (.aload_n 0, 1) := by decide +kernel
theorem dR_swingOn_118 : decode bR_swingOn 118 = .ok (.getfield 17, 3) := by decide +kernel
theorem dR_swingOn_121 : decode bR_swingOn 121 = .ok (.iconst 2, 1) := by decide +kernel
theorem dR_swingOn_122 : decode bR_swingOn 122 = .ok (.aaload, 1) := by decide +kernel
theorem dR_swingOn_123 : decode bR_swingOn 123 = .ok (.iload_n 2, 1) := by decide +kernel
theorem dR_swingOn_124 : decode bR_swingOn 124 = .ok (.iaload, 1) := by decide +kernel
theorem dR_swingOn_125 : decode bR_swingOn 125 = .ok (.aload_n 0, 1) := by decide +kernel
theorem dR_swingOn_126 : decode bR_swingOn 126 = .ok (.getfield 26, 3) := by decide +kernel
theorem dR_swingOn_129 : decode bR_swingOn 129 = .ok (.iload_n 2, 1) := by decide +kernel
theorem dR_swingOn_130 : decode bR_swingOn 130 = .ok (.iaload, 1) := by decide +kernel
theorem dR_swingOn_131 : decode bR_swingOn 131 = .ok (.iadd, 1) := by decide +kernel
theorem dR_swingOn_132 : decode bR_swingOn 132 = .ok (.invokestatic 97, 3) := by decide +kernel
theorem dR_swingOn_135 : decode bR_swingOn 135 = .ok (.invokestatic 106, 3) := by decide +kernel
theorem dR_swingOn_138 : decode bR_swingOn 138 = .ok (.iastore, 1) := by decide +kernel
theorem dR_swingOn_139 : decode bR_swingOn 139 = .ok (.iinc 2 1, 3) := by decide +kernel
theorem dR_swingOn_142 : decode bR_swingOn 142 = .ok (.goto (-80), 3) := by decide +kernel
theorem dR_swingOn_145 : decode bR_swingOn 145 = .ok (.aload_n 0, 1) := by decide +kernel
theorem dR_swingOn_146 : decode bR_swingOn 146 = .ok (.getfield 9, 3) := by decide +kernel
theorem dR_swingOn_149 : decode bR_swingOn 149 = .ok (.iconst 1, 1) := by decide +kernel
theorem dR_swingOn_150 : decode bR_swingOn 150 = .ok (.aload_n 0, 1) := by decide +kernel
theorem dR_swingOn_151 : decode bR_swingOn 151 = .ok (.getfield 9, 3) := by decide +kernel
theorem dR_swingOn_154 : decode bR_swingOn 154 = .ok (.iconst 1, 1) := by decide +kernel
theorem dR_swingOn_155 : decode bR_swingOn 155 = .ok (.iaload, 1) := by decide +kernel
theorem dR_swingOn_156 : decode bR_swingOn 156 = .ok (.aload_n 0, 1) := by decide +kernel
theorem dR_swingOn_157 : decode bR_swingOn 157 = .ok (.getfield 9, 3) := by decide +kernel
theorem dR_swingOn_160 : decode bR_swingOn 160 = .ok (.iconst 2, 1) := by decide +kernel
theorem dR_swingOn_161 : decode bR_swingOn 161 = .ok (.iaload, 1) := by decide +kernel
theorem dR_swingOn_162 : decode bR_swingOn 162 = .ok (.iadd, 1) := by decide +kernel
theorem dR_swingOn_163 : decode bR_swingOn 163 = .ok (.bipush 12, 2) := by decide +kernel
theorem dR_swingOn_165 : decode bR_swingOn 165 = .ok (.irem, 1) := by decide +kernel
theorem dR_swingOn_166 : decode bR_swingOn 166 = .ok (.iastore, 1) := by decide +kernel
theorem dR_swingOn_167 : decode bR_swingOn 167 = .ok (.aload_n 0, 1) := by decide +kernel
theorem dR_swingOn_168 : decode bR_swingOn 168 = .ok (.getfield 9, 3) := by decide +kernel
theorem dR_swingOn_171 : decode bR_swingOn 171 = .ok (.iconst 3, 1) := by decide +kernel
theorem dR_swingOn_172 : decode bR_swingOn 172 = .ok (.dup2, 1) := by decide +kernel
theorem dR_swingOn_173 : decode bR_swingOn 173 = .ok (.iaload, 1) := by decide +kernel
theorem dR_swingOn_174 : decode bR_swingOn 174 = .ok (.iconst 1, 1) := by decide +kernel
theorem dR_swingOn_175 : decode bR_swingOn 175 = .ok (.iadd, 1) := by decide +kernel
theorem dR_swingOn_176 : decode bR_swingOn 176 = .ok (.iastore, 1) := by decide +kernel
theorem dR_swingOn_177 : decode bR_swingOn 177 = .ok (.aload_n 0, 1) := by decide +kernel
theorem dR_swingOn_178 : decode bR_swingOn 178 = .ok (.getfield 9, 3) := by decide +kernel
theorem dR_swingOn_181 : decode bR_swingOn 181 = .ok (.iconst 4, 1) := by decide +kernel
theorem dR_swingOn_182 : decode bR_swingOn 182 = .ok (.sipush 9999, 3) := by decide +kernel
theorem dR_swingOn_185 : decode bR_swingOn 185 = .ok (.aload_n 0, 1) := by decide +kernel
theorem dR_swingOn_186 : decode bR_swingOn 186 = .ok (.getfield 9, 3) := by decide +kernel
theorem dR_swingOn_189 : decode bR_swingOn 189 = .ok (.iconst 4, 1) := by decide +kernel
theorem dR_swingOn_190 : decode bR_swingOn 190 = .ok (.iaload, 1) := by decide +kernel
theorem dR_swingOn_191 : decode bR_swingOn 191 = .ok (.iload_n 1, 1) := by decide +kernel
theorem dR_swingOn_192 : decode bR_swingOn 192 = .ok (.iadd, 1) := by decide +kernel
theorem dR_swingOn_193 : decode bR_swingOn 193 = .ok (.invokestatic 97, 3) := by decide +kernel
theorem dR_swingOn_196 : decode bR_swingOn 196 = .ok (.iastore, 1) := by decide +kernel
theorem dR_swingOn_197 : decode bR_swingOn 197 = .ok (.iload_n 1, 1) := by decide +kernel
theorem dR_swingOn_198 : decode bR_swingOn 198 = .ok (.ireturn, 1) := by decide +kernel
theorem wR_swingOn_41 {p : Program} {l : Launch} {e : Env} {s : State} {m : MethodId} {args : Array Value} {below : List Frame} {meth : Method} {c : Code} {G : GT} {I : List Nat} (C : CX p s m args meth c NR bR_swingOn 4 (some .int) G I) (hI : cI I) {r : Nat} (hr : isRow r) {fu : Nat} {R1 : Int32} {Z : Sg} {rc2 : Int32 → Sg → Option (Int32 × Sg)} (hr2 : ∀ {v1 : Int32} {z : Sg} {H : Heap} {locs : List Loc} {ls : Array Slot}, rc2 v1 z = some (R1, Z) → GW G I z s.heap H locs → lv_has ls 4 [(0, .ref (gA G r)), (1, .int v1)] → W p l e rmR_swingOn s m args below meth c H locs 0 0 (MQ below (Qi G I R1 Z) args s 0 0 (AD G I)) (F0 m 2 ls [])) {v1 : Int32} {t1 : Int32} {t2 : Int32} {z : Sg} {H : Heap} {locs : List Loc} {ls : Array Slot} (h : pR_swingOn_41 fu r rc2 v1 t1 t2 z = some (R1, Z)) (hG : GW G I z s.heap H locs) (hl : lv_has ls 4 [(0, .ref (gA G r)), (1, .int v1)]) : W p l e rmR_swingOn s m args below meth c H locs 0 0 (MQ below (Qi G I R1 Z) args s 0 0 (AD G I)) (F0 m 41 ls [.int t2, .int t1, .ref (gA G (r + 9))]) := by
  unfold pR_swingOn_41 at h
  refine rIast C hG (hI _ (hr.lt (k := 9) (by decide))) (eR_9 hr) h dR_swingOn_41 (fun H locs z9 h hG => ?_)
  refine rAload_n C dR_swingOn_42 hl 0 rfl ?_
  refine rGet C hG (hI _ hr.lt0) (eR_0 hr) fiR_8 (v := .ref (gA G (r + 10))) rfl k_152 dR_swingOn_43 ?_
  refine rIload_n C dR_swingOn_46 hl 1 rfl ?_
  refine rAload_n C dR_swingOn_47 hl 0 rfl ?_
  refine rCVi [] [.int v1, .ref (gA G (r + 10))] C hG h (fun h => cR_howTiring hI hr h) mvR_howTiring k_546 ⟨Nat.le_of_ble_eq_true rfl, Nat.le_of_ble_eq_true rfl⟩ ⟨rfl, rfl⟩ (rRecv C hG (hI _ hr.lt0) (eR_0 hr) rfl) rfl hl.1 (Nat.le_of_ble_eq_true rfl) dR_swingOn_48 ⟨Nat.zero_le _, Nat.zero_le _⟩ rfl (fun H locs x11 z10 h hG => ?_)
  refine rIast C hG (hI _ (hr.lt (k := 10) (by decide))) (eR_10 hr) h dR_swingOn_51 (fun H locs z12 h hG => ?_)
  refine rIinc C dR_swingOn_52 hl 1 rfl (d := 1) (by decide) h (by decide) [(0, .ref (gA G r))] rfl (fun x13 ls h hl => ?_)
  refine lv_goto (tgt := 2) C.1 C.2.1 dR_swingOn_55 (by decide) ?_
  exact hr2 h hG (lv_sub hl [1, 0] rfl)
theorem wR_swingOn_95 {p : Program} {l : Launch} {e : Env} {s : State} {m : MethodId} {args : Array Value} {below : List Frame} {meth : Method} {c : Code} {G : GT} {I : List Nat} (C : CX p s m args meth c NR bR_swingOn 4 (some .int) G I) (hI : cI I) {r : Nat} (hr : isRow r) {fu : Nat} {R1 : Int32} {Z : Sg} {rc62 : Int32 → Int32 → Sg → Option (Int32 × Sg)} (hr62 : ∀ {v1 : Int32} {v2 : Int32} {z : Sg} {H : Heap} {locs : List Loc} {ls : Array Slot}, rc62 v1 v2 z = some (R1, Z) → GW G I z s.heap H locs → lv_has ls 4 [(0, .ref (gA G r)), (1, .int v1), (2, .int v2)] → W p l e rmR_swingOn s m args below meth c H locs 0 0 (MQ below (Qi G I R1 Z) args s 0 0 (AD G I)) (F0 m 62 ls [])) {v1 : Int32} {v2 : Int32} {v3 : Int32} {z : Sg} {H : Heap} {locs : List Loc} {ls : Array Slot} (h : pR_swingOn_95 fu r rc62 v1 v2 v3 z = some (R1, Z)) (hG : GW G I z s.heap H locs) (hl : lv_has ls 4 [(0, .ref (gA G r)), (1, .int v1), (2, .int v2), (3, .int v3)]) : W p l e rmR_swingOn s m args below meth c H locs 0 0 (MQ below (Qi G I R1 Z) args s 0 0 (AD G I)) (F0 m 95 ls []) := by
  unfold pR_swingOn_95 at h
  refine rAload_n C dR_swingOn_95 hl 0 rfl ?_
  refine rGet C hG (hI _ hr.lt0) (eR_0 hr) fiR_2 (v := .ref (gA G (r + 2))) rfl k_141 dR_swingOn_96 ?_
  refine lv_iconst (v := 1) C.1 C.2.1 dR_swingOn_99 (by decide) ?_
  refine rAaldK C hG (hI _ (hr.lt (k := 2) (by decide))) (eR_2 hr) (t0 := 3) rfl rfl 1 (by decide) (by decide) (r + 4) rfl dR_swingOn_100 ?_
  refine rIload_n C dR_swingOn_101 hl 2 rfl ?_
  refine rIload_n C dR_swingOn_102 hl 3 rfl ?_
  refine lv_bipush (v := 12) C.1 C.2.1 dR_swingOn_103 (by decide) ?_
  refine lv_irem C.1 C.2.1 dR_swingOn_105 (by decide) ?_
  refine rIast C hG (hI _ (hr.lt (k := 4) (by decide))) (eR_4 hr) h dR_swingOn_106 (fun H locs z14 h hG => ?_)
  refine rAload_n C dR_swingOn_107 hl 0 rfl ?_
  refine rGet C hG (hI _ hr.lt0) (eR_0 hr) fiR_2 (v := .ref (gA G (r + 2))) rfl k_141 dR_swingOn_108 ?_
  refine lv_iconst (v := 2) C.1 C.2.1 dR_swingOn_111 (by decide) ?_
  refine rAaldK C hG (hI _ (hr.lt (k := 2) (by decide))) (eR_2 hr) (t0 := 3) rfl rfl 2 (by decide) (by decide) (r + 5) rfl dR_swingOn_112 ?_
  refine rIload_n C dR_swingOn_113 hl 2 rfl ?_
  refine lv_iconst (v := 0) C.1 C.2.1 dR_swingOn_114 (by decide) ?_
  refine lv_bipush (v := 99) C.1 C.2.1 dR_swingOn_115 (by decide) ?_
  refine rAload_n C dR_swingOn_117 hl 0 rfl ?_
  refine rGet C hG (hI _ hr.lt0) (eR_0 hr) fiR_2 (v := .ref (gA G (r + 2))) rfl k_141 dR_swingOn_118 ?_
  refine lv_iconst (v := 2) C.1 C.2.1 dR_swingOn_121 (by decide) ?_
  refine rAaldK C hG (hI _ (hr.lt (k := 2) (by decide))) (eR_2 hr) (t0 := 3) rfl rfl 2 (by decide) (by decide) (r + 5) rfl dR_swingOn_122 ?_
  refine rIload_n C dR_swingOn_123 hl 2 rfl ?_
  refine rIald C hG (hI _ (hr.lt (k := 5) (by decide))) (eR_5 hr) h dR_swingOn_124 (fun h => ?_)
  refine rAload_n C dR_swingOn_125 hl 0 rfl ?_
  refine rGet C hG (hI _ hr.lt0) (eR_0 hr) fiR_8 (v := .ref (gA G (r + 10))) rfl k_152 dR_swingOn_126 ?_
  refine rIload_n C dR_swingOn_129 hl 2 rfl ?_
  refine rIald C hG (hI _ (hr.lt (k := 10) (by decide))) (eR_10 hr) h dR_swingOn_130 (fun h => ?_)
  refine lv_iadd C.1 C.2.1 dR_swingOn_131 ?_
  refine rMin C k_522 mt_min hl.1 (Nat.le_of_ble_eq_true rfl) (Nat.le_of_ble_eq_true rfl) ⟨Nat.zero_le _, Nat.zero_le _⟩ dR_swingOn_132 ?_
  refine rMax C k_547 mt_max hl.1 (Nat.le_of_ble_eq_true rfl) (Nat.le_of_ble_eq_true rfl) ⟨Nat.zero_le _, Nat.zero_le _⟩ dR_swingOn_135 ?_
  refine rIast C hG (hI _ (hr.lt (k := 5) (by decide))) (eR_5 hr) h dR_swingOn_138 (fun H locs z15 h hG => ?_)
  refine rIinc C dR_swingOn_139 hl 2 rfl (d := 1) (by decide) h (by decide) [(0, .ref (gA G r)), (1, .int v1), (3, .int v3)] rfl (fun x16 ls h hl => ?_)
  refine lv_goto (tgt := 62) C.1 C.2.1 dR_swingOn_142 (by decide) ?_
  exact hr62 h hG (lv_sub hl [1, 2, 0] rfl)
theorem wR_swingOn_62 {p : Program} {l : Launch} {e : Env} {s : State} {m : MethodId} {args : Array Value} {below : List Frame} {meth : Method} {c : Code} {G : GT} {I : List Nat} (C : CX p s m args meth c NR bR_swingOn 4 (some .int) G I) (hI : cI I) {r : Nat} (hr : isRow r) {fu : Nat} {R1 : Int32} {Z : Sg} : ∀ (k : Nat) {v1 : Int32} {v2 : Int32} {z : Sg} {H : Heap} {locs : List Loc} {ls : Array Slot}, pR_swingOn_62 fu r k v1 v2 z = some (R1, Z) → GW G I z s.heap H locs → lv_has ls 4 [(0, .ref (gA G r)), (1, .int v1), (2, .int v2)] → W p l e rmR_swingOn s m args below meth c H locs 0 0 (MQ below (Qi G I R1 Z) args s 0 0 (AD G I)) (F0 m 62 ls []) := by
  intro k
  induction k with
  | zero => intro v1 v2 z H locs ls h hG hl; rw [pR_swingOn_62] at h; cases h
  | succ k ih =>
    intro v1 v2 z H locs ls h hG hl
    rw [pR_swingOn_62] at h
    refine rIload_n C dR_swingOn_62 hl 2 rfl ?_
    refine rAload_n C dR_swingOn_63 hl 0 rfl ?_
    refine rGet C hG (hI _ hr.lt0) (eR_0 hr) fiR_3 (v := .int (z r 3)) rfl k_145 dR_swingOn_64 ?_
    refine rIcmpge C (tgt := 145) h dR_swingOn_67 (by decide) (fun h => ?_) (fun h => ?_)
    · refine rAload_n C dR_swingOn_145 hl 0 rfl ?_
      refine rGet C hG (hI _ hr.lt0) (eR_0 hr) fiR_1 (v := .ref (gA G (r + 1))) rfl k_139 dR_swingOn_146 ?_
      refine lv_iconst (v := 1) C.1 C.2.1 dR_swingOn_149 (by decide) ?_
      refine rAload_n C dR_swingOn_150 hl 0 rfl ?_
      refine rGet C hG (hI _ hr.lt0) (eR_0 hr) fiR_1 (v := .ref (gA G (r + 1))) rfl k_139 dR_swingOn_151 ?_
      refine lv_iconst (v := 1) C.1 C.2.1 dR_swingOn_154 (by decide) ?_
      refine rIaldK C hG (hI _ (hr.lt (k := 1) (by decide))) (eR_1 hr) 1 (by decide) (by decide) dR_swingOn_155 ?_
      refine rAload_n C dR_swingOn_156 hl 0 rfl ?_
      refine rGet C hG (hI _ hr.lt0) (eR_0 hr) fiR_1 (v := .ref (gA G (r + 1))) rfl k_139 dR_swingOn_157 ?_
      refine lv_iconst (v := 2) C.1 C.2.1 dR_swingOn_160 (by decide) ?_
      refine rIaldK C hG (hI _ (hr.lt (k := 1) (by decide))) (eR_1 hr) 2 (by decide) (by decide) dR_swingOn_161 ?_
      refine lv_iadd C.1 C.2.1 dR_swingOn_162 ?_
      refine lv_bipush (v := 12) C.1 C.2.1 dR_swingOn_163 (by decide) ?_
      refine lv_irem C.1 C.2.1 dR_swingOn_165 (by decide) ?_
      refine rIastK C hG (hI _ (hr.lt (k := 1) (by decide))) (eR_1 hr) 1 (by decide) (by decide) h dR_swingOn_166 (fun H locs z4 h hG => ?_)
      refine rAload_n C dR_swingOn_167 hl 0 rfl ?_
      refine rGet C hG (hI _ hr.lt0) (eR_0 hr) fiR_1 (v := .ref (gA G (r + 1))) rfl k_139 dR_swingOn_168 ?_
      refine lv_iconst (v := 3) C.1 C.2.1 dR_swingOn_171 (by decide) ?_
      refine lv_dup2_11 C.1 C.2.1 dR_swingOn_172 rfl rfl ?_
      refine rIaldK C hG (hI _ (hr.lt (k := 1) (by decide))) (eR_1 hr) 3 (by decide) (by decide) dR_swingOn_173 ?_
      refine lv_iconst (v := 1) C.1 C.2.1 dR_swingOn_174 (by decide) ?_
      refine lv_iadd C.1 C.2.1 dR_swingOn_175 ?_
      refine rIastK C hG (hI _ (hr.lt (k := 1) (by decide))) (eR_1 hr) 3 (by decide) (by decide) h dR_swingOn_176 (fun H locs z5 h hG => ?_)
      refine rAload_n C dR_swingOn_177 hl 0 rfl ?_
      refine rGet C hG (hI _ hr.lt0) (eR_0 hr) fiR_1 (v := .ref (gA G (r + 1))) rfl k_139 dR_swingOn_178 ?_
      refine lv_iconst (v := 4) C.1 C.2.1 dR_swingOn_181 (by decide) ?_
      refine lv_sipush (v := 9999) C.1 C.2.1 dR_swingOn_182 (by decide) ?_
      refine rAload_n C dR_swingOn_185 hl 0 rfl ?_
      refine rGet C hG (hI _ hr.lt0) (eR_0 hr) fiR_1 (v := .ref (gA G (r + 1))) rfl k_139 dR_swingOn_186 ?_
      refine lv_iconst (v := 4) C.1 C.2.1 dR_swingOn_189 (by decide) ?_
      refine rIaldK C hG (hI _ (hr.lt (k := 1) (by decide))) (eR_1 hr) 4 (by decide) (by decide) dR_swingOn_190 ?_
      refine rIload_n C dR_swingOn_191 hl 1 rfl ?_
      refine lv_iadd C.1 C.2.1 dR_swingOn_192 ?_
      refine rMin C k_522 mt_min hl.1 (Nat.le_of_ble_eq_true rfl) (Nat.le_of_ble_eq_true rfl) ⟨Nat.zero_le _, Nat.zero_le _⟩ dR_swingOn_193 ?_
      refine rIastK C hG (hI _ (hr.lt (k := 1) (by decide))) (eR_1 hr) 4 (by decide) (by decide) h dR_swingOn_196 (fun H locs z6 h hG => ?_)
      refine rIload_n C dR_swingOn_197 hl 1 rfl ?_
      exact rReti C hG h dR_swingOn_198
    · refine rAload_n C dR_swingOn_70 hl 0 rfl ?_
      refine rGet C hG (hI _ hr.lt0) (eR_0 hr) fiR_2 (v := .ref (gA G (r + 2))) rfl k_141 dR_swingOn_71 ?_
      refine lv_iconst (v := 1) C.1 C.2.1 dR_swingOn_74 (by decide) ?_
      refine rAaldK C hG (hI _ (hr.lt (k := 2) (by decide))) (eR_2 hr) (t0 := 3) rfl rfl 1 (by decide) (by decide) (r + 4) rfl dR_swingOn_75 ?_
      refine rIload_n C dR_swingOn_76 hl 2 rfl ?_
      refine rIald C hG (hI _ (hr.lt (k := 4) (by decide))) (eR_4 hr) h dR_swingOn_77 (fun h => ?_)
      refine rAload_n C dR_swingOn_78 hl 0 rfl ?_
      refine rGet C hG (hI _ hr.lt0) (eR_0 hr) fiR_7 (v := .ref (gA G (r + 9))) rfl k_151 dR_swingOn_79 ?_
      refine rIload_n C dR_swingOn_82 hl 2 rfl ?_
      refine rIald C hG (hI _ (hr.lt (k := 9) (by decide))) (eR_9 hr) h dR_swingOn_83 (fun h => ?_)
      refine lv_iadd C.1 C.2.1 dR_swingOn_84 ?_
      refine rIstore_n C dR_swingOn_85 hl h (by decide) [(0, .ref (gA G r)), (1, .int v1), (2, .int v2)] rfl (fun x7 ls h hl => ?_)
      refine rIload_n C dR_swingOn_86 hl 0 rfl ?_
      refine lv_bipush (v := 12) C.1 C.2.1 dR_swingOn_87 (by decide) ?_
      refine rIcmplt C (tgt := 95) h dR_swingOn_89 (by decide) (fun h => ?_) (fun h => ?_)
      · exact wR_swingOn_95 C hI hr ih h hG (lv_sub hl [1, 2, 3, 0] rfl)
      · refine rIinc C dR_swingOn_92 hl 2 rfl (d := 1) (by decide) h (by decide) [(3, .int x7), (0, .ref (gA G r)), (2, .int v2)] rfl (fun x8 ls h hl => ?_)
        exact wR_swingOn_95 C hI hr ih h hG (lv_sub hl [2, 0, 3, 1] rfl)
theorem wR_swingOn_2 {p : Program} {l : Launch} {e : Env} {s : State} {m : MethodId} {args : Array Value} {below : List Frame} {meth : Method} {c : Code} {G : GT} {I : List Nat} (C : CX p s m args meth c NR bR_swingOn 4 (some .int) G I) (hI : cI I) {r : Nat} (hr : isRow r) {fu : Nat} {R1 : Int32} {Z : Sg} : ∀ (k : Nat) {v1 : Int32} {z : Sg} {H : Heap} {locs : List Loc} {ls : Array Slot}, pR_swingOn_2 fu r k v1 z = some (R1, Z) → GW G I z s.heap H locs → lv_has ls 4 [(0, .ref (gA G r)), (1, .int v1)] → W p l e rmR_swingOn s m args below meth c H locs 0 0 (MQ below (Qi G I R1 Z) args s 0 0 (AD G I)) (F0 m 2 ls []) := by
  intro k
  induction k with
  | zero => intro v1 z H locs ls h hG hl; rw [pR_swingOn_2] at h; cases h
  | succ k ih =>
    intro v1 z H locs ls h hG hl
    rw [pR_swingOn_2] at h
    refine rIload_n C dR_swingOn_2 hl 1 rfl ?_
    refine rAload_n C dR_swingOn_3 hl 0 rfl ?_
    refine rGet C hG (hI _ hr.lt0) (eR_0 hr) fiR_3 (v := .int (z r 3)) rfl k_145 dR_swingOn_4 ?_
    refine rIcmpge C (tgt := 58) h dR_swingOn_7 (by decide) (fun h => ?_) (fun h => ?_)
    · refine lv_iconst (v := 0) C.1 C.2.1 dR_swingOn_58 (by decide) ?_
      refine rIstoreA_n C dR_swingOn_59 hl (by decide) [(0, .ref (gA G r))] rfl (fun ls hl => ?_)
      refine lv_iconst (v := 0) C.1 C.2.1 dR_swingOn_60 (by decide) ?_
      refine rIstoreA_n C dR_swingOn_61 hl (by decide) [(1, .int 0), (0, .ref (gA G r))] rfl (fun ls hl => ?_)
      exact wR_swingOn_62 C hI hr _ h hG (lv_sub hl [2, 1, 0] rfl)
    · refine rAload_n C dR_swingOn_10 hl 0 rfl ?_
      refine rIload_n C dR_swingOn_11 hl 1 rfl ?_
      refine rCVv [.int v1] [] C hG h (fun h => cR_lookAt hI hr h) mvR_lookAt k_544 ⟨Nat.le_of_ble_eq_true rfl, Nat.le_of_ble_eq_true rfl⟩ ⟨rfl, rfl⟩ (rRecv C hG (hI _ hr.lt0) (eR_0 hr) rfl) rfl hl.1 (Nat.le_of_ble_eq_true rfl) dR_swingOn_12 ⟨Nat.zero_le _, Nat.zero_le _⟩ rfl (fun H locs z1 h hG => ?_)
      refine rAload_n C dR_swingOn_15 hl 0 rfl ?_
      refine rGet C hG (hI _ hr.lt0) (eR_0 hr) fiR_7 (v := .ref (gA G (r + 9))) rfl k_151 dR_swingOn_16 ?_
      refine rIload_n C dR_swingOn_19 hl 1 rfl ?_
      refine rAload_n C dR_swingOn_20 hl 0 rfl ?_
      refine rGet C hG (hI _ hr.lt0) (eR_0 hr) fiR_2 (v := .ref (gA G (r + 2))) rfl k_141 dR_swingOn_21 ?_
      refine lv_iconst (v := 2) C.1 C.2.1 dR_swingOn_24 (by decide) ?_
      refine rAaldK C hG (hI _ (hr.lt (k := 2) (by decide))) (eR_2 hr) (t0 := 3) rfl rfl 2 (by decide) (by decide) (r + 5) rfl dR_swingOn_25 ?_
      refine rIload_n C dR_swingOn_26 hl 1 rfl ?_
      refine rIald C hG (hI _ (hr.lt (k := 5) (by decide))) (eR_5 hr) h dR_swingOn_27 (fun h => ?_)
      refine lv_bipush (v := 99) C.1 C.2.1 dR_swingOn_28 (by decide) ?_
      refine rIcmplt C (tgt := 37) h dR_swingOn_30 (by decide) (fun h => ?_) (fun h => ?_)
      · refine rAload_n C dR_swingOn_37 hl 0 rfl ?_
        refine rCVi [] [.int v1, .ref (gA G (r + 9))] C hG h (fun h => cR_howFar hI hr h) mvR_howFar k_545 ⟨Nat.le_of_ble_eq_true rfl, Nat.le_of_ble_eq_true rfl⟩ ⟨rfl, rfl⟩ (rRecv C hG (hI _ hr.lt0) (eR_0 hr) rfl) rfl hl.1 (Nat.le_of_ble_eq_true rfl) dR_swingOn_38 ⟨Nat.zero_le _, Nat.zero_le _⟩ rfl (fun H locs x3 z2 h hG => ?_)
        exact wR_swingOn_41 C hI hr ih h hG (lv_sub hl [0, 1] rfl)
      · refine lv_iconst (v := 0) C.1 C.2.1 dR_swingOn_33 (by decide) ?_
        refine lv_goto (tgt := 41) C.1 C.2.1 dR_swingOn_34 (by decide) ?_
        exact wR_swingOn_41 C hI hr ih h hG (lv_sub hl [0, 1] rfl)
theorem cR_swingOn {l : Launch} {G : GT} {I : List Nat} (hI : cI I) {r : Nat} (hr : isRow r) {fu : Nat} {z : Sg} {R1 : Int32} {Z : Sg} (h : pR_swingOn fu r z = some (R1, Z)) : Mt l yR_swingOn rmR_swingOn bR_swingOn 4 (some .int) G I z [.ref (gA G r)] (Qi G I R1 Z) := by
  refine entM (by decide +kernel) (Nat.le_of_ble_eq_true rfl) ?_
  intro p e s m below meth c C hG ls hl
  have hl : lv_has ls 4 [(0, .ref (gA G r))] := hl
  unfold pR_swingOn at h
  refine lv_iconst (v := 0) C.1 C.2.1 dR_swingOn_0 (by decide) ?_
  refine rIstoreA_n C dR_swingOn_1 hl (by decide) [(0, .ref (gA G r))] rfl (fun ls hl => ?_)
  exact wR_swingOn_2 C hI hr _ h hG (lv_sub hl [1, 0] rfl)
theorem dR_become_0 : decode bR_become 0 = .ok (.aload_n 1, 1) := by decide +kernel
theorem dR_become_1 : decode bR_become 1 = .ok (.getfield 9, 3) := by decide +kernel
theorem dR_become_4 : decode bR_become 4 = .ok (.iconst 0, 1) := by decide +kernel
theorem dR_become_5 : decode bR_become 5 = .ok (.aload_n 0, 1) := by decide +kernel
theorem dR_become_6 : decode bR_become 6 = .ok (.getfield 9, 3) := by decide +kernel
theorem dR_become_9 : decode bR_become 9 = .ok (.iconst 0, 1) := by decide +kernel
theorem dR_become_10 : decode bR_become 10 = .ok (.aload_n 0, 1) := by decide +kernel
theorem dR_become_11 : decode bR_become 11 = .ok (.getfield 9, 3) := by decide +kernel
theorem dR_become_14 : decode bR_become 14 = .ok (.arraylength, 1) := by decide +kernel
theorem dR_become_15 : decode bR_become 15 = .ok (.invokestatic 33, 3) := by decide +kernel
theorem dR_become_18 : decode bR_become 18 = .ok (.iconst 0, 1) := by decide +kernel
theorem dR_become_19 : decode bR_become 19 = .ok (.istore_n 2, 1) := by decide +kernel
theorem dR_become_20 : decode bR_become 20 = .ok (.iload_n 2, 1) := by decide +kernel
theorem dR_become_21 : decode bR_become 21 = .ok (.iconst 5, 1) := by decide +kernel
theorem dR_become_22 : decode bR_become 22 = .ok (.if_icmp .ge 28, 3) := by decide +kernel
theorem dR_become_25 : decode bR_become 25 = .ok (.aload_n 1, 1) := by decide +kernel
theorem dR_become_26 : decode bR_become 26 = .ok (.getfield 17, 3) := by decide +kernel
theorem dR_become_29 : decode bR_become 29 = .ok (.iload_n 2, 1) := by decide +kernel
theorem dR_become_30 : decode bR_become 30 = .ok (.aaload, 1) := by decide +kernel
theorem dR_become_31 : decode bR_become 31 = .ok (.iconst 0, 1) := by decide +kernel
theorem dR_become_32 : decode bR_become 32 = .ok (.aload_n 0, 1) := by decide +kernel
theorem dR_become_33 : decode bR_become 33 = .ok (.getfield 17, 3) := by decide +kernel
theorem dR_become_36 : decode bR_become 36 = .ok (.iload_n 2, 1) := by decide +kernel
theorem dR_become_37 : decode bR_become 37 = .ok (.aaload, 1) := by decide +kernel
theorem dR_become_38 : decode bR_become 38 = .ok (.iconst 0, 1) := by decide +kernel
theorem dR_become_39 : decode bR_become 39 = .ok (.bipush 6, 2) := by decide +kernel
theorem dR_become_41 : decode bR_become 41 = .ok (.invokestatic 33, 3) := by decide +kernel
theorem dR_become_44 : decode bR_become 44 = .ok (.iinc 2 1, 3) := by decide +kernel
theorem dR_become_47 : decode bR_become 47 = .ok (.goto (-27), 3) := by decide +kernel
theorem dR_become_50 : decode bR_become 50 = .ok (.aload_n 0, 1) := by decide +kernel
theorem dR_become_51 : decode bR_become 51 = .ok (.aload_n 1, 1) := by decide +kernel
theorem dR_become_52 : decode bR_become 52 = .ok (.getfield 39, 3) := by decide +kernel
theorem dR_become_55 : decode bR_become 55 = .ok (.putfield 39, 3) := by decide +kernel
theorem dR_become_58 : decode bR_become 58 = .ok (.aload_n 0, 1) := by decide +kernel
theorem dR_become_59 : decode bR_become 59 = .ok (.aload_n 1, 1) := by decide +kernel
theorem dR_become_60 : decode bR_become 60 = .ok (.getfield 43, 3) := by decide +kernel
theorem dR_become_63 : decode bR_become 63 = .ok (.putfield 43, 3) := by decide +kernel
theorem dR_become_66 : decode bR_become 66 = .ok (.return_, 1) := by decide +kernel
theorem wR_become_20 {p : Program} {l : Launch} {e : Env} {s : State} {m : MethodId} {args : Array Value} {below : List Frame} {meth : Method} {c : Code} {G : GT} {I : List Nat} (C : CX p s m args meth c NR bR_become 3 none G I) (hI : cI I) {r : Nat} (hr : isRow r) {r2 : Nat} (hr2 : isRow r2) {fu : Nat} {Z : Sg} : ∀ (k : Nat) {v2 : Int32} {z : Sg} {H : Heap} {locs : List Loc} {ls : Array Slot}, pR_become_20 fu r r2 k v2 z = some Z → GW G I z s.heap H locs → lv_has ls 3 [(0, .ref (gA G r)), (1, .ref (gA G r2)), (2, .int v2)] → W p l e rmR_become s m args below meth c H locs 0 0 (MQ below (Qv G I Z) args s 0 0 (AD G I)) (F0 m 20 ls []) := by
  intro k
  induction k with
  | zero => intro v2 z H locs ls h hG hl; rw [pR_become_20] at h; cases h
  | succ k ih =>
    intro v2 z H locs ls h hG hl
    rw [pR_become_20] at h
    refine rIload_n C dR_become_20 hl 2 rfl ?_
    refine lv_iconst (v := 5) C.1 C.2.1 dR_become_21 (by decide) ?_
    refine rIcmpge C (tgt := 50) h dR_become_22 (by decide) (fun h => ?_) (fun h => ?_)
    · refine rAload_n C dR_become_50 hl 0 rfl ?_
      refine rAload_n C dR_become_51 hl 1 rfl ?_
      refine rGet C hG (hI _ hr2.lt0) (eR_0 hr2) fiR_3 (v := .int (z r2 3)) rfl k_145 dR_become_52 ?_
      refine rPut C hG (hI _ hr.lt0) (eR_0 hr) fiR_3 tokR nmR rfl (fpR_3 _) (Nat.le_of_ble_eq_true rfl) rfl rfl k_145 h dR_become_55 (fun H locs z2 h hG => ?_)
      refine rAload_n C dR_become_58 hl 0 rfl ?_
      refine rAload_n C dR_become_59 hl 1 rfl ?_
      refine rGet C hG (hI _ hr2.lt0) (eR_0 hr2) fiR_4 (v := .int (z2 r2 4)) rfl k_146 dR_become_60 ?_
      refine rPut C hG (hI _ hr.lt0) (eR_0 hr) fiR_4 tokR nmR rfl (fpR_4 _) (Nat.le_of_ble_eq_true rfl) rfl rfl k_146 h dR_become_63 (fun H locs z3 h hG => ?_)
      exact rRetv C hG h dR_become_66
    · refine rAload_n C dR_become_25 hl 1 rfl ?_
      refine rGet C hG (hI _ hr2.lt0) (eR_0 hr2) fiR_2 (v := .ref (gA G (r2 + 2))) rfl k_141 dR_become_26 ?_
      refine rIload_n C dR_become_29 hl 2 rfl ?_
      refine rAald C hG (hI _ (hr2.lt (k := 2) (by decide))) (eR_2 hr2) (t0 := 3) rfl rfl h dR_become_30 (fun hq30 h => ?_)
      refine lv_iconst (v := 0) C.1 C.2.1 dR_become_31 (by decide) ?_
      refine rAload_n C dR_become_32 hl 0 rfl ?_
      refine rGet C hG (hI _ hr.lt0) (eR_0 hr) fiR_2 (v := .ref (gA G (r + 2))) rfl k_141 dR_become_33 ?_
      refine rIload_n C dR_become_36 hl 2 rfl ?_
      refine rAald C hG (hI _ (hr.lt (k := 2) (by decide))) (eR_2 hr) (t0 := 3) rfl rfl h dR_become_37 (fun hq37 h => ?_)
      refine lv_iconst (v := 0) C.1 C.2.1 dR_become_38 (by decide) ?_
      refine lv_bipush (v := 6) C.1 C.2.1 dR_become_39 (by decide) ?_
      refine rCopy C hG (hI _ (hr2.fact hq30)) (hI _ (hr.fact hq37)) (eR_fact hr2 hq30) (eR_fact hr hq37) k_556 cpw h hl.1 (Nat.le_of_ble_eq_true rfl) (Nat.le_of_ble_eq_true rfl) dR_become_41 (fun H locs z4 h hG => ?_)
      refine rIinc C dR_become_44 hl 2 rfl (d := 1) (by decide) h (by decide) [(0, .ref (gA G r)), (1, .ref (gA G r2))] rfl (fun x5 ls h hl => ?_)
      refine lv_goto (tgt := 20) C.1 C.2.1 dR_become_47 (by decide) ?_
      exact ih h hG (lv_sub hl [1, 2, 0] rfl)
theorem cR_become {l : Launch} {G : GT} {I : List Nat} (hI : cI I) {r : Nat} (hr : isRow r) {r2 : Nat} (hr2 : isRow r2) {fu : Nat} {z : Sg} {Z : Sg} (h : pR_become fu r r2 z = some Z) : Mt l yR_become rmR_become bR_become 3 none G I z [.ref (gA G r), .ref (gA G r2)] (Qv G I Z) := by
  refine entM (by decide +kernel) (Nat.le_of_ble_eq_true rfl) ?_
  intro p e s m below meth c C hG ls hl
  have hl : lv_has ls 3 [(0, .ref (gA G r)), (1, .ref (gA G r2))] := hl
  unfold pR_become at h
  refine rAload_n C dR_become_0 hl 1 rfl ?_
  refine rGet C hG (hI _ hr2.lt0) (eR_0 hr2) fiR_1 (v := .ref (gA G (r2 + 1))) rfl k_139 dR_become_1 ?_
  refine lv_iconst (v := 0) C.1 C.2.1 dR_become_4 (by decide) ?_
  refine rAload_n C dR_become_5 hl 0 rfl ?_
  refine rGet C hG (hI _ hr.lt0) (eR_0 hr) fiR_1 (v := .ref (gA G (r + 1))) rfl k_139 dR_become_6 ?_
  refine lv_iconst (v := 0) C.1 C.2.1 dR_become_9 (by decide) ?_
  refine rAload_n C dR_become_10 hl 0 rfl ?_
  refine rGet C hG (hI _ hr.lt0) (eR_0 hr) fiR_1 (v := .ref (gA G (r + 1))) rfl k_139 dR_become_11 ?_
  refine rAlen C hG (hI _ (hr.lt (k := 1) (by decide))) (eR_1 hr) (v := 5) (by decide) dR_become_14 ?_
  refine rCopy C hG (hI _ (hr2.lt (k := 1) (by decide))) (hI _ (hr.lt (k := 1) (by decide))) (eR_1 hr2) (eR_1 hr) k_556 cpw h hl.1 (Nat.le_of_ble_eq_true rfl) (Nat.le_of_ble_eq_true rfl) dR_become_15 (fun H locs z1 h hG => ?_)
  refine lv_iconst (v := 0) C.1 C.2.1 dR_become_18 (by decide) ?_
  refine rIstoreA_n C dR_become_19 hl (by decide) [(0, .ref (gA G r)), (1, .ref (gA G r2))] rfl (fun ls hl => ?_)
  exact wR_become_20 C hI hr hr2 _ h hG (lv_sub hl [1, 2, 0] rfl)
theorem dR_cutBy_0 : decode bR_cutBy 0 = .ok (.iconst 0, 1) := by decide +kernel
theorem dR_cutBy_1 : decode bR_cutBy 1 = .ok (.istore_n 2, 1) := by decide +kernel
theorem dR_cutBy_2 : decode bR_cutBy 2 = .ok (.iconst 0, 1) := by decide +kernel
theorem dR_cutBy_3 : decode bR_cutBy 3 = .ok (.istore_n 3, 1) := by decide +kernel
theorem dR_cutBy_4 : decode bR_cutBy 4 = .ok (.iload_n 3, 1) := by decide +kernel
theorem dR_cutBy_5 : decode bR_cutBy 5 = .ok (.iload_n 1, 1) := by decide +kernel
theorem dR_cutBy_6 : decode bR_cutBy 6 = .ok (.if_icmp .ge 16, 3) := by decide +kernel
theorem dR_cutBy_9 : decode bR_cutBy 9 = .ok (.iload_n 2, 1) := by decide +kernel
theorem dR_cutBy_10 : decode bR_cutBy 10 = .ok (.aload_n 0, 1) := by decide +kernel
theorem dR_cutBy_11 : decode bR_cutBy 11 = .ok (.invokevirtual 109, 3) := by decide +kernel
theorem dR_cutBy_14 : decode bR_cutBy 14 = .ok (.iadd, 1) := by decide +kernel
theorem dR_cutBy_15 : decode bR_cutBy 15 = .ok (.istore_n 2, 1) := by decide +kernel
theorem dR_cutBy_16 : decode bR_cutBy 16 = .ok (.iinc 3 1, 3) := by decide +kernel
theorem dR_cutBy_19 : decode bR_cutBy 19 = .ok (.goto (-15), 3) := by decide +kernel
theorem dR_cutBy_22 : decode bR_cutBy 22 = .ok (.iload_n 2, 1) := by decide +kernel
theorem dR_cutBy_23 : decode bR_cutBy 23 = .ok (.ireturn, 1) := by decide +kernel
theorem wR_cutBy_4 {p : Program} {l : Launch} {e : Env} {s : State} {m : MethodId} {args : Array Value} {below : List Frame} {meth : Method} {c : Code} {G : GT} {I : List Nat} (C : CX p s m args meth c NR bR_cutBy 4 (some .int) G I) (hI : cI I) {r : Nat} (hr : isRow r) {fu : Nat} {R1 : Int32} {Z : Sg} : ∀ (k : Nat) {v1 : Int32} {v2 : Int32} {v3 : Int32} {z : Sg} {H : Heap} {locs : List Loc} {ls : Array Slot}, pR_cutBy_4 fu r k v1 v2 v3 z = some (R1, Z) → GW G I z s.heap H locs → lv_has ls 4 [(0, .ref (gA G r)), (1, .int v1), (2, .int v2), (3, .int v3)] → W p l e rmR_cutBy s m args below meth c H locs 0 0 (MQ below (Qi G I R1 Z) args s 0 0 (AD G I)) (F0 m 4 ls []) := by
  intro k
  induction k with
  | zero => intro v1 v2 v3 z H locs ls h hG hl; rw [pR_cutBy_4] at h; cases h
  | succ k ih =>
    intro v1 v2 v3 z H locs ls h hG hl
    rw [pR_cutBy_4] at h
    refine rIload_n C dR_cutBy_4 hl 3 rfl ?_
    refine rIload_n C dR_cutBy_5 hl 1 rfl ?_
    refine rIcmpge C (tgt := 22) h dR_cutBy_6 (by decide) (fun h => ?_) (fun h => ?_)
    · refine rIload_n C dR_cutBy_22 hl 2 rfl ?_
      exact rReti C hG h dR_cutBy_23
    · refine rIload_n C dR_cutBy_9 hl 2 rfl ?_
      refine rAload_n C dR_cutBy_10 hl 0 rfl ?_
      refine rCVi [] [.int v2] C hG h (fun h => cR_swingOn hI hr h) mvR_swingOn k_561 ⟨Nat.le_of_ble_eq_true rfl, Nat.le_of_ble_eq_true rfl⟩ ⟨rfl, rfl⟩ (rRecv C hG (hI _ hr.lt0) (eR_0 hr) rfl) rfl hl.1 (Nat.le_of_ble_eq_true rfl) dR_cutBy_11 ⟨Nat.zero_le _, Nat.zero_le _⟩ rfl (fun H locs x2 z1 h hG => ?_)
      refine lv_iadd C.1 C.2.1 dR_cutBy_14 ?_
      refine rIstore_n C dR_cutBy_15 hl h (by decide) [(0, .ref (gA G r)), (1, .int v1), (3, .int v3)] rfl (fun x3 ls h hl => ?_)
      refine rIinc C dR_cutBy_16 hl 3 rfl (d := 1) (by decide) h (by decide) [(2, .int x3), (0, .ref (gA G r)), (1, .int v1)] rfl (fun x4 ls h hl => ?_)
      refine lv_goto (tgt := 4) C.1 C.2.1 dR_cutBy_19 (by decide) ?_
      exact ih h hG (lv_sub hl [2, 3, 1, 0] rfl)
theorem cR_cutBy {l : Launch} {G : GT} {I : List Nat} (hI : cI I) {r : Nat} (hr : isRow r) {fu : Nat} {v1 : Int32} {z : Sg} {R1 : Int32} {Z : Sg} (h : pR_cutBy fu r v1 z = some (R1, Z)) : Mt l yR_cutBy rmR_cutBy bR_cutBy 4 (some .int) G I z [.ref (gA G r), .int v1] (Qi G I R1 Z) := by
  refine entM (by decide +kernel) (Nat.le_of_ble_eq_true rfl) ?_
  intro p e s m below meth c C hG ls hl
  have hl : lv_has ls 4 [(0, .ref (gA G r)), (1, .int v1)] := hl
  unfold pR_cutBy at h
  refine lv_iconst (v := 0) C.1 C.2.1 dR_cutBy_0 (by decide) ?_
  refine rIstoreA_n C dR_cutBy_1 hl (by decide) [(0, .ref (gA G r)), (1, .int v1)] rfl (fun ls hl => ?_)
  refine lv_iconst (v := 0) C.1 C.2.1 dR_cutBy_2 (by decide) ?_
  refine rIstoreA_n C dR_cutBy_3 hl (by decide) [(2, .int 0), (0, .ref (gA G r)), (1, .int v1)] rfl (fun ls hl => ?_)
  exact wR_cutBy_4 C hI hr _ h hG (lv_sub hl [2, 3, 1, 0] rfl)
