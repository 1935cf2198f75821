theorem dO_begin_0 : decode bO_begin 0 = .ok (.aload_n 0, 1) := by decide +kernel
theorem dO_begin_1 : decode bO_begin 1 = .ok (.iconst 0, 1) := by decide +kernel
theorem dO_begin_2 : decode bO_begin 2 = .ok (.putfield 18, 3) := by decide +kernel
theorem dO_begin_5 : decode bO_begin 5 = .ok (.iconst 0, 1) := by decide +kernel
theorem dO_begin_6 : decode bO_begin 6 = .ok (.istore_n 2, 1) := by decide +kernel
theorem dO_begin_7 : decode bO_begin 7 = .ok (.iload_n 2, 1) := by decide +kernel
theorem dO_begin_8 : decode bO_begin 8 = .ok (.bipush 10, 2) := by decide +kernel
theorem dO_begin_10 : decode bO_begin 10 = .ok (.if_icmp .ge 59, 3) := by decide +kernel
theorem dO_begin_13 : decode bO_begin 13 = .ok (.aload_n 0, 1) := by decide +kernel
theorem dO_begin_14 : decode bO_begin 14 = .ok (.getfield 18, 3) := by decide +kernel
theorem dO_begin_17 : decode bO_begin 17 = .ok (.bipush 6, 2) := by decide +kernel
theorem dO_begin_19 : decode bO_begin 19 = .ok (.if_icmp .ge 50, 3) := by decide +kernel
theorem dO_begin_22 : decode bO_begin 22 = .ok (.aload_n 1, 1) := by decide +kernel
theorem dO_begin_23 : decode bO_begin 23 = .ok (.iload_n 2, 1) := by decide +kernel
theorem dO_begin_24 : decode bO_begin 24 = .ok (.invokevirtual 22, 3) := by decide +kernel
theorem dO_begin_27 : decode bO_begin 27 = .ok (.ifCond .lt 36, 3) := by decide +kernel
theorem dO_begin_30 : decode bO_begin 30 = .ok (.aload_n 0, 1) := by decide +kernel
theorem dO_begin_31 : decode bO_begin 31 = .ok (.getfield 9, 3) := by decide +kernel
theorem dO_begin_34 : decode bO_begin 34 = .ok (.aload_n 0, 1) := by decide +kernel
theorem dO_begin_35 : decode bO_begin 35 = .ok (.getfield 18, 3) := by decide +kernel
theorem dO_begin_38 : decode bO_begin 38 = .ok (.iload_n 2, 1) := by decide +kernel
theorem dO_begin_39 : decode bO_begin 39 = .ok (.iastore, 1) := by decide +kernel
theorem dO_begin_40 : decode bO_begin 40 = .ok (.aload_n 0, 1) := by decide +kernel
theorem dO_begin_41 : decode bO_begin 41 = .ok (.getfield 15, 3) := by decide +kernel
theorem dO_begin_44 : decode bO_begin 44 = .ok (.aload_n 0, 1) := by decide +kernel
theorem dO_begin_45 : decode bO_begin 45 = .ok (.getfield 18, 3) := by decide +kernel
theorem dO_begin_48 : decode bO_begin 48 = .ok (.aload_n 0, 1) := by decide +kernel
theorem dO_begin_49 : decode bO_begin 49 = .ok (.getfield 18, 3) := by decide +kernel
theorem dO_begin_52 : decode bO_begin 52 = .ok (.iastore, 1) := by decide +kernel
theorem dO_begin_53 : decode bO_begin 53 = .ok (.aload_n 0, 1) := by decide +kernel
theorem dO_begin_54 : decode bO_begin 54 = .ok (.dup, 1) := by decide +kernel
theorem dO_begin_55 : decode bO_begin 55 = .ok (.getfield 18, 3) := by decide +kernel
theorem dO_begin_58 : decode bO_begin 58 = .ok (.iconst 1, 1) := by decide +kernel
theorem dO_begin_59 : decode bO_begin 59 = .ok (.iadd, 1) := by decide +kernel
theorem dO_begin_60 : decode bO_begin 60 = .ok (.putfield 18, 3) := by decide +kernel
theorem dO_begin_63 : decode bO_begin 63 = .ok (.iinc 2 1, 3) := by decide +kernel
theorem dO_begin_66 : decode bO_begin 66 = .ok (.goto (-59), 3) := by decide +kernel
theorem dO_begin_69 : decode bO_begin 69 = .ok (.return_, 1) := by decide +kernel
theorem wO_begin_63 {p : Program} {l : Launch} {e : Env} {s : State} {m : MethodId} {args : Array Value} {below : List Frame} {meth : Method} {c : Code} {G : GT} {I : List Nat} (C : CX p s m args meth c NO bO_begin 3 none G I) (hI : cI I) {r : Nat} (hr : isRow r) {fu : Nat} {Z : Sg} {rc7 : Int32 → Sg → Option Sg} (hr7 : ∀ {v2 : Int32} {z : Sg} {H : Heap} {locs : List Loc} {ls : Array Slot}, rc7 v2 z = some Z → GW G I z s.heap H locs → lv_has ls 3 [(0, .ref (gA G 6)), (1, .ref (gA G r)), (2, .int v2)] → W p l e rmO_begin s m args below meth c H locs 0 0 (MQ below (Qv G I Z) args s 0 0 (AD G I)) (F0 m 7 ls [])) {v2 : Int32} {z : Sg} {H : Heap} {locs : List Loc} {ls : Array Slot} (h : pO_begin_63 fu r rc7 v2 z = some Z) (hG : GW G I z s.heap H locs) (hl : lv_has ls 3 [(0, .ref (gA G 6)), (1, .ref (gA G r)), (2, .int v2)]) : W p l e rmO_begin s m args below meth c H locs 0 0 (MQ below (Qv G I Z) args s 0 0 (AD G I)) (F0 m 63 ls []) := by
  unfold pO_begin_63 at h
  refine rIinc C dO_begin_63 hl 2 rfl (d := 1) (by decide) h (by decide) [(0, .ref (gA G 6)), (1, .ref (gA G r))] rfl (fun x7 ls h hl => ?_)
  refine lv_goto (tgt := 7) C.1 C.2.1 dO_begin_66 (by decide) ?_
  exact hr7 h hG (lv_sub hl [1, 2, 0] rfl)
theorem wO_begin_7 {p : Program} {l : Launch} {e : Env} {s : State} {m : MethodId} {args : Array Value} {below : List Frame} {meth : Method} {c : Code} {G : GT} {I : List Nat} (C : CX p s m args meth c NO bO_begin 3 none G I) (hI : cI I) {r : Nat} (hr : isRow r) {fu : Nat} {Z : Sg} : ∀ (k : Nat) {v2 : Int32} {z : Sg} {H : Heap} {locs : List Loc} {ls : Array Slot}, pO_begin_7 fu r k v2 z = some Z → GW G I z s.heap H locs → lv_has ls 3 [(0, .ref (gA G 6)), (1, .ref (gA G r)), (2, .int v2)] → W p l e rmO_begin s m args below meth c H locs 0 0 (MQ below (Qv G I Z) args s 0 0 (AD G I)) (F0 m 7 ls []) := by
  intro k
  induction k with
  | zero => intro v2 z H locs ls h hG hl; rw [pO_begin_7] at h; cases h
  | succ k ih =>
    intro v2 z H locs ls h hG hl
    rw [pO_begin_7] at h
    refine rIload_n C dO_begin_7 hl 2 rfl ?_
    refine lv_bipush (v := 10) C.1 C.2.1 dO_begin_8 (by decide) ?_
    refine rIcmpge C (tgt := 69) h dO_begin_10 (by decide) (fun h => ?_) (fun h => ?_)
    · exact rRetv C hG h dO_begin_69
    · refine rAload_n C dO_begin_13 hl 0 rfl ?_
      refine rGet C hG (hI 6 (by decide)) e_6 fiO_2 (v := .int (z 6 2)) rfl k_103 dO_begin_14 ?_
      refine lv_bipush (v := 6) C.1 C.2.1 dO_begin_17 (by decide) ?_
      refine rIcmpge C (tgt := 69) h dO_begin_19 (by decide) (fun h => ?_) (fun h => ?_)
      · exact rRetv C hG h dO_begin_69
      · refine rAload_n C dO_begin_22 hl 1 rfl ?_
        refine rIload_n C dO_begin_23 hl 2 rfl ?_
        refine rCVi [.int v2] [] C hG h (fun h => cR_whoAt hI hr h) mvR_whoAt k_614 ⟨Nat.le_of_ble_eq_true rfl, Nat.le_of_ble_eq_true rfl⟩ ⟨rfl, rfl⟩ (rRecv C hG (hI _ hr.lt0) (eR_0 hr) rfl) rfl hl.1 (Nat.le_of_ble_eq_true rfl) dO_begin_24 ⟨Nat.zero_le _, Nat.zero_le _⟩ rfl (fun H locs x3 z2 h hG => ?_)
        refine rIflt C (tgt := 63) h dO_begin_27 (by decide) (fun h => ?_) (fun h => ?_)
        · exact wO_begin_63 C hI hr ih h hG (lv_sub hl [0, 1, 2] rfl)
        · refine rAload_n C dO_begin_30 hl 0 rfl ?_
          refine rGet C hG (hI 6 (by decide)) e_6 fiO_0 (v := .ref (gA G 7)) rfl k_101 dO_begin_31 ?_
          refine rAload_n C dO_begin_34 hl 0 rfl ?_
          refine rGet C hG (hI 6 (by decide)) e_6 fiO_2 (v := .int (z2 6 2)) rfl k_103 dO_begin_35 ?_
          refine rIload_n C dO_begin_38 hl 2 rfl ?_
          refine rIast C hG (hI 7 (by decide)) e_7 h dO_begin_39 (fun H locs z4 h hG => ?_)
          refine rAload_n C dO_begin_40 hl 0 rfl ?_
          refine rGet C hG (hI 6 (by decide)) e_6 fiO_1 (v := .ref (gA G 8)) rfl k_102 dO_begin_41 ?_
          refine rAload_n C dO_begin_44 hl 0 rfl ?_
          refine rGet C hG (hI 6 (by decide)) e_6 fiO_2 (v := .int (z4 6 2)) rfl k_103 dO_begin_45 ?_
          refine rAload_n C dO_begin_48 hl 0 rfl ?_
          refine rGet C hG (hI 6 (by decide)) e_6 fiO_2 (v := .int (z4 6 2)) rfl k_103 dO_begin_49 ?_
          refine rIast C hG (hI 8 (by decide)) e_8 h dO_begin_52 (fun H locs z5 h hG => ?_)
          refine rAload_n C dO_begin_53 hl 0 rfl ?_
          refine lv_dup C.1 C.2.1 dO_begin_54 rfl ?_
          refine rGet C hG (hI 6 (by decide)) e_6 fiO_2 (v := .int (z5 6 2)) rfl k_103 dO_begin_55 ?_
          refine lv_iconst (v := 1) C.1 C.2.1 dO_begin_58 (by decide) ?_
          refine lv_iadd C.1 C.2.1 dO_begin_59 ?_
          refine rPut C hG (hI 6 (by decide)) e_6 fiO_2 tokO nmO rfl (fpO_2 _) (Nat.le_of_ble_eq_true rfl) rfl rfl k_103 h dO_begin_60 (fun H locs z6 h hG => ?_)
          exact wO_begin_63 C hI hr ih h hG (lv_sub hl [0, 1, 2] rfl)
theorem cO_begin {l : Launch} {G : GT} {I : List Nat} (hI : cI I) {r : Nat} (hr : isRow r) {fu : Nat} {z : Sg} {Z : Sg} (h : pO_begin fu r z = some Z) : Mt l yO_begin rmO_begin bO_begin 3 none G I z [.ref (gA G 6), .ref (gA G r)] (Qv G I Z) := by
  refine entM (by decide +kernel) (Nat.le_of_ble_eq_true rfl) ?_
  intro p e s m below meth c C hG ls hl
  have hl : lv_has ls 3 [(0, .ref (gA G 6)), (1, .ref (gA G r))] := hl
  unfold pO_begin at h
  refine rAload_n C dO_begin_0 hl 0 rfl ?_
  refine lv_iconst (v := 0) C.1 C.2.1 dO_begin_1 (by decide) ?_
  refine rPut C hG (hI 6 (by decide)) e_6 fiO_2 tokO nmO rfl (fpO_2 _) (Nat.le_of_ble_eq_true rfl) rfl rfl k_103 h dO_begin_2 (fun H locs z1 h hG => ?_)
  refine lv_iconst (v := 0) C.1 C.2.1 dO_begin_5 (by decide) ?_
  refine rIstoreA_n C dO_begin_6 hl (by decide) [(0, .ref (gA G 6)), (1, .ref (gA G r))] rfl (fun ls hl => ?_)
  exact wO_begin_7 C hI hr _ h hG (lv_sub hl [1, 2, 0] rfl)
theorem dO_seat_0 : decode bO_seat 0 = .ok (.iconst 0, 1) := by decide +kernel
theorem dO_seat_1 : decode bO_seat 1 = .ok (.istore_n 2, 1) := by decide +kernel
theorem dO_seat_2 : decode bO_seat 2 = .ok (.iload_n 2, 1) := by decide +kernel
theorem dO_seat_3 : decode bO_seat 3 = .ok (.aload_n 0, 1) := by decide +kernel
theorem dO_seat_4 : decode bO_seat 4 = .ok (.getfield 18, 3) := by decide +kernel
theorem dO_seat_7 : decode bO_seat 7 = .ok (.if_icmp .ge 28, 3) := by decide +kernel
theorem dO_seat_10 : decode bO_seat 10 = .ok (.aload_n 1, 1) := by decide +kernel
theorem dO_seat_11 : decode bO_seat 11 = .ok (.getfield 28, 3) := by decide +kernel
theorem dO_seat_14 : decode bO_seat 14 = .ok (.iconst 0, 1) := by decide +kernel
theorem dO_seat_15 : decode bO_seat 15 = .ok (.aaload, 1) := by decide +kernel
theorem dO_seat_16 : decode bO_seat 16 = .ok (.aload_n 0, 1) := by decide +kernel
theorem dO_seat_17 : decode bO_seat 17 = .ok (.getfield 15, 3) := by decide +kernel
theorem dO_seat_20 : decode bO_seat 20 = .ok (.iload_n 2, 1) := by decide +kernel
theorem dO_seat_21 : decode bO_seat 21 = .ok (.iaload, 1) := by decide +kernel
theorem dO_seat_22 : decode bO_seat 22 = .ok (.aload_n 0, 1) := by decide +kernel
theorem dO_seat_23 : decode bO_seat 23 = .ok (.getfield 9, 3) := by decide +kernel
theorem dO_seat_26 : decode bO_seat 26 = .ok (.iload_n 2, 1) := by decide +kernel
theorem dO_seat_27 : decode bO_seat 27 = .ok (.iaload, 1) := by decide +kernel
theorem dO_seat_28 : decode bO_seat 28 = .ok (.iastore, 1) := by decide +kernel
theorem dO_seat_29 : decode bO_seat 29 = .ok (.iinc 2 1, 3) := by decide +kernel
theorem dO_seat_32 : decode bO_seat 32 = .ok (.goto (-30), 3) := by decide +kernel
theorem dO_seat_35 : decode bO_seat 35 = .ok (.return_, 1) := by decide +kernel
theorem wO_seat_2 {p : Program} {l : Launch} {e : Env} {s : State} {m : MethodId} {args : Array Value} {below : List Frame} {meth : Method} {c : Code} {G : GT} {I : List Nat} (C : CX p s m args meth c NO bO_seat 3 none G I) (hI : cI I) {r : Nat} (hr : isRow r) {fu : Nat} {Z : Sg} : ∀ (k : Nat) {v2 : Int32} {z : Sg} {H : Heap} {locs : List Loc} {ls : Array Slot}, pO_seat_2 fu r k v2 z = some Z → GW G I z s.heap H locs → lv_has ls 3 [(0, .ref (gA G 6)), (1, .ref (gA G r)), (2, .int v2)] → W p l e rmO_seat s m args below meth c H locs 0 0 (MQ below (Qv G I Z) args s 0 0 (AD G I)) (F0 m 2 ls []) := by
  intro k
  induction k with
  | zero => intro v2 z H locs ls h hG hl; rw [pO_seat_2] at h; cases h
  | succ k ih =>
    intro v2 z H locs ls h hG hl
    rw [pO_seat_2] at h
    refine rIload_n C dO_seat_2 hl 2 rfl ?_
    refine rAload_n C dO_seat_3 hl 0 rfl ?_
    refine rGet C hG (hI 6 (by decide)) e_6 fiO_2 (v := .int (z 6 2)) rfl k_103 dO_seat_4 ?_
    refine rIcmpge C (tgt := 35) h dO_seat_7 (by decide) (fun h => ?_) (fun h => ?_)
    · exact rRetv C hG h dO_seat_35
    · refine rAload_n C dO_seat_10 hl 1 rfl ?_
      refine rGet C hG (hI _ hr.lt0) (eR_0 hr) fiR_2 (v := .ref (gA G (r + 2))) rfl k_142 dO_seat_11 ?_
      refine lv_iconst (v := 0) C.1 C.2.1 dO_seat_14 (by decide) ?_
      refine rAaldK C hG (hI _ (hr.lt (k := 2) (by decide))) (eR_2 hr) (t0 := 3) rfl rfl 0 (by decide) (by decide) (r + 3) rfl dO_seat_15 ?_
      refine rAload_n C dO_seat_16 hl 0 rfl ?_
      refine rGet C hG (hI 6 (by decide)) e_6 fiO_1 (v := .ref (gA G 8)) rfl k_102 dO_seat_17 ?_
      refine rIload_n C dO_seat_20 hl 2 rfl ?_
      refine rIald C hG (hI 8 (by decide)) e_8 h dO_seat_21 (fun h => ?_)
      refine rAload_n C dO_seat_22 hl 0 rfl ?_
      refine rGet C hG (hI 6 (by decide)) e_6 fiO_0 (v := .ref (gA G 7)) rfl k_101 dO_seat_23 ?_
      refine rIload_n C dO_seat_26 hl 2 rfl ?_
      refine rIald C hG (hI 7 (by decide)) e_7 h dO_seat_27 (fun h => ?_)
      refine rIast C hG (hI _ (hr.lt (k := 3) (by decide))) (eR_3 hr) h dO_seat_28 (fun H locs z1 h hG => ?_)
      refine rIinc C dO_seat_29 hl 2 rfl (d := 1) (by decide) h (by decide) [(0, .ref (gA G 6)), (1, .ref (gA G r))] rfl (fun x2 ls h hl => ?_)
      refine lv_goto (tgt := 2) C.1 C.2.1 dO_seat_32 (by decide) ?_
      exact ih h hG (lv_sub hl [1, 2, 0] rfl)
theorem cO_seat {l : Launch} {G : GT} {I : List Nat} (hI : cI I) {r : Nat} (hr : isRow r) {fu : Nat} {z : Sg} {Z : Sg} (h : pO_seat fu r z = some Z) : Mt l yO_seat rmO_seat bO_seat 3 none G I z [.ref (gA G 6), .ref (gA G r)] (Qv G I Z) := by
  refine entM (by decide +kernel) (Nat.le_of_ble_eq_true rfl) ?_
  intro p e s m below meth c C hG ls hl
  have hl : lv_has ls 3 [(0, .ref (gA G 6)), (1, .ref (gA G r))] := hl
  unfold pO_seat at h
  refine lv_iconst (v := 0) C.1 C.2.1 dO_seat_0 (by decide) ?_
  refine rIstoreA_n C dO_seat_1 hl (by decide) [(0, .ref (gA G 6)), (1, .ref (gA G r))] rfl (fun ls hl => ?_)
  exact wO_seat_2 C hI hr _ h hG (lv_sub hl [1, 2, 0] rfl)
theorem dO_digits_0 : decode bO_digits 0 = .ok (.iconst 0, 1) := by decide +kernel
theorem dO_digits_1 : decode bO_digits 1 = .ok (.istore_n 1, 1) := by decide +kernel
theorem dO_digits_2 : decode bO_digits 2 = .ok (.iconst 0, 1) := by decide +kernel
theorem dO_digits_3 : decode bO_digits 3 = .ok (.istore_n 2, 1) := by decide +kernel
theorem dO_digits_4 : decode bO_digits 4 = .ok (.iload_n 2, 1) := by decide +kernel
theorem dO_digits_5 : decode bO_digits 5 = .ok (.aload_n 0, 1) := by decide +kernel
theorem dO_digits_6 : decode bO_digits 6 = .ok (.getfield 18, 3) := by decide +kernel
theorem dO_digits_9 : decode bO_digits 9 = .ok (.if_icmp .ge 23, 3) := by decide +kernel
theorem dO_digits_12 : decode bO_digits 12 = .ok (.bipush 10, 2) := by decide +kernel
theorem dO_digits_14 : decode bO_digits 14 = .ok (.iload_n 1, 1) := by decide +kernel
theorem dO_digits_15 : decode bO_digits 15 = .ok (.imul, 1) := by decide +kernel
theorem dO_digits_16 : decode bO_digits 16 = .ok (.iconst 1, 1) := by decide +kernel
theorem dO_digits_17 : decode bO_digits 17 = .ok (.iadd, 1) := by decide +kernel
theorem dO_digits_18 : decode bO_digits 18 = .ok (.aload_n 0, 1) := by decide +kernel
theorem dO_digits_19 : decode bO_digits 19 = .ok (.getfield 15, 3) := by decide +kernel
theorem dO_digits_22 : decode bO_digits 22 = .ok (.iload_n 2, 1) := by decide +kernel
theorem dO_digits_23 : decode bO_digits 23 = .ok (.iaload, 1) := by decide +kernel
theorem dO_digits_24 : decode bO_digits 24 = .ok (.iadd, 1) := by decide +kernel
theorem dO_digits_25 : decode bO_digits 25 = .ok (.istore_n 1, 1) := by decide +kernel
theorem dO_digits_26 : decode bO_digits 26 = .ok (.iinc 2 1, 3) := by decide +kernel
theorem dO_digits_29 : decode bO_digits 29 = .ok (.goto (-25), 3) := by decide +kernel
theorem dO_digits_32 : decode bO_digits 32 = .ok (.iload_n 1, 1) := by decide +kernel
theorem dO_digits_33 : decode bO_digits 33 = .ok (.ireturn, 1) := by decide +kernel
theorem wO_digits_4 {p : Program} {l : Launch} {e : Env} {s : State} {m : MethodId} {args : Array Value} {below : List Frame} {meth : Method} {c : Code} {G : GT} {I : List Nat} (C : CX p s m args meth c NO bO_digits 3 (some .int) G I) (hI : cI I) {fu : Nat} {R1 : Int32} {Z : Sg} : ∀ (k : Nat) {v1 : Int32} {v2 : Int32} {z : Sg} {H : Heap} {locs : List Loc} {ls : Array Slot}, pO_digits_4 fu k v1 v2 z = some (R1, Z) → GW G I z s.heap H locs → lv_has ls 3 [(0, .ref (gA G 6)), (1, .int v1), (2, .int v2)] → W p l e rmO_digits s m args below meth c H locs 0 0 (MQ below (Qi G I R1 Z) args s 0 0 (AD G I)) (F0 m 4 ls []) := by
  intro k
  induction k with
  | zero => intro v1 v2 z H locs ls h hG hl; rw [pO_digits_4] at h; cases h
  | succ k ih =>
    intro v1 v2 z H locs ls h hG hl
    rw [pO_digits_4] at h
    refine rIload_n C dO_digits_4 hl 2 rfl ?_
    refine rAload_n C dO_digits_5 hl 0 rfl ?_
    refine rGet C hG (hI 6 (by decide)) e_6 fiO_2 (v := .int (z 6 2)) rfl k_103 dO_digits_6 ?_
    refine rIcmpge C (tgt := 32) h dO_digits_9 (by decide) (fun h => ?_) (fun h => ?_)
    · refine rIload_n C dO_digits_32 hl 1 rfl ?_
      exact rReti C hG h dO_digits_33
    · refine lv_bipush (v := 10) C.1 C.2.1 dO_digits_12 (by decide) ?_
      refine rIload_n C dO_digits_14 hl 1 rfl ?_
      refine lv_imul C.1 C.2.1 dO_digits_15 ?_
      refine lv_iconst (v := 1) C.1 C.2.1 dO_digits_16 (by decide) ?_
      refine lv_iadd C.1 C.2.1 dO_digits_17 ?_
      refine rAload_n C dO_digits_18 hl 0 rfl ?_
      refine rGet C hG (hI 6 (by decide)) e_6 fiO_1 (v := .ref (gA G 8)) rfl k_102 dO_digits_19 ?_
      refine rIload_n C dO_digits_22 hl 2 rfl ?_
      refine rIald C hG (hI 8 (by decide)) e_8 h dO_digits_23 (fun h => ?_)
      refine lv_iadd C.1 C.2.1 dO_digits_24 ?_
      refine rIstore_n C dO_digits_25 hl h (by decide) [(0, .ref (gA G 6)), (2, .int v2)] rfl (fun x1 ls h hl => ?_)
      refine rIinc C dO_digits_26 hl 2 rfl (d := 1) (by decide) h (by decide) [(1, .int x1), (0, .ref (gA G 6))] rfl (fun x2 ls h hl => ?_)
      refine lv_goto (tgt := 4) C.1 C.2.1 dO_digits_29 (by decide) ?_
      exact ih h hG (lv_sub hl [2, 1, 0] rfl)
theorem cO_digits {l : Launch} {G : GT} {I : List Nat} (hI : cI I) {fu : Nat} {z : Sg} {R1 : Int32} {Z : Sg} (h : pO_digits fu z = some (R1, Z)) : Mt l yO_digits rmO_digits bO_digits 3 (some .int) G I z [.ref (gA G 6)] (Qi G I R1 Z) := by
  refine entM (by decide +kernel) (Nat.le_of_ble_eq_true rfl) ?_
  intro p e s m below meth c C hG ls hl
  have hl : lv_has ls 3 [(0, .ref (gA G 6))] := hl
  unfold pO_digits at h
  refine lv_iconst (v := 0) C.1 C.2.1 dO_digits_0 (by decide) ?_
  refine rIstoreA_n C dO_digits_1 hl (by decide) [(0, .ref (gA G 6))] rfl (fun ls hl => ?_)
  refine lv_iconst (v := 0) C.1 C.2.1 dO_digits_2 (by decide) ?_
  refine rIstoreA_n C dO_digits_3 hl (by decide) [(1, .int 0), (0, .ref (gA G 6))] rfl (fun ls hl => ?_)
  exact wO_digits_4 C hI _ h hG (lv_sub hl [2, 1, 0] rfl)
theorem dO_swap_0 : decode bO_swap 0 = .ok (.aload_n 0, 1) := by decide +kernel
theorem dO_swap_1 : decode bO_swap 1 = .ok (.getfield 15, 3) := by decide +kernel
theorem dO_swap_4 : decode bO_swap 4 = .ok (.iload_n 1, 1) := by decide +kernel
theorem dO_swap_5 : decode bO_swap 5 = .ok (.iaload, 1) := by decide +kernel
theorem dO_swap_6 : decode bO_swap 6 = .ok (.istore_n 3, 1) := by decide +kernel
theorem dO_swap_7 : decode bO_swap 7 = .ok (.aload_n 0, 1) := by decide +kernel
theorem dO_swap_8 : decode bO_swap 8 = .ok (.getfield 15, 3) := by decide +kernel
theorem dO_swap_11 : decode bO_swap 11 = .ok (.iload_n 1, 1) := by decide +kernel
theorem dO_swap_12 : decode bO_swap 12 = .ok (.aload_n 0, 1) := by decide +kernel
theorem dO_swap_13 : decode bO_swap 13 = .ok (.getfield 15, 3) := by decide +kernel
theorem dO_swap_16 : decode bO_swap 16 = .ok (.iload_n 2, 1) := by decide +kernel
theorem dO_swap_17 : decode bO_swap 17 = .ok (.iaload, 1) := by decide +kernel
theorem dO_swap_18 : decode bO_swap 18 = .ok (.iastore, 1) := by decide +kernel
theorem dO_swap_19 : decode bO_swap 19 = .ok (.aload_n 0, 1) := by decide +kernel
theorem dO_swap_20 : decode bO_swap 20 = .ok (.getfield 15, 3) := by decide +kernel
theorem dO_swap_23 : decode bO_swap 23 = .ok (.iload_n 2, 1) := by decide +kernel
theorem dO_swap_24 : decode bO_swap 24 = .ok (.iload_n 3, 1) := by decide +kernel
theorem dO_swap_25 : decode bO_swap 25 = .ok (.iastore, 1) := by decide +kernel
theorem dO_swap_26 : decode bO_swap 26 = .ok (.return_, 1) := by decide +kernel
theorem cO_swap {l : Launch} {G : GT} {I : List Nat} (hI : cI I) {fu : Nat} {v1 : Int32} {v2 : Int32} {z : Sg} {Z : Sg} (h : pO_swap fu v1 v2 z = some Z) : Mt l yO_swap rmO_swap bO_swap 4 none G I z [.ref (gA G 6), .int v1, .int v2] (Qv G I Z) := by
  refine entM (by decide +kernel) (Nat.le_of_ble_eq_true rfl) ?_
  intro p e s m below meth c C hG ls hl
  have hl : lv_has ls 4 [(0, .ref (gA G 6)), (1, .int v1), (2, .int v2)] := hl
  unfold pO_swap at h
  refine rAload_n C dO_swap_0 hl 0 rfl ?_
  refine rGet C hG (hI 6 (by decide)) e_6 fiO_1 (v := .ref (gA G 8)) rfl k_102 dO_swap_1 ?_
  refine rIload_n C dO_swap_4 hl 1 rfl ?_
  refine rIald C hG (hI 8 (by decide)) e_8 h dO_swap_5 (fun h => ?_)
  refine rIstore_n C dO_swap_6 hl h (by decide) [(0, .ref (gA G 6)), (1, .int v1), (2, .int v2)] rfl (fun x1 ls h hl => ?_)
  refine rAload_n C dO_swap_7 hl 1 rfl ?_
  refine rGet C hG (hI 6 (by decide)) e_6 fiO_1 (v := .ref (gA G 8)) rfl k_102 dO_swap_8 ?_
  refine rIload_n C dO_swap_11 hl 2 rfl ?_
  refine rAload_n C dO_swap_12 hl 1 rfl ?_
  refine rGet C hG (hI 6 (by decide)) e_6 fiO_1 (v := .ref (gA G 8)) rfl k_102 dO_swap_13 ?_
  refine rIload_n C dO_swap_16 hl 3 rfl ?_
  refine rIald C hG (hI 8 (by decide)) e_8 h dO_swap_17 (fun h => ?_)
  refine rIast C hG (hI 8 (by decide)) e_8 h dO_swap_18 (fun H locs z2 h hG => ?_)
  refine rAload_n C dO_swap_19 hl 1 rfl ?_
  refine rGet C hG (hI 6 (by decide)) e_6 fiO_1 (v := .ref (gA G 8)) rfl k_102 dO_swap_20 ?_
  refine rIload_n C dO_swap_23 hl 3 rfl ?_
  refine rIload_n C dO_swap_24 hl 0 rfl ?_
  refine rIast C hG (hI 8 (by decide)) e_8 h dO_swap_25 (fun H locs z3 h hG => ?_)
  exact rRetv C hG h dO_swap_26
theorem dO_goesOn_0 : decode bO_goesOn 0 = .ok (.aload_n 0, 1) := by decide +kernel
theorem dO_goesOn_1 : decode bO_goesOn 1 = .ok (.getfield 18, 3) := by decide +kernel
theorem dO_goesOn_4 : decode bO_goesOn 4 = .ok (.iconst 2, 1) := by decide +kernel
theorem dO_goesOn_5 : decode bO_goesOn 5 = .ok (.isub, 1) := by decide +kernel
theorem dO_goesOn_6 : decode bO_goesOn 6 = .ok (.istore_n 1, 1) := by decide +kernel
theorem dO_goesOn_7 : decode bO_goesOn 7 = .ok (.iload_n 1, 1) := by decide +kernel
theorem dO_goesOn_8 : decode bO_goesOn 8 = .ok (.ifCond .lt 26, 3) := by decide +kernel
theorem dO_goesOn_11 : decode bO_goesOn 11 = .ok (.aload_n 0, 1) := by decide +kernel
theorem dO_goesOn_12 : decode bO_goesOn 12 = .ok (.getfield 15, 3) := by decide +kernel
theorem dO_goesOn_15 : decode bO_goesOn 15 = .ok (.iload_n 1, 1) := by decide +kernel
theorem dO_goesOn_16 : decode bO_goesOn 16 = .ok (.iaload, 1) := by decide +kernel
theorem dO_goesOn_17 : decode bO_goesOn 17 = .ok (.aload_n 0, 1) := by decide +kernel
theorem dO_goesOn_18 : decode bO_goesOn 18 = .ok (.getfield 15, 3) := by decide +kernel
theorem dO_goesOn_21 : decode bO_goesOn 21 = .ok (.iload_n 1, 1) := by decide +kernel
theorem dO_goesOn_22 : decode bO_goesOn 22 = .ok (.iconst 1, 1) := by decide +kernel
theorem dO_goesOn_23 : decode bO_goesOn 23 = .ok (.iadd, 1) := by decide +kernel
theorem dO_goesOn_24 : decode bO_goesOn 24 = .ok (.iaload, 1) := by decide +kernel
theorem dO_goesOn_25 : decode bO_goesOn 25 = .ok (.if_icmp .le 9, 3) := by decide +kernel
theorem dO_goesOn_28 : decode bO_goesOn 28 = .ok (.iinc 1 (-1), 3) := by decide +kernel
theorem dO_goesOn_31 : decode bO_goesOn 31 = .ok (.goto (-24), 3) := by decide +kernel
theorem dO_goesOn_34 : decode bO_goesOn 34 = .ok (.iload_n 1, 1) := by decide +kernel
theorem dO_goesOn_35 : decode bO_goesOn 35 = .ok (.ifCond .ge 5, 3) := by decide +kernel
theorem dO_goesOn_38 : decode bO_goesOn 38 = .ok (.iconst 0, 1) := by decide +kernel
theorem dO_goesOn_39 : decode bO_goesOn 39 = .ok (.ireturn, 1) := by decide +kernel
theorem dO_goesOn_40 : decode bO_goesOn 40 = .ok (.aload_n 0, 1) := by decide +kernel
theorem dO_goesOn_41 : decode bO_goesOn 41 = .ok (.getfield 18, 3) := by decide +kernel
theorem dO_goesOn_44 : decode bO_goesOn 44 = .ok (.iconst 1, 1) := by decide +kernel
theorem dO_goesOn_45 : decode bO_goesOn 45 = .ok (.isub, 1) := by decide +kernel
theorem dO_goesOn_46 : decode bO_goesOn 46 = .ok (.istore_n 2, 1) := by decide +kernel
theorem dO_goesOn_47 : decode bO_goesOn 47 = .ok (.iload_n 2, 1) := by decide +kernel
theorem dO_goesOn_48 : decode bO_goesOn 48 = .ok (.iload_n 1, 1) := by decide +kernel
theorem dO_goesOn_49 : decode bO_goesOn 49 = .ok (.if_icmp .le 24, 3) := by decide +kernel
theorem dO_goesOn_52 : decode bO_goesOn 52 = .ok (.aload_n 0, 1) := by decide +kernel
theorem dO_goesOn_53 : decode bO_goesOn 53 = .ok (.getfield 15, 3) := by decide +kernel
theorem dO_goesOn_56 : decode bO_goesOn 56 = .ok (.iload_n 2, 1) := by decide +kernel
theorem dO_goesOn_57 : decode bO_goesOn 57 = .ok (.iaload, 1) := by decide +kernel
theorem dO_goesOn_58 : decode bO_goesOn 58 = .ok (.aload_n 0, 1) := by decide +kernel
theorem dO_goesOn_59 : decode bO_goesOn 59 = .ok (.getfield 15, 3) := by decide +kernel
theorem dO_goesOn_62 : decode bO_goesOn 62 = .ok (.iload_n 1, 1) := by decide +kernel
theorem dO_goesOn_63 : decode bO_goesOn 63 = .ok (.iaload, 1) := by decide +kernel
theorem dO_goesOn_64 : decode bO_goesOn 64 = .ok (.if_icmp .ge 9, 3) := by decide +kernel
theorem dO_goesOn_67 : decode bO_goesOn 67 = .ok (.iinc 2 (-1), 3) := by decide +kernel
theorem dO_goesOn_70 : decode bO_goesOn 70 = .ok (.goto (-23), 3) := by decide +kernel
theorem dO_goesOn_73 : decode bO_goesOn 73 = .ok (.aload_n 0, 1) := by decide +kernel
theorem dO_goesOn_74 : decode bO_goesOn 74 = .ok (.iload_n 1, 1) := by decide +kernel
theorem dO_goesOn_75 : decode bO_goesOn 75 = .ok (.iload_n 2, 1) := by decide +kernel
theorem dO_goesOn_76 : decode bO_goesOn 76 = .ok (.invokevirtual 32, 3) := by decide +kernel
theorem dO_goesOn_79 : decode bO_goesOn 79 = .ok (.iload_n 1, 1) := by decide +kernel
theorem dO_goesOn_80 : decode bO_goesOn 80 = .ok (.iconst 1, 1) := by decide +kernel
theorem dO_goesOn_81 : decode bO_goesOn 81 = .ok (.iadd, 1) := by decide +kernel
theorem dO_goesOn_82 : decode bO_goesOn 82 = .ok (.istore_n 3, 1) := by decide +kernel
theorem dO_goesOn_83 : decode bO_goesOn 83 = .ok (.aload_n 0, 1) := by decide +kernel
theorem dO_goesOn_84 : decode bO_goesOn 84 = .ok (.getfield 18, 3) := by decide +kernel
theorem dO_goesOn_87 : decode bO_goesOn 87 = .ok (.iconst 1, 1) := by decide +kernel
theorem dO_goesOn_88 : decode bO_goesOn 88 = .ok (.isub, 1) := by decide +kernel
theorem dO_goesOn_89 : decode bO_goesOn 89 = .ok (.istore 4, 2) := by decide +kernel
theorem dO_goesOn_91 : decode bO_goesOn 91 = .ok (.iload_n 3, 1) := by decide +kernel
theorem dO_goesOn_92 : decode bO_goesOn 92 = .ok (.iload 4, 2) := by decide +kernel
theorem dO_goesOn_94 : decode bO_goesOn 94 = .ok (.if_icmp .ge 19, 3) := by decide +kernel
theorem dO_goesOn_97 : decode bO_goesOn 97 = .ok (.aload_n 0, 1) := by decide +kernel
theorem dO_goesOn_98 : decode bO_goesOn 98 = .ok (.iload_n 3, 1) := by decide +kernel
theorem dO_goesOn_99 : decode bO_goesOn 99 = .ok (.iload 4, 2) := by decide +kernel
theorem dO_goesOn_101 : decode bO_goesOn 101 = .ok (.invokevirtual 32, 3) := by decide +kernel
theorem dO_goesOn_104 : decode bO_goesOn 104 = .ok (.iinc 3 1, 3) := by decide +kernel
theorem dO_goesOn_107 : decode bO_goesOn 107 = .ok (.iinc 4 (-1), 3) := by decide +kernel
theorem dO_goesOn_110 : decode bO_goesOn 110 = .ok (.goto (-19), 3) := by decide +kernel
theorem dO_goesOn_113 : decode bO_goesOn 113 = .ok (.iconst 1, 1) := by decide +kernel
theorem dO_goesOn_114 : decode bO_goesOn 114 = .ok (.ireturn, 1) := by decide +kernel
theorem wO_goesOn_91 {p : Program} {l : Launch} {e : Env} {s : State} {m : MethodId} {args : Array Value} {below : List Frame} {meth : Method} {c : Code} {G : GT} {I : List Nat} (C : CX p s m args meth c NO bO_goesOn 5 (some .boolean) G I) (hI : cI I) {fu : Nat} {R1 : Int32} {Z : Sg} : ∀ (k : Nat) {v3 : Int32} {v4 : Int32} {z : Sg} {H : Heap} {locs : List Loc} {ls : Array Slot}, pO_goesOn_91 fu k v3 v4 z = some (R1, Z) → GW G I z s.heap H locs → lv_has ls 5 [(0, .ref (gA G 6)), (3, .int v3), (4, .int v4)] → W p l e rmO_goesOn s m args below meth c H locs 0 0 (MQ below (Qi G I R1 Z) args s 0 0 (AD G I)) (F0 m 91 ls []) := by
  intro k
  induction k with
  | zero => intro v3 v4 z H locs ls h hG hl; rw [pO_goesOn_91] at h; cases h
  | succ k ih =>
    intro v3 v4 z H locs ls h hG hl
    rw [pO_goesOn_91] at h
    refine rIload_n C dO_goesOn_91 hl 1 rfl ?_
    refine rIload C dO_goesOn_92 hl 2 rfl ?_
    refine rIcmpge C (tgt := 113) h dO_goesOn_94 (by decide) (fun h => ?_) (fun h => ?_)
    · refine lv_iconst (v := 1) C.1 C.2.1 dO_goesOn_113 (by decide) ?_
      exact rRetn C hG (ty := .boolean) rfl rfl h dO_goesOn_114
    · refine rAload_n C dO_goesOn_97 hl 0 rfl ?_
      refine rIload_n C dO_goesOn_98 hl 1 rfl ?_
      refine rIload C dO_goesOn_99 hl 2 rfl ?_
      refine rCVv [.int v3, .int v4] [] C hG h (fun h => cO_swap hI h) mvO_swap k_627 ⟨Nat.le_of_ble_eq_true rfl, Nat.le_of_ble_eq_true rfl⟩ ⟨rfl, rfl⟩ (rRecv C hG (hI 6 (by decide)) e_6 rfl) rfl hl.1 (Nat.le_of_ble_eq_true rfl) dO_goesOn_101 ⟨Nat.zero_le _, Nat.zero_le _⟩ rfl (fun H locs z8 h hG => ?_)
      refine rIinc C dO_goesOn_104 hl 1 rfl (d := 1) (by decide) h (by decide) [(0, .ref (gA G 6)), (4, .int v4)] rfl (fun x9 ls h hl => ?_)
      refine rIinc C dO_goesOn_107 hl 2 rfl (d := (-1)) (by decide) h (by decide) [(3, .int x9), (0, .ref (gA G 6))] rfl (fun x10 ls h hl => ?_)
      refine lv_goto (tgt := 91) C.1 C.2.1 dO_goesOn_110 (by decide) ?_
      exact ih h hG (lv_sub hl [2, 1, 0] rfl)
theorem wO_goesOn_73 {p : Program} {l : Launch} {e : Env} {s : State} {m : MethodId} {args : Array Value} {below : List Frame} {meth : Method} {c : Code} {G : GT} {I : List Nat} (C : CX p s m args meth c NO bO_goesOn 5 (some .boolean) G I) (hI : cI I) {fu : Nat} {R1 : Int32} {Z : Sg} {v1 : Int32} {v2 : Int32} {z : Sg} {H : Heap} {locs : List Loc} {ls : Array Slot} (h : pO_goesOn_73 fu v1 v2 z = some (R1, Z)) (hG : GW G I z s.heap H locs) (hl : lv_has ls 5 [(0, .ref (gA G 6)), (1, .int v1), (2, .int v2)]) : W p l e rmO_goesOn s m args below meth c H locs 0 0 (MQ below (Qi G I R1 Z) args s 0 0 (AD G I)) (F0 m 73 ls []) := by
  unfold pO_goesOn_73 at h
  refine rAload_n C dO_goesOn_73 hl 0 rfl ?_
  refine rIload_n C dO_goesOn_74 hl 1 rfl ?_
  refine rIload_n C dO_goesOn_75 hl 2 rfl ?_
  refine rCVv [.int v1, .int v2] [] C hG h (fun h => cO_swap hI h) mvO_swap k_627 ⟨Nat.le_of_ble_eq_true rfl, Nat.le_of_ble_eq_true rfl⟩ ⟨rfl, rfl⟩ (rRecv C hG (hI 6 (by decide)) e_6 rfl) rfl hl.1 (Nat.le_of_ble_eq_true rfl) dO_goesOn_76 ⟨Nat.zero_le _, Nat.zero_le _⟩ rfl (fun H locs z5 h hG => ?_)
  refine rIload_n C dO_goesOn_79 hl 1 rfl ?_
  refine lv_iconst (v := 1) C.1 C.2.1 dO_goesOn_80 (by decide) ?_
  refine lv_iadd C.1 C.2.1 dO_goesOn_81 ?_
  refine rIstore_n C dO_goesOn_82 hl h (by decide) [(0, .ref (gA G 6)), (1, .int v1), (2, .int v2)] rfl (fun x6 ls h hl => ?_)
  refine rAload_n C dO_goesOn_83 hl 1 rfl ?_
  refine rGet C hG (hI 6 (by decide)) e_6 fiO_2 (v := .int (z5 6 2)) rfl k_103 dO_goesOn_84 ?_
  refine lv_iconst (v := 1) C.1 C.2.1 dO_goesOn_87 (by decide) ?_
  refine lv_isub C.1 C.2.1 dO_goesOn_88 ?_
  refine rIstore C dO_goesOn_89 hl h (by decide) [(3, .int x6), (0, .ref (gA G 6)), (1, .int v1), (2, .int v2)] rfl (fun x7 ls h hl => ?_)
  exact wO_goesOn_91 C hI _ h hG (lv_sub hl [2, 1, 0] rfl)
theorem wO_goesOn_47 {p : Program} {l : Launch} {e : Env} {s : State} {m : MethodId} {args : Array Value} {below : List Frame} {meth : Method} {c : Code} {G : GT} {I : List Nat} (C : CX p s m args meth c NO bO_goesOn 5 (some .boolean) G I) (hI : cI I) {fu : Nat} {R1 : Int32} {Z : Sg} : ∀ (k : Nat) {v1 : Int32} {v2 : Int32} {z : Sg} {H : Heap} {locs : List Loc} {ls : Array Slot}, pO_goesOn_47 fu k v1 v2 z = some (R1, Z) → GW G I z s.heap H locs → lv_has ls 5 [(0, .ref (gA G 6)), (1, .int v1), (2, .int v2)] → W p l e rmO_goesOn s m args below meth c H locs 0 0 (MQ below (Qi G I R1 Z) args s 0 0 (AD G I)) (F0 m 47 ls []) := by
  intro k
  induction k with
  | zero => intro v1 v2 z H locs ls h hG hl; rw [pO_goesOn_47] at h; cases h
  | succ k ih =>
    intro v1 v2 z H locs ls h hG hl
    rw [pO_goesOn_47] at h
    refine rIload_n C dO_goesOn_47 hl 2 rfl ?_
    refine rIload_n C dO_goesOn_48 hl 1 rfl ?_
    refine rIcmple C (tgt := 73) h dO_goesOn_49 (by decide) (fun h => ?_) (fun h => ?_)
    · exact wO_goesOn_73 C hI h hG (lv_sub hl [0, 1, 2] rfl)
    · refine rAload_n C dO_goesOn_52 hl 0 rfl ?_
      refine rGet C hG (hI 6 (by decide)) e_6 fiO_1 (v := .ref (gA G 8)) rfl k_102 dO_goesOn_53 ?_
      refine rIload_n C dO_goesOn_56 hl 2 rfl ?_
      refine rIald C hG (hI 8 (by decide)) e_8 h dO_goesOn_57 (fun h => ?_)
      refine rAload_n C dO_goesOn_58 hl 0 rfl ?_
      refine rGet C hG (hI 6 (by decide)) e_6 fiO_1 (v := .ref (gA G 8)) rfl k_102 dO_goesOn_59 ?_
      refine rIload_n C dO_goesOn_62 hl 1 rfl ?_
      refine rIald C hG (hI 8 (by decide)) e_8 h dO_goesOn_63 (fun h => ?_)
      refine rIcmpge C (tgt := 73) h dO_goesOn_64 (by decide) (fun h => ?_) (fun h => ?_)
      · exact wO_goesOn_73 C hI h hG (lv_sub hl [0, 1, 2] rfl)
      · refine rIinc C dO_goesOn_67 hl 2 rfl (d := (-1)) (by decide) h (by decide) [(0, .ref (gA G 6)), (1, .int v1)] rfl (fun x4 ls h hl => ?_)
        refine lv_goto (tgt := 47) C.1 C.2.1 dO_goesOn_70 (by decide) ?_
        exact ih h hG (lv_sub hl [1, 2, 0] rfl)
theorem wO_goesOn_34 {p : Program} {l : Launch} {e : Env} {s : State} {m : MethodId} {args : Array Value} {below : List Frame} {meth : Method} {c : Code} {G : GT} {I : List Nat} (C : CX p s m args meth c NO bO_goesOn 5 (some .boolean) G I) (hI : cI I) {fu : Nat} {R1 : Int32} {Z : Sg} {v1 : Int32} {z : Sg} {H : Heap} {locs : List Loc} {ls : Array Slot} (h : pO_goesOn_34 fu v1 z = some (R1, Z)) (hG : GW G I z s.heap H locs) (hl : lv_has ls 5 [(0, .ref (gA G 6)), (1, .int v1)]) : W p l e rmO_goesOn s m args below meth c H locs 0 0 (MQ below (Qi G I R1 Z) args s 0 0 (AD G I)) (F0 m 34 ls []) := by
  unfold pO_goesOn_34 at h
  refine rIload_n C dO_goesOn_34 hl 1 rfl ?_
  refine rIfge C (tgt := 40) h dO_goesOn_35 (by decide) (fun h => ?_) (fun h => ?_)
  · refine rAload_n C dO_goesOn_40 hl 0 rfl ?_
    refine rGet C hG (hI 6 (by decide)) e_6 fiO_2 (v := .int (z 6 2)) rfl k_103 dO_goesOn_41 ?_
    refine lv_iconst (v := 1) C.1 C.2.1 dO_goesOn_44 (by decide) ?_
    refine lv_isub C.1 C.2.1 dO_goesOn_45 ?_
    refine rIstore_n C dO_goesOn_46 hl h (by decide) [(0, .ref (gA G 6)), (1, .int v1)] rfl (fun x3 ls h hl => ?_)
    exact wO_goesOn_47 C hI _ h hG (lv_sub hl [1, 2, 0] rfl)
  · refine lv_iconst (v := 0) C.1 C.2.1 dO_goesOn_38 (by decide) ?_
    exact rRetn C hG (ty := .boolean) rfl rfl h dO_goesOn_39
theorem wO_goesOn_7 {p : Program} {l : Launch} {e : Env} {s : State} {m : MethodId} {args : Array Value} {below : List Frame} {meth : Method} {c : Code} {G : GT} {I : List Nat} (C : CX p s m args meth c NO bO_goesOn 5 (some .boolean) G I) (hI : cI I) {fu : Nat} {R1 : Int32} {Z : Sg} : ∀ (k : Nat) {v1 : Int32} {z : Sg} {H : Heap} {locs : List Loc} {ls : Array Slot}, pO_goesOn_7 fu k v1 z = some (R1, Z) → GW G I z s.heap H locs → lv_has ls 5 [(0, .ref (gA G 6)), (1, .int v1)] → W p l e rmO_goesOn s m args below meth c H locs 0 0 (MQ below (Qi G I R1 Z) args s 0 0 (AD G I)) (F0 m 7 ls []) := by
  intro k
  induction k with
  | zero => intro v1 z H locs ls h hG hl; rw [pO_goesOn_7] at h; cases h
  | succ k ih =>
    intro v1 z H locs ls h hG hl
    rw [pO_goesOn_7] at h
    refine rIload_n C dO_goesOn_7 hl 1 rfl ?_
    refine rIflt C (tgt := 34) h dO_goesOn_8 (by decide) (fun h => ?_) (fun h => ?_)
    · exact wO_goesOn_34 C hI h hG (lv_sub hl [0, 1] rfl)
    · refine rAload_n C dO_goesOn_11 hl 0 rfl ?_
      refine rGet C hG (hI 6 (by decide)) e_6 fiO_1 (v := .ref (gA G 8)) rfl k_102 dO_goesOn_12 ?_
      refine rIload_n C dO_goesOn_15 hl 1 rfl ?_
      refine rIald C hG (hI 8 (by decide)) e_8 h dO_goesOn_16 (fun h => ?_)
      refine rAload_n C dO_goesOn_17 hl 0 rfl ?_
      refine rGet C hG (hI 6 (by decide)) e_6 fiO_1 (v := .ref (gA G 8)) rfl k_102 dO_goesOn_18 ?_
      refine rIload_n C dO_goesOn_21 hl 1 rfl ?_
      refine lv_iconst (v := 1) C.1 C.2.1 dO_goesOn_22 (by decide) ?_
      refine lv_iadd C.1 C.2.1 dO_goesOn_23 ?_
      refine rIald C hG (hI 8 (by decide)) e_8 h dO_goesOn_24 (fun h => ?_)
      refine rIcmple C (tgt := 34) h dO_goesOn_25 (by decide) (fun h => ?_) (fun h => ?_)
      · exact wO_goesOn_34 C hI h hG (lv_sub hl [0, 1] rfl)
      · refine rIinc C dO_goesOn_28 hl 1 rfl (d := (-1)) (by decide) h (by decide) [(0, .ref (gA G 6))] rfl (fun x2 ls h hl => ?_)
        refine lv_goto (tgt := 7) C.1 C.2.1 dO_goesOn_31 (by decide) ?_
        exact ih h hG (lv_sub hl [1, 0] rfl)
theorem cO_goesOn {l : Launch} {G : GT} {I : List Nat} (hI : cI I) {fu : Nat} {z : Sg} {R1 : Int32} {Z : Sg} (h : pO_goesOn fu z = some (R1, Z)) : Mt l yO_goesOn rmO_goesOn bO_goesOn 5 (some .boolean) G I z [.ref (gA G 6)] (Qi G I R1 Z) := by
  refine entM (by decide +kernel) (Nat.le_of_ble_eq_true rfl) ?_
  intro p e s m below meth c C hG ls hl
  have hl : lv_has ls 5 [(0, .ref (gA G 6))] := hl
  unfold pO_goesOn at h
  refine rAload_n C dO_goesOn_0 hl 0 rfl ?_
  refine rGet C hG (hI 6 (by decide)) e_6 fiO_2 (v := .int (z 6 2)) rfl k_103 dO_goesOn_1 ?_
  refine lv_iconst (v := 2) C.1 C.2.1 dO_goesOn_4 (by decide) ?_
  refine lv_isub C.1 C.2.1 dO_goesOn_5 ?_
  refine rIstore_n C dO_goesOn_6 hl h (by decide) [(0, .ref (gA G 6))] rfl (fun x1 ls h hl => ?_)
  exact wO_goesOn_7 C hI _ h hG (lv_sub hl [1, 0] rfl)
