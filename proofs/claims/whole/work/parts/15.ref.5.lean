theorem dM_gap_0 : decode bM_gap 0 = .ok (.iload_n 1, 1) := by decide +kernel
theorem dM_gap_1 : decode bM_gap 1 = .ok (.iconst 0, 1) := by decide +kernel
theorem dM_gap_2 : decode bM_gap 2 = .ok (.bipush 40, 2) := by decide +kernel
theorem dM_gap_4 : decode bM_gap 4 = .ok (.invokestatic 81, 3) := by decide +kernel
theorem dM_gap_7 : decode bM_gap 7 = .ok (.ifCond .eq 12, 3) := by decide +kernel
theorem dM_gap_10 : decode bM_gap 10 = .ok (.iload_n 2, 1) := by decide +kernel
theorem dM_gap_11 : decode bM_gap 11 = .ok (.iconst 0, 1) := by decide +kernel
theorem dM_gap_12 : decode bM_gap 12 = .ok (.iconst 1, 1) := by decide +kernel
theorem dM_gap_13 : decode bM_gap 13 = .ok (.invokestatic 81, 3) := by decide +kernel
theorem dM_gap_16 : decode bM_gap 16 = .ok (.ifCond .ne 6, 3) := by decide +kernel
theorem dM_gap_19 : decode bM_gap 19 = .ok (.bipush (-2), 2) := by decide +kernel
theorem dM_gap_21 : decode bM_gap 21 = .ok (.ireturn, 1) := by decide +kernel
theorem dM_gap_22 : decode bM_gap 22 = .ok (.aload_n 0, 1) := by decide +kernel
theorem dM_gap_23 : decode bM_gap 23 = .ok (.getfield 19, 3) := by decide +kernel
theorem dM_gap_26 : decode bM_gap 26 = .ok (.iconst 0, 1) := by decide +kernel
theorem dM_gap_27 : decode bM_gap 27 = .ok (.iaload, 1) := by decide +kernel
theorem dM_gap_28 : decode bM_gap 28 = .ok (.istore_n 3, 1) := by decide +kernel
theorem dM_gap_29 : decode bM_gap 29 = .ok (.iconst (-1), 1) := by decide +kernel
theorem dM_gap_30 : decode bM_gap 30 = .ok (.istore 4, 2) := by decide +kernel
theorem dM_gap_32 : decode bM_gap 32 = .ok (.iconst (-1), 1) := by decide +kernel
theorem dM_gap_33 : decode bM_gap 33 = .ok (.istore 5, 2) := by decide +kernel
theorem dM_gap_35 : decode bM_gap 35 = .ok (.iconst 0, 1) := by decide +kernel
theorem dM_gap_36 : decode bM_gap 36 = .ok (.istore 6, 2) := by decide +kernel
theorem dM_gap_38 : decode bM_gap 38 = .ok (.iload 6, 2) := by decide +kernel
theorem dM_gap_40 : decode bM_gap 40 = .ok (.bipush 10, 2) := by decide +kernel
theorem dM_gap_42 : decode bM_gap 42 = .ok (.if_icmp .ge 66, 3) := by decide +kernel
theorem dM_gap_45 : decode bM_gap 45 = .ok (.aload_n 0, 1) := by decide +kernel
theorem dM_gap_46 : decode bM_gap 46 = .ok (.iload 6, 2) := by decide +kernel
theorem dM_gap_48 : decode bM_gap 48 = .ok (.invokevirtual 85, 3) := by decide +kernel
theorem dM_gap_51 : decode bM_gap 51 = .ok (.iconst (-1), 1) := by decide +kernel
theorem dM_gap_52 : decode bM_gap 52 = .ok (.if_icmp .ne 50, 3) := by decide +kernel
theorem dM_gap_55 : decode bM_gap 55 = .ok (.aload_n 0, 1) := by decide +kernel
theorem dM_gap_56 : decode bM_gap 56 = .ok (.getfield 19, 3) := by decide +kernel
theorem dM_gap_59 : decode bM_gap 59 = .ok (.iconst 0, 1) := by decide +kernel
theorem dM_gap_60 : decode bM_gap 60 = .ok (.iload 6, 2) := by decide +kernel
theorem dM_gap_62 : decode bM_gap 62 = .ok (.iastore, 1) := by decide +kernel
theorem dM_gap_63 : decode bM_gap 63 = .ok (.aload_n 0, 1) := by decide +kernel
theorem dM_gap_64 : decode bM_gap 64 = .ok (.iload_n 1, 1) := by decide +kernel
theorem dM_gap_65 : decode bM_gap 65 = .ok (.invokevirtual 225, 3) := by decide +kernel
theorem dM_gap_68 : decode bM_gap 68 = .ok (.istore 7, 2) := by decide +kernel
theorem dM_gap_70 : decode bM_gap 70 = .ok (.iload 7, 2) := by decide +kernel
theorem dM_gap_72 : decode bM_gap 72 = .ok (.iload 5, 2) := by decide +kernel
theorem dM_gap_74 : decode bM_gap 74 = .ok (.if_icmp .le 8, 3) := by decide +kernel
theorem dM_gap_77 : decode bM_gap 77 = .ok (.iload 6, 2) := by decide +kernel
theorem dM_gap_79 : decode bM_gap 79 = .ok (.goto 5, 3) := by decide +kernel
theorem dM_gap_82 : decode bM_gap 82 = .ok (.iload 4, 2) := by decide +kernel
theorem dM_gap_84 : decode bM_gap 84 = .ok (.istore 4, 2) := by decide +kernel
theorem dM_gap_86 : decode bM_gap 86 = .ok (.iload 7, 2) := by decide +kernel
theorem dM_gap_88 : decode bM_gap 88 = .ok (.iload 5, 2) := by decide +kernel
theorem dM_gap_90 : decode bM_gap 90 = .ok (.if_icmp .le 8, 3) := by decide +kernel
theorem dM_gap_93 : decode bM_gap 93 = .ok (.iload 7, 2) := by decide +kernel
theorem dM_gap_95 : decode bM_gap 95 = .ok (.goto 5, 3) := by decide +kernel
theorem dM_gap_98 : decode bM_gap 98 = .ok (.iload 5, 2) := by decide +kernel
theorem dM_gap_100 : decode bM_gap 100 = .ok (.istore 5, 2) := by decide +kernel
theorem dM_gap_102 : decode bM_gap 102 = .ok (.iinc 6 1, 3) := by decide +kernel
theorem dM_gap_105 : decode bM_gap 105 = .ok (.goto (-67), 3) := by decide +kernel
theorem dM_gap_108 : decode bM_gap 108 = .ok (.aload_n 0, 1) := by decide +kernel
theorem dM_gap_109 : decode bM_gap 109 = .ok (.getfield 19, 3) := by decide +kernel
theorem dM_gap_112 : decode bM_gap 112 = .ok (.iconst 0, 1) := by decide +kernel
theorem dM_gap_113 : decode bM_gap 113 = .ok (.iload_n 3, 1) := by decide +kernel
theorem dM_gap_114 : decode bM_gap 114 = .ok (.iastore, 1) := by decide +kernel
theorem dM_gap_115 : decode bM_gap 115 = .ok (.iload_n 2, 1) := by decide +kernel
theorem dM_gap_116 : decode bM_gap 116 = .ok (.ifCond .ne 8, 3) := by decide +kernel
theorem dM_gap_119 : decode bM_gap 119 = .ok (.iload 4, 2) := by decide +kernel
theorem dM_gap_121 : decode bM_gap 121 = .ok (.goto 5, 3) := by decide +kernel
theorem dM_gap_124 : decode bM_gap 124 = .ok (.iload 5, 2) := by decide +kernel
theorem dM_gap_126 : decode bM_gap 126 = .ok (.ireturn, 1) := by decide +kernel
theorem wM_gap_102 {p : Program} {l : Launch} {e : Env} {s : State} {m : MethodId} {args : Array Value} {below : List Frame} {meth : Method} {c : Code} {G : GT} {I : List Nat} (C : CX p s m args meth c NM bM_gap 8 (some .int) G I) (hI : mI I) {fu : Nat} {R1 : Int32} {Z : Sg} {rc38 : Int32 → Int32 → Int32 → Int32 → Int32 → Int32 → Sg → Option (Int32 × Sg)} (hr38 : ∀ {v1 : Int32} {v2 : Int32} {v3 : Int32} {v4 : Int32} {v5 : Int32} {v6 : Int32} {z : Sg} {H : Heap} {locs : List Loc} {ls : Array Slot}, rc38 v1 v2 v3 v4 v5 v6 z = some (R1, Z) → GW G I z s.heap H locs → lv_has ls 8 [(0, .ref (gA G 78)), (1, .int v1), (2, .int v2), (3, .int v3), (4, .int v4), (5, .int v5), (6, .int v6)] → W p l e rmM_gap s m args below meth c H locs 0 0 (MQ below (Qi G I R1 Z) args s 0 0 (AD G I)) (F0 m 38 ls [])) {v1 : Int32} {v2 : Int32} {v3 : Int32} {v4 : Int32} {v5 : Int32} {v6 : Int32} {z : Sg} {H : Heap} {locs : List Loc} {ls : Array Slot} (h : pM_gap_102 fu rc38 v1 v2 v3 v4 v5 v6 z = some (R1, Z)) (hG : GW G I z s.heap H locs) (hl : lv_has ls 8 [(0, .ref (gA G 78)), (1, .int v1), (2, .int v2), (3, .int v3), (4, .int v4), (5, .int v5), (6, .int v6)]) : W p l e rmM_gap s m args below meth c H locs 0 0 (MQ below (Qi G I R1 Z) args s 0 0 (AD G I)) (F0 m 102 ls []) := by
  unfold pM_gap_102 at h
  refine rIinc C dM_gap_102 hl 6 rfl (d := 1) (by decide) h (by decide) [(0, .ref (gA G 78)), (1, .int v1), (2, .int v2), (3, .int v3), (4, .int v4), (5, .int v5)] rfl (fun x12 ls h hl => ?_)
  refine lv_goto (tgt := 38) C.1 C.2.1 dM_gap_105 (by decide) ?_
  exact hr38 h hG (lv_sub hl [1, 2, 3, 4, 5, 6, 0] rfl)
theorem wM_gap_100 {p : Program} {l : Launch} {e : Env} {s : State} {m : MethodId} {args : Array Value} {below : List Frame} {meth : Method} {c : Code} {G : GT} {I : List Nat} (C : CX p s m args meth c NM bM_gap 8 (some .int) G I) (hI : mI I) {fu : Nat} {R1 : Int32} {Z : Sg} {rc38 : Int32 → Int32 → Int32 → Int32 → Int32 → Int32 → Sg → Option (Int32 × Sg)} (hr38 : ∀ {v1 : Int32} {v2 : Int32} {v3 : Int32} {v4 : Int32} {v5 : Int32} {v6 : Int32} {z : Sg} {H : Heap} {locs : List Loc} {ls : Array Slot}, rc38 v1 v2 v3 v4 v5 v6 z = some (R1, Z) → GW G I z s.heap H locs → lv_has ls 8 [(0, .ref (gA G 78)), (1, .int v1), (2, .int v2), (3, .int v3), (4, .int v4), (5, .int v5), (6, .int v6)] → W p l e rmM_gap s m args below meth c H locs 0 0 (MQ below (Qi G I R1 Z) args s 0 0 (AD G I)) (F0 m 38 ls [])) {v1 : Int32} {v2 : Int32} {v3 : Int32} {v4 : Int32} {v6 : Int32} {t0 : Int32} {z : Sg} {H : Heap} {locs : List Loc} {ls : Array Slot} (h : pM_gap_100 fu rc38 v1 v2 v3 v4 v6 t0 z = some (R1, Z)) (hG : GW G I z s.heap H locs) (hl : lv_has ls 8 [(0, .ref (gA G 78)), (1, .int v1), (2, .int v2), (3, .int v3), (4, .int v4), (6, .int v6)]) : W p l e rmM_gap s m args below meth c H locs 0 0 (MQ below (Qi G I R1 Z) args s 0 0 (AD G I)) (F0 m 100 ls [.int t0]) := by
  unfold pM_gap_100 at h
  refine rIstoreA C dM_gap_100 hl (by decide) [(0, .ref (gA G 78)), (1, .int v1), (2, .int v2), (3, .int v3), (4, .int v4), (6, .int v6)] rfl (fun ls hl => ?_)
  exact wM_gap_102 C hI hr38 h hG (lv_sub hl [1, 2, 3, 4, 5, 0, 6] rfl)
theorem wM_gap_84 {p : Program} {l : Launch} {e : Env} {s : State} {m : MethodId} {args : Array Value} {below : List Frame} {meth : Method} {c : Code} {G : GT} {I : List Nat} (C : CX p s m args meth c NM bM_gap 8 (some .int) G I) (hI : mI I) {fu : Nat} {R1 : Int32} {Z : Sg} {rc38 : Int32 → Int32 → Int32 → Int32 → Int32 → Int32 → Sg → Option (Int32 × Sg)} (hr38 : ∀ {v1 : Int32} {v2 : Int32} {v3 : Int32} {v4 : Int32} {v5 : Int32} {v6 : Int32} {z : Sg} {H : Heap} {locs : List Loc} {ls : Array Slot}, rc38 v1 v2 v3 v4 v5 v6 z = some (R1, Z) → GW G I z s.heap H locs → lv_has ls 8 [(0, .ref (gA G 78)), (1, .int v1), (2, .int v2), (3, .int v3), (4, .int v4), (5, .int v5), (6, .int v6)] → W p l e rmM_gap s m args below meth c H locs 0 0 (MQ below (Qi G I R1 Z) args s 0 0 (AD G I)) (F0 m 38 ls [])) {v1 : Int32} {v2 : Int32} {v3 : Int32} {v5 : Int32} {v6 : Int32} {v7 : Int32} {t0 : Int32} {z : Sg} {H : Heap} {locs : List Loc} {ls : Array Slot} (h : pM_gap_84 fu rc38 v1 v2 v3 v5 v6 v7 t0 z = some (R1, Z)) (hG : GW G I z s.heap H locs) (hl : lv_has ls 8 [(0, .ref (gA G 78)), (1, .int v1), (2, .int v2), (3, .int v3), (5, .int v5), (6, .int v6), (7, .int v7)]) : W p l e rmM_gap s m args below meth c H locs 0 0 (MQ below (Qi G I R1 Z) args s 0 0 (AD G I)) (F0 m 84 ls [.int t0]) := by
  unfold pM_gap_84 at h
  refine rIstoreA C dM_gap_84 hl (by decide) [(0, .ref (gA G 78)), (1, .int v1), (2, .int v2), (3, .int v3), (5, .int v5), (6, .int v6), (7, .int v7)] rfl (fun ls hl => ?_)
  refine rIload C dM_gap_86 hl 7 rfl ?_
  refine rIload C dM_gap_88 hl 5 rfl ?_
  refine rIcmple C (tgt := 98) h dM_gap_90 (by decide) (fun h => ?_) (fun h => ?_)
  · refine rIload C dM_gap_98 hl 5 rfl ?_
    exact wM_gap_100 C hI hr38 h hG (lv_sub hl [1, 2, 3, 4, 0, 6] rfl)
  · refine rIload C dM_gap_93 hl 7 rfl ?_
    refine lv_goto (tgt := 100) C.1 C.2.1 dM_gap_95 (by decide) ?_
    exact wM_gap_100 C hI hr38 h hG (lv_sub hl [1, 2, 3, 4, 0, 6] rfl)
theorem wM_gap_38 {p : Program} {l : Launch} {e : Env} {s : State} {m : MethodId} {args : Array Value} {below : List Frame} {meth : Method} {c : Code} {G : GT} {I : List Nat} (C : CX p s m args meth c NM bM_gap 8 (some .int) G I) (hI : mI I) {fu : Nat} {R1 : Int32} {Z : Sg} : ∀ (k : Nat) {v1 : Int32} {v2 : Int32} {v3 : Int32} {v4 : Int32} {v5 : Int32} {v6 : Int32} {z : Sg} {H : Heap} {locs : List Loc} {ls : Array Slot}, pM_gap_38 fu k v1 v2 v3 v4 v5 v6 z = some (R1, Z) → GW G I z s.heap H locs → lv_has ls 8 [(0, .ref (gA G 78)), (1, .int v1), (2, .int v2), (3, .int v3), (4, .int v4), (5, .int v5), (6, .int v6)] → W p l e rmM_gap s m args below meth c H locs 0 0 (MQ below (Qi G I R1 Z) args s 0 0 (AD G I)) (F0 m 38 ls []) := by
  intro k
  induction k with
  | zero => intro v1 v2 v3 v4 v5 v6 z H locs ls h hG hl; rw [pM_gap_38] at h; cases h
  | succ k ih =>
    intro v1 v2 v3 v4 v5 v6 z H locs ls h hG hl
    rw [pM_gap_38] at h
    refine rIload C dM_gap_38 hl 6 rfl ?_
    refine lv_bipush (v := 10) C.1 C.2.1 dM_gap_40 (by decide) ?_
    refine rIcmpge C (tgt := 108) h dM_gap_42 (by decide) (fun h => ?_) (fun h => ?_)
    · refine rAload_n C dM_gap_108 hl 0 rfl ?_
      refine rGet C hG (hI 78 (by decide) (by decide)) e_78 fiM_4 (v := .ref (gA G 82)) rfl k_810 dM_gap_109 ?_
      refine lv_iconst (v := 0) C.1 C.2.1 dM_gap_112 (by decide) ?_
      refine rIload_n C dM_gap_113 hl 3 rfl ?_
      refine rIastK C hG (hI 82 (by decide) (by decide)) e_82 0 (by decide) (by decide) h dM_gap_114 (fun H locs z6 h hG => ?_)
      refine rIload_n C dM_gap_115 hl 2 rfl ?_
      refine rIfne C (tgt := 124) h dM_gap_116 (by decide) (fun h => ?_) (fun h => ?_)
      · refine rIload C dM_gap_124 hl 5 rfl ?_
        exact rReti C hG h dM_gap_126
      · refine rIload C dM_gap_119 hl 4 rfl ?_
        refine lv_goto (tgt := 126) C.1 C.2.1 dM_gap_121 (by decide) ?_
        exact rReti C hG h dM_gap_126
    · refine rAload_n C dM_gap_45 hl 0 rfl ?_
      refine rIload C dM_gap_46 hl 6 rfl ?_
      refine rCVi [.int v6] [] C hG h (fun h => cM_whoAt hI h) mvM_whoAt k_924 ⟨Nat.le_of_ble_eq_true rfl, Nat.le_of_ble_eq_true rfl⟩ ⟨rfl, rfl⟩ (rRecv C hG (hI 78 (by decide) (by decide)) e_78 rfl) rfl hl.1 (Nat.le_of_ble_eq_true rfl) dM_gap_48 ⟨Nat.zero_le _, Nat.zero_le _⟩ rfl (fun H locs x8 z7 h hG => ?_)
      refine lv_iconst (v := (-1)) C.1 C.2.1 dM_gap_51 (by decide) ?_
      refine rIcmpne C (tgt := 102) h dM_gap_52 (by decide) (fun h => ?_) (fun h => ?_)
      · exact wM_gap_102 C hI ih h hG (lv_sub hl [0, 1, 2, 3, 4, 5, 6] rfl)
      · refine rAload_n C dM_gap_55 hl 0 rfl ?_
        refine rGet C hG (hI 78 (by decide) (by decide)) e_78 fiM_4 (v := .ref (gA G 82)) rfl k_810 dM_gap_56 ?_
        refine lv_iconst (v := 0) C.1 C.2.1 dM_gap_59 (by decide) ?_
        refine rIload C dM_gap_60 hl 6 rfl ?_
        refine rIastK C hG (hI 82 (by decide) (by decide)) e_82 0 (by decide) (by decide) h dM_gap_62 (fun H locs z9 h hG => ?_)
        refine rAload_n C dM_gap_63 hl 0 rfl ?_
        refine rIload_n C dM_gap_64 hl 1 rfl ?_
        refine rCVi [.int v1] [] C hG h (fun h => cM_cutNow hI h) mvM_cutNow k_1061 ⟨Nat.le_of_ble_eq_true rfl, Nat.le_of_ble_eq_true rfl⟩ ⟨rfl, rfl⟩ (rRecv C hG (hI 78 (by decide) (by decide)) e_78 rfl) rfl hl.1 (Nat.le_of_ble_eq_true rfl) dM_gap_65 ⟨Nat.zero_le _, Nat.zero_le _⟩ rfl (fun H locs x11 z10 h hG => ?_)
        refine rIstoreA C dM_gap_68 hl (by decide) [(0, .ref (gA G 78)), (1, .int v1), (2, .int v2), (3, .int v3), (4, .int v4), (5, .int v5), (6, .int v6)] rfl (fun ls hl => ?_)
        refine rIload C dM_gap_70 hl 0 rfl ?_
        refine rIload C dM_gap_72 hl 6 rfl ?_
        refine rIcmple C (tgt := 82) h dM_gap_74 (by decide) (fun h => ?_) (fun h => ?_)
        · refine rIload C dM_gap_82 hl 5 rfl ?_
          exact wM_gap_84 C hI ih h hG (lv_sub hl [1, 2, 3, 4, 6, 7, 0] rfl)
        · refine rIload C dM_gap_77 hl 7 rfl ?_
          refine lv_goto (tgt := 84) C.1 C.2.1 dM_gap_79 (by decide) ?_
          exact wM_gap_84 C hI ih h hG (lv_sub hl [1, 2, 3, 4, 6, 7, 0] rfl)
theorem cM_gap {l : Launch} {G : GT} {I : List Nat} (hI : mI I) {fu : Nat} {v1 : Int32} {v2 : Int32} {z : Sg} {R1 : Int32} {Z : Sg} (h : pM_gap fu v1 v2 z = some (R1, Z)) : Mt l yM_gap rmM_gap bM_gap 8 (some .int) G I z [.ref (gA G 78), .int v1, .int v2] (Qi G I R1 Z) := by
  refine entM (by decide +kernel) (Nat.le_of_ble_eq_true rfl) ?_
  intro p e s m below meth c C hG ls hl
  have hl : lv_has ls 8 [(0, .ref (gA G 78)), (1, .int v1), (2, .int v2)] := hl
  unfold pM_gap at h
  refine rIload_n C dM_gap_0 hl 1 rfl ?_
  refine lv_iconst (v := 0) C.1 C.2.1 dM_gap_1 (by decide) ?_
  refine lv_bipush (v := 40) C.1 C.2.1 dM_gap_2 (by decide) ?_
  refine rCSi [.int v1, .int 0, .int 40] [] C hG h (fun h => cM_in hI h) mvM_in k_767 ⟨Nat.le_of_ble_eq_true rfl, Nat.le_of_ble_eq_true rfl⟩ ⟨rfl, rfl⟩ rfl hl.1 (Nat.le_of_ble_eq_true rfl) dM_gap_4 ⟨Nat.zero_le _, Nat.zero_le _⟩ rfl (fun H locs x2 z1 h hG => ?_)
  refine rIfeq C (tgt := 19) h dM_gap_7 (by decide) (fun h => ?_) (fun h => ?_)
  · refine lv_bipush (v := (-2)) C.1 C.2.1 dM_gap_19 (by decide) ?_
    exact rReti C hG h dM_gap_21
  · refine rIload_n C dM_gap_10 hl 2 rfl ?_
    refine lv_iconst (v := 0) C.1 C.2.1 dM_gap_11 (by decide) ?_
    refine lv_iconst (v := 1) C.1 C.2.1 dM_gap_12 (by decide) ?_
    refine rCSi [.int v2, .int 0, .int 1] [] C hG h (fun h => cM_in hI h) mvM_in k_767 ⟨Nat.le_of_ble_eq_true rfl, Nat.le_of_ble_eq_true rfl⟩ ⟨rfl, rfl⟩ rfl hl.1 (Nat.le_of_ble_eq_true rfl) dM_gap_13 ⟨Nat.zero_le _, Nat.zero_le _⟩ rfl (fun H locs x4 z3 h hG => ?_)
    refine rIfne C (tgt := 22) h dM_gap_16 (by decide) (fun h => ?_) (fun h => ?_)
    · refine rAload_n C dM_gap_22 hl 0 rfl ?_
      refine rGet C hG (hI 78 (by decide) (by decide)) e_78 fiM_4 (v := .ref (gA G 82)) rfl k_810 dM_gap_23 ?_
      refine lv_iconst (v := 0) C.1 C.2.1 dM_gap_26 (by decide) ?_
      refine rIaldK C hG (hI 82 (by decide) (by decide)) e_82 0 (by decide) (by decide) dM_gap_27 ?_
      refine rIstore_n C dM_gap_28 hl h (by decide) [(0, .ref (gA G 78)), (1, .int v1), (2, .int v2)] rfl (fun x5 ls h hl => ?_)
      refine lv_iconst (v := (-1)) C.1 C.2.1 dM_gap_29 (by decide) ?_
      refine rIstoreA C dM_gap_30 hl (by decide) [(3, .int x5), (0, .ref (gA G 78)), (1, .int v1), (2, .int v2)] rfl (fun ls hl => ?_)
      refine lv_iconst (v := (-1)) C.1 C.2.1 dM_gap_32 (by decide) ?_
      refine rIstoreA C dM_gap_33 hl (by decide) [(4, .int (-1)), (3, .int x5), (0, .ref (gA G 78)), (1, .int v1), (2, .int v2)] rfl (fun ls hl => ?_)
      refine lv_iconst (v := 0) C.1 C.2.1 dM_gap_35 (by decide) ?_
      refine rIstoreA C dM_gap_36 hl (by decide) [(5, .int (-1)), (4, .int (-1)), (3, .int x5), (0, .ref (gA G 78)), (1, .int v1), (2, .int v2)] rfl (fun ls hl => ?_)
      exact wM_gap_38 C hI _ h hG (lv_sub hl [4, 5, 6, 3, 2, 1, 0] rfl)
    · refine lv_bipush (v := (-2)) C.1 C.2.1 dM_gap_19 (by decide) ?_
      exact rReti C hG h dM_gap_21
theorem dM_stands_0 : decode bM_stands 0 = .ok (.aload_n 0, 1) := by decide +kernel
theorem dM_stands_1 : decode bM_stands 1 = .ok (.iload_n 1, 1) := by decide +kernel
theorem dM_stands_2 : decode bM_stands 2 = .ok (.invokevirtual 186, 3) := by decide +kernel
theorem dM_stands_5 : decode bM_stands 5 = .ok (.ifCond .ne 6, 3) := by decide +kernel
theorem dM_stands_8 : decode bM_stands 8 = .ok (.bipush (-5), 2) := by decide +kernel
theorem dM_stands_10 : decode bM_stands 10 = .ok (.ireturn, 1) := by decide +kernel
theorem dM_stands_11 : decode bM_stands 11 = .ok (.iload_n 2, 1) := by decide +kernel
theorem dM_stands_12 : decode bM_stands 12 = .ok (.iconst 0, 1) := by decide +kernel
theorem dM_stands_13 : decode bM_stands 13 = .ok (.bipush 40, 2) := by decide +kernel
theorem dM_stands_15 : decode bM_stands 15 = .ok (.invokestatic 81, 3) := by decide +kernel
theorem dM_stands_18 : decode bM_stands 18 = .ok (.ifCond .eq 12, 3) := by decide +kernel
theorem dM_stands_21 : decode bM_stands 21 = .ok (.iload_n 3, 1) := by decide +kernel
theorem dM_stands_22 : decode bM_stands 22 = .ok (.iconst 0, 1) := by decide +kernel
theorem dM_stands_23 : decode bM_stands 23 = .ok (.iconst 1, 1) := by decide +kernel
theorem dM_stands_24 : decode bM_stands 24 = .ok (.invokestatic 81, 3) := by decide +kernel
theorem dM_stands_27 : decode bM_stands 27 = .ok (.ifCond .ne 6, 3) := by decide +kernel
theorem dM_stands_30 : decode bM_stands 30 = .ok (.bipush (-7), 2) := by decide +kernel
theorem dM_stands_32 : decode bM_stands 32 = .ok (.ireturn, 1) := by decide +kernel
theorem dM_stands_33 : decode bM_stands 33 = .ok (.aload_n 0, 1) := by decide +kernel
theorem dM_stands_34 : decode bM_stands 34 = .ok (.getfield 16, 3) := by decide +kernel
theorem dM_stands_37 : decode bM_stands 37 = .ok (.iconst 3, 1) := by decide +kernel
theorem dM_stands_38 : decode bM_stands 38 = .ok (.iload_n 1, 1) := by decide +kernel
theorem dM_stands_39 : decode bM_stands 39 = .ok (.imul, 1) := by decide +kernel
theorem dM_stands_40 : decode bM_stands 40 = .ok (.iaload, 1) := by decide +kernel
theorem dM_stands_41 : decode bM_stands 41 = .ok (.istore 4, 2) := by decide +kernel
theorem dM_stands_43 : decode bM_stands 43 = .ok (.iconst (-1), 1) := by decide +kernel
theorem dM_stands_44 : decode bM_stands 44 = .ok (.istore 5, 2) := by decide +kernel
theorem dM_stands_46 : decode bM_stands 46 = .ok (.iconst (-1), 1) := by decide +kernel
theorem dM_stands_47 : decode bM_stands 47 = .ok (.istore 6, 2) := by decide +kernel
theorem dM_stands_49 : decode bM_stands 49 = .ok (.iconst 0, 1) := by decide +kernel
theorem dM_stands_50 : decode bM_stands 50 = .ok (.istore 7, 2) := by decide +kernel
theorem dM_stands_52 : decode bM_stands 52 = .ok (.iload 7, 2) := by decide +kernel
theorem dM_stands_54 : decode bM_stands 54 = .ok (.bipush 10, 2) := by decide +kernel
theorem dM_stands_56 : decode bM_stands 56 = .ok (.if_icmp .ge 96, 3) := by decide +kernel
theorem dM_stands_59 : decode bM_stands 59 = .ok (.iload 7, 2) := by decide +kernel
theorem dM_stands_61 : decode bM_stands 61 = .ok (.iload 4, 2) := by decide +kernel
theorem dM_stands_63 : decode bM_stands 63 = .ok (.if_icmp .eq 12, 3) := by decide +kernel
theorem dM_stands_66 : decode bM_stands 66 = .ok (.aload_n 0, 1) := by decide +kernel
theorem dM_stands_67 : decode bM_stands 67 = .ok (.iload 7, 2) := by decide +kernel
theorem dM_stands_69 : decode bM_stands 69 = .ok (.invokevirtual 192, 3) := by decide +kernel
theorem dM_stands_72 : decode bM_stands 72 = .ok (.ifCond .eq 7, 3) := by decide +kernel
theorem dM_stands_75 : decode bM_stands 75 = .ok (.iconst 1, 1) := by decide +kernel
theorem dM_stands_76 : decode bM_stands 76 = .ok (.goto 4, 3) := by decide +kernel
theorem dM_stands_79 : decode bM_stands 79 = .ok (.iconst 0, 1) := by decide +kernel
theorem dM_stands_80 : decode bM_stands 80 = .ok (.istore 8, 2) := by decide +kernel
theorem dM_stands_82 : decode bM_stands 82 = .ok (.iload 8, 2) := by decide +kernel
theorem dM_stands_84 : decode bM_stands 84 = .ok (.ifCond .eq 62, 3) := by decide +kernel
theorem dM_stands_87 : decode bM_stands 87 = .ok (.aload_n 0, 1) := by decide +kernel
theorem dM_stands_88 : decode bM_stands 88 = .ok (.getfield 16, 3) := by decide +kernel
theorem dM_stands_91 : decode bM_stands 91 = .ok (.iconst 3, 1) := by decide +kernel
theorem dM_stands_92 : decode bM_stands 92 = .ok (.iload_n 1, 1) := by decide +kernel
theorem dM_stands_93 : decode bM_stands 93 = .ok (.imul, 1) := by decide +kernel
theorem dM_stands_94 : decode bM_stands 94 = .ok (.iload 7, 2) := by decide +kernel
theorem dM_stands_96 : decode bM_stands 96 = .ok (.iastore, 1) := by decide +kernel
theorem dM_stands_97 : decode bM_stands 97 = .ok (.aload_n 0, 1) := by decide +kernel
theorem dM_stands_98 : decode bM_stands 98 = .ok (.iload_n 2, 1) := by decide +kernel
theorem dM_stands_99 : decode bM_stands 99 = .ok (.invokevirtual 225, 3) := by decide +kernel
theorem dM_stands_102 : decode bM_stands 102 = .ok (.istore 9, 2) := by decide +kernel
theorem dM_stands_104 : decode bM_stands 104 = .ok (.aload_n 0, 1) := by decide +kernel
theorem dM_stands_105 : decode bM_stands 105 = .ok (.getfield 16, 3) := by decide +kernel
theorem dM_stands_108 : decode bM_stands 108 = .ok (.iconst 3, 1) := by decide +kernel
theorem dM_stands_109 : decode bM_stands 109 = .ok (.iload_n 1, 1) := by decide +kernel
theorem dM_stands_110 : decode bM_stands 110 = .ok (.imul, 1) := by decide +kernel
theorem dM_stands_111 : decode bM_stands 111 = .ok (.iload 4, 2) := by decide +kernel
theorem dM_stands_113 : decode bM_stands 113 = .ok (.iastore, 1) := by decide +kernel
theorem dM_stands_114 : decode bM_stands 114 = .ok (.iload 9, 2) := by decide +kernel
theorem dM_stands_116 : decode bM_stands 116 = .ok (.iload 6, 2) := by decide +kernel
theorem dM_stands_118 : decode bM_stands 118 = .ok (.if_icmp .le 8, 3) := by decide +kernel
theorem dM_stands_121 : decode bM_stands 121 = .ok (.iload 7, 2) := by decide +kernel
theorem dM_stands_123 : decode bM_stands 123 = .ok (.goto 5, 3) := by decide +kernel
theorem dM_stands_126 : decode bM_stands 126 = .ok (.iload 5, 2) := by decide +kernel
theorem dM_stands_128 : decode bM_stands 128 = .ok (.istore 5, 2) := by decide +kernel
theorem dM_stands_130 : decode bM_stands 130 = .ok (.iload 9, 2) := by decide +kernel
theorem dM_stands_132 : decode bM_stands 132 = .ok (.iload 6, 2) := by decide +kernel
theorem dM_stands_134 : decode bM_stands 134 = .ok (.if_icmp .le 8, 3) := by decide +kernel
theorem dM_stands_137 : decode bM_stands 137 = .ok (.iload 9, 2) := by decide +kernel
theorem dM_stands_139 : decode bM_stands 139 = .ok (.goto 5, 3) := by decide +kernel
theorem dM_stands_142 : decode bM_stands 142 = .ok (.iload 6, 2) := by decide +kernel
theorem dM_stands_144 : decode bM_stands 144 = .ok (.istore 6, 2) := by decide +kernel
theorem dM_stands_146 : decode bM_stands 146 = .ok (.iinc 7 1, 3) := by decide +kernel
theorem dM_stands_149 : decode bM_stands 149 = .ok (.goto (-97), 3) := by decide +kernel
theorem dM_stands_152 : decode bM_stands 152 = .ok (.iload_n 3, 1) := by decide +kernel
theorem dM_stands_153 : decode bM_stands 153 = .ok (.ifCond .ne 8, 3) := by decide +kernel
theorem dM_stands_156 : decode bM_stands 156 = .ok (.iload 5, 2) := by decide +kernel
theorem dM_stands_158 : decode bM_stands 158 = .ok (.goto 5, 3) := by decide +kernel
theorem dM_stands_161 : decode bM_stands 161 = .ok (.iload 6, 2) := by decide +kernel
theorem dM_stands_163 : decode bM_stands 163 = .ok (.ireturn, 1) := by decide +kernel
theorem wM_stands_146 {p : Program} {l : Launch} {e : Env} {s : State} {m : MethodId} {args : Array Value} {below : List Frame} {meth : Method} {c : Code} {G : GT} {I : List Nat} (C : CX p s m args meth c NM bM_stands 10 (some .int) G I) (hI : mI I) {fu : Nat} {R1 : Int32} {Z : Sg} {rc52 : Int32 → Int32 → Int32 → Int32 → Int32 → Int32 → Int32 → Sg → Option (Int32 × Sg)} (hr52 : ∀ {v1 : Int32} {v2 : Int32} {v3 : Int32} {v4 : Int32} {v5 : Int32} {v6 : Int32} {v7 : Int32} {z : Sg} {H : Heap} {locs : List Loc} {ls : Array Slot}, rc52 v1 v2 v3 v4 v5 v6 v7 z = some (R1, Z) → GW G I z s.heap H locs → lv_has ls 10 [(0, .ref (gA G 78)), (1, .int v1), (2, .int v2), (3, .int v3), (4, .int v4), (5, .int v5), (6, .int v6), (7, .int v7)] → W p l e rmM_stands s m args below meth c H locs 0 0 (MQ below (Qi G I R1 Z) args s 0 0 (AD G I)) (F0 m 52 ls [])) {v1 : Int32} {v2 : Int32} {v3 : Int32} {v4 : Int32} {v5 : Int32} {v6 : Int32} {v7 : Int32} {z : Sg} {H : Heap} {locs : List Loc} {ls : Array Slot} (h : pM_stands_146 fu rc52 v1 v2 v3 v4 v5 v6 v7 z = some (R1, Z)) (hG : GW G I z s.heap H locs) (hl : lv_has ls 10 [(0, .ref (gA G 78)), (1, .int v1), (2, .int v2), (3, .int v3), (4, .int v4), (5, .int v5), (6, .int v6), (7, .int v7)]) : W p l e rmM_stands s m args below meth c H locs 0 0 (MQ below (Qi G I R1 Z) args s 0 0 (AD G I)) (F0 m 146 ls []) := by
  unfold pM_stands_146 at h
  refine rIinc C dM_stands_146 hl 7 rfl (d := 1) (by decide) h (by decide) [(0, .ref (gA G 78)), (1, .int v1), (2, .int v2), (3, .int v3), (4, .int v4), (5, .int v5), (6, .int v6)] rfl (fun x14 ls h hl => ?_)
  refine lv_goto (tgt := 52) C.1 C.2.1 dM_stands_149 (by decide) ?_
  exact hr52 h hG (lv_sub hl [1, 2, 3, 4, 5, 6, 7, 0] rfl)
theorem wM_stands_144 {p : Program} {l : Launch} {e : Env} {s : State} {m : MethodId} {args : Array Value} {below : List Frame} {meth : Method} {c : Code} {G : GT} {I : List Nat} (C : CX p s m args meth c NM bM_stands 10 (some .int) G I) (hI : mI I) {fu : Nat} {R1 : Int32} {Z : Sg} {rc52 : Int32 → Int32 → Int32 → Int32 → Int32 → Int32 → Int32 → Sg → Option (Int32 × Sg)} (hr52 : ∀ {v1 : Int32} {v2 : Int32} {v3 : Int32} {v4 : Int32} {v5 : Int32} {v6 : Int32} {v7 : Int32} {z : Sg} {H : Heap} {locs : List Loc} {ls : Array Slot}, rc52 v1 v2 v3 v4 v5 v6 v7 z = some (R1, Z) → GW G I z s.heap H locs → lv_has ls 10 [(0, .ref (gA G 78)), (1, .int v1), (2, .int v2), (3, .int v3), (4, .int v4), (5, .int v5), (6, .int v6), (7, .int v7)] → W p l e rmM_stands s m args below meth c H locs 0 0 (MQ below (Qi G I R1 Z) args s 0 0 (AD G I)) (F0 m 52 ls [])) {v1 : Int32} {v2 : Int32} {v3 : Int32} {v4 : Int32} {v5 : Int32} {v7 : Int32} {t0 : Int32} {z : Sg} {H : Heap} {locs : List Loc} {ls : Array Slot} (h : pM_stands_144 fu rc52 v1 v2 v3 v4 v5 v7 t0 z = some (R1, Z)) (hG : GW G I z s.heap H locs) (hl : lv_has ls 10 [(0, .ref (gA G 78)), (1, .int v1), (2, .int v2), (3, .int v3), (4, .int v4), (5, .int v5), (7, .int v7)]) : W p l e rmM_stands s m args below meth c H locs 0 0 (MQ below (Qi G I R1 Z) args s 0 0 (AD G I)) (F0 m 144 ls [.int t0]) := by
  unfold pM_stands_144 at h
  refine rIstoreA C dM_stands_144 hl (by decide) [(0, .ref (gA G 78)), (1, .int v1), (2, .int v2), (3, .int v3), (4, .int v4), (5, .int v5), (7, .int v7)] rfl (fun ls hl => ?_)
  exact wM_stands_146 C hI hr52 h hG (lv_sub hl [1, 2, 3, 4, 5, 6, 0, 7] rfl)
theorem wM_stands_128 {p : Program} {l : Launch} {e : Env} {s : State} {m : MethodId} {args : Array Value} {below : List Frame} {meth : Method} {c : Code} {G : GT} {I : List Nat} (C : CX p s m args meth c NM bM_stands 10 (some .int) G I) (hI : mI I) {fu : Nat} {R1 : Int32} {Z : Sg} {rc52 : Int32 → Int32 → Int32 → Int32 → Int32 → Int32 → Int32 → Sg → Option (Int32 × Sg)} (hr52 : ∀ {v1 : Int32} {v2 : Int32} {v3 : Int32} {v4 : Int32} {v5 : Int32} {v6 : Int32} {v7 : Int32} {z : Sg} {H : Heap} {locs : List Loc} {ls : Array Slot}, rc52 v1 v2 v3 v4 v5 v6 v7 z = some (R1, Z) → GW G I z s.heap H locs → lv_has ls 10 [(0, .ref (gA G 78)), (1, .int v1), (2, .int v2), (3, .int v3), (4, .int v4), (5, .int v5), (6, .int v6), (7, .int v7)] → W p l e rmM_stands s m args below meth c H locs 0 0 (MQ below (Qi G I R1 Z) args s 0 0 (AD G I)) (F0 m 52 ls [])) {v1 : Int32} {v2 : Int32} {v3 : Int32} {v4 : Int32} {v6 : Int32} {v7 : Int32} {v9 : Int32} {t0 : Int32} {z : Sg} {H : Heap} {locs : List Loc} {ls : Array Slot} (h : pM_stands_128 fu rc52 v1 v2 v3 v4 v6 v7 v9 t0 z = some (R1, Z)) (hG : GW G I z s.heap H locs) (hl : lv_has ls 10 [(0, .ref (gA G 78)), (1, .int v1), (2, .int v2), (3, .int v3), (4, .int v4), (6, .int v6), (7, .int v7), (9, .int v9)]) : W p l e rmM_stands s m args below meth c H locs 0 0 (MQ below (Qi G I R1 Z) args s 0 0 (AD G I)) (F0 m 128 ls [.int t0]) := by
  unfold pM_stands_128 at h
  refine rIstoreA C dM_stands_128 hl (by decide) [(0, .ref (gA G 78)), (1, .int v1), (2, .int v2), (3, .int v3), (4, .int v4), (6, .int v6), (7, .int v7), (9, .int v9)] rfl (fun ls hl => ?_)
  refine rIload C dM_stands_130 hl 8 rfl ?_
  refine rIload C dM_stands_132 hl 6 rfl ?_
  refine rIcmple C (tgt := 142) h dM_stands_134 (by decide) (fun h => ?_) (fun h => ?_)
  · refine rIload C dM_stands_142 hl 6 rfl ?_
    exact wM_stands_144 C hI hr52 h hG (lv_sub hl [1, 2, 3, 4, 5, 0, 7] rfl)
  · refine rIload C dM_stands_137 hl 8 rfl ?_
    refine lv_goto (tgt := 144) C.1 C.2.1 dM_stands_139 (by decide) ?_
    exact wM_stands_144 C hI hr52 h hG (lv_sub hl [1, 2, 3, 4, 5, 0, 7] rfl)
theorem wM_stands_80 {p : Program} {l : Launch} {e : Env} {s : State} {m : MethodId} {args : Array Value} {below : List Frame} {meth : Method} {c : Code} {G : GT} {I : List Nat} (C : CX p s m args meth c NM bM_stands 10 (some .int) G I) (hI : mI I) {fu : Nat} {R1 : Int32} {Z : Sg} {rc52 : Int32 → Int32 → Int32 → Int32 → Int32 → Int32 → Int32 → Sg → Option (Int32 × Sg)} (hr52 : ∀ {v1 : Int32} {v2 : Int32} {v3 : Int32} {v4 : Int32} {v5 : Int32} {v6 : Int32} {v7 : Int32} {z : Sg} {H : Heap} {locs : List Loc} {ls : Array Slot}, rc52 v1 v2 v3 v4 v5 v6 v7 z = some (R1, Z) → GW G I z s.heap H locs → lv_has ls 10 [(0, .ref (gA G 78)), (1, .int v1), (2, .int v2), (3, .int v3), (4, .int v4), (5, .int v5), (6, .int v6), (7, .int v7)] → W p l e rmM_stands s m args below meth c H locs 0 0 (MQ below (Qi G I R1 Z) args s 0 0 (AD G I)) (F0 m 52 ls [])) {v1 : Int32} {v2 : Int32} {v3 : Int32} {v4 : Int32} {v5 : Int32} {v6 : Int32} {v7 : Int32} {t0 : Int32} {z : Sg} {H : Heap} {locs : List Loc} {ls : Array Slot} (h : pM_stands_80 fu rc52 v1 v2 v3 v4 v5 v6 v7 t0 z = some (R1, Z)) (hG : GW G I z s.heap H locs) (hl : lv_has ls 10 [(0, .ref (gA G 78)), (1, .int v1), (2, .int v2), (3, .int v3), (4, .int v4), (5, .int v5), (6, .int v6), (7, .int v7)]) : W p l e rmM_stands s m args below meth c H locs 0 0 (MQ below (Qi G I R1 Z) args s 0 0 (AD G I)) (F0 m 80 ls [.int t0]) := by
  unfold pM_stands_80 at h
  refine rIstoreA C dM_stands_80 hl (by decide) [(0, .ref (gA G 78)), (1, .int v1), (2, .int v2), (3, .int v3), (4, .int v4), (5, .int v5), (6, .int v6), (7, .int v7)] rfl (fun ls hl => ?_)
  refine rIload C dM_stands_82 hl 0 rfl ?_
  refine rIfeq C (tgt := 146) h dM_stands_84 (by decide) (fun h => ?_) (fun h => ?_)
  · exact wM_stands_146 C hI hr52 h hG (lv_sub hl [1, 2, 3, 4, 5, 6, 7, 8] rfl)
  · refine rAload_n C dM_stands_87 hl 1 rfl ?_
    refine rGet C hG (hI 78 (by decide) (by decide)) e_78 fiM_3 (v := .ref (gA G 81)) rfl k_809 dM_stands_88 ?_
    refine lv_iconst (v := 3) C.1 C.2.1 dM_stands_91 (by decide) ?_
    refine rIload_n C dM_stands_92 hl 2 rfl ?_
    refine lv_imul C.1 C.2.1 dM_stands_93 ?_
    refine rIload C dM_stands_94 hl 8 rfl ?_
    refine rIast C hG (hI 81 (by decide) (by decide)) e_81 h dM_stands_96 (fun H locs z10 h hG => ?_)
    refine rAload_n C dM_stands_97 hl 1 rfl ?_
    refine rIload_n C dM_stands_98 hl 3 rfl ?_
    refine rCVi [.int v2] [] C hG h (fun h => cM_cutNow hI h) mvM_cutNow k_1061 ⟨Nat.le_of_ble_eq_true rfl, Nat.le_of_ble_eq_true rfl⟩ ⟨rfl, rfl⟩ (rRecv C hG (hI 78 (by decide) (by decide)) e_78 rfl) rfl hl.1 (Nat.le_of_ble_eq_true rfl) dM_stands_99 ⟨Nat.zero_le _, Nat.zero_le _⟩ rfl (fun H locs x12 z11 h hG => ?_)
    refine rIstoreA C dM_stands_102 hl (by decide) [(8, .int t0), (0, .ref (gA G 78)), (1, .int v1), (2, .int v2), (3, .int v3), (4, .int v4), (5, .int v5), (6, .int v6), (7, .int v7)] rfl (fun ls hl => ?_)
    refine rAload_n C dM_stands_104 hl 2 rfl ?_
    refine rGet C hG (hI 78 (by decide) (by decide)) e_78 fiM_3 (v := .ref (gA G 81)) rfl k_809 dM_stands_105 ?_
    refine lv_iconst (v := 3) C.1 C.2.1 dM_stands_108 (by decide) ?_
    refine rIload_n C dM_stands_109 hl 3 rfl ?_
    refine lv_imul C.1 C.2.1 dM_stands_110 ?_
    refine rIload C dM_stands_111 hl 6 rfl ?_
    refine rIast C hG (hI 81 (by decide) (by decide)) e_81 h dM_stands_113 (fun H locs z13 h hG => ?_)
    refine rIload C dM_stands_114 hl 0 rfl ?_
    refine rIload C dM_stands_116 hl 8 rfl ?_
    refine rIcmple C (tgt := 126) h dM_stands_118 (by decide) (fun h => ?_) (fun h => ?_)
    · refine rIload C dM_stands_126 hl 7 rfl ?_
      exact wM_stands_128 C hI hr52 h hG (lv_sub hl [2, 3, 4, 5, 6, 8, 9, 0] rfl)
    · refine rIload C dM_stands_121 hl 9 rfl ?_
      refine lv_goto (tgt := 128) C.1 C.2.1 dM_stands_123 (by decide) ?_
      exact wM_stands_128 C hI hr52 h hG (lv_sub hl [2, 3, 4, 5, 6, 8, 9, 0] rfl)
theorem wM_stands_75 {p : Program} {l : Launch} {e : Env} {s : State} {m : MethodId} {args : Array Value} {below : List Frame} {meth : Method} {c : Code} {G : GT} {I : List Nat} (C : CX p s m args meth c NM bM_stands 10 (some .int) G I) (hI : mI I) {fu : Nat} {R1 : Int32} {Z : Sg} {rc52 : Int32 → Int32 → Int32 → Int32 → Int32 → Int32 → Int32 → Sg → Option (Int32 × Sg)} (hr52 : ∀ {v1 : Int32} {v2 : Int32} {v3 : Int32} {v4 : Int32} {v5 : Int32} {v6 : Int32} {v7 : Int32} {z : Sg} {H : Heap} {locs : List Loc} {ls : Array Slot}, rc52 v1 v2 v3 v4 v5 v6 v7 z = some (R1, Z) → GW G I z s.heap H locs → lv_has ls 10 [(0, .ref (gA G 78)), (1, .int v1), (2, .int v2), (3, .int v3), (4, .int v4), (5, .int v5), (6, .int v6), (7, .int v7)] → W p l e rmM_stands s m args below meth c H locs 0 0 (MQ below (Qi G I R1 Z) args s 0 0 (AD G I)) (F0 m 52 ls [])) {v1 : Int32} {v2 : Int32} {v3 : Int32} {v4 : Int32} {v5 : Int32} {v6 : Int32} {v7 : Int32} {z : Sg} {H : Heap} {locs : List Loc} {ls : Array Slot} (h : pM_stands_75 fu rc52 v1 v2 v3 v4 v5 v6 v7 z = some (R1, Z)) (hG : GW G I z s.heap H locs) (hl : lv_has ls 10 [(0, .ref (gA G 78)), (1, .int v1), (2, .int v2), (3, .int v3), (4, .int v4), (5, .int v5), (6, .int v6), (7, .int v7)]) : W p l e rmM_stands s m args below meth c H locs 0 0 (MQ below (Qi G I R1 Z) args s 0 0 (AD G I)) (F0 m 75 ls []) := by
  unfold pM_stands_75 at h
  refine lv_iconst (v := 1) C.1 C.2.1 dM_stands_75 (by decide) ?_
  refine lv_goto (tgt := 80) C.1 C.2.1 dM_stands_76 (by decide) ?_
  exact wM_stands_80 C hI hr52 h hG (lv_sub hl [0, 1, 2, 3, 4, 5, 6, 7] rfl)
theorem wM_stands_52 {p : Program} {l : Launch} {e : Env} {s : State} {m : MethodId} {args : Array Value} {below : List Frame} {meth : Method} {c : Code} {G : GT} {I : List Nat} (C : CX p s m args meth c NM bM_stands 10 (some .int) G I) (hI : mI I) {fu : Nat} {R1 : Int32} {Z : Sg} : ∀ (k : Nat) {v1 : Int32} {v2 : Int32} {v3 : Int32} {v4 : Int32} {v5 : Int32} {v6 : Int32} {v7 : Int32} {z : Sg} {H : Heap} {locs : List Loc} {ls : Array Slot}, pM_stands_52 fu k v1 v2 v3 v4 v5 v6 v7 z = some (R1, Z) → GW G I z s.heap H locs → lv_has ls 10 [(0, .ref (gA G 78)), (1, .int v1), (2, .int v2), (3, .int v3), (4, .int v4), (5, .int v5), (6, .int v6), (7, .int v7)] → W p l e rmM_stands s m args below meth c H locs 0 0 (MQ below (Qi G I R1 Z) args s 0 0 (AD G I)) (F0 m 52 ls []) := by
  intro k
  induction k with
  | zero => intro v1 v2 v3 v4 v5 v6 v7 z H locs ls h hG hl; rw [pM_stands_52] at h; cases h
  | succ k ih =>
    intro v1 v2 v3 v4 v5 v6 v7 z H locs ls h hG hl
    rw [pM_stands_52] at h
    refine rIload C dM_stands_52 hl 7 rfl ?_
    refine lv_bipush (v := 10) C.1 C.2.1 dM_stands_54 (by decide) ?_
    refine rIcmpge C (tgt := 152) h dM_stands_56 (by decide) (fun h => ?_) (fun h => ?_)
    · refine rIload_n C dM_stands_152 hl 3 rfl ?_
      refine rIfne C (tgt := 161) h dM_stands_153 (by decide) (fun h => ?_) (fun h => ?_)
      · refine rIload C dM_stands_161 hl 6 rfl ?_
        exact rReti C hG h dM_stands_163
      · refine rIload C dM_stands_156 hl 5 rfl ?_
        refine lv_goto (tgt := 163) C.1 C.2.1 dM_stands_158 (by decide) ?_
        exact rReti C hG h dM_stands_163
    · refine rIload C dM_stands_59 hl 7 rfl ?_
      refine rIload C dM_stands_61 hl 4 rfl ?_
      refine rIcmpeq C (tgt := 75) h dM_stands_63 (by decide) (fun h => ?_) (fun h => ?_)
      · exact wM_stands_75 C hI ih h hG (lv_sub hl [0, 1, 2, 3, 4, 5, 6, 7] rfl)
      · refine rAload_n C dM_stands_66 hl 0 rfl ?_
        refine rIload C dM_stands_67 hl 7 rfl ?_
        refine rCVi [.int v7] [] C hG h (fun h => cM_isFree hI h) mvM_isFree k_982 ⟨Nat.le_of_ble_eq_true rfl, Nat.le_of_ble_eq_true rfl⟩ ⟨rfl, rfl⟩ (rRecv C hG (hI 78 (by decide) (by decide)) e_78 rfl) rfl hl.1 (Nat.le_of_ble_eq_true rfl) dM_stands_69 ⟨Nat.zero_le _, Nat.zero_le _⟩ rfl (fun H locs x9 z8 h hG => ?_)
        refine rIfeq C (tgt := 79) h dM_stands_72 (by decide) (fun h => ?_) (fun h => ?_)
        · refine lv_iconst (v := 0) C.1 C.2.1 dM_stands_79 (by decide) ?_
          exact wM_stands_80 C hI ih h hG (lv_sub hl [0, 1, 2, 3, 4, 5, 6, 7] rfl)
        · exact wM_stands_75 C hI ih h hG (lv_sub hl [0, 1, 2, 3, 4, 5, 6, 7] rfl)
theorem cM_stands {l : Launch} {G : GT} {I : List Nat} (hI : mI I) {fu : Nat} {v1 : Int32} {v2 : Int32} {v3 : Int32} {z : Sg} {R1 : Int32} {Z : Sg} (h : pM_stands fu v1 v2 v3 z = some (R1, Z)) : Mt l yM_stands rmM_stands bM_stands 10 (some .int) G I z [.ref (gA G 78), .int v1, .int v2, .int v3] (Qi G I R1 Z) := by
  refine entM (by decide +kernel) (Nat.le_of_ble_eq_true rfl) ?_
  intro p e s m below meth c C hG ls hl
  have hl : lv_has ls 10 [(0, .ref (gA G 78)), (1, .int v1), (2, .int v2), (3, .int v3)] := hl
  unfold pM_stands at h
  refine rAload_n C dM_stands_0 hl 0 rfl ?_
  refine rIload_n C dM_stands_1 hl 1 rfl ?_
  refine rCVi [.int v1] [] C hG h (fun h => cM_isOne hI h) mvM_isOne k_948 ⟨Nat.le_of_ble_eq_true rfl, Nat.le_of_ble_eq_true rfl⟩ ⟨rfl, rfl⟩ (rRecv C hG (hI 78 (by decide) (by decide)) e_78 rfl) rfl hl.1 (Nat.le_of_ble_eq_true rfl) dM_stands_2 ⟨Nat.zero_le _, Nat.zero_le _⟩ rfl (fun H locs x2 z1 h hG => ?_)
  refine rIfne C (tgt := 11) h dM_stands_5 (by decide) (fun h => ?_) (fun h => ?_)
  · refine rIload_n C dM_stands_11 hl 2 rfl ?_
    refine lv_iconst (v := 0) C.1 C.2.1 dM_stands_12 (by decide) ?_
    refine lv_bipush (v := 40) C.1 C.2.1 dM_stands_13 (by decide) ?_
    refine rCSi [.int v2, .int 0, .int 40] [] C hG h (fun h => cM_in hI h) mvM_in k_767 ⟨Nat.le_of_ble_eq_true rfl, Nat.le_of_ble_eq_true rfl⟩ ⟨rfl, rfl⟩ rfl hl.1 (Nat.le_of_ble_eq_true rfl) dM_stands_15 ⟨Nat.zero_le _, Nat.zero_le _⟩ rfl (fun H locs x4 z3 h hG => ?_)
    refine rIfeq C (tgt := 30) h dM_stands_18 (by decide) (fun h => ?_) (fun h => ?_)
    · refine lv_bipush (v := (-7)) C.1 C.2.1 dM_stands_30 (by decide) ?_
      exact rReti C hG h dM_stands_32
    · refine rIload_n C dM_stands_21 hl 3 rfl ?_
      refine lv_iconst (v := 0) C.1 C.2.1 dM_stands_22 (by decide) ?_
      refine lv_iconst (v := 1) C.1 C.2.1 dM_stands_23 (by decide) ?_
      refine rCSi [.int v3, .int 0, .int 1] [] C hG h (fun h => cM_in hI h) mvM_in k_767 ⟨Nat.le_of_ble_eq_true rfl, Nat.le_of_ble_eq_true rfl⟩ ⟨rfl, rfl⟩ rfl hl.1 (Nat.le_of_ble_eq_true rfl) dM_stands_24 ⟨Nat.zero_le _, Nat.zero_le _⟩ rfl (fun H locs x6 z5 h hG => ?_)
      refine rIfne C (tgt := 33) h dM_stands_27 (by decide) (fun h => ?_) (fun h => ?_)
      · refine rAload_n C dM_stands_33 hl 0 rfl ?_
        refine rGet C hG (hI 78 (by decide) (by decide)) e_78 fiM_3 (v := .ref (gA G 81)) rfl k_809 dM_stands_34 ?_
        refine lv_iconst (v := 3) C.1 C.2.1 dM_stands_37 (by decide) ?_
        refine rIload_n C dM_stands_38 hl 1 rfl ?_
        refine lv_imul C.1 C.2.1 dM_stands_39 ?_
        refine rIald C hG (hI 81 (by decide) (by decide)) e_81 h dM_stands_40 (fun h => ?_)
        refine rIstore C dM_stands_41 hl h (by decide) [(0, .ref (gA G 78)), (1, .int v1), (2, .int v2), (3, .int v3)] rfl (fun x7 ls h hl => ?_)
        refine lv_iconst (v := (-1)) C.1 C.2.1 dM_stands_43 (by decide) ?_
        refine rIstoreA C dM_stands_44 hl (by decide) [(4, .int x7), (0, .ref (gA G 78)), (1, .int v1), (2, .int v2), (3, .int v3)] rfl (fun ls hl => ?_)
        refine lv_iconst (v := (-1)) C.1 C.2.1 dM_stands_46 (by decide) ?_
        refine rIstoreA C dM_stands_47 hl (by decide) [(5, .int (-1)), (4, .int x7), (0, .ref (gA G 78)), (1, .int v1), (2, .int v2), (3, .int v3)] rfl (fun ls hl => ?_)
        refine lv_iconst (v := 0) C.1 C.2.1 dM_stands_49 (by decide) ?_
        refine rIstoreA C dM_stands_50 hl (by decide) [(6, .int (-1)), (5, .int (-1)), (4, .int x7), (0, .ref (gA G 78)), (1, .int v1), (2, .int v2), (3, .int v3)] rfl (fun ls hl => ?_)
        exact wM_stands_52 C hI _ h hG (lv_sub hl [4, 5, 6, 7, 3, 2, 1, 0] rfl)
      · refine lv_bipush (v := (-7)) C.1 C.2.1 dM_stands_30 (by decide) ?_
        exact rReti C hG h dM_stands_32
  · refine lv_bipush (v := (-5)) C.1 C.2.1 dM_stands_8 (by decide) ?_
    exact rReti C hG h dM_stands_10
theorem dM_tempo_0 : decode bM_tempo 0 = .ok (.iload_n 1, 1) := by decide +kernel
theorem dM_tempo_1 : decode bM_tempo 1 = .ok (.iconst 0, 1) := by decide +kernel
theorem dM_tempo_2 : decode bM_tempo 2 = .ok (.bipush 40, 2) := by decide +kernel
theorem dM_tempo_4 : decode bM_tempo 4 = .ok (.invokestatic 81, 3) := by decide +kernel
theorem dM_tempo_7 : decode bM_tempo 7 = .ok (.ifCond .eq 12, 3) := by decide +kernel
theorem dM_tempo_10 : decode bM_tempo 10 = .ok (.iload_n 2, 1) := by decide +kernel
theorem dM_tempo_11 : decode bM_tempo 11 = .ok (.iconst 0, 1) := by decide +kernel
theorem dM_tempo_12 : decode bM_tempo 12 = .ok (.iconst 1, 1) := by decide +kernel
theorem dM_tempo_13 : decode bM_tempo 13 = .ok (.invokestatic 81, 3) := by decide +kernel
theorem dM_tempo_16 : decode bM_tempo 16 = .ok (.ifCond .ne 6, 3) := by decide +kernel
theorem dM_tempo_19 : decode bM_tempo 19 = .ok (.bipush (-2), 2) := by decide +kernel
theorem dM_tempo_21 : decode bM_tempo 21 = .ok (.ireturn, 1) := by decide +kernel
theorem dM_tempo_22 : decode bM_tempo 22 = .ok (.aload_n 0, 1) := by decide +kernel
theorem dM_tempo_23 : decode bM_tempo 23 = .ok (.getfield 19, 3) := by decide +kernel
theorem dM_tempo_26 : decode bM_tempo 26 = .ok (.iconst 2, 1) := by decide +kernel
theorem dM_tempo_27 : decode bM_tempo 27 = .ok (.iaload, 1) := by decide +kernel
theorem dM_tempo_28 : decode bM_tempo 28 = .ok (.istore_n 3, 1) := by decide +kernel
theorem dM_tempo_29 : decode bM_tempo 29 = .ok (.iconst (-1), 1) := by decide +kernel
theorem dM_tempo_30 : decode bM_tempo 30 = .ok (.istore 4, 2) := by decide +kernel
theorem dM_tempo_32 : decode bM_tempo 32 = .ok (.iconst (-1), 1) := by decide +kernel
theorem dM_tempo_33 : decode bM_tempo 33 = .ok (.istore 5, 2) := by decide +kernel
theorem dM_tempo_35 : decode bM_tempo 35 = .ok (.iconst 0, 1) := by decide +kernel
theorem dM_tempo_36 : decode bM_tempo 36 = .ok (.istore 6, 2) := by decide +kernel
theorem dM_tempo_38 : decode bM_tempo 38 = .ok (.iload 6, 2) := by decide +kernel
theorem dM_tempo_40 : decode bM_tempo 40 = .ok (.bipush 12, 2) := by decide +kernel
theorem dM_tempo_42 : decode bM_tempo 42 = .ok (.if_icmp .ge 56, 3) := by decide +kernel
theorem dM_tempo_45 : decode bM_tempo 45 = .ok (.aload_n 0, 1) := by decide +kernel
theorem dM_tempo_46 : decode bM_tempo 46 = .ok (.getfield 19, 3) := by decide +kernel
theorem dM_tempo_49 : decode bM_tempo 49 = .ok (.iconst 2, 1) := by decide +kernel
theorem dM_tempo_50 : decode bM_tempo 50 = .ok (.iload 6, 2) := by decide +kernel
theorem dM_tempo_52 : decode bM_tempo 52 = .ok (.iastore, 1) := by decide +kernel
theorem dM_tempo_53 : decode bM_tempo 53 = .ok (.aload_n 0, 1) := by decide +kernel
theorem dM_tempo_54 : decode bM_tempo 54 = .ok (.iload_n 1, 1) := by decide +kernel
theorem dM_tempo_55 : decode bM_tempo 55 = .ok (.invokevirtual 225, 3) := by decide +kernel
theorem dM_tempo_58 : decode bM_tempo 58 = .ok (.istore 7, 2) := by decide +kernel
theorem dM_tempo_60 : decode bM_tempo 60 = .ok (.iload 7, 2) := by decide +kernel
theorem dM_tempo_62 : decode bM_tempo 62 = .ok (.iload 5, 2) := by decide +kernel
theorem dM_tempo_64 : decode bM_tempo 64 = .ok (.if_icmp .le 8, 3) := by decide +kernel
theorem dM_tempo_67 : decode bM_tempo 67 = .ok (.iload 6, 2) := by decide +kernel
theorem dM_tempo_69 : decode bM_tempo 69 = .ok (.goto 5, 3) := by decide +kernel
theorem dM_tempo_72 : decode bM_tempo 72 = .ok (.iload 4, 2) := by decide +kernel
theorem dM_tempo_74 : decode bM_tempo 74 = .ok (.istore 4, 2) := by decide +kernel
theorem dM_tempo_76 : decode bM_tempo 76 = .ok (.iload 7, 2) := by decide +kernel
theorem dM_tempo_78 : decode bM_tempo 78 = .ok (.iload 5, 2) := by decide +kernel
theorem dM_tempo_80 : decode bM_tempo 80 = .ok (.if_icmp .le 8, 3) := by decide +kernel
theorem dM_tempo_83 : decode bM_tempo 83 = .ok (.iload 7, 2) := by decide +kernel
theorem dM_tempo_85 : decode bM_tempo 85 = .ok (.goto 5, 3) := by decide +kernel
theorem dM_tempo_88 : decode bM_tempo 88 = .ok (.iload 5, 2) := by decide +kernel
theorem dM_tempo_90 : decode bM_tempo 90 = .ok (.istore 5, 2) := by decide +kernel
theorem dM_tempo_92 : decode bM_tempo 92 = .ok (.iinc 6 1, 3) := by decide +kernel
theorem dM_tempo_95 : decode bM_tempo 95 = .ok (.goto (-57), 3) := by decide +kernel
theorem dM_tempo_98 : decode bM_tempo 98 = .ok (.aload_n 0, 1) := by decide +kernel
theorem dM_tempo_99 : decode bM_tempo 99 = .ok (.getfield 19, 3) := by decide +kernel
theorem dM_tempo_102 : decode bM_tempo 102 = .ok (.iconst 2, 1) := by decide +kernel
theorem dM_tempo_103 : decode bM_tempo 103 = .ok (.iload_n 3, 1) := by decide +kernel
theorem dM_tempo_104 : decode bM_tempo 104 = .ok (.iastore, 1) := by decide +kernel
theorem dM_tempo_105 : decode bM_tempo 105 = .ok (.iload_n 2, 1) := by decide +kernel
theorem dM_tempo_106 : decode bM_tempo 106 = .ok (.ifCond .ne 8, 3) := by decide +kernel
theorem dM_tempo_109 : decode bM_tempo 109 = .ok (.iload 4, 2) := by decide +kernel
theorem dM_tempo_111 : decode bM_tempo 111 = .ok (.goto 5, 3) := by decide +kernel
theorem dM_tempo_114 : decode bM_tempo 114 = .ok (.iload 5, 2) := by decide +kernel
theorem dM_tempo_116 : decode bM_tempo 116 = .ok (.ireturn, 1) := by decide +kernel
theorem wM_tempo_90 {p : Program} {l : Launch} {e : Env} {s : State} {m : MethodId} {args : Array Value} {below : List Frame} {meth : Method} {c : Code} {G : GT} {I : List Nat} (C : CX p s m args meth c NM bM_tempo 8 (some .int) G I) (hI : mI I) {fu : Nat} {R1 : Int32} {Z : Sg} {rc38 : Int32 → Int32 → Int32 → Int32 → Int32 → Int32 → Sg → Option (Int32 × Sg)} (hr38 : ∀ {v1 : Int32} {v2 : Int32} {v3 : Int32} {v4 : Int32} {v5 : Int32} {v6 : Int32} {z : Sg} {H : Heap} {locs : List Loc} {ls : Array Slot}, rc38 v1 v2 v3 v4 v5 v6 z = some (R1, Z) → GW G I z s.heap H locs → lv_has ls 8 [(0, .ref (gA G 78)), (1, .int v1), (2, .int v2), (3, .int v3), (4, .int v4), (5, .int v5), (6, .int v6)] → W p l e rmM_tempo s m args below meth c H locs 0 0 (MQ below (Qi G I R1 Z) args s 0 0 (AD G I)) (F0 m 38 ls [])) {v1 : Int32} {v2 : Int32} {v3 : Int32} {v4 : Int32} {v6 : Int32} {t0 : Int32} {z : Sg} {H : Heap} {locs : List Loc} {ls : Array Slot} (h : pM_tempo_90 fu rc38 v1 v2 v3 v4 v6 t0 z = some (R1, Z)) (hG : GW G I z s.heap H locs) (hl : lv_has ls 8 [(0, .ref (gA G 78)), (1, .int v1), (2, .int v2), (3, .int v3), (4, .int v4), (6, .int v6)]) : W p l e rmM_tempo s m args below meth c H locs 0 0 (MQ below (Qi G I R1 Z) args s 0 0 (AD G I)) (F0 m 90 ls [.int t0]) := by
  unfold pM_tempo_90 at h
  refine rIstoreA C dM_tempo_90 hl (by decide) [(0, .ref (gA G 78)), (1, .int v1), (2, .int v2), (3, .int v3), (4, .int v4), (6, .int v6)] rfl (fun ls hl => ?_)
  refine rIinc C dM_tempo_92 hl 6 rfl (d := 1) (by decide) h (by decide) [(5, .int t0), (0, .ref (gA G 78)), (1, .int v1), (2, .int v2), (3, .int v3), (4, .int v4)] rfl (fun x10 ls h hl => ?_)
  refine lv_goto (tgt := 38) C.1 C.2.1 dM_tempo_95 (by decide) ?_
  exact hr38 h hG (lv_sub hl [2, 3, 4, 5, 6, 1, 0] rfl)
theorem wM_tempo_74 {p : Program} {l : Launch} {e : Env} {s : State} {m : MethodId} {args : Array Value} {below : List Frame} {meth : Method} {c : Code} {G : GT} {I : List Nat} (C : CX p s m args meth c NM bM_tempo 8 (some .int) G I) (hI : mI I) {fu : Nat} {R1 : Int32} {Z : Sg} {rc38 : Int32 → Int32 → Int32 → Int32 → Int32 → Int32 → Sg → Option (Int32 × Sg)} (hr38 : ∀ {v1 : Int32} {v2 : Int32} {v3 : Int32} {v4 : Int32} {v5 : Int32} {v6 : Int32} {z : Sg} {H : Heap} {locs : List Loc} {ls : Array Slot}, rc38 v1 v2 v3 v4 v5 v6 z = some (R1, Z) → GW G I z s.heap H locs → lv_has ls 8 [(0, .ref (gA G 78)), (1, .int v1), (2, .int v2), (3, .int v3), (4, .int v4), (5, .int v5), (6, .int v6)] → W p l e rmM_tempo s m args below meth c H locs 0 0 (MQ below (Qi G I R1 Z) args s 0 0 (AD G I)) (F0 m 38 ls [])) {v1 : Int32} {v2 : Int32} {v3 : Int32} {v5 : Int32} {v6 : Int32} {v7 : Int32} {t0 : Int32} {z : Sg} {H : Heap} {locs : List Loc} {ls : Array Slot} (h : pM_tempo_74 fu rc38 v1 v2 v3 v5 v6 v7 t0 z = some (R1, Z)) (hG : GW G I z s.heap H locs) (hl : lv_has ls 8 [(0, .ref (gA G 78)), (1, .int v1), (2, .int v2), (3, .int v3), (5, .int v5), (6, .int v6), (7, .int v7)]) : W p l e rmM_tempo s m args below meth c H locs 0 0 (MQ below (Qi G I R1 Z) args s 0 0 (AD G I)) (F0 m 74 ls [.int t0]) := by
  unfold pM_tempo_74 at h
  refine rIstoreA C dM_tempo_74 hl (by decide) [(0, .ref (gA G 78)), (1, .int v1), (2, .int v2), (3, .int v3), (5, .int v5), (6, .int v6), (7, .int v7)] rfl (fun ls hl => ?_)
  refine rIload C dM_tempo_76 hl 7 rfl ?_
  refine rIload C dM_tempo_78 hl 5 rfl ?_
  refine rIcmple C (tgt := 88) h dM_tempo_80 (by decide) (fun h => ?_) (fun h => ?_)
  · refine rIload C dM_tempo_88 hl 5 rfl ?_
    exact wM_tempo_90 C hI hr38 h hG (lv_sub hl [1, 2, 3, 4, 0, 6] rfl)
  · refine rIload C dM_tempo_83 hl 7 rfl ?_
    refine lv_goto (tgt := 90) C.1 C.2.1 dM_tempo_85 (by decide) ?_
    exact wM_tempo_90 C hI hr38 h hG (lv_sub hl [1, 2, 3, 4, 0, 6] rfl)
theorem wM_tempo_38 {p : Program} {l : Launch} {e : Env} {s : State} {m : MethodId} {args : Array Value} {below : List Frame} {meth : Method} {c : Code} {G : GT} {I : List Nat} (C : CX p s m args meth c NM bM_tempo 8 (some .int) G I) (hI : mI I) {fu : Nat} {R1 : Int32} {Z : Sg} : ∀ (k : Nat) {v1 : Int32} {v2 : Int32} {v3 : Int32} {v4 : Int32} {v5 : Int32} {v6 : Int32} {z : Sg} {H : Heap} {locs : List Loc} {ls : Array Slot}, pM_tempo_38 fu k v1 v2 v3 v4 v5 v6 z = some (R1, Z) → GW G I z s.heap H locs → lv_has ls 8 [(0, .ref (gA G 78)), (1, .int v1), (2, .int v2), (3, .int v3), (4, .int v4), (5, .int v5), (6, .int v6)] → W p l e rmM_tempo s m args below meth c H locs 0 0 (MQ below (Qi G I R1 Z) args s 0 0 (AD G I)) (F0 m 38 ls []) := by
  intro k
  induction k with
  | zero => intro v1 v2 v3 v4 v5 v6 z H locs ls h hG hl; rw [pM_tempo_38] at h; cases h
  | succ k ih =>
    intro v1 v2 v3 v4 v5 v6 z H locs ls h hG hl
    rw [pM_tempo_38] at h
    refine rIload C dM_tempo_38 hl 6 rfl ?_
    refine lv_bipush (v := 12) C.1 C.2.1 dM_tempo_40 (by decide) ?_
    refine rIcmpge C (tgt := 98) h dM_tempo_42 (by decide) (fun h => ?_) (fun h => ?_)
    · refine rAload_n C dM_tempo_98 hl 0 rfl ?_
      refine rGet C hG (hI 78 (by decide) (by decide)) e_78 fiM_4 (v := .ref (gA G 82)) rfl k_810 dM_tempo_99 ?_
      refine lv_iconst (v := 2) C.1 C.2.1 dM_tempo_102 (by decide) ?_
      refine rIload_n C dM_tempo_103 hl 3 rfl ?_
      refine rIastK C hG (hI 82 (by decide) (by decide)) e_82 2 (by decide) (by decide) h dM_tempo_104 (fun H locs z6 h hG => ?_)
      refine rIload_n C dM_tempo_105 hl 2 rfl ?_
      refine rIfne C (tgt := 114) h dM_tempo_106 (by decide) (fun h => ?_) (fun h => ?_)
      · refine rIload C dM_tempo_114 hl 5 rfl ?_
        exact rReti C hG h dM_tempo_116
      · refine rIload C dM_tempo_109 hl 4 rfl ?_
        refine lv_goto (tgt := 116) C.1 C.2.1 dM_tempo_111 (by decide) ?_
        exact rReti C hG h dM_tempo_116
    · refine rAload_n C dM_tempo_45 hl 0 rfl ?_
      refine rGet C hG (hI 78 (by decide) (by decide)) e_78 fiM_4 (v := .ref (gA G 82)) rfl k_810 dM_tempo_46 ?_
      refine lv_iconst (v := 2) C.1 C.2.1 dM_tempo_49 (by decide) ?_
      refine rIload C dM_tempo_50 hl 6 rfl ?_
      refine rIastK C hG (hI 82 (by decide) (by decide)) e_82 2 (by decide) (by decide) h dM_tempo_52 (fun H locs z7 h hG => ?_)
      refine rAload_n C dM_tempo_53 hl 0 rfl ?_
      refine rIload_n C dM_tempo_54 hl 1 rfl ?_
      refine rCVi [.int v1] [] C hG h (fun h => cM_cutNow hI h) mvM_cutNow k_1061 ⟨Nat.le_of_ble_eq_true rfl, Nat.le_of_ble_eq_true rfl⟩ ⟨rfl, rfl⟩ (rRecv C hG (hI 78 (by decide) (by decide)) e_78 rfl) rfl hl.1 (Nat.le_of_ble_eq_true rfl) dM_tempo_55 ⟨Nat.zero_le _, Nat.zero_le _⟩ rfl (fun H locs x9 z8 h hG => ?_)
      refine rIstoreA C dM_tempo_58 hl (by decide) [(0, .ref (gA G 78)), (1, .int v1), (2, .int v2), (3, .int v3), (4, .int v4), (5, .int v5), (6, .int v6)] rfl (fun ls hl => ?_)
      refine rIload C dM_tempo_60 hl 0 rfl ?_
      refine rIload C dM_tempo_62 hl 6 rfl ?_
      refine rIcmple C (tgt := 72) h dM_tempo_64 (by decide) (fun h => ?_) (fun h => ?_)
      · refine rIload C dM_tempo_72 hl 5 rfl ?_
        exact wM_tempo_74 C hI ih h hG (lv_sub hl [1, 2, 3, 4, 6, 7, 0] rfl)
      · refine rIload C dM_tempo_67 hl 7 rfl ?_
        refine lv_goto (tgt := 74) C.1 C.2.1 dM_tempo_69 (by decide) ?_
        exact wM_tempo_74 C hI ih h hG (lv_sub hl [1, 2, 3, 4, 6, 7, 0] rfl)
theorem cM_tempo {l : Launch} {G : GT} {I : List Nat} (hI : mI I) {fu : Nat} {v1 : Int32} {v2 : Int32} {z : Sg} {R1 : Int32} {Z : Sg} (h : pM_tempo fu v1 v2 z = some (R1, Z)) : Mt l yM_tempo rmM_tempo bM_tempo 8 (some .int) G I z [.ref (gA G 78), .int v1, .int v2] (Qi G I R1 Z) := by
  refine entM (by decide +kernel) (Nat.le_of_ble_eq_true rfl) ?_
  intro p e s m below meth c C hG ls hl
  have hl : lv_has ls 8 [(0, .ref (gA G 78)), (1, .int v1), (2, .int v2)] := hl
  unfold pM_tempo at h
  refine rIload_n C dM_tempo_0 hl 1 rfl ?_
  refine lv_iconst (v := 0) C.1 C.2.1 dM_tempo_1 (by decide) ?_
  refine lv_bipush (v := 40) C.1 C.2.1 dM_tempo_2 (by decide) ?_
  refine rCSi [.int v1, .int 0, .int 40] [] C hG h (fun h => cM_in hI h) mvM_in k_767 ⟨Nat.le_of_ble_eq_true rfl, Nat.le_of_ble_eq_true rfl⟩ ⟨rfl, rfl⟩ rfl hl.1 (Nat.le_of_ble_eq_true rfl) dM_tempo_4 ⟨Nat.zero_le _, Nat.zero_le _⟩ rfl (fun H locs x2 z1 h hG => ?_)
  refine rIfeq C (tgt := 19) h dM_tempo_7 (by decide) (fun h => ?_) (fun h => ?_)
  · refine lv_bipush (v := (-2)) C.1 C.2.1 dM_tempo_19 (by decide) ?_
    exact rReti C hG h dM_tempo_21
  · refine rIload_n C dM_tempo_10 hl 2 rfl ?_
    refine lv_iconst (v := 0) C.1 C.2.1 dM_tempo_11 (by decide) ?_
    refine lv_iconst (v := 1) C.1 C.2.1 dM_tempo_12 (by decide) ?_
    refine rCSi [.int v2, .int 0, .int 1] [] C hG h (fun h => cM_in hI h) mvM_in k_767 ⟨Nat.le_of_ble_eq_true rfl, Nat.le_of_ble_eq_true rfl⟩ ⟨rfl, rfl⟩ rfl hl.1 (Nat.le_of_ble_eq_true rfl) dM_tempo_13 ⟨Nat.zero_le _, Nat.zero_le _⟩ rfl (fun H locs x4 z3 h hG => ?_)
    refine rIfne C (tgt := 22) h dM_tempo_16 (by decide) (fun h => ?_) (fun h => ?_)
    · refine rAload_n C dM_tempo_22 hl 0 rfl ?_
      refine rGet C hG (hI 78 (by decide) (by decide)) e_78 fiM_4 (v := .ref (gA G 82)) rfl k_810 dM_tempo_23 ?_
      refine lv_iconst (v := 2) C.1 C.2.1 dM_tempo_26 (by decide) ?_
      refine rIaldK C hG (hI 82 (by decide) (by decide)) e_82 2 (by decide) (by decide) dM_tempo_27 ?_
      refine rIstore_n C dM_tempo_28 hl h (by decide) [(0, .ref (gA G 78)), (1, .int v1), (2, .int v2)] rfl (fun x5 ls h hl => ?_)
      refine lv_iconst (v := (-1)) C.1 C.2.1 dM_tempo_29 (by decide) ?_
      refine rIstoreA C dM_tempo_30 hl (by decide) [(3, .int x5), (0, .ref (gA G 78)), (1, .int v1), (2, .int v2)] rfl (fun ls hl => ?_)
      refine lv_iconst (v := (-1)) C.1 C.2.1 dM_tempo_32 (by decide) ?_
      refine rIstoreA C dM_tempo_33 hl (by decide) [(4, .int (-1)), (3, .int x5), (0, .ref (gA G 78)), (1, .int v1), (2, .int v2)] rfl (fun ls hl => ?_)
      refine lv_iconst (v := 0) C.1 C.2.1 dM_tempo_35 (by decide) ?_
      refine rIstoreA C dM_tempo_36 hl (by decide) [(5, .int (-1)), (4, .int (-1)), (3, .int x5), (0, .ref (gA G 78)), (1, .int v1), (2, .int v2)] rfl (fun ls hl => ?_)
      exact wM_tempo_38 C hI _ h hG (lv_sub hl [4, 5, 6, 3, 2, 1, 0] rfl)
    · refine lv_bipush (v := (-2)) C.1 C.2.1 dM_tempo_19 (by decide) ?_
      exact rReti C hG h dM_tempo_21
theorem dM_tellsTaken_0 : decode bM_tellsTaken 0 = .ok (.iconst 0, 1) := by decide +kernel
theorem dM_tellsTaken_1 : decode bM_tellsTaken 1 = .ok (.istore_n 1, 1) := by decide +kernel
theorem dM_tellsTaken_2 : decode bM_tellsTaken 2 = .ok (.iconst 0, 1) := by decide +kernel
theorem dM_tellsTaken_3 : decode bM_tellsTaken 3 = .ok (.istore_n 2, 1) := by decide +kernel
theorem dM_tellsTaken_4 : decode bM_tellsTaken 4 = .ok (.iload_n 2, 1) := by decide +kernel
theorem dM_tellsTaken_5 : decode bM_tellsTaken 5 = .ok (.bipush 10, 2) := by decide +kernel
theorem dM_tellsTaken_7 : decode bM_tellsTaken 7 = .ok (.if_icmp .ge 28, 3) := by decide +kernel
theorem dM_tellsTaken_10 : decode bM_tellsTaken 10 = .ok (.aload_n 0, 1) := by decide +kernel
theorem dM_tellsTaken_11 : decode bM_tellsTaken 11 = .ok (.iload_n 2, 1) := by decide +kernel
theorem dM_tellsTaken_12 : decode bM_tellsTaken 12 = .ok (.invokevirtual 85, 3) := by decide +kernel
theorem dM_tellsTaken_15 : decode bM_tellsTaken 15 = .ok (.iconst (-1), 1) := by decide +kernel
theorem dM_tellsTaken_16 : decode bM_tellsTaken 16 = .ok (.if_icmp .eq 13, 3) := by decide +kernel
theorem dM_tellsTaken_19 : decode bM_tellsTaken 19 = .ok (.aload_n 0, 1) := by decide +kernel
theorem dM_tellsTaken_20 : decode bM_tellsTaken 20 = .ok (.getfield 67, 3) := by decide +kernel
theorem dM_tellsTaken_23 : decode bM_tellsTaken 23 = .ok (.iload_n 1, 1) := by decide +kernel
theorem dM_tellsTaken_24 : decode bM_tellsTaken 24 = .ok (.iload_n 2, 1) := by decide +kernel
theorem dM_tellsTaken_25 : decode bM_tellsTaken 25 = .ok (.iastore, 1) := by decide +kernel
theorem dM_tellsTaken_26 : decode bM_tellsTaken 26 = .ok (.iinc 1 1, 3) := by decide +kernel
theorem dM_tellsTaken_29 : decode bM_tellsTaken 29 = .ok (.iinc 2 1, 3) := by decide +kernel
theorem dM_tellsTaken_32 : decode bM_tellsTaken 32 = .ok (.goto (-28), 3) := by decide +kernel
theorem dM_tellsTaken_35 : decode bM_tellsTaken 35 = .ok (.return_, 1) := by decide +kernel
theorem wM_tellsTaken_29 {p : Program} {l : Launch} {e : Env} {s : State} {m : MethodId} {args : Array Value} {below : List Frame} {meth : Method} {c : Code} {G : GT} {I : List Nat} (C : CX p s m args meth c NM bM_tellsTaken 3 none G I) (hI : mI I) {fu : Nat} {Z : Sg} {rc4 : Int32 → Int32 → Sg → Option Sg} (hr4 : ∀ {v1 : Int32} {v2 : Int32} {z : Sg} {H : Heap} {locs : List Loc} {ls : Array Slot}, rc4 v1 v2 z = some Z → GW G I z s.heap H locs → lv_has ls 3 [(0, .ref (gA G 78)), (1, .int v1), (2, .int v2)] → W p l e rmM_tellsTaken s m args below meth c H locs 0 0 (MQ below (Qv G I Z) args s 0 0 (AD G I)) (F0 m 4 ls [])) {v1 : Int32} {v2 : Int32} {z : Sg} {H : Heap} {locs : List Loc} {ls : Array Slot} (h : pM_tellsTaken_29 fu rc4 v1 v2 z = some Z) (hG : GW G I z s.heap H locs) (hl : lv_has ls 3 [(0, .ref (gA G 78)), (1, .int v1), (2, .int v2)]) : W p l e rmM_tellsTaken s m args below meth c H locs 0 0 (MQ below (Qv G I Z) args s 0 0 (AD G I)) (F0 m 29 ls []) := by
  unfold pM_tellsTaken_29 at h
  refine rIinc C dM_tellsTaken_29 hl 2 rfl (d := 1) (by decide) h (by decide) [(0, .ref (gA G 78)), (1, .int v1)] rfl (fun x5 ls h hl => ?_)
  refine lv_goto (tgt := 4) C.1 C.2.1 dM_tellsTaken_32 (by decide) ?_
  exact hr4 h hG (lv_sub hl [1, 2, 0] rfl)
theorem wM_tellsTaken_4 {p : Program} {l : Launch} {e : Env} {s : State} {m : MethodId} {args : Array Value} {below : List Frame} {meth : Method} {c : Code} {G : GT} {I : List Nat} (C : CX p s m args meth c NM bM_tellsTaken 3 none G I) (hI : mI I) {fu : Nat} {Z : Sg} : ∀ (k : Nat) {v1 : Int32} {v2 : Int32} {z : Sg} {H : Heap} {locs : List Loc} {ls : Array Slot}, pM_tellsTaken_4 fu k v1 v2 z = some Z → GW G I z s.heap H locs → lv_has ls 3 [(0, .ref (gA G 78)), (1, .int v1), (2, .int v2)] → W p l e rmM_tellsTaken s m args below meth c H locs 0 0 (MQ below (Qv G I Z) args s 0 0 (AD G I)) (F0 m 4 ls []) := by
  intro k
  induction k with
  | zero => intro v1 v2 z H locs ls h hG hl; rw [pM_tellsTaken_4] at h; cases h
  | succ k ih =>
    intro v1 v2 z H locs ls h hG hl
    rw [pM_tellsTaken_4] at h
    refine rIload_n C dM_tellsTaken_4 hl 2 rfl ?_
    refine lv_bipush (v := 10) C.1 C.2.1 dM_tellsTaken_5 (by decide) ?_
    refine rIcmpge C (tgt := 35) h dM_tellsTaken_7 (by decide) (fun h => ?_) (fun h => ?_)
    · exact rRetv C hG h dM_tellsTaken_35
    · refine rAload_n C dM_tellsTaken_10 hl 0 rfl ?_
      refine rIload_n C dM_tellsTaken_11 hl 2 rfl ?_
      refine rCVi [.int v2] [] C hG h (fun h => cM_whoAt hI h) mvM_whoAt k_924 ⟨Nat.le_of_ble_eq_true rfl, Nat.le_of_ble_eq_true rfl⟩ ⟨rfl, rfl⟩ (rRecv C hG (hI 78 (by decide) (by decide)) e_78 rfl) rfl hl.1 (Nat.le_of_ble_eq_true rfl) dM_tellsTaken_12 ⟨Nat.zero_le _, Nat.zero_le _⟩ rfl (fun H locs x2 z1 h hG => ?_)
      refine lv_iconst (v := (-1)) C.1 C.2.1 dM_tellsTaken_15 (by decide) ?_
      refine rIcmpeq C (tgt := 29) h dM_tellsTaken_16 (by decide) (fun h => ?_) (fun h => ?_)
      · exact wM_tellsTaken_29 C hI ih h hG (lv_sub hl [0, 1, 2] rfl)
      · refine rAload_n C dM_tellsTaken_19 hl 0 rfl ?_
        refine rGet C hG (hI 78 (by decide) (by decide)) e_78 fiM_31 (v := .ref (gA G 98)) rfl k_837 dM_tellsTaken_20 ?_
        refine rIload_n C dM_tellsTaken_23 hl 1 rfl ?_
        refine rIload_n C dM_tellsTaken_24 hl 2 rfl ?_
        refine rIast C hG (hI 98 (by decide) (by decide)) e_98 h dM_tellsTaken_25 (fun H locs z3 h hG => ?_)
        refine rIinc C dM_tellsTaken_26 hl 1 rfl (d := 1) (by decide) h (by decide) [(0, .ref (gA G 78)), (2, .int v2)] rfl (fun x4 ls h hl => ?_)
        exact wM_tellsTaken_29 C hI ih h hG (lv_sub hl [1, 0, 2] rfl)
theorem cM_tellsTaken {l : Launch} {G : GT} {I : List Nat} (hI : mI I) {fu : Nat} {z : Sg} {Z : Sg} (h : pM_tellsTaken fu z = some Z) : Mt l yM_tellsTaken rmM_tellsTaken bM_tellsTaken 3 none G I z [.ref (gA G 78)] (Qv G I Z) := by
  refine entM (by decide +kernel) (Nat.le_of_ble_eq_true rfl) ?_
  intro p e s m below meth c C hG ls hl
  have hl : lv_has ls 3 [(0, .ref (gA G 78))] := hl
  unfold pM_tellsTaken at h
  refine lv_iconst (v := 0) C.1 C.2.1 dM_tellsTaken_0 (by decide) ?_
  refine rIstoreA_n C dM_tellsTaken_1 hl (by decide) [(0, .ref (gA G 78))] rfl (fun ls hl => ?_)
  refine lv_iconst (v := 0) C.1 C.2.1 dM_tellsTaken_2 (by decide) ?_
  refine rIstoreA_n C dM_tellsTaken_3 hl (by decide) [(1, .int 0), (0, .ref (gA G 78))] rfl (fun ls hl => ?_)
  exact wM_tellsTaken_4 C hI _ h hG (lv_sub hl [2, 1, 0] rfl)
theorem dM_orders_0 : decode bM_orders 0 = .ok (.iload_n 1, 1) := by decide +kernel
theorem dM_orders_1 : decode bM_orders 1 = .ok (.istore_n 2, 1) := by decide +kernel
theorem dM_orders_2 : decode bM_orders 2 = .ok (.iconst 0, 1) := by decide +kernel
theorem dM_orders_3 : decode bM_orders 3 = .ok (.istore_n 3, 1) := by decide +kernel
theorem dM_orders_4 : decode bM_orders 4 = .ok (.iconst 1, 1) := by decide +kernel
theorem dM_orders_5 : decode bM_orders 5 = .ok (.istore 4, 2) := by decide +kernel
theorem dM_orders_7 : decode bM_orders 7 = .ok (.aload_n 0, 1) := by decide +kernel
theorem dM_orders_8 : decode bM_orders 8 = .ok (.iconst 0, 1) := by decide +kernel
theorem dM_orders_9 : decode bM_orders 9 = .ok (.putfield 228, 3) := by decide +kernel
theorem dM_orders_12 : decode bM_orders 12 = .ok (.aload_n 0, 1) := by decide +kernel
theorem dM_orders_13 : decode bM_orders 13 = .ok (.getfield 78, 3) := by decide +kernel
theorem dM_orders_16 : decode bM_orders 16 = .ok (.iconst 1, 1) := by decide +kernel
theorem dM_orders_17 : decode bM_orders 17 = .ok (.isub, 1) := by decide +kernel
theorem dM_orders_18 : decode bM_orders 18 = .ok (.istore 5, 2) := by decide +kernel
theorem dM_orders_20 : decode bM_orders 20 = .ok (.iload 5, 2) := by decide +kernel
theorem dM_orders_22 : decode bM_orders 22 = .ok (.ifCond .lt 75, 3) := by decide +kernel
theorem dM_orders_25 : decode bM_orders 25 = .ok (.iload_n 2, 1) := by decide +kernel
theorem dM_orders_26 : decode bM_orders 26 = .ok (.aload_n 0, 1) := by decide +kernel
theorem dM_orders_27 : decode bM_orders 27 = .ok (.getfield 78, 3) := by decide +kernel
theorem dM_orders_30 : decode bM_orders 30 = .ok (.irem, 1) := by decide +kernel
theorem dM_orders_31 : decode bM_orders 31 = .ok (.iconst 0, 1) := by decide +kernel
theorem dM_orders_32 : decode bM_orders 32 = .ok (.iconst 5, 1) := by decide +kernel
theorem dM_orders_33 : decode bM_orders 33 = .ok (.invokestatic 183, 3) := by decide +kernel
theorem dM_orders_36 : decode bM_orders 36 = .ok (.istore 6, 2) := by decide +kernel
theorem dM_orders_38 : decode bM_orders 38 = .ok (.iload_n 2, 1) := by decide +kernel
theorem dM_orders_39 : decode bM_orders 39 = .ok (.aload_n 0, 1) := by decide +kernel
theorem dM_orders_40 : decode bM_orders 40 = .ok (.getfield 78, 3) := by decide +kernel
theorem dM_orders_43 : decode bM_orders 43 = .ok (.idiv, 1) := by decide +kernel
theorem dM_orders_44 : decode bM_orders 44 = .ok (.istore_n 2, 1) := by decide +kernel
theorem dM_orders_45 : decode bM_orders 45 = .ok (.iload_n 3, 1) := by decide +kernel
theorem dM_orders_46 : decode bM_orders 46 = .ok (.iconst 1, 1) := by decide +kernel
theorem dM_orders_47 : decode bM_orders 47 = .ok (.iload 6, 2) := by decide +kernel
theorem dM_orders_49 : decode bM_orders 49 = .ok (.ishl, 1) := by decide +kernel
theorem dM_orders_50 : decode bM_orders 50 = .ok (.ior, 1) := by decide +kernel
theorem dM_orders_51 : decode bM_orders 51 = .ok (.istore_n 3, 1) := by decide +kernel
theorem dM_orders_52 : decode bM_orders 52 = .ok (.aload_n 0, 1) := by decide +kernel
theorem dM_orders_53 : decode bM_orders 53 = .ok (.getfield 16, 3) := by decide +kernel
theorem dM_orders_56 : decode bM_orders 56 = .ok (.iconst 3, 1) := by decide +kernel
theorem dM_orders_57 : decode bM_orders 57 = .ok (.iload 6, 2) := by decide +kernel
theorem dM_orders_59 : decode bM_orders 59 = .ok (.imul, 1) := by decide +kernel
theorem dM_orders_60 : decode bM_orders 60 = .ok (.aload_n 0, 1) := by decide +kernel
theorem dM_orders_61 : decode bM_orders 61 = .ok (.getfield 67, 3) := by decide +kernel
theorem dM_orders_64 : decode bM_orders 64 = .ok (.iload 5, 2) := by decide +kernel
theorem dM_orders_66 : decode bM_orders 66 = .ok (.iaload, 1) := by decide +kernel
theorem dM_orders_67 : decode bM_orders 67 = .ok (.iastore, 1) := by decide +kernel
theorem dM_orders_68 : decode bM_orders 68 = .ok (.aload_n 0, 1) := by decide +kernel
theorem dM_orders_69 : decode bM_orders 69 = .ok (.dup, 1) := by decide +kernel
theorem dM_orders_70 : decode bM_orders 70 = .ok (.getfield 228, 3) := by decide +kernel
theorem dM_orders_73 : decode bM_orders 73 = .ok (.iload 4, 2) := by decide +kernel
theorem dM_orders_75 : decode bM_orders 75 = .ok (.iload 6, 2) := by decide +kernel
theorem dM_orders_77 : decode bM_orders 77 = .ok (.iconst 1, 1) := by decide +kernel
theorem dM_orders_78 : decode bM_orders 78 = .ok (.iadd, 1) := by decide +kernel
theorem dM_orders_79 : decode bM_orders 79 = .ok (.imul, 1) := by decide +kernel
theorem dM_orders_80 : decode bM_orders 80 = .ok (.iadd, 1) := by decide +kernel
theorem dM_orders_81 : decode bM_orders 81 = .ok (.putfield 228, 3) := by decide +kernel
theorem dM_orders_84 : decode bM_orders 84 = .ok (.iload 4, 2) := by decide +kernel
theorem dM_orders_86 : decode bM_orders 86 = .ok (.bipush 10, 2) := by decide +kernel
theorem dM_orders_88 : decode bM_orders 88 = .ok (.imul, 1) := by decide +kernel
theorem dM_orders_89 : decode bM_orders 89 = .ok (.istore 4, 2) := by decide +kernel
theorem dM_orders_91 : decode bM_orders 91 = .ok (.iinc 5 (-1), 3) := by decide +kernel
theorem dM_orders_94 : decode bM_orders 94 = .ok (.goto (-74), 3) := by decide +kernel
theorem dM_orders_97 : decode bM_orders 97 = .ok (.iload_n 3, 1) := by decide +kernel
theorem dM_orders_98 : decode bM_orders 98 = .ok (.invokestatic 110, 3) := by decide +kernel
theorem dM_orders_101 : decode bM_orders 101 = .ok (.aload_n 0, 1) := by decide +kernel
theorem dM_orders_102 : decode bM_orders 102 = .ok (.getfield 78, 3) := by decide +kernel
theorem dM_orders_105 : decode bM_orders 105 = .ok (.if_icmp .ne 7, 3) := by decide +kernel
theorem dM_orders_108 : decode bM_orders 108 = .ok (.iconst 1, 1) := by decide +kernel
theorem dM_orders_109 : decode bM_orders 109 = .ok (.goto 4, 3) := by decide +kernel
theorem dM_orders_112 : decode bM_orders 112 = .ok (.iconst 0, 1) := by decide +kernel
theorem dM_orders_113 : decode bM_orders 113 = .ok (.ireturn, 1) := by decide +kernel
theorem wM_orders_20 {p : Program} {l : Launch} {e : Env} {s : State} {m : MethodId} {args : Array Value} {below : List Frame} {meth : Method} {c : Code} {G : GT} {I : List Nat} (C : CX p s m args meth c NM bM_orders 7 (some .boolean) G I) (hI : mI I) {fu : Nat} {R1 : Int32} {Z : Sg} : ∀ (k : Nat) {v2 : Int32} {v3 : Int32} {v4 : Int32} {v5 : Int32} {z : Sg} {H : Heap} {locs : List Loc} {ls : Array Slot}, pM_orders_20 fu k v2 v3 v4 v5 z = some (R1, Z) → GW G I z s.heap H locs → lv_has ls 7 [(0, .ref (gA G 78)), (2, .int v2), (3, .int v3), (4, .int v4), (5, .int v5)] → W p l e rmM_orders s m args below meth c H locs 0 0 (MQ below (Qi G I R1 Z) args s 0 0 (AD G I)) (F0 m 20 ls []) := by
  intro k
  induction k with
  | zero => intro v2 v3 v4 v5 z H locs ls h hG hl; rw [pM_orders_20] at h; cases h
  | succ k ih =>
    intro v2 v3 v4 v5 z H locs ls h hG hl
    rw [pM_orders_20] at h
    refine rIload C dM_orders_20 hl 4 rfl ?_
    refine rIflt C (tgt := 97) h dM_orders_22 (by decide) (fun h => ?_) (fun h => ?_)
    · refine rIload_n C dM_orders_97 hl 2 rfl ?_
      refine rCSi [.int v3] [] C hG h (fun h => cM_ones hI h) mvM_ones k_917 ⟨Nat.le_of_ble_eq_true rfl, Nat.le_of_ble_eq_true rfl⟩ ⟨rfl, rfl⟩ rfl hl.1 (Nat.le_of_ble_eq_true rfl) dM_orders_98 ⟨Nat.zero_le _, Nat.zero_le _⟩ rfl (fun H locs x4 z3 h hG => ?_)
      refine rAload_n C dM_orders_101 hl 0 rfl ?_
      refine rGet C hG (hI 78 (by decide) (by decide)) e_78 fiM_0 (v := .int (z3 78 0)) rfl k_806 dM_orders_102 ?_
      refine rIcmpne C (tgt := 112) h dM_orders_105 (by decide) (fun h => ?_) (fun h => ?_)
      · refine lv_iconst (v := 0) C.1 C.2.1 dM_orders_112 (by decide) ?_
        exact rRetn C hG (ty := .boolean) rfl rfl h dM_orders_113
      · refine lv_iconst (v := 1) C.1 C.2.1 dM_orders_108 (by decide) ?_
        refine lv_goto (tgt := 113) C.1 C.2.1 dM_orders_109 (by decide) ?_
        exact rRetn C hG (ty := .boolean) rfl rfl h dM_orders_113
    · refine rIload_n C dM_orders_25 hl 1 rfl ?_
      refine rAload_n C dM_orders_26 hl 0 rfl ?_
      refine rGet C hG (hI 78 (by decide) (by decide)) e_78 fiM_0 (v := .int (z 78 0)) rfl k_806 dM_orders_27 ?_
      refine rIrem C h dM_orders_30 (fun h => ?_)
      refine lv_iconst (v := 0) C.1 C.2.1 dM_orders_31 (by decide) ?_
      refine lv_iconst (v := 5) C.1 C.2.1 dM_orders_32 (by decide) ?_
      refine rCSi [.int (v2 - v2 / (z 78 0) * (z 78 0)), .int 0, .int 5] [] C hG h (fun h => cM_within hI h) mvM_within k_975 ⟨Nat.le_of_ble_eq_true rfl, Nat.le_of_ble_eq_true rfl⟩ ⟨rfl, rfl⟩ rfl hl.1 (Nat.le_of_ble_eq_true rfl) dM_orders_33 ⟨Nat.zero_le _, Nat.zero_le _⟩ rfl (fun H locs x6 z5 h hG => ?_)
      refine rIstoreA C dM_orders_36 hl (by decide) [(0, .ref (gA G 78)), (2, .int v2), (3, .int v3), (4, .int v4), (5, .int v5)] rfl (fun ls hl => ?_)
      refine rIload_n C dM_orders_38 hl 2 rfl ?_
      refine rAload_n C dM_orders_39 hl 1 rfl ?_
      refine rGet C hG (hI 78 (by decide) (by decide)) e_78 fiM_0 (v := .int (z5 78 0)) rfl k_806 dM_orders_40 ?_
      refine rIdiv C h dM_orders_43 (fun h => ?_)
      refine rIstore_n C dM_orders_44 hl h (by decide) [(6, .int x6), (0, .ref (gA G 78)), (3, .int v3), (4, .int v4), (5, .int v5)] rfl (fun x7 ls h hl => ?_)
      refine rIload_n C dM_orders_45 hl 3 rfl ?_
      refine lv_iconst (v := 1) C.1 C.2.1 dM_orders_46 (by decide) ?_
      refine rIload C dM_orders_47 hl 1 rfl ?_
      refine lv_ishl C.1 C.2.1 dM_orders_49 ?_
      refine lv_ior C.1 C.2.1 dM_orders_50 ?_
      refine rIstore_n C dM_orders_51 hl h (by decide) [(2, .int x7), (6, .int x6), (0, .ref (gA G 78)), (4, .int v4), (5, .int v5)] rfl (fun x8 ls h hl => ?_)
      refine rAload_n C dM_orders_52 hl 3 rfl ?_
      refine rGet C hG (hI 78 (by decide) (by decide)) e_78 fiM_3 (v := .ref (gA G 81)) rfl k_809 dM_orders_53 ?_
      refine lv_iconst (v := 3) C.1 C.2.1 dM_orders_56 (by decide) ?_
      refine rIload C dM_orders_57 hl 2 rfl ?_
      refine lv_imul C.1 C.2.1 dM_orders_59 ?_
      refine rAload_n C dM_orders_60 hl 3 rfl ?_
      refine rGet C hG (hI 78 (by decide) (by decide)) e_78 fiM_31 (v := .ref (gA G 98)) rfl k_837 dM_orders_61 ?_
      refine rIload C dM_orders_64 hl 5 rfl ?_
      refine rIald C hG (hI 98 (by decide) (by decide)) e_98 h dM_orders_66 (fun h => ?_)
      refine rIast C hG (hI 81 (by decide) (by decide)) e_81 h dM_orders_67 (fun H locs z9 h hG => ?_)
      refine rAload_n C dM_orders_68 hl 3 rfl ?_
      refine lv_dup C.1 C.2.1 dM_orders_69 rfl ?_
      refine rGet C hG (hI 78 (by decide) (by decide)) e_78 fiM_32 (v := .int (z9 78 32)) rfl k_838 dM_orders_70 ?_
      refine rIload C dM_orders_73 hl 4 rfl ?_
      refine rIload C dM_orders_75 hl 2 rfl ?_
      refine lv_iconst (v := 1) C.1 C.2.1 dM_orders_77 (by decide) ?_
      refine lv_iadd C.1 C.2.1 dM_orders_78 ?_
      refine lv_imul C.1 C.2.1 dM_orders_79 ?_
      refine lv_iadd C.1 C.2.1 dM_orders_80 ?_
      refine rPut C hG (hI 78 (by decide) (by decide)) e_78 fiM_32 tokM nmM rfl (fpM_32 _) (Nat.le_of_ble_eq_true rfl) rfl rfl k_838 h dM_orders_81 (fun H locs z10 h hG => ?_)
      refine rIload C dM_orders_84 hl 4 rfl ?_
      refine lv_bipush (v := 10) C.1 C.2.1 dM_orders_86 (by decide) ?_
      refine lv_imul C.1 C.2.1 dM_orders_88 ?_
      refine rIstore C dM_orders_89 hl h (by decide) [(3, .int x8), (2, .int x7), (6, .int x6), (0, .ref (gA G 78)), (5, .int v5)] rfl (fun x11 ls h hl => ?_)
      refine rIinc C dM_orders_91 hl 5 rfl (d := (-1)) (by decide) h (by decide) [(4, .int x11), (3, .int x8), (2, .int x7), (6, .int x6), (0, .ref (gA G 78))] rfl (fun x12 ls h hl => ?_)
      refine lv_goto (tgt := 20) C.1 C.2.1 dM_orders_94 (by decide) ?_
      exact ih h hG (lv_sub hl [5, 3, 2, 1, 0] rfl)
theorem cM_orders {l : Launch} {G : GT} {I : List Nat} (hI : mI I) {fu : Nat} {v1 : Int32} {z : Sg} {R1 : Int32} {Z : Sg} (h : pM_orders fu v1 z = some (R1, Z)) : Mt l yM_orders rmM_orders bM_orders 7 (some .boolean) G I z [.ref (gA G 78), .int v1] (Qi G I R1 Z) := by
  refine entM (by decide +kernel) (Nat.le_of_ble_eq_true rfl) ?_
  intro p e s m below meth c C hG ls hl
  have hl : lv_has ls 7 [(0, .ref (gA G 78)), (1, .int v1)] := hl
  unfold pM_orders at h
  refine rIload_n C dM_orders_0 hl 1 rfl ?_
  refine rIstoreA_n C dM_orders_1 hl (by decide) [(0, .ref (gA G 78)), (1, .int v1)] rfl (fun ls hl => ?_)
  refine lv_iconst (v := 0) C.1 C.2.1 dM_orders_2 (by decide) ?_
  refine rIstoreA_n C dM_orders_3 hl (by decide) [(2, .int v1), (0, .ref (gA G 78)), (1, .int v1)] rfl (fun ls hl => ?_)
  refine lv_iconst (v := 1) C.1 C.2.1 dM_orders_4 (by decide) ?_
  refine rIstoreA C dM_orders_5 hl (by decide) [(3, .int 0), (2, .int v1), (0, .ref (gA G 78)), (1, .int v1)] rfl (fun ls hl => ?_)
  refine rAload_n C dM_orders_7 hl 3 rfl ?_
  refine lv_iconst (v := 0) C.1 C.2.1 dM_orders_8 (by decide) ?_
  refine rPut C hG (hI 78 (by decide) (by decide)) e_78 fiM_32 tokM nmM rfl (fpM_32 _) (Nat.le_of_ble_eq_true rfl) rfl rfl k_838 h dM_orders_9 (fun H locs z1 h hG => ?_)
  refine rAload_n C dM_orders_12 hl 3 rfl ?_
  refine rGet C hG (hI 78 (by decide) (by decide)) e_78 fiM_0 (v := .int (z1 78 0)) rfl k_806 dM_orders_13 ?_
  refine lv_iconst (v := 1) C.1 C.2.1 dM_orders_16 (by decide) ?_
  refine lv_isub C.1 C.2.1 dM_orders_17 ?_
  refine rIstore C dM_orders_18 hl h (by decide) [(4, .int 1), (3, .int 0), (2, .int v1), (0, .ref (gA G 78)), (1, .int v1)] rfl (fun x2 ls h hl => ?_)
  exact wM_orders_20 C hI _ h hG (lv_sub hl [4, 3, 2, 1, 0] rfl)
theorem dM_order_0 : decode bM_order 0 = .ok (.iload_n 1, 1) := by decide +kernel
theorem dM_order_1 : decode bM_order 1 = .ok (.iconst 0, 1) := by decide +kernel
theorem dM_order_2 : decode bM_order 2 = .ok (.bipush 6, 2) := by decide +kernel
theorem dM_order_4 : decode bM_order 4 = .ok (.invokestatic 81, 3) := by decide +kernel
theorem dM_order_7 : decode bM_order 7 = .ok (.ifCond .eq 12, 3) := by decide +kernel
theorem dM_order_10 : decode bM_order 10 = .ok (.iload_n 2, 1) := by decide +kernel
theorem dM_order_11 : decode bM_order 11 = .ok (.iconst 0, 1) := by decide +kernel
theorem dM_order_12 : decode bM_order 12 = .ok (.iconst 1, 1) := by decide +kernel
theorem dM_order_13 : decode bM_order 13 = .ok (.invokestatic 81, 3) := by decide +kernel
theorem dM_order_16 : decode bM_order 16 = .ok (.ifCond .ne 6, 3) := by decide +kernel
theorem dM_order_19 : decode bM_order 19 = .ok (.bipush (-2), 2) := by decide +kernel
theorem dM_order_21 : decode bM_order 21 = .ok (.ireturn, 1) := by decide +kernel
theorem dM_order_22 : decode bM_order 22 = .ok (.aload_n 0, 1) := by decide +kernel
theorem dM_order_23 : decode bM_order 23 = .ok (.getfield 78, 3) := by decide +kernel
theorem dM_order_26 : decode bM_order 26 = .ok (.ifCond .ne 5, 3) := by decide +kernel
theorem dM_order_29 : decode bM_order 29 = .ok (.iconst 0, 1) := by decide +kernel
theorem dM_order_30 : decode bM_order 30 = .ok (.ireturn, 1) := by decide +kernel
theorem dM_order_31 : decode bM_order 31 = .ok (.aload_n 0, 1) := by decide +kernel
theorem dM_order_32 : decode bM_order 32 = .ok (.invokevirtual 231, 3) := by decide +kernel
theorem dM_order_35 : decode bM_order 35 = .ok (.iconst 1, 1) := by decide +kernel
theorem dM_order_36 : decode bM_order 36 = .ok (.istore_n 3, 1) := by decide +kernel
theorem dM_order_37 : decode bM_order 37 = .ok (.iconst 0, 1) := by decide +kernel
theorem dM_order_38 : decode bM_order 38 = .ok (.istore 4, 2) := by decide +kernel
theorem dM_order_40 : decode bM_order 40 = .ok (.iload 4, 2) := by decide +kernel
theorem dM_order_42 : decode bM_order 42 = .ok (.aload_n 0, 1) := by decide +kernel
theorem dM_order_43 : decode bM_order 43 = .ok (.getfield 78, 3) := by decide +kernel
theorem dM_order_46 : decode bM_order 46 = .ok (.if_icmp .ge 16, 3) := by decide +kernel
theorem dM_order_49 : decode bM_order 49 = .ok (.iload_n 3, 1) := by decide +kernel
theorem dM_order_50 : decode bM_order 50 = .ok (.aload_n 0, 1) := by decide +kernel
theorem dM_order_51 : decode bM_order 51 = .ok (.getfield 78, 3) := by decide +kernel
theorem dM_order_54 : decode bM_order 54 = .ok (.imul, 1) := by decide +kernel
theorem dM_order_55 : decode bM_order 55 = .ok (.istore_n 3, 1) := by decide +kernel
theorem dM_order_56 : decode bM_order 56 = .ok (.iinc 4 1, 3) := by decide +kernel
theorem dM_order_59 : decode bM_order 59 = .ok (.goto (-19), 3) := by decide +kernel
theorem dM_order_62 : decode bM_order 62 = .ok (.iconst (-1), 1) := by decide +kernel
theorem dM_order_63 : decode bM_order 63 = .ok (.istore 4, 2) := by decide +kernel
theorem dM_order_65 : decode bM_order 65 = .ok (.iconst (-1), 1) := by decide +kernel
theorem dM_order_66 : decode bM_order 66 = .ok (.istore 5, 2) := by decide +kernel
theorem dM_order_68 : decode bM_order 68 = .ok (.iconst 0, 1) := by decide +kernel
theorem dM_order_69 : decode bM_order 69 = .ok (.istore 6, 2) := by decide +kernel
theorem dM_order_71 : decode bM_order 71 = .ok (.iload 6, 2) := by decide +kernel
theorem dM_order_73 : decode bM_order 73 = .ok (.iload_n 3, 1) := by decide +kernel
theorem dM_order_74 : decode bM_order 74 = .ok (.if_icmp .ge 67, 3) := by decide +kernel
theorem dM_order_77 : decode bM_order 77 = .ok (.aload_n 0, 1) := by decide +kernel
theorem dM_order_78 : decode bM_order 78 = .ok (.invokevirtual 210, 3) := by decide +kernel
theorem dM_order_81 : decode bM_order 81 = .ok (.aload_n 0, 1) := by decide +kernel
theorem dM_order_82 : decode bM_order 82 = .ok (.iload 6, 2) := by decide +kernel
theorem dM_order_84 : decode bM_order 84 = .ok (.invokevirtual 234, 3) := by decide +kernel
theorem dM_order_87 : decode bM_order 87 = .ok (.ifCond .eq 44, 3) := by decide +kernel
theorem dM_order_90 : decode bM_order 90 = .ok (.aload_n 0, 1) := by decide +kernel
theorem dM_order_91 : decode bM_order 91 = .ok (.iload_n 1, 1) := by decide +kernel
theorem dM_order_92 : decode bM_order 92 = .ok (.invokevirtual 213, 3) := by decide +kernel
theorem dM_order_95 : decode bM_order 95 = .ok (.istore 7, 2) := by decide +kernel
theorem dM_order_97 : decode bM_order 97 = .ok (.iload 7, 2) := by decide +kernel
theorem dM_order_99 : decode bM_order 99 = .ok (.iload 5, 2) := by decide +kernel
theorem dM_order_101 : decode bM_order 101 = .ok (.if_icmp .le 10, 3) := by decide +kernel
theorem dM_order_104 : decode bM_order 104 = .ok (.aload_n 0, 1) := by decide +kernel
theorem dM_order_105 : decode bM_order 105 = .ok (.getfield 228, 3) := by decide +kernel
theorem dM_order_108 : decode bM_order 108 = .ok (.goto 5, 3) := by decide +kernel
theorem dM_order_111 : decode bM_order 111 = .ok (.iload 4, 2) := by decide +kernel
theorem dM_order_113 : decode bM_order 113 = .ok (.istore 4, 2) := by decide +kernel
theorem dM_order_115 : decode bM_order 115 = .ok (.iload 7, 2) := by decide +kernel
theorem dM_order_117 : decode bM_order 117 = .ok (.iload 5, 2) := by decide +kernel
theorem dM_order_119 : decode bM_order 119 = .ok (.if_icmp .le 8, 3) := by decide +kernel
theorem dM_order_122 : decode bM_order 122 = .ok (.iload 7, 2) := by decide +kernel
theorem dM_order_124 : decode bM_order 124 = .ok (.goto 5, 3) := by decide +kernel
theorem dM_order_127 : decode bM_order 127 = .ok (.iload 5, 2) := by decide +kernel
theorem dM_order_129 : decode bM_order 129 = .ok (.istore 5, 2) := by decide +kernel
theorem dM_order_131 : decode bM_order 131 = .ok (.aload_n 0, 1) := by decide +kernel
theorem dM_order_132 : decode bM_order 132 = .ok (.invokevirtual 219, 3) := by decide +kernel
theorem dM_order_135 : decode bM_order 135 = .ok (.iinc 6 1, 3) := by decide +kernel
theorem dM_order_138 : decode bM_order 138 = .ok (.goto (-67), 3) := by decide +kernel
theorem dM_order_141 : decode bM_order 141 = .ok (.iload_n 2, 1) := by decide +kernel
theorem dM_order_142 : decode bM_order 142 = .ok (.ifCond .ne 8, 3) := by decide +kernel
theorem dM_order_145 : decode bM_order 145 = .ok (.iload 4, 2) := by decide +kernel
theorem dM_order_147 : decode bM_order 147 = .ok (.goto 5, 3) := by decide +kernel
theorem dM_order_150 : decode bM_order 150 = .ok (.iload 5, 2) := by decide +kernel
theorem dM_order_152 : decode bM_order 152 = .ok (.ireturn, 1) := by decide +kernel
theorem wM_order_131 {p : Program} {l : Launch} {e : Env} {s : State} {m : MethodId} {args : Array Value} {below : List Frame} {meth : Method} {c : Code} {G : GT} {I : List Nat} (C : CX p s m args meth c NM bM_order 8 (some .int) G I) (hI : mI I) {fu : Nat} {R1 : Int32} {Z : Sg} {rc71 : Int32 → Int32 → Int32 → Int32 → Int32 → Int32 → Sg → Option (Int32 × Sg)} (hr71 : ∀ {v1 : Int32} {v2 : Int32} {v3 : Int32} {v4 : Int32} {v5 : Int32} {v6 : Int32} {z : Sg} {H : Heap} {locs : List Loc} {ls : Array Slot}, rc71 v1 v2 v3 v4 v5 v6 z = some (R1, Z) → GW G I z s.heap H locs → lv_has ls 8 [(0, .ref (gA G 78)), (1, .int v1), (2, .int v2), (3, .int v3), (4, .int v4), (5, .int v5), (6, .int v6)] → W p l e rmM_order s m args below meth c H locs 0 0 (MQ below (Qi G I R1 Z) args s 0 0 (AD G I)) (F0 m 71 ls [])) {v1 : Int32} {v2 : Int32} {v3 : Int32} {v4 : Int32} {v5 : Int32} {v6 : Int32} {z : Sg} {H : Heap} {locs : List Loc} {ls : Array Slot} (h : pM_order_131 fu rc71 v1 v2 v3 v4 v5 v6 z = some (R1, Z)) (hG : GW G I z s.heap H locs) (hl : lv_has ls 8 [(0, .ref (gA G 78)), (1, .int v1), (2, .int v2), (3, .int v3), (4, .int v4), (5, .int v5), (6, .int v6)]) : W p l e rmM_order s m args below meth c H locs 0 0 (MQ below (Qi G I R1 Z) args s 0 0 (AD G I)) (F0 m 131 ls []) := by
  unfold pM_order_131 at h
  refine rAload_n C dM_order_131 hl 0 rfl ?_
  refine rCVv [] [] C hG h (fun h => cM_lays hI h) mvM_lays k_1041 ⟨Nat.le_of_ble_eq_true rfl, Nat.le_of_ble_eq_true rfl⟩ ⟨rfl, rfl⟩ (rRecv C hG (hI 78 (by decide) (by decide)) e_78 rfl) rfl hl.1 (Nat.le_of_ble_eq_true rfl) dM_order_132 ⟨Nat.zero_le _, Nat.zero_le _⟩ rfl (fun H locs z13 h hG => ?_)
  refine rIinc C dM_order_135 hl 6 rfl (d := 1) (by decide) h (by decide) [(0, .ref (gA G 78)), (1, .int v1), (2, .int v2), (3, .int v3), (4, .int v4), (5, .int v5)] rfl (fun x14 ls h hl => ?_)
  refine lv_goto (tgt := 71) C.1 C.2.1 dM_order_138 (by decide) ?_
  exact hr71 h hG (lv_sub hl [1, 2, 3, 4, 5, 6, 0] rfl)
theorem wM_order_129 {p : Program} {l : Launch} {e : Env} {s : State} {m : MethodId} {args : Array Value} {below : List Frame} {meth : Method} {c : Code} {G : GT} {I : List Nat} (C : CX p s m args meth c NM bM_order 8 (some .int) G I) (hI : mI I) {fu : Nat} {R1 : Int32} {Z : Sg} {rc71 : Int32 → Int32 → Int32 → Int32 → Int32 → Int32 → Sg → Option (Int32 × Sg)} (hr71 : ∀ {v1 : Int32} {v2 : Int32} {v3 : Int32} {v4 : Int32} {v5 : Int32} {v6 : Int32} {z : Sg} {H : Heap} {locs : List Loc} {ls : Array Slot}, rc71 v1 v2 v3 v4 v5 v6 z = some (R1, Z) → GW G I z s.heap H locs → lv_has ls 8 [(0, .ref (gA G 78)), (1, .int v1), (2, .int v2), (3, .int v3), (4, .int v4), (5, .int v5), (6, .int v6)] → W p l e rmM_order s m args below meth c H locs 0 0 (MQ below (Qi G I R1 Z) args s 0 0 (AD G I)) (F0 m 71 ls [])) {v1 : Int32} {v2 : Int32} {v3 : Int32} {v4 : Int32} {v6 : Int32} {t0 : Int32} {z : Sg} {H : Heap} {locs : List Loc} {ls : Array Slot} (h : pM_order_129 fu rc71 v1 v2 v3 v4 v6 t0 z = some (R1, Z)) (hG : GW G I z s.heap H locs) (hl : lv_has ls 8 [(0, .ref (gA G 78)), (1, .int v1), (2, .int v2), (3, .int v3), (4, .int v4), (6, .int v6)]) : W p l e rmM_order s m args below meth c H locs 0 0 (MQ below (Qi G I R1 Z) args s 0 0 (AD G I)) (F0 m 129 ls [.int t0]) := by
  unfold pM_order_129 at h
  refine rIstoreA C dM_order_129 hl (by decide) [(0, .ref (gA G 78)), (1, .int v1), (2, .int v2), (3, .int v3), (4, .int v4), (6, .int v6)] rfl (fun ls hl => ?_)
  exact wM_order_131 C hI hr71 h hG (lv_sub hl [1, 2, 3, 4, 5, 0, 6] rfl)
theorem wM_order_113 {p : Program} {l : Launch} {e : Env} {s : State} {m : MethodId} {args : Array Value} {below : List Frame} {meth : Method} {c : Code} {G : GT} {I : List Nat} (C : CX p s m args meth c NM bM_order 8 (some .int) G I) (hI : mI I) {fu : Nat} {R1 : Int32} {Z : Sg} {rc71 : Int32 → Int32 → Int32 → Int32 → Int32 → Int32 → Sg → Option (Int32 × Sg)} (hr71 : ∀ {v1 : Int32} {v2 : Int32} {v3 : Int32} {v4 : Int32} {v5 : Int32} {v6 : Int32} {z : Sg} {H : Heap} {locs : List Loc} {ls : Array Slot}, rc71 v1 v2 v3 v4 v5 v6 z = some (R1, Z) → GW G I z s.heap H locs → lv_has ls 8 [(0, .ref (gA G 78)), (1, .int v1), (2, .int v2), (3, .int v3), (4, .int v4), (5, .int v5), (6, .int v6)] → W p l e rmM_order s m args below meth c H locs 0 0 (MQ below (Qi G I R1 Z) args s 0 0 (AD G I)) (F0 m 71 ls [])) {v1 : Int32} {v2 : Int32} {v3 : Int32} {v5 : Int32} {v6 : Int32} {v7 : Int32} {t0 : Int32} {z : Sg} {H : Heap} {locs : List Loc} {ls : Array Slot} (h : pM_order_113 fu rc71 v1 v2 v3 v5 v6 v7 t0 z = some (R1, Z)) (hG : GW G I z s.heap H locs) (hl : lv_has ls 8 [(0, .ref (gA G 78)), (1, .int v1), (2, .int v2), (3, .int v3), (5, .int v5), (6, .int v6), (7, .int v7)]) : W p l e rmM_order s m args below meth c H locs 0 0 (MQ below (Qi G I R1 Z) args s 0 0 (AD G I)) (F0 m 113 ls [.int t0]) := by
  unfold pM_order_113 at h
  refine rIstoreA C dM_order_113 hl (by decide) [(0, .ref (gA G 78)), (1, .int v1), (2, .int v2), (3, .int v3), (5, .int v5), (6, .int v6), (7, .int v7)] rfl (fun ls hl => ?_)
  refine rIload C dM_order_115 hl 7 rfl ?_
  refine rIload C dM_order_117 hl 5 rfl ?_
  refine rIcmple C (tgt := 127) h dM_order_119 (by decide) (fun h => ?_) (fun h => ?_)
  · refine rIload C dM_order_127 hl 5 rfl ?_
    exact wM_order_129 C hI hr71 h hG (lv_sub hl [1, 2, 3, 4, 0, 6] rfl)
  · refine rIload C dM_order_122 hl 7 rfl ?_
    refine lv_goto (tgt := 129) C.1 C.2.1 dM_order_124 (by decide) ?_
    exact wM_order_129 C hI hr71 h hG (lv_sub hl [1, 2, 3, 4, 0, 6] rfl)
theorem wM_order_71 {p : Program} {l : Launch} {e : Env} {s : State} {m : MethodId} {args : Array Value} {below : List Frame} {meth : Method} {c : Code} {G : GT} {I : List Nat} (C : CX p s m args meth c NM bM_order 8 (some .int) G I) (hI : mI I) {fu : Nat} {R1 : Int32} {Z : Sg} : ∀ (k : Nat) {v1 : Int32} {v2 : Int32} {v3 : Int32} {v4 : Int32} {v5 : Int32} {v6 : Int32} {z : Sg} {H : Heap} {locs : List Loc} {ls : Array Slot}, pM_order_71 fu k v1 v2 v3 v4 v5 v6 z = some (R1, Z) → GW G I z s.heap H locs → lv_has ls 8 [(0, .ref (gA G 78)), (1, .int v1), (2, .int v2), (3, .int v3), (4, .int v4), (5, .int v5), (6, .int v6)] → W p l e rmM_order s m args below meth c H locs 0 0 (MQ below (Qi G I R1 Z) args s 0 0 (AD G I)) (F0 m 71 ls []) := by
  intro k
  induction k with
  | zero => intro v1 v2 v3 v4 v5 v6 z H locs ls h hG hl; rw [pM_order_71] at h; cases h
  | succ k ih =>
    intro v1 v2 v3 v4 v5 v6 z H locs ls h hG hl
    rw [pM_order_71] at h
    refine rIload C dM_order_71 hl 6 rfl ?_
    refine rIload_n C dM_order_73 hl 3 rfl ?_
    refine rIcmpge C (tgt := 141) h dM_order_74 (by decide) (fun h => ?_) (fun h => ?_)
    · refine rIload_n C dM_order_141 hl 2 rfl ?_
      refine rIfne C (tgt := 150) h dM_order_142 (by decide) (fun h => ?_) (fun h => ?_)
      · refine rIload C dM_order_150 hl 5 rfl ?_
        exact rReti C hG h dM_order_152
      · refine rIload C dM_order_145 hl 4 rfl ?_
        refine lv_goto (tgt := 152) C.1 C.2.1 dM_order_147 (by decide) ?_
        exact rReti C hG h dM_order_152
    · refine rAload_n C dM_order_77 hl 0 rfl ?_
      refine rCVv [] [] C hG h (fun h => cM_keeps hI h) mvM_keeps k_1025 ⟨Nat.le_of_ble_eq_true rfl, Nat.le_of_ble_eq_true rfl⟩ ⟨rfl, rfl⟩ (rRecv C hG (hI 78 (by decide) (by decide)) e_78 rfl) rfl hl.1 (Nat.le_of_ble_eq_true rfl) dM_order_78 ⟨Nat.zero_le _, Nat.zero_le _⟩ rfl (fun H locs z8 h hG => ?_)
      refine rAload_n C dM_order_81 hl 0 rfl ?_
      refine rIload C dM_order_82 hl 6 rfl ?_
      refine rCVi [.int v6] [] C hG h (fun h => cM_orders hI h) mvM_orders k_1081 ⟨Nat.le_of_ble_eq_true rfl, Nat.le_of_ble_eq_true rfl⟩ ⟨rfl, rfl⟩ (rRecv C hG (hI 78 (by decide) (by decide)) e_78 rfl) rfl hl.1 (Nat.le_of_ble_eq_true rfl) dM_order_84 ⟨Nat.zero_le _, Nat.zero_le _⟩ rfl (fun H locs x10 z9 h hG => ?_)
      refine rIfeq C (tgt := 131) h dM_order_87 (by decide) (fun h => ?_) (fun h => ?_)
      · exact wM_order_131 C hI ih h hG (lv_sub hl [0, 1, 2, 3, 4, 5, 6] rfl)
      · refine rAload_n C dM_order_90 hl 0 rfl ?_
        refine rIload_n C dM_order_91 hl 1 rfl ?_
        refine rCVi [.int v1] [] C hG h (fun h => cM_goes hI h) mvM_goes k_1029 ⟨Nat.le_of_ble_eq_true rfl, Nat.le_of_ble_eq_true rfl⟩ ⟨rfl, rfl⟩ (rRecv C hG (hI 78 (by decide) (by decide)) e_78 rfl) rfl hl.1 (Nat.le_of_ble_eq_true rfl) dM_order_92 ⟨Nat.zero_le _, Nat.zero_le _⟩ rfl (fun H locs x12 z11 h hG => ?_)
        refine rIstoreA C dM_order_95 hl (by decide) [(0, .ref (gA G 78)), (1, .int v1), (2, .int v2), (3, .int v3), (4, .int v4), (5, .int v5), (6, .int v6)] rfl (fun ls hl => ?_)
        refine rIload C dM_order_97 hl 0 rfl ?_
        refine rIload C dM_order_99 hl 6 rfl ?_
        refine rIcmple C (tgt := 111) h dM_order_101 (by decide) (fun h => ?_) (fun h => ?_)
        · refine rIload C dM_order_111 hl 5 rfl ?_
          exact wM_order_113 C hI ih h hG (lv_sub hl [1, 2, 3, 4, 6, 7, 0] rfl)
        · refine rAload_n C dM_order_104 hl 1 rfl ?_
          refine rGet C hG (hI 78 (by decide) (by decide)) e_78 fiM_32 (v := .int (z11 78 32)) rfl k_838 dM_order_105 ?_
          refine lv_goto (tgt := 113) C.1 C.2.1 dM_order_108 (by decide) ?_
          exact wM_order_113 C hI ih h hG (lv_sub hl [1, 2, 3, 4, 6, 7, 0] rfl)
theorem wM_order_40 {p : Program} {l : Launch} {e : Env} {s : State} {m : MethodId} {args : Array Value} {below : List Frame} {meth : Method} {c : Code} {G : GT} {I : List Nat} (C : CX p s m args meth c NM bM_order 8 (some .int) G I) (hI : mI I) {fu : Nat} {R1 : Int32} {Z : Sg} : ∀ (k : Nat) {v1 : Int32} {v2 : Int32} {v3 : Int32} {v4 : Int32} {z : Sg} {H : Heap} {locs : List Loc} {ls : Array Slot}, pM_order_40 fu k v1 v2 v3 v4 z = some (R1, Z) → GW G I z s.heap H locs → lv_has ls 8 [(0, .ref (gA G 78)), (1, .int v1), (2, .int v2), (3, .int v3), (4, .int v4)] → W p l e rmM_order s m args below meth c H locs 0 0 (MQ below (Qi G I R1 Z) args s 0 0 (AD G I)) (F0 m 40 ls []) := by
  intro k
  induction k with
  | zero => intro v1 v2 v3 v4 z H locs ls h hG hl; rw [pM_order_40] at h; cases h
  | succ k ih =>
    intro v1 v2 v3 v4 z H locs ls h hG hl
    rw [pM_order_40] at h
    refine rIload C dM_order_40 hl 4 rfl ?_
    refine rAload_n C dM_order_42 hl 0 rfl ?_
    refine rGet C hG (hI 78 (by decide) (by decide)) e_78 fiM_0 (v := .int (z 78 0)) rfl k_806 dM_order_43 ?_
    refine rIcmpge C (tgt := 62) h dM_order_46 (by decide) (fun h => ?_) (fun h => ?_)
    · refine lv_iconst (v := (-1)) C.1 C.2.1 dM_order_62 (by decide) ?_
      refine rIstoreA C dM_order_63 hl (by decide) [(0, .ref (gA G 78)), (1, .int v1), (2, .int v2), (3, .int v3)] rfl (fun ls hl => ?_)
      refine lv_iconst (v := (-1)) C.1 C.2.1 dM_order_65 (by decide) ?_
      refine rIstoreA C dM_order_66 hl (by decide) [(4, .int (-1)), (0, .ref (gA G 78)), (1, .int v1), (2, .int v2), (3, .int v3)] rfl (fun ls hl => ?_)
      refine lv_iconst (v := 0) C.1 C.2.1 dM_order_68 (by decide) ?_
      refine rIstoreA C dM_order_69 hl (by decide) [(5, .int (-1)), (4, .int (-1)), (0, .ref (gA G 78)), (1, .int v1), (2, .int v2), (3, .int v3)] rfl (fun ls hl => ?_)
      exact wM_order_71 C hI _ h hG (lv_sub hl [3, 4, 5, 6, 2, 1, 0] rfl)
    · refine rIload_n C dM_order_49 hl 3 rfl ?_
      refine rAload_n C dM_order_50 hl 0 rfl ?_
      refine rGet C hG (hI 78 (by decide) (by decide)) e_78 fiM_0 (v := .int (z 78 0)) rfl k_806 dM_order_51 ?_
      refine lv_imul C.1 C.2.1 dM_order_54 ?_
      refine rIstore_n C dM_order_55 hl h (by decide) [(0, .ref (gA G 78)), (1, .int v1), (2, .int v2), (4, .int v4)] rfl (fun x6 ls h hl => ?_)
      refine rIinc C dM_order_56 hl 4 rfl (d := 1) (by decide) h (by decide) [(3, .int x6), (0, .ref (gA G 78)), (1, .int v1), (2, .int v2)] rfl (fun x7 ls h hl => ?_)
      refine lv_goto (tgt := 40) C.1 C.2.1 dM_order_59 (by decide) ?_
      exact ih h hG (lv_sub hl [2, 3, 4, 1, 0] rfl)
theorem cM_order {l : Launch} {G : GT} {I : List Nat} (hI : mI I) {fu : Nat} {v1 : Int32} {v2 : Int32} {z : Sg} {R1 : Int32} {Z : Sg} (h : pM_order fu v1 v2 z = some (R1, Z)) : Mt l yM_order rmM_order bM_order 8 (some .int) G I z [.ref (gA G 78), .int v1, .int v2] (Qi G I R1 Z) := by
  refine entM (by decide +kernel) (Nat.le_of_ble_eq_true rfl) ?_
  intro p e s m below meth c C hG ls hl
  have hl : lv_has ls 8 [(0, .ref (gA G 78)), (1, .int v1), (2, .int v2)] := hl
  unfold pM_order at h
  refine rIload_n C dM_order_0 hl 1 rfl ?_
  refine lv_iconst (v := 0) C.1 C.2.1 dM_order_1 (by decide) ?_
  refine lv_bipush (v := 6) C.1 C.2.1 dM_order_2 (by decide) ?_
  refine rCSi [.int v1, .int 0, .int 6] [] C hG h (fun h => cM_in hI h) mvM_in k_767 ⟨Nat.le_of_ble_eq_true rfl, Nat.le_of_ble_eq_true rfl⟩ ⟨rfl, rfl⟩ rfl hl.1 (Nat.le_of_ble_eq_true rfl) dM_order_4 ⟨Nat.zero_le _, Nat.zero_le _⟩ rfl (fun H locs x2 z1 h hG => ?_)
  refine rIfeq C (tgt := 19) h dM_order_7 (by decide) (fun h => ?_) (fun h => ?_)
  · refine lv_bipush (v := (-2)) C.1 C.2.1 dM_order_19 (by decide) ?_
    exact rReti C hG h dM_order_21
  · refine rIload_n C dM_order_10 hl 2 rfl ?_
    refine lv_iconst (v := 0) C.1 C.2.1 dM_order_11 (by decide) ?_
    refine lv_iconst (v := 1) C.1 C.2.1 dM_order_12 (by decide) ?_
    refine rCSi [.int v2, .int 0, .int 1] [] C hG h (fun h => cM_in hI h) mvM_in k_767 ⟨Nat.le_of_ble_eq_true rfl, Nat.le_of_ble_eq_true rfl⟩ ⟨rfl, rfl⟩ rfl hl.1 (Nat.le_of_ble_eq_true rfl) dM_order_13 ⟨Nat.zero_le _, Nat.zero_le _⟩ rfl (fun H locs x4 z3 h hG => ?_)
    refine rIfne C (tgt := 22) h dM_order_16 (by decide) (fun h => ?_) (fun h => ?_)
    · refine rAload_n C dM_order_22 hl 0 rfl ?_
      refine rGet C hG (hI 78 (by decide) (by decide)) e_78 fiM_0 (v := .int (z3 78 0)) rfl k_806 dM_order_23 ?_
      refine rIfne C (tgt := 31) h dM_order_26 (by decide) (fun h => ?_) (fun h => ?_)
      · refine rAload_n C dM_order_31 hl 0 rfl ?_
        refine rCVv [] [] C hG h (fun h => cM_tellsTaken hI h) mvM_tellsTaken k_1077 ⟨Nat.le_of_ble_eq_true rfl, Nat.le_of_ble_eq_true rfl⟩ ⟨rfl, rfl⟩ (rRecv C hG (hI 78 (by decide) (by decide)) e_78 rfl) rfl hl.1 (Nat.le_of_ble_eq_true rfl) dM_order_32 ⟨Nat.zero_le _, Nat.zero_le _⟩ rfl (fun H locs z5 h hG => ?_)
        refine lv_iconst (v := 1) C.1 C.2.1 dM_order_35 (by decide) ?_
        refine rIstoreA_n C dM_order_36 hl (by decide) [(0, .ref (gA G 78)), (1, .int v1), (2, .int v2)] rfl (fun ls hl => ?_)
        refine lv_iconst (v := 0) C.1 C.2.1 dM_order_37 (by decide) ?_
        refine rIstoreA C dM_order_38 hl (by decide) [(3, .int 1), (0, .ref (gA G 78)), (1, .int v1), (2, .int v2)] rfl (fun ls hl => ?_)
        exact wM_order_40 C hI _ h hG (lv_sub hl [2, 3, 4, 1, 0] rfl)
      · refine lv_iconst (v := 0) C.1 C.2.1 dM_order_29 (by decide) ?_
        exact rReti C hG h dM_order_30
    · refine lv_bipush (v := (-2)) C.1 C.2.1 dM_order_19 (by decide) ?_
      exact rReti C hG h dM_order_21
theorem dM_lowest_0 : decode bM_lowest 0 = .ok (.lload_n 0, 1) := by decide +kernel
theorem dM_lowest_1 : decode bM_lowest 1 = .ok (.lconst 0, 1) := by decide +kernel
theorem dM_lowest_2 : decode bM_lowest 2 = .ok (.lcmp, 1) := by decide +kernel
theorem dM_lowest_3 : decode bM_lowest 3 = .ok (.ifCond .ne 7, 3) := by decide +kernel
theorem dM_lowest_6 : decode bM_lowest 6 = .ok (.iload 4, 2) := by decide +kernel
theorem dM_lowest_8 : decode bM_lowest 8 = .ok (.i2l, 1) := by decide +kernel
theorem dM_lowest_9 : decode bM_lowest 9 = .ok (.lreturn, 1) := by decide +kernel
theorem dM_lowest_10 : decode bM_lowest 10 = .ok (.lload_n 0, 1) := by decide +kernel
theorem dM_lowest_11 : decode bM_lowest 11 = .ok (.lstore 5, 2) := by decide +kernel
theorem dM_lowest_13 : decode bM_lowest 13 = .ok (.lload_n 2, 1) := by decide +kernel
theorem dM_lowest_14 : decode bM_lowest 14 = .ok (.lstore 7, 2) := by decide +kernel
theorem dM_lowest_16 : decode bM_lowest 16 = .ok (.lload 7, 2) := by decide +kernel
theorem dM_lowest_18 : decode bM_lowest 18 = .ok (.lconst 0, 1) := by decide +kernel
theorem dM_lowest_19 : decode bM_lowest 19 = .ok (.lcmp, 1) := by decide +kernel
theorem dM_lowest_20 : decode bM_lowest 20 = .ok (.ifCond .eq 21, 3) := by decide +kernel
theorem dM_lowest_23 : decode bM_lowest 23 = .ok (.lload 5, 2) := by decide +kernel
theorem dM_lowest_25 : decode bM_lowest 25 = .ok (.lload 7, 2) := by decide +kernel
theorem dM_lowest_27 : decode bM_lowest 27 = .ok (.lrem, 1) := by decide +kernel
theorem dM_lowest_28 : decode bM_lowest 28 = .ok (.lstore 9, 2) := by decide +kernel
theorem dM_lowest_30 : decode bM_lowest 30 = .ok (.lload 7, 2) := by decide +kernel
theorem dM_lowest_32 : decode bM_lowest 32 = .ok (.lstore 5, 2) := by decide +kernel
theorem dM_lowest_34 : decode bM_lowest 34 = .ok (.lload 9, 2) := by decide +kernel
theorem dM_lowest_36 : decode bM_lowest 36 = .ok (.lstore 7, 2) := by decide +kernel
theorem dM_lowest_38 : decode bM_lowest 38 = .ok (.goto (-22), 3) := by decide +kernel
theorem dM_lowest_41 : decode bM_lowest 41 = .ok (.iload 4, 2) := by decide +kernel
theorem dM_lowest_43 : decode bM_lowest 43 = .ok (.ifCond .ne 7, 3) := by decide +kernel
theorem dM_lowest_46 : decode bM_lowest 46 = .ok (.lload_n 0, 1) := by decide +kernel
theorem dM_lowest_47 : decode bM_lowest 47 = .ok (.goto 4, 3) := by decide +kernel
theorem dM_lowest_50 : decode bM_lowest 50 = .ok (.lload_n 2, 1) := by decide +kernel
theorem dM_lowest_51 : decode bM_lowest 51 = .ok (.lload 5, 2) := by decide +kernel
theorem dM_lowest_53 : decode bM_lowest 53 = .ok (.ldiv, 1) := by decide +kernel
theorem dM_lowest_54 : decode bM_lowest 54 = .ok (.lreturn, 1) := by decide +kernel
theorem wM_lowest_16 {p : Program} {l : Launch} {e : Env} {s : State} {m : MethodId} {args : Array Value} {below : List Frame} {meth : Method} {c : Code} {G : GT} {I : List Nat} (C : CX p s m args meth c NM bM_lowest 11 (some .long) G I) (hI : mI I) {fu : Nat} {R1 : Int64} {Z : Sg} : ∀ (k : Nat) {v0 : Int64} {v2 : Int64} {v4 : Int32} {v5 : Int64} {v7 : Int64} {z : Sg} {H : Heap} {locs : List Loc} {ls : Array Slot}, pM_lowest_16 fu k v0 v2 v4 v5 v7 z = some (R1, Z) → GW G I z s.heap H locs → lv_has ls 11 [(0, .long v0), (2, .long v2), (4, .int v4), (5, .long v5), (7, .long v7)] → W p l e rmM_lowest s m args below meth c H locs 0 0 (MQ below (Ql G I R1 Z) args s 0 0 (AD G I)) (F0 m 16 ls []) := by
  intro k
  induction k with
  | zero => intro v0 v2 v4 v5 v7 z H locs ls h hG hl; rw [pM_lowest_16] at h; cases h
  | succ k ih =>
    intro v0 v2 v4 v5 v7 z H locs ls h hG hl
    rw [pM_lowest_16] at h
    refine rLload C dM_lowest_16 hl 4 rfl ?_
    refine lv_lconst (v := 0) C.1 C.2.1 dM_lowest_18 (by decide) ?_
    refine W.lcmp C.1 C.2.1 dM_lowest_19 ?_
    refine rIfeq C (tgt := 41) h dM_lowest_20 (by decide) (fun h => ?_) (fun h => ?_)
    · refine rIload C dM_lowest_41 hl 2 rfl ?_
      refine rIfne C (tgt := 50) h dM_lowest_43 (by decide) (fun h => ?_) (fun h => ?_)
      · refine rLload_n C dM_lowest_50 hl 1 rfl ?_
        refine rLload C dM_lowest_51 hl 3 rfl ?_
        refine rLdiv C h dM_lowest_53 (fun h => ?_)
        exact rRetl C hG h dM_lowest_54
      · refine rLload_n C dM_lowest_46 hl 0 rfl ?_
        refine lv_goto (tgt := 51) C.1 C.2.1 dM_lowest_47 (by decide) ?_
        refine rLload C dM_lowest_51 hl 3 rfl ?_
        refine rLdiv C h dM_lowest_53 (fun h => ?_)
        exact rRetl C hG h dM_lowest_54
    · refine rLload C dM_lowest_23 hl 3 rfl ?_
      refine rLload C dM_lowest_25 hl 4 rfl ?_
      refine rLrem C h dM_lowest_27 (fun h => ?_)
      refine rLstore C dM_lowest_28 hl h (by decide) [(0, .long v0), (2, .long v2), (4, .int v4), (5, .long v5), (7, .long v7)] rfl (fun y3 ls h hl => ?_)
      refine rLload C dM_lowest_30 hl 5 rfl ?_
      refine rLstore C dM_lowest_32 hl h (by decide) [(9, .long y3), (0, .long v0), (2, .long v2), (4, .int v4), (7, .long v7)] rfl (fun y4 ls h hl => ?_)
      refine rLload C dM_lowest_34 hl 1 rfl ?_
      refine rLstore C dM_lowest_36 hl h (by decide) [(5, .long y4), (9, .long y3), (0, .long v0), (2, .long v2), (4, .int v4)] rfl (fun y5 ls h hl => ?_)
      refine lv_goto (tgt := 16) C.1 C.2.1 dM_lowest_38 (by decide) ?_
      exact ih h hG (lv_sub hl [3, 4, 5, 1, 0] rfl)
theorem cM_lowest {l : Launch} {G : GT} {I : List Nat} (hI : mI I) {fu : Nat} {v0 : Int64} {v2 : Int64} {v4 : Int32} {z : Sg} {R1 : Int64} {Z : Sg} (h : pM_lowest fu v0 v2 v4 z = some (R1, Z)) : Mt l yM_lowest rmM_lowest bM_lowest 11 (some .long) G I z [.long v0, .long v2, .int v4] (Ql G I R1 Z) := by
  refine entM (by decide +kernel) (Nat.le_of_ble_eq_true rfl) ?_
  intro p e s m below meth c C hG ls hl
  have hl : lv_has ls 11 [(0, .long v0), (2, .long v2), (4, .int v4)] := hl
  unfold pM_lowest at h
  refine rLload_n C dM_lowest_0 hl 0 rfl ?_
  refine lv_lconst (v := 0) C.1 C.2.1 dM_lowest_1 (by decide) ?_
  refine W.lcmp C.1 C.2.1 dM_lowest_2 ?_
  refine rIfne C (tgt := 10) h dM_lowest_3 (by decide) (fun h => ?_) (fun h => ?_)
  · refine rLload_n C dM_lowest_10 hl 0 rfl ?_
    refine rLstore C dM_lowest_11 hl h (by decide) [(0, .long v0), (2, .long v2), (4, .int v4)] rfl (fun y1 ls h hl => ?_)
    refine rLload_n C dM_lowest_13 hl 2 rfl ?_
    refine rLstore C dM_lowest_14 hl h (by decide) [(5, .long y1), (0, .long v0), (2, .long v2), (4, .int v4)] rfl (fun y2 ls h hl => ?_)
    exact wM_lowest_16 C hI _ h hG (lv_sub hl [2, 3, 4, 1, 0] rfl)
  · refine rIload C dM_lowest_6 hl 2 rfl ?_
    refine lv_i2l C.1 C.2.1 dM_lowest_8 rfl ?_
    exact rRetl C hG h dM_lowest_9
theorem dM_mean_0 : decode bM_mean 0 = .ok (.iload_n 1, 1) := by decide +kernel
theorem dM_mean_1 : decode bM_mean 1 = .ok (.iconst 1, 1) := by decide +kernel
theorem dM_mean_2 : decode bM_mean 2 = .ok (.bipush 60, 2) := by decide +kernel
theorem dM_mean_4 : decode bM_mean 4 = .ok (.invokestatic 81, 3) := by decide +kernel
theorem dM_mean_7 : decode bM_mean 7 = .ok (.ifCond .eq 19, 3) := by decide +kernel
theorem dM_mean_10 : decode bM_mean 10 = .ok (.iload_n 2, 1) := by decide +kernel
theorem dM_mean_11 : decode bM_mean 11 = .ok (.iconst 0, 1) := by decide +kernel
theorem dM_mean_12 : decode bM_mean 12 = .ok (.iconst 1, 1) := by decide +kernel
theorem dM_mean_13 : decode bM_mean 13 = .ok (.invokestatic 81, 3) := by decide +kernel
theorem dM_mean_16 : decode bM_mean 16 = .ok (.ifCond .eq 10, 3) := by decide +kernel
theorem dM_mean_19 : decode bM_mean 19 = .ok (.aload_n 0, 1) := by decide +kernel
theorem dM_mean_20 : decode bM_mean 20 = .ok (.getfield 78, 3) := by decide +kernel
theorem dM_mean_23 : decode bM_mean 23 = .ok (.ifCond .ne 7, 3) := by decide +kernel
theorem dM_mean_26 : decode bM_mean 26 = .ok (.ldc2_w 237, 3) := by decide +kernel
theorem dM_mean_29 : decode bM_mean 29 = .ok (.lreturn, 1) := by decide +kernel
theorem dM_mean_30 : decode bM_mean 30 = .ok (.aload_n 0, 1) := by decide +kernel
theorem dM_mean_31 : decode bM_mean 31 = .ok (.iload_n 1, 1) := by decide +kernel
theorem dM_mean_32 : decode bM_mean 32 = .ok (.invokevirtual 225, 3) := by decide +kernel
theorem dM_mean_35 : decode bM_mean 35 = .ok (.i2l, 1) := by decide +kernel
theorem dM_mean_36 : decode bM_mean 36 = .ok (.iload_n 1, 1) := by decide +kernel
theorem dM_mean_37 : decode bM_mean 37 = .ok (.aload_n 0, 1) := by decide +kernel
theorem dM_mean_38 : decode bM_mean 38 = .ok (.getfield 78, 3) := by decide +kernel
theorem dM_mean_41 : decode bM_mean 41 = .ok (.imul, 1) := by decide +kernel
theorem dM_mean_42 : decode bM_mean 42 = .ok (.i2l, 1) := by decide +kernel
theorem dM_mean_43 : decode bM_mean 43 = .ok (.iload_n 2, 1) := by decide +kernel
theorem dM_mean_44 : decode bM_mean 44 = .ok (.invokestatic 239, 3) := by decide +kernel
theorem dM_mean_47 : decode bM_mean 47 = .ok (.lreturn, 1) := by decide +kernel
theorem cM_mean {l : Launch} {G : GT} {I : List Nat} (hI : mI I) {fu : Nat} {v1 : Int32} {v2 : Int32} {z : Sg} {R1 : Int64} {Z : Sg} (h : pM_mean fu v1 v2 z = some (R1, Z)) : Mt l yM_mean rmM_mean bM_mean 3 (some .long) G I z [.ref (gA G 78), .int v1, .int v2] (Ql G I R1 Z) := by
  refine entM (by decide +kernel) (Nat.le_of_ble_eq_true rfl) ?_
  intro p e s m below meth c C hG ls hl
  have hl : lv_has ls 3 [(0, .ref (gA G 78)), (1, .int v1), (2, .int v2)] := hl
  unfold pM_mean at h
  refine rIload_n C dM_mean_0 hl 1 rfl ?_
  refine lv_iconst (v := 1) C.1 C.2.1 dM_mean_1 (by decide) ?_
  refine lv_bipush (v := 60) C.1 C.2.1 dM_mean_2 (by decide) ?_
  refine rCSi [.int v1, .int 1, .int 60] [] C hG h (fun h => cM_in hI h) mvM_in k_767 ⟨Nat.le_of_ble_eq_true rfl, Nat.le_of_ble_eq_true rfl⟩ ⟨rfl, rfl⟩ rfl hl.1 (Nat.le_of_ble_eq_true rfl) dM_mean_4 ⟨Nat.zero_le _, Nat.zero_le _⟩ rfl (fun H locs x2 z1 h hG => ?_)
  refine rIfeq C (tgt := 26) h dM_mean_7 (by decide) (fun h => ?_) (fun h => ?_)
  · refine lv_ldc2 C.1 C.2.1 C.2.2.2.1 (C.2.2.2.2.1 _ k_1089) dM_mean_26 ?_
    exact rRetl C hG h dM_mean_29
  · refine rIload_n C dM_mean_10 hl 2 rfl ?_
    refine lv_iconst (v := 0) C.1 C.2.1 dM_mean_11 (by decide) ?_
    refine lv_iconst (v := 1) C.1 C.2.1 dM_mean_12 (by decide) ?_
    refine rCSi [.int v2, .int 0, .int 1] [] C hG h (fun h => cM_in hI h) mvM_in k_767 ⟨Nat.le_of_ble_eq_true rfl, Nat.le_of_ble_eq_true rfl⟩ ⟨rfl, rfl⟩ rfl hl.1 (Nat.le_of_ble_eq_true rfl) dM_mean_13 ⟨Nat.zero_le _, Nat.zero_le _⟩ rfl (fun H locs x4 z3 h hG => ?_)
    refine rIfeq C (tgt := 26) h dM_mean_16 (by decide) (fun h => ?_) (fun h => ?_)
    · refine lv_ldc2 C.1 C.2.1 C.2.2.2.1 (C.2.2.2.2.1 _ k_1089) dM_mean_26 ?_
      exact rRetl C hG h dM_mean_29
    · refine rAload_n C dM_mean_19 hl 0 rfl ?_
      refine rGet C hG (hI 78 (by decide) (by decide)) e_78 fiM_0 (v := .int (z3 78 0)) rfl k_806 dM_mean_20 ?_
      refine rIfne C (tgt := 30) h dM_mean_23 (by decide) (fun h => ?_) (fun h => ?_)
      · refine rAload_n C dM_mean_30 hl 0 rfl ?_
        refine rIload_n C dM_mean_31 hl 1 rfl ?_
        refine rCVi [.int v1] [] C hG h (fun h => cM_cutNow hI h) mvM_cutNow k_1061 ⟨Nat.le_of_ble_eq_true rfl, Nat.le_of_ble_eq_true rfl⟩ ⟨rfl, rfl⟩ (rRecv C hG (hI 78 (by decide) (by decide)) e_78 rfl) rfl hl.1 (Nat.le_of_ble_eq_true rfl) dM_mean_32 ⟨Nat.zero_le _, Nat.zero_le _⟩ rfl (fun H locs x6 z5 h hG => ?_)
        refine lv_i2l C.1 C.2.1 dM_mean_35 rfl ?_
        refine rIload_n C dM_mean_36 hl 1 rfl ?_
        refine rAload_n C dM_mean_37 hl 0 rfl ?_
        refine rGet C hG (hI 78 (by decide) (by decide)) e_78 fiM_0 (v := .int (z5 78 0)) rfl k_806 dM_mean_38 ?_
        refine lv_imul C.1 C.2.1 dM_mean_41 ?_
        refine lv_i2l C.1 C.2.1 dM_mean_42 rfl ?_
        refine rIload_n C dM_mean_43 hl 2 rfl ?_
        refine rCSl [.long x6.toInt64, .long ((v1 * (z5 78 0)).toInt64), .int v2] [] C hG h (fun h => cM_lowest hI h) mvM_lowest k_1090 ⟨Nat.le_of_ble_eq_true rfl, Nat.le_of_ble_eq_true rfl⟩ ⟨rfl, rfl⟩ rfl hl.1 (Nat.le_of_ble_eq_true rfl) dM_mean_44 ⟨Nat.zero_le _, Nat.zero_le _⟩ rfl (fun H locs y8 z7 h hG => ?_)
        exact rRetl C hG h dM_mean_47
      · refine lv_ldc2 C.1 C.2.1 C.2.2.2.1 (C.2.2.2.2.1 _ k_1089) dM_mean_26 ?_
        exact rRetl C hG h dM_mean_29
theorem dM_sheetWrong_0 : decode bM_sheetWrong 0 = .ok (.iload_n 1, 1) := by decide +kernel
theorem dM_sheetWrong_1 : decode bM_sheetWrong 1 = .ok (.iconst 0, 1) := by decide +kernel
theorem dM_sheetWrong_2 : decode bM_sheetWrong 2 = .ok (.iconst 3, 1) := by decide +kernel
theorem dM_sheetWrong_3 : decode bM_sheetWrong 3 = .ok (.invokestatic 81, 3) := by decide +kernel
theorem dM_sheetWrong_6 : decode bM_sheetWrong 6 = .ok (.ifCond .ne 6, 3) := by decide +kernel
theorem dM_sheetWrong_9 : decode bM_sheetWrong 9 = .ok (.bipush (-2), 2) := by decide +kernel
theorem dM_sheetWrong_11 : decode bM_sheetWrong 11 = .ok (.ireturn, 1) := by decide +kernel
theorem dM_sheetWrong_12 : decode bM_sheetWrong 12 = .ok (.aload_n 0, 1) := by decide +kernel
theorem dM_sheetWrong_13 : decode bM_sheetWrong 13 = .ok (.getfield 37, 3) := by decide +kernel
theorem dM_sheetWrong_16 : decode bM_sheetWrong 16 = .ok (.iload_n 1, 1) := by decide +kernel
theorem dM_sheetWrong_17 : decode bM_sheetWrong 17 = .ok (.iaload, 1) := by decide +kernel
theorem dM_sheetWrong_18 : decode bM_sheetWrong 18 = .ok (.iconst (-1), 1) := by decide +kernel
theorem dM_sheetWrong_19 : decode bM_sheetWrong 19 = .ok (.if_icmp .ne 6, 3) := by decide +kernel
theorem dM_sheetWrong_22 : decode bM_sheetWrong 22 = .ok (.bipush (-11), 2) := by decide +kernel
theorem dM_sheetWrong_24 : decode bM_sheetWrong 24 = .ok (.ireturn, 1) := by decide +kernel
theorem dM_sheetWrong_25 : decode bM_sheetWrong 25 = .ok (.aload_n 0, 1) := by decide +kernel
theorem dM_sheetWrong_26 : decode bM_sheetWrong 26 = .ok (.getfield 40, 3) := by decide +kernel
theorem dM_sheetWrong_29 : decode bM_sheetWrong 29 = .ok (.iload_n 1, 1) := by decide +kernel
theorem dM_sheetWrong_30 : decode bM_sheetWrong 30 = .ok (.iaload, 1) := by decide +kernel
theorem dM_sheetWrong_31 : decode bM_sheetWrong 31 = .ok (.bipush 20, 2) := by decide +kernel
theorem dM_sheetWrong_33 : decode bM_sheetWrong 33 = .ok (.if_icmp .le 8, 3) := by decide +kernel
theorem dM_sheetWrong_36 : decode bM_sheetWrong 36 = .ok (.bipush (-2), 2) := by decide +kernel
theorem dM_sheetWrong_38 : decode bM_sheetWrong 38 = .ok (.goto 4, 3) := by decide +kernel
theorem dM_sheetWrong_41 : decode bM_sheetWrong 41 = .ok (.iconst 0, 1) := by decide +kernel
theorem dM_sheetWrong_42 : decode bM_sheetWrong 42 = .ok (.ireturn, 1) := by decide +kernel
theorem cM_sheetWrong {l : Launch} {G : GT} {I : List Nat} (hI : mI I) {fu : Nat} {v1 : Int32} {z : Sg} {R1 : Int32} {Z : Sg} (h : pM_sheetWrong fu v1 z = some (R1, Z)) : Mt l yM_sheetWrong rmM_sheetWrong bM_sheetWrong 2 (some .int) G I z [.ref (gA G 78), .int v1] (Qi G I R1 Z) := by
  refine entM (by decide +kernel) (Nat.le_of_ble_eq_true rfl) ?_
  intro p e s m below meth c C hG ls hl
  have hl : lv_has ls 2 [(0, .ref (gA G 78)), (1, .int v1)] := hl
  unfold pM_sheetWrong at h
  refine rIload_n C dM_sheetWrong_0 hl 1 rfl ?_
  refine lv_iconst (v := 0) C.1 C.2.1 dM_sheetWrong_1 (by decide) ?_
  refine lv_iconst (v := 3) C.1 C.2.1 dM_sheetWrong_2 (by decide) ?_
  refine rCSi [.int v1, .int 0, .int 3] [] C hG h (fun h => cM_in hI h) mvM_in k_767 ⟨Nat.le_of_ble_eq_true rfl, Nat.le_of_ble_eq_true rfl⟩ ⟨rfl, rfl⟩ rfl hl.1 (Nat.le_of_ble_eq_true rfl) dM_sheetWrong_3 ⟨Nat.zero_le _, Nat.zero_le _⟩ rfl (fun H locs x2 z1 h hG => ?_)
  refine rIfne C (tgt := 12) h dM_sheetWrong_6 (by decide) (fun h => ?_) (fun h => ?_)
  · refine rAload_n C dM_sheetWrong_12 hl 0 rfl ?_
    refine rGet C hG (hI 78 (by decide) (by decide)) e_78 fiM_14 (v := .ref (gA G 88)) rfl k_820 dM_sheetWrong_13 ?_
    refine rIload_n C dM_sheetWrong_16 hl 1 rfl ?_
    refine rIald C hG (hI 88 (by decide) (by decide)) e_88 h dM_sheetWrong_17 (fun h => ?_)
    refine lv_iconst (v := (-1)) C.1 C.2.1 dM_sheetWrong_18 (by decide) ?_
    refine rIcmpne C (tgt := 25) h dM_sheetWrong_19 (by decide) (fun h => ?_) (fun h => ?_)
    · refine rAload_n C dM_sheetWrong_25 hl 0 rfl ?_
      refine rGet C hG (hI 78 (by decide) (by decide)) e_78 fiM_15 (v := .ref (gA G 89)) rfl k_821 dM_sheetWrong_26 ?_
      refine rIload_n C dM_sheetWrong_29 hl 1 rfl ?_
      refine rIald C hG (hI 89 (by decide) (by decide)) e_89 h dM_sheetWrong_30 (fun h => ?_)
      refine lv_bipush (v := 20) C.1 C.2.1 dM_sheetWrong_31 (by decide) ?_
      refine rIcmple C (tgt := 41) h dM_sheetWrong_33 (by decide) (fun h => ?_) (fun h => ?_)
      · refine lv_iconst (v := 0) C.1 C.2.1 dM_sheetWrong_41 (by decide) ?_
        exact rReti C hG h dM_sheetWrong_42
      · refine lv_bipush (v := (-2)) C.1 C.2.1 dM_sheetWrong_36 (by decide) ?_
        refine lv_goto (tgt := 42) C.1 C.2.1 dM_sheetWrong_38 (by decide) ?_
        exact rReti C hG h dM_sheetWrong_42
    · refine lv_bipush (v := (-11)) C.1 C.2.1 dM_sheetWrong_22 (by decide) ?_
      exact rReti C hG h dM_sheetWrong_24
  · refine lv_bipush (v := (-2)) C.1 C.2.1 dM_sheetWrong_9 (by decide) ?_
    exact rReti C hG h dM_sheetWrong_11
theorem dM_toldWrong_0 : decode bM_toldWrong 0 = .ok (.aload_n 0, 1) := by decide +kernel
theorem dM_toldWrong_1 : decode bM_toldWrong 1 = .ok (.iload_n 1, 1) := by decide +kernel
theorem dM_toldWrong_2 : decode bM_toldWrong 2 = .ok (.invokevirtual 243, 3) := by decide +kernel
theorem dM_toldWrong_5 : decode bM_toldWrong 5 = .ok (.istore_n 3, 1) := by decide +kernel
theorem dM_toldWrong_6 : decode bM_toldWrong 6 = .ok (.iload_n 3, 1) := by decide +kernel
theorem dM_toldWrong_7 : decode bM_toldWrong 7 = .ok (.ifCond .eq 7, 3) := by decide +kernel
theorem dM_toldWrong_10 : decode bM_toldWrong 10 = .ok (.iload_n 3, 1) := by decide +kernel
theorem dM_toldWrong_11 : decode bM_toldWrong 11 = .ok (.goto 17, 3) := by decide +kernel
theorem dM_toldWrong_14 : decode bM_toldWrong 14 = .ok (.aload_n 0, 1) := by decide +kernel
theorem dM_toldWrong_15 : decode bM_toldWrong 15 = .ok (.iload_n 2, 1) := by decide +kernel
theorem dM_toldWrong_16 : decode bM_toldWrong 16 = .ok (.invokevirtual 186, 3) := by decide +kernel
theorem dM_toldWrong_19 : decode bM_toldWrong 19 = .ok (.ifCond .eq 7, 3) := by decide +kernel
theorem dM_toldWrong_22 : decode bM_toldWrong 22 = .ok (.iconst 0, 1) := by decide +kernel
theorem dM_toldWrong_23 : decode bM_toldWrong 23 = .ok (.goto 5, 3) := by decide +kernel
theorem dM_toldWrong_26 : decode bM_toldWrong 26 = .ok (.bipush (-5), 2) := by decide +kernel
theorem dM_toldWrong_28 : decode bM_toldWrong 28 = .ok (.ireturn, 1) := by decide +kernel
theorem cM_toldWrong {l : Launch} {G : GT} {I : List Nat} (hI : mI I) {fu : Nat} {v1 : Int32} {v2 : Int32} {z : Sg} {R1 : Int32} {Z : Sg} (h : pM_toldWrong fu v1 v2 z = some (R1, Z)) : Mt l yM_toldWrong rmM_toldWrong bM_toldWrong 4 (some .int) G I z [.ref (gA G 78), .int v1, .int v2] (Qi G I R1 Z) := by
  refine entM (by decide +kernel) (Nat.le_of_ble_eq_true rfl) ?_
  intro p e s m below meth c C hG ls hl
  have hl : lv_has ls 4 [(0, .ref (gA G 78)), (1, .int v1), (2, .int v2)] := hl
  unfold pM_toldWrong at h
  refine rAload_n C dM_toldWrong_0 hl 0 rfl ?_
  refine rIload_n C dM_toldWrong_1 hl 1 rfl ?_
  refine rCVi [.int v1] [] C hG h (fun h => cM_sheetWrong hI h) mvM_sheetWrong k_1101 ⟨Nat.le_of_ble_eq_true rfl, Nat.le_of_ble_eq_true rfl⟩ ⟨rfl, rfl⟩ (rRecv C hG (hI 78 (by decide) (by decide)) e_78 rfl) rfl hl.1 (Nat.le_of_ble_eq_true rfl) dM_toldWrong_2 ⟨Nat.zero_le _, Nat.zero_le _⟩ rfl (fun H locs x2 z1 h hG => ?_)
  refine rIstoreA_n C dM_toldWrong_5 hl (by decide) [(0, .ref (gA G 78)), (1, .int v1), (2, .int v2)] rfl (fun ls hl => ?_)
  refine rIload_n C dM_toldWrong_6 hl 0 rfl ?_
  refine rIfeq C (tgt := 14) h dM_toldWrong_7 (by decide) (fun h => ?_) (fun h => ?_)
  · refine rAload_n C dM_toldWrong_14 hl 1 rfl ?_
    refine rIload_n C dM_toldWrong_15 hl 3 rfl ?_
    refine rCVi [.int v2] [] C hG h (fun h => cM_isOne hI h) mvM_isOne k_948 ⟨Nat.le_of_ble_eq_true rfl, Nat.le_of_ble_eq_true rfl⟩ ⟨rfl, rfl⟩ (rRecv C hG (hI 78 (by decide) (by decide)) e_78 rfl) rfl hl.1 (Nat.le_of_ble_eq_true rfl) dM_toldWrong_16 ⟨Nat.zero_le _, Nat.zero_le _⟩ rfl (fun H locs x4 z3 h hG => ?_)
    refine rIfeq C (tgt := 26) h dM_toldWrong_19 (by decide) (fun h => ?_) (fun h => ?_)
    · refine lv_bipush (v := (-5)) C.1 C.2.1 dM_toldWrong_26 (by decide) ?_
      exact rReti C hG h dM_toldWrong_28
    · refine lv_iconst (v := 0) C.1 C.2.1 dM_toldWrong_22 (by decide) ?_
      refine lv_goto (tgt := 28) C.1 C.2.1 dM_toldWrong_23 (by decide) ?_
      exact rReti C hG h dM_toldWrong_28
  · refine rIload_n C dM_toldWrong_10 hl 0 rfl ?_
    refine lv_goto (tgt := 28) C.1 C.2.1 dM_toldWrong_11 (by decide) ?_
    exact rReti C hG h dM_toldWrong_28
theorem dM_unlike_0 : decode bM_unlike 0 = .ok (.iconst (-1), 1) := by decide +kernel
theorem dM_unlike_1 : decode bM_unlike 1 = .ok (.istore_n 3, 1) := by decide +kernel
theorem dM_unlike_2 : decode bM_unlike 2 = .ok (.aload_n 0, 1) := by decide +kernel
theorem dM_unlike_3 : decode bM_unlike 3 = .ok (.invokevirtual 210, 3) := by decide +kernel
theorem dM_unlike_6 : decode bM_unlike 6 = .ok (.iconst 0, 1) := by decide +kernel
theorem dM_unlike_7 : decode bM_unlike 7 = .ok (.istore 4, 2) := by decide +kernel
theorem dM_unlike_9 : decode bM_unlike 9 = .ok (.iload 4, 2) := by decide +kernel
theorem dM_unlike_11 : decode bM_unlike 11 = .ok (.aload_n 0, 1) := by decide +kernel
theorem dM_unlike_12 : decode bM_unlike 12 = .ok (.getfield 40, 3) := by decide +kernel
theorem dM_unlike_15 : decode bM_unlike 15 = .ok (.iload_n 1, 1) := by decide +kernel
theorem dM_unlike_16 : decode bM_unlike 16 = .ok (.iaload, 1) := by decide +kernel
theorem dM_unlike_17 : decode bM_unlike 17 = .ok (.if_icmp .ge 51, 3) := by decide +kernel
theorem dM_unlike_20 : decode bM_unlike 20 = .ok (.iload_n 3, 1) := by decide +kernel
theorem dM_unlike_21 : decode bM_unlike 21 = .ok (.iconst (-1), 1) := by decide +kernel
theorem dM_unlike_22 : decode bM_unlike 22 = .ok (.if_icmp .ne 46, 3) := by decide +kernel
theorem dM_unlike_25 : decode bM_unlike 25 = .ok (.aload_n 0, 1) := by decide +kernel
theorem dM_unlike_26 : decode bM_unlike 26 = .ok (.invokevirtual 204, 3) := by decide +kernel
theorem dM_unlike_29 : decode bM_unlike 29 = .ok (.pop, 1) := by decide +kernel
theorem dM_unlike_30 : decode bM_unlike 30 = .ok (.aload_n 0, 1) := by decide +kernel
theorem dM_unlike_31 : decode bM_unlike 31 = .ok (.getfield 43, 3) := by decide +kernel
theorem dM_unlike_34 : decode bM_unlike 34 = .ok (.bipush 40, 2) := by decide +kernel
theorem dM_unlike_36 : decode bM_unlike 36 = .ok (.iload_n 1, 1) := by decide +kernel
theorem dM_unlike_37 : decode bM_unlike 37 = .ok (.imul, 1) := by decide +kernel
theorem dM_unlike_38 : decode bM_unlike 38 = .ok (.iload 4, 2) := by decide +kernel
theorem dM_unlike_40 : decode bM_unlike 40 = .ok (.iadd, 1) := by decide +kernel
theorem dM_unlike_41 : decode bM_unlike 41 = .ok (.iaload, 1) := by decide +kernel
theorem dM_unlike_42 : decode bM_unlike 42 = .ok (.aload_n 0, 1) := by decide +kernel
theorem dM_unlike_43 : decode bM_unlike 43 = .ok (.getfield 16, 3) := by decide +kernel
theorem dM_unlike_46 : decode bM_unlike 46 = .ok (.iconst 3, 1) := by decide +kernel
theorem dM_unlike_47 : decode bM_unlike 47 = .ok (.iload_n 2, 1) := by decide +kernel
theorem dM_unlike_48 : decode bM_unlike 48 = .ok (.imul, 1) := by decide +kernel
theorem dM_unlike_49 : decode bM_unlike 49 = .ok (.iconst 1, 1) := by decide +kernel
theorem dM_unlike_50 : decode bM_unlike 50 = .ok (.iadd, 1) := by decide +kernel
theorem dM_unlike_51 : decode bM_unlike 51 = .ok (.iaload, 1) := by decide +kernel
theorem dM_unlike_52 : decode bM_unlike 52 = .ok (.if_icmp .ne 7, 3) := by decide +kernel
theorem dM_unlike_55 : decode bM_unlike 55 = .ok (.iconst (-1), 1) := by decide +kernel
theorem dM_unlike_56 : decode bM_unlike 56 = .ok (.goto 5, 3) := by decide +kernel
theorem dM_unlike_59 : decode bM_unlike 59 = .ok (.iload 4, 2) := by decide +kernel
theorem dM_unlike_61 : decode bM_unlike 61 = .ok (.istore_n 3, 1) := by decide +kernel
theorem dM_unlike_62 : decode bM_unlike 62 = .ok (.iinc 4 1, 3) := by decide +kernel
theorem dM_unlike_65 : decode bM_unlike 65 = .ok (.goto (-56), 3) := by decide +kernel
theorem dM_unlike_68 : decode bM_unlike 68 = .ok (.aload_n 0, 1) := by decide +kernel
theorem dM_unlike_69 : decode bM_unlike 69 = .ok (.invokevirtual 219, 3) := by decide +kernel
theorem dM_unlike_72 : decode bM_unlike 72 = .ok (.iload_n 3, 1) := by decide +kernel
theorem dM_unlike_73 : decode bM_unlike 73 = .ok (.ireturn, 1) := by decide +kernel
theorem wM_unlike_61 {p : Program} {l : Launch} {e : Env} {s : State} {m : MethodId} {args : Array Value} {below : List Frame} {meth : Method} {c : Code} {G : GT} {I : List Nat} (C : CX p s m args meth c NM bM_unlike 5 (some .int) G I) (hI : mI I) {fu : Nat} {R1 : Int32} {Z : Sg} {rc9 : Int32 → Int32 → Int32 → Int32 → Sg → Option (Int32 × Sg)} (hr9 : ∀ {v1 : Int32} {v2 : Int32} {v3 : Int32} {v4 : Int32} {z : Sg} {H : Heap} {locs : List Loc} {ls : Array Slot}, rc9 v1 v2 v3 v4 z = some (R1, Z) → GW G I z s.heap H locs → lv_has ls 5 [(0, .ref (gA G 78)), (1, .int v1), (2, .int v2), (3, .int v3), (4, .int v4)] → W p l e rmM_unlike s m args below meth c H locs 0 0 (MQ below (Qi G I R1 Z) args s 0 0 (AD G I)) (F0 m 9 ls [])) {v1 : Int32} {v2 : Int32} {v4 : Int32} {t0 : Int32} {z : Sg} {H : Heap} {locs : List Loc} {ls : Array Slot} (h : pM_unlike_61 fu rc9 v1 v2 v4 t0 z = some (R1, Z)) (hG : GW G I z s.heap H locs) (hl : lv_has ls 5 [(0, .ref (gA G 78)), (1, .int v1), (2, .int v2), (4, .int v4)]) : W p l e rmM_unlike s m args below meth c H locs 0 0 (MQ below (Qi G I R1 Z) args s 0 0 (AD G I)) (F0 m 61 ls [.int t0]) := by
  unfold pM_unlike_61 at h
  refine rIstoreA_n C dM_unlike_61 hl (by decide) [(0, .ref (gA G 78)), (1, .int v1), (2, .int v2), (4, .int v4)] rfl (fun ls hl => ?_)
  refine rIinc C dM_unlike_62 hl 4 rfl (d := 1) (by decide) h (by decide) [(3, .int t0), (0, .ref (gA G 78)), (1, .int v1), (2, .int v2)] rfl (fun x5 ls h hl => ?_)
  refine lv_goto (tgt := 9) C.1 C.2.1 dM_unlike_65 (by decide) ?_
  exact hr9 h hG (lv_sub hl [2, 3, 4, 1, 0] rfl)
theorem wM_unlike_68 {p : Program} {l : Launch} {e : Env} {s : State} {m : MethodId} {args : Array Value} {below : List Frame} {meth : Method} {c : Code} {G : GT} {I : List Nat} (C : CX p s m args meth c NM bM_unlike 5 (some .int) G I) (hI : mI I) {fu : Nat} {R1 : Int32} {Z : Sg} {v3 : Int32} {z : Sg} {H : Heap} {locs : List Loc} {ls : Array Slot} (h : pM_unlike_68 fu v3 z = some (R1, Z)) (hG : GW G I z s.heap H locs) (hl : lv_has ls 5 [(0, .ref (gA G 78)), (3, .int v3)]) : W p l e rmM_unlike s m args below meth c H locs 0 0 (MQ below (Qi G I R1 Z) args s 0 0 (AD G I)) (F0 m 68 ls []) := by
  unfold pM_unlike_68 at h
  refine rAload_n C dM_unlike_68 hl 0 rfl ?_
  refine rCVv [] [] C hG h (fun h => cM_lays hI h) mvM_lays k_1041 ⟨Nat.le_of_ble_eq_true rfl, Nat.le_of_ble_eq_true rfl⟩ ⟨rfl, rfl⟩ (rRecv C hG (hI 78 (by decide) (by decide)) e_78 rfl) rfl hl.1 (Nat.le_of_ble_eq_true rfl) dM_unlike_69 ⟨Nat.zero_le _, Nat.zero_le _⟩ rfl (fun H locs z4 h hG => ?_)
  refine rIload_n C dM_unlike_72 hl 1 rfl ?_
  exact rReti C hG h dM_unlike_73
theorem wM_unlike_9 {p : Program} {l : Launch} {e : Env} {s : State} {m : MethodId} {args : Array Value} {below : List Frame} {meth : Method} {c : Code} {G : GT} {I : List Nat} (C : CX p s m args meth c NM bM_unlike 5 (some .int) G I) (hI : mI I) {fu : Nat} {R1 : Int32} {Z : Sg} : ∀ (k : Nat) {v1 : Int32} {v2 : Int32} {v3 : Int32} {v4 : Int32} {z : Sg} {H : Heap} {locs : List Loc} {ls : Array Slot}, pM_unlike_9 fu k v1 v2 v3 v4 z = some (R1, Z) → GW G I z s.heap H locs → lv_has ls 5 [(0, .ref (gA G 78)), (1, .int v1), (2, .int v2), (3, .int v3), (4, .int v4)] → W p l e rmM_unlike s m args below meth c H locs 0 0 (MQ below (Qi G I R1 Z) args s 0 0 (AD G I)) (F0 m 9 ls []) := by
  intro k
  induction k with
  | zero => intro v1 v2 v3 v4 z H locs ls h hG hl; rw [pM_unlike_9] at h; cases h
  | succ k ih =>
    intro v1 v2 v3 v4 z H locs ls h hG hl
    rw [pM_unlike_9] at h
    refine rIload C dM_unlike_9 hl 4 rfl ?_
    refine rAload_n C dM_unlike_11 hl 0 rfl ?_
    refine rGet C hG (hI 78 (by decide) (by decide)) e_78 fiM_15 (v := .ref (gA G 89)) rfl k_821 dM_unlike_12 ?_
    refine rIload_n C dM_unlike_15 hl 1 rfl ?_
    refine rIald C hG (hI 89 (by decide) (by decide)) e_89 h dM_unlike_16 (fun h => ?_)
    refine rIcmpge C (tgt := 68) h dM_unlike_17 (by decide) (fun h => ?_) (fun h => ?_)
    · exact wM_unlike_68 C hI h hG (lv_sub hl [0, 3] rfl)
    · refine rIload_n C dM_unlike_20 hl 3 rfl ?_
      refine lv_iconst (v := (-1)) C.1 C.2.1 dM_unlike_21 (by decide) ?_
      refine rIcmpne C (tgt := 68) h dM_unlike_22 (by decide) (fun h => ?_) (fun h => ?_)
      · exact wM_unlike_68 C hI h hG (lv_sub hl [0, 3] rfl)
      · refine rAload_n C dM_unlike_25 hl 0 rfl ?_
        refine rCVi [] [] C hG h (fun h => cM_strokeOf hI h) mvM_strokeOf k_1017 ⟨Nat.le_of_ble_eq_true rfl, Nat.le_of_ble_eq_true rfl⟩ ⟨rfl, rfl⟩ (rRecv C hG (hI 78 (by decide) (by decide)) e_78 rfl) rfl hl.1 (Nat.le_of_ble_eq_true rfl) dM_unlike_26 ⟨Nat.zero_le _, Nat.zero_le _⟩ rfl (fun H locs x3 z2 h hG => ?_)
        refine lv_pop C.1 C.2.1 dM_unlike_29 rfl ?_
        refine rAload_n C dM_unlike_30 hl 0 rfl ?_
        refine rGet C hG (hI 78 (by decide) (by decide)) e_78 fiM_16 (v := .ref (gA G 90)) rfl k_822 dM_unlike_31 ?_
        refine lv_bipush (v := 40) C.1 C.2.1 dM_unlike_34 (by decide) ?_
        refine rIload_n C dM_unlike_36 hl 1 rfl ?_
        refine lv_imul C.1 C.2.1 dM_unlike_37 ?_
        refine rIload C dM_unlike_38 hl 4 rfl ?_
        refine lv_iadd C.1 C.2.1 dM_unlike_40 ?_
        refine rIald C hG (hI 90 (by decide) (by decide)) e_90 h dM_unlike_41 (fun h => ?_)
        refine rAload_n C dM_unlike_42 hl 0 rfl ?_
        refine rGet C hG (hI 78 (by decide) (by decide)) e_78 fiM_3 (v := .ref (gA G 81)) rfl k_809 dM_unlike_43 ?_
        refine lv_iconst (v := 3) C.1 C.2.1 dM_unlike_46 (by decide) ?_
        refine rIload_n C dM_unlike_47 hl 2 rfl ?_
        refine lv_imul C.1 C.2.1 dM_unlike_48 ?_
        refine lv_iconst (v := 1) C.1 C.2.1 dM_unlike_49 (by decide) ?_
        refine lv_iadd C.1 C.2.1 dM_unlike_50 ?_
        refine rIald C hG (hI 81 (by decide) (by decide)) e_81 h dM_unlike_51 (fun h => ?_)
        refine rIcmpne C (tgt := 59) h dM_unlike_52 (by decide) (fun h => ?_) (fun h => ?_)
        · refine rIload C dM_unlike_59 hl 4 rfl ?_
          exact wM_unlike_61 C hI ih h hG (lv_sub hl [0, 1, 2, 4] rfl)
        · refine lv_iconst (v := (-1)) C.1 C.2.1 dM_unlike_55 (by decide) ?_
          refine lv_goto (tgt := 61) C.1 C.2.1 dM_unlike_56 (by decide) ?_
          exact wM_unlike_61 C hI ih h hG (lv_sub hl [0, 1, 2, 4] rfl)
theorem cM_unlike {l : Launch} {G : GT} {I : List Nat} (hI : mI I) {fu : Nat} {v1 : Int32} {v2 : Int32} {z : Sg} {R1 : Int32} {Z : Sg} (h : pM_unlike fu v1 v2 z = some (R1, Z)) : Mt l yM_unlike rmM_unlike bM_unlike 5 (some .int) G I z [.ref (gA G 78), .int v1, .int v2] (Qi G I R1 Z) := by
  refine entM (by decide +kernel) (Nat.le_of_ble_eq_true rfl) ?_
  intro p e s m below meth c C hG ls hl
  have hl : lv_has ls 5 [(0, .ref (gA G 78)), (1, .int v1), (2, .int v2)] := hl
  unfold pM_unlike at h
  refine lv_iconst (v := (-1)) C.1 C.2.1 dM_unlike_0 (by decide) ?_
  refine rIstoreA_n C dM_unlike_1 hl (by decide) [(0, .ref (gA G 78)), (1, .int v1), (2, .int v2)] rfl (fun ls hl => ?_)
  refine rAload_n C dM_unlike_2 hl 1 rfl ?_
  refine rCVv [] [] C hG h (fun h => cM_keeps hI h) mvM_keeps k_1025 ⟨Nat.le_of_ble_eq_true rfl, Nat.le_of_ble_eq_true rfl⟩ ⟨rfl, rfl⟩ (rRecv C hG (hI 78 (by decide) (by decide)) e_78 rfl) rfl hl.1 (Nat.le_of_ble_eq_true rfl) dM_unlike_3 ⟨Nat.zero_le _, Nat.zero_le _⟩ rfl (fun H locs z1 h hG => ?_)
  refine lv_iconst (v := 0) C.1 C.2.1 dM_unlike_6 (by decide) ?_
  refine rIstoreA C dM_unlike_7 hl (by decide) [(3, .int (-1)), (0, .ref (gA G 78)), (1, .int v1), (2, .int v2)] rfl (fun ls hl => ?_)
  exact wM_unlike_9 C hI _ h hG (lv_sub hl [2, 3, 4, 1, 0] rfl)
theorem dM_judge_0 : decode bM_judge 0 = .ok (.aload_n 0, 1) := by decide +kernel
theorem dM_judge_1 : decode bM_judge 1 = .ok (.iload_n 1, 1) := by decide +kernel
theorem dM_judge_2 : decode bM_judge 2 = .ok (.iload_n 2, 1) := by decide +kernel
theorem dM_judge_3 : decode bM_judge 3 = .ok (.invokevirtual 246, 3) := by decide +kernel
theorem dM_judge_6 : decode bM_judge 6 = .ok (.istore_n 3, 1) := by decide +kernel
theorem dM_judge_7 : decode bM_judge 7 = .ok (.iload_n 3, 1) := by decide +kernel
theorem dM_judge_8 : decode bM_judge 8 = .ok (.ifCond .ne 12, 3) := by decide +kernel
theorem dM_judge_11 : decode bM_judge 11 = .ok (.aload_n 0, 1) := by decide +kernel
theorem dM_judge_12 : decode bM_judge 12 = .ok (.iload_n 1, 1) := by decide +kernel
theorem dM_judge_13 : decode bM_judge 13 = .ok (.iload_n 2, 1) := by decide +kernel
theorem dM_judge_14 : decode bM_judge 14 = .ok (.invokevirtual 249, 3) := by decide +kernel
theorem dM_judge_17 : decode bM_judge 17 = .ok (.goto 4, 3) := by decide +kernel
theorem dM_judge_20 : decode bM_judge 20 = .ok (.iload_n 3, 1) := by decide +kernel
theorem dM_judge_21 : decode bM_judge 21 = .ok (.ireturn, 1) := by decide +kernel
theorem cM_judge {l : Launch} {G : GT} {I : List Nat} (hI : mI I) {fu : Nat} {v1 : Int32} {v2 : Int32} {z : Sg} {R1 : Int32} {Z : Sg} (h : pM_judge fu v1 v2 z = some (R1, Z)) : Mt l yM_judge rmM_judge bM_judge 4 (some .int) G I z [.ref (gA G 78), .int v1, .int v2] (Qi G I R1 Z) := by
  refine entM (by decide +kernel) (Nat.le_of_ble_eq_true rfl) ?_
  intro p e s m below meth c C hG ls hl
  have hl : lv_has ls 4 [(0, .ref (gA G 78)), (1, .int v1), (2, .int v2)] := hl
  unfold pM_judge at h
  refine rAload_n C dM_judge_0 hl 0 rfl ?_
  refine rIload_n C dM_judge_1 hl 1 rfl ?_
  refine rIload_n C dM_judge_2 hl 2 rfl ?_
  refine rCVi [.int v1, .int v2] [] C hG h (fun h => cM_toldWrong hI h) mvM_toldWrong k_1097 ⟨Nat.le_of_ble_eq_true rfl, Nat.le_of_ble_eq_true rfl⟩ ⟨rfl, rfl⟩ (rRecv C hG (hI 78 (by decide) (by decide)) e_78 rfl) rfl hl.1 (Nat.le_of_ble_eq_true rfl) dM_judge_3 ⟨Nat.zero_le _, Nat.zero_le _⟩ rfl (fun H locs x2 z1 h hG => ?_)
  refine rIstoreA_n C dM_judge_6 hl (by decide) [(0, .ref (gA G 78)), (1, .int v1), (2, .int v2)] rfl (fun ls hl => ?_)
  refine rIload_n C dM_judge_7 hl 0 rfl ?_
  refine rIfne C (tgt := 20) h dM_judge_8 (by decide) (fun h => ?_) (fun h => ?_)
  · refine rIload_n C dM_judge_20 hl 0 rfl ?_
    exact rReti C hG h dM_judge_21
  · refine rAload_n C dM_judge_11 hl 1 rfl ?_
    refine rIload_n C dM_judge_12 hl 2 rfl ?_
    refine rIload_n C dM_judge_13 hl 3 rfl ?_
    refine rCVi [.int v1, .int v2] [] C hG h (fun h => cM_unlike hI h) mvM_unlike k_1105 ⟨Nat.le_of_ble_eq_true rfl, Nat.le_of_ble_eq_true rfl⟩ ⟨rfl, rfl⟩ (rRecv C hG (hI 78 (by decide) (by decide)) e_78 rfl) rfl hl.1 (Nat.le_of_ble_eq_true rfl) dM_judge_14 ⟨Nat.zero_le _, Nat.zero_le _⟩ rfl (fun H locs x4 z3 h hG => ?_)
    refine lv_goto (tgt := 21) C.1 C.2.1 dM_judge_17 (by decide) ?_
    exact rReti C hG h dM_judge_21
