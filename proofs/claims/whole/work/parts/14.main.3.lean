theorem dS_laws_0 : decode bS_laws 0 = .ok (.aload_n 0, 1) := by decide +kernel
theorem dS_laws_1 : decode bS_laws 1 = .ok (.iload_n 1, 1) := by decide +kernel
theorem dS_laws_2 : decode bS_laws 2 = .ok (.iload_n 2, 1) := by decide +kernel
theorem dS_laws_3 : decode bS_laws 3 = .ok (.invokevirtual 206, 3) := by decide +kernel
theorem dS_laws_6 : decode bS_laws 6 = .ok (.istore_n 3, 1) := by decide +kernel
theorem dS_laws_7 : decode bS_laws 7 = .ok (.iload_n 3, 1) := by decide +kernel
theorem dS_laws_8 : decode bS_laws 8 = .ok (.ifCond .eq 5, 3) := by decide +kernel
theorem dS_laws_11 : decode bS_laws 11 = .ok (.iload_n 3, 1) := by decide +kernel
theorem dS_laws_12 : decode bS_laws 12 = .ok (.ireturn, 1) := by decide +kernel
theorem dS_laws_13 : decode bS_laws 13 = .ok (.iconst 0, 1) := by decide +kernel
theorem dS_laws_14 : decode bS_laws 14 = .ok (.istore 4, 2) := by decide +kernel
theorem dS_laws_16 : decode bS_laws 16 = .ok (.iconst 0, 1) := by decide +kernel
theorem dS_laws_17 : decode bS_laws 17 = .ok (.istore 5, 2) := by decide +kernel
theorem dS_laws_19 : decode bS_laws 19 = .ok (.iload 5, 2) := by decide +kernel
theorem dS_laws_21 : decode bS_laws 21 = .ok (.aload_n 0, 1) := by decide +kernel
theorem dS_laws_22 : decode bS_laws 22 = .ok (.getfield 86, 3) := by decide +kernel
theorem dS_laws_25 : decode bS_laws 25 = .ok (.if_icmp .ge 48, 3) := by decide +kernel
theorem dS_laws_28 : decode bS_laws 28 = .ok (.aload_n 0, 1) := by decide +kernel
theorem dS_laws_29 : decode bS_laws 29 = .ok (.getfield 53, 3) := by decide +kernel
theorem dS_laws_32 : decode bS_laws 32 = .ok (.aload_n 0, 1) := by decide +kernel
theorem dS_laws_33 : decode bS_laws 33 = .ok (.getfield 49, 3) := by decide +kernel
theorem dS_laws_36 : decode bS_laws 36 = .ok (.invokevirtual 166, 3) := by decide +kernel
theorem dS_laws_39 : decode bS_laws 39 = .ok (.aload_n 0, 1) := by decide +kernel
theorem dS_laws_40 : decode bS_laws 40 = .ok (.getfield 53, 3) := by decide +kernel
theorem dS_laws_43 : decode bS_laws 43 = .ok (.iload 5, 2) := by decide +kernel
theorem dS_laws_45 : decode bS_laws 45 = .ok (.putfield 102, 3) := by decide +kernel
theorem dS_laws_48 : decode bS_laws 48 = .ok (.aload_n 0, 1) := by decide +kernel
theorem dS_laws_49 : decode bS_laws 49 = .ok (.iload_n 1, 1) := by decide +kernel
theorem dS_laws_50 : decode bS_laws 50 = .ok (.iload_n 2, 1) := by decide +kernel
theorem dS_laws_51 : decode bS_laws 51 = .ok (.invokevirtual 209, 3) := by decide +kernel
theorem dS_laws_54 : decode bS_laws 54 = .ok (.iconst (-1), 1) := by decide +kernel
theorem dS_laws_55 : decode bS_laws 55 = .ok (.if_icmp .ne 12, 3) := by decide +kernel
theorem dS_laws_58 : decode bS_laws 58 = .ok (.iload 4, 2) := by decide +kernel
theorem dS_laws_60 : decode bS_laws 60 = .ok (.iconst 1, 1) := by decide +kernel
theorem dS_laws_61 : decode bS_laws 61 = .ok (.iload 5, 2) := by decide +kernel
theorem dS_laws_63 : decode bS_laws 63 = .ok (.ishl, 1) := by decide +kernel
theorem dS_laws_64 : decode bS_laws 64 = .ok (.ior, 1) := by decide +kernel
theorem dS_laws_65 : decode bS_laws 65 = .ok (.istore 4, 2) := by decide +kernel
theorem dS_laws_67 : decode bS_laws 67 = .ok (.iinc 5 1, 3) := by decide +kernel
theorem dS_laws_70 : decode bS_laws 70 = .ok (.goto (-51), 3) := by decide +kernel
theorem dS_laws_73 : decode bS_laws 73 = .ok (.iload 4, 2) := by decide +kernel
theorem dS_laws_75 : decode bS_laws 75 = .ok (.ireturn, 1) := by decide +kernel
theorem wS_laws_67 {p : Program} {l : Launch} {e : Env} {s : State} {m : MethodId} {args : Array Value} {below : List Frame} {meth : Method} {c : Code} {G : GT} {I : List Nat} (C : CX p s m args meth c NS bS_laws 6 (some .int) G I) (hI : cI I) {fu : Nat} {R1 : Int32} {Z : Sg} {rc19 : Int32 → Int32 → Int32 → Int32 → Sg → Option (Int32 × Sg)} (hr19 : ∀ {v1 : Int32} {v2 : Int32} {v4 : Int32} {v5 : Int32} {z : Sg} {H : Heap} {locs : List Loc} {ls : Array Slot}, rc19 v1 v2 v4 v5 z = some (R1, Z) → GW G I z s.heap H locs → lv_has ls 6 [(0, .ref (gA G 0)), (1, .int v1), (2, .int v2), (4, .int v4), (5, .int v5)] → W p l e rmS_laws s m args below meth c H locs 0 0 (MQ below (Qi G I R1 Z) args s 0 0 (AD G I)) (F0 m 19 ls [])) {v1 : Int32} {v2 : Int32} {v4 : Int32} {v5 : Int32} {z : Sg} {H : Heap} {locs : List Loc} {ls : Array Slot} (h : pS_laws_67 fu rc19 v1 v2 v4 v5 z = some (R1, Z)) (hG : GW G I z s.heap H locs) (hl : lv_has ls 6 [(0, .ref (gA G 0)), (1, .int v1), (2, .int v2), (4, .int v4), (5, .int v5)]) : W p l e rmS_laws s m args below meth c H locs 0 0 (MQ below (Qi G I R1 Z) args s 0 0 (AD G I)) (F0 m 67 ls []) := by
  unfold pS_laws_67 at h
  refine rIinc C dS_laws_67 hl 4 rfl (d := 1) (by decide) h (by decide) [(0, .ref (gA G 0)), (1, .int v1), (2, .int v2), (4, .int v4)] rfl (fun x8 ls h hl => ?_)
  refine lv_goto (tgt := 19) C.1 C.2.1 dS_laws_70 (by decide) ?_
  exact hr19 h hG (lv_sub hl [1, 2, 3, 4, 0] rfl)
theorem wS_laws_19 {p : Program} {l : Launch} {e : Env} {s : State} {m : MethodId} {args : Array Value} {below : List Frame} {meth : Method} {c : Code} {G : GT} {I : List Nat} (C : CX p s m args meth c NS bS_laws 6 (some .int) G I) (hI : cI I) {fu : Nat} {R1 : Int32} {Z : Sg} : ∀ (k : Nat) {v1 : Int32} {v2 : Int32} {v4 : Int32} {v5 : Int32} {z : Sg} {H : Heap} {locs : List Loc} {ls : Array Slot}, pS_laws_19 fu k v1 v2 v4 v5 z = some (R1, Z) → GW G I z s.heap H locs → lv_has ls 6 [(0, .ref (gA G 0)), (1, .int v1), (2, .int v2), (4, .int v4), (5, .int v5)] → W p l e rmS_laws s m args below meth c H locs 0 0 (MQ below (Qi G I R1 Z) args s 0 0 (AD G I)) (F0 m 19 ls []) := by
  intro k
  induction k with
  | zero => intro v1 v2 v4 v5 z H locs ls h hG hl; rw [pS_laws_19] at h; cases h
  | succ k ih =>
    intro v1 v2 v4 v5 z H locs ls h hG hl
    rw [pS_laws_19] at h
    refine rIload C dS_laws_19 hl 4 rfl ?_
    refine rAload_n C dS_laws_21 hl 0 rfl ?_
    refine rGet C hG (hI 0 (by decide)) e_0 fiS_8 (v := .int (z 0 8)) rfl k_377 dS_laws_22 ?_
    refine rIcmpge C (tgt := 73) h dS_laws_25 (by decide) (fun h => ?_) (fun h => ?_)
    · refine rIload C dS_laws_73 hl 3 rfl ?_
      exact rReti C hG h dS_laws_75
    · refine rAload_n C dS_laws_28 hl 0 rfl ?_
      refine rGet C hG (hI 0 (by decide)) e_0 fiS_6 (v := .ref (gA G 20)) rfl k_375 dS_laws_29 ?_
      refine rAload_n C dS_laws_32 hl 0 rfl ?_
      refine rGet C hG (hI 0 (by decide)) e_0 fiS_5 (v := .ref (gA G 9)) rfl k_374 dS_laws_33 ?_
      refine rCVv [.ref (gA G 9)] [] C hG h (fun h => cR_become hI row20 row9 h) mvR_become k_552 ⟨Nat.le_of_ble_eq_true rfl, Nat.le_of_ble_eq_true rfl⟩ ⟨rfl, rfl⟩ (rRecv C hG (hI 20 (by decide)) e_20 rfl) rfl hl.1 (Nat.le_of_ble_eq_true rfl) dS_laws_36 ⟨Nat.zero_le _, Nat.zero_le _⟩ rfl (fun H locs z3 h hG => ?_)
      refine rAload_n C dS_laws_39 hl 0 rfl ?_
      refine rGet C hG (hI 0 (by decide)) e_0 fiS_6 (v := .ref (gA G 20)) rfl k_375 dS_laws_40 ?_
      refine rIload C dS_laws_43 hl 4 rfl ?_
      refine rPut C hG (hI 20 (by decide)) e_20 fiR_4 tokR nmR rfl (fpR_4 _) (Nat.le_of_ble_eq_true rfl) rfl rfl k_147 h dS_laws_45 (fun H locs z4 h hG => ?_)
      refine rAload_n C dS_laws_48 hl 0 rfl ?_
      refine rIload_n C dS_laws_49 hl 1 rfl ?_
      refine rIload_n C dS_laws_50 hl 2 rfl ?_
      refine rCVi [.int v1, .int v2] [] C hG h (fun h => cS_firstOtherwise hI h) mvS_firstOtherwise k_655 ⟨Nat.le_of_ble_eq_true rfl, Nat.le_of_ble_eq_true rfl⟩ ⟨rfl, rfl⟩ (rRecv C hG (hI 0 (by decide)) e_0 rfl) rfl hl.1 (Nat.le_of_ble_eq_true rfl) dS_laws_51 ⟨Nat.zero_le _, Nat.zero_le _⟩ rfl (fun H locs x6 z5 h hG => ?_)
      refine lv_iconst (v := (-1)) C.1 C.2.1 dS_laws_54 (by decide) ?_
      refine rIcmpne C (tgt := 67) h dS_laws_55 (by decide) (fun h => ?_) (fun h => ?_)
      · exact wS_laws_67 C hI ih h hG (lv_sub hl [0, 1, 2, 3, 4] rfl)
      · refine rIload C dS_laws_58 hl 3 rfl ?_
        refine lv_iconst (v := 1) C.1 C.2.1 dS_laws_60 (by decide) ?_
        refine rIload C dS_laws_61 hl 4 rfl ?_
        refine lv_ishl C.1 C.2.1 dS_laws_63 ?_
        refine lv_ior C.1 C.2.1 dS_laws_64 ?_
        refine rIstore C dS_laws_65 hl h (by decide) [(0, .ref (gA G 0)), (1, .int v1), (2, .int v2), (5, .int v5)] rfl (fun x7 ls h hl => ?_)
        exact wS_laws_67 C hI ih h hG (lv_sub hl [1, 2, 3, 0, 4] rfl)
theorem cS_laws {l : Launch} {G : GT} {I : List Nat} (hI : cI I) {fu : Nat} {v1 : Int32} {v2 : Int32} {z : Sg} {R1 : Int32} {Z : Sg} (h : pS_laws fu v1 v2 z = some (R1, Z)) : Mt l yS_laws rmS_laws bS_laws 6 (some .int) G I z [.ref (gA G 0), .int v1, .int v2] (Qi G I R1 Z) := by
  refine entM (by decide +kernel) (Nat.le_of_ble_eq_true rfl) ?_
  intro p e s m below meth c C hG ls hl
  have hl : lv_has ls 6 [(0, .ref (gA G 0)), (1, .int v1), (2, .int v2)] := hl
  unfold pS_laws at h
  refine rAload_n C dS_laws_0 hl 0 rfl ?_
  refine rIload_n C dS_laws_1 hl 1 rfl ?_
  refine rIload_n C dS_laws_2 hl 2 rfl ?_
  refine rCVi [.int v1, .int v2] [] C hG h (fun h => cS_refusalOfOne hI h) mvS_refusalOfOne k_643 ⟨Nat.le_of_ble_eq_true rfl, Nat.le_of_ble_eq_true rfl⟩ ⟨rfl, rfl⟩ (rRecv C hG (hI 0 (by decide)) e_0 rfl) rfl hl.1 (Nat.le_of_ble_eq_true rfl) dS_laws_3 ⟨Nat.zero_le _, Nat.zero_le _⟩ rfl (fun H locs x2 z1 h hG => ?_)
  refine rIstoreA_n C dS_laws_6 hl (by decide) [(0, .ref (gA G 0)), (1, .int v1), (2, .int v2)] rfl (fun ls hl => ?_)
  refine rIload_n C dS_laws_7 hl 0 rfl ?_
  refine rIfeq C (tgt := 13) h dS_laws_8 (by decide) (fun h => ?_) (fun h => ?_)
  · refine lv_iconst (v := 0) C.1 C.2.1 dS_laws_13 (by decide) ?_
    refine rIstoreA C dS_laws_14 hl (by decide) [(3, .int x2), (0, .ref (gA G 0)), (1, .int v1), (2, .int v2)] rfl (fun ls hl => ?_)
    refine lv_iconst (v := 0) C.1 C.2.1 dS_laws_16 (by decide) ?_
    refine rIstoreA C dS_laws_17 hl (by decide) [(4, .int 0), (3, .int x2), (0, .ref (gA G 0)), (1, .int v1), (2, .int v2)] rfl (fun ls hl => ?_)
    exact wS_laws_19 C hI _ h hG (lv_sub hl [3, 4, 5, 1, 0] rfl)
  · refine rIload_n C dS_laws_11 hl 0 rfl ?_
    exact rReti C hG h dS_laws_12
theorem dS_film_0 : decode bS_film 0 = .ok (.iload_n 1, 1) := by decide +kernel
theorem dS_film_1 : decode bS_film 1 = .ok (.iconst 3, 1) := by decide +kernel
theorem dS_film_2 : decode bS_film 2 = .ok (.invokestatic 108, 3) := by decide +kernel
theorem dS_film_5 : decode bS_film 5 = .ok (.ifCond .ne 6, 3) := by decide +kernel
theorem dS_film_8 : decode bS_film 8 = .ok (.bipush (-2), 2) := by decide +kernel
theorem dS_film_10 : decode bS_film 10 = .ok (.ireturn, 1) := by decide +kernel
theorem dS_film_11 : decode bS_film 11 = .ok (.aload_n 0, 1) := by decide +kernel
theorem dS_film_12 : decode bS_film 12 = .ok (.getfield 49, 3) := by decide +kernel
theorem dS_film_15 : decode bS_film 15 = .ok (.iload_n 2, 1) := by decide +kernel
theorem dS_film_16 : decode bS_film 16 = .ok (.invokevirtual 122, 3) := by decide +kernel
theorem dS_film_19 : decode bS_film 19 = .ok (.ifCond .ne 6, 3) := by decide +kernel
theorem dS_film_22 : decode bS_film 22 = .ok (.bipush (-5), 2) := by decide +kernel
theorem dS_film_24 : decode bS_film 24 = .ok (.ireturn, 1) := by decide +kernel
theorem dS_film_25 : decode bS_film 25 = .ok (.iload_n 3, 1) := by decide +kernel
theorem dS_film_26 : decode bS_film 26 = .ok (.bipush 20, 2) := by decide +kernel
theorem dS_film_28 : decode bS_film 28 = .ok (.invokestatic 108, 3) := by decide +kernel
theorem dS_film_31 : decode bS_film 31 = .ok (.ifCond .ne 6, 3) := by decide +kernel
theorem dS_film_34 : decode bS_film 34 = .ok (.bipush (-7), 2) := by decide +kernel
theorem dS_film_36 : decode bS_film 36 = .ok (.ireturn, 1) := by decide +kernel
theorem dS_film_37 : decode bS_film 37 = .ok (.aload_n 0, 1) := by decide +kernel
theorem dS_film_38 : decode bS_film 38 = .ok (.getfield 53, 3) := by decide +kernel
theorem dS_film_41 : decode bS_film 41 = .ok (.aload_n 0, 1) := by decide +kernel
theorem dS_film_42 : decode bS_film 42 = .ok (.getfield 49, 3) := by decide +kernel
theorem dS_film_45 : decode bS_film 45 = .ok (.invokevirtual 166, 3) := by decide +kernel
theorem dS_film_48 : decode bS_film 48 = .ok (.aload_n 0, 1) := by decide +kernel
theorem dS_film_49 : decode bS_film 49 = .ok (.getfield 17, 3) := by decide +kernel
theorem dS_film_52 : decode bS_film 52 = .ok (.iload_n 1, 1) := by decide +kernel
theorem dS_film_53 : decode bS_film 53 = .ok (.aaload, 1) := by decide +kernel
theorem dS_film_54 : decode bS_film 54 = .ok (.iconst 0, 1) := by decide +kernel
theorem dS_film_55 : decode bS_film 55 = .ok (.iload_n 3, 1) := by decide +kernel
theorem dS_film_56 : decode bS_film 56 = .ok (.invokevirtual 223, 3) := by decide +kernel
theorem dS_film_59 : decode bS_film 59 = .ok (.iconst 0, 1) := by decide +kernel
theorem dS_film_60 : decode bS_film 60 = .ok (.istore 4, 2) := by decide +kernel
theorem dS_film_62 : decode bS_film 62 = .ok (.iload 4, 2) := by decide +kernel
theorem dS_film_64 : decode bS_film 64 = .ok (.iload_n 3, 1) := by decide +kernel
theorem dS_film_65 : decode bS_film 65 = .ok (.if_icmp .ge 39, 3) := by decide +kernel
theorem dS_film_68 : decode bS_film 68 = .ok (.aload_n 0, 1) := by decide +kernel
theorem dS_film_69 : decode bS_film 69 = .ok (.getfield 53, 3) := by decide +kernel
theorem dS_film_72 : decode bS_film 72 = .ok (.invokevirtual 163, 3) := by decide +kernel
theorem dS_film_75 : decode bS_film 75 = .ok (.pop, 1) := by decide +kernel
theorem dS_film_76 : decode bS_film 76 = .ok (.aload_n 0, 1) := by decide +kernel
theorem dS_film_77 : decode bS_film 77 = .ok (.getfield 17, 3) := by decide +kernel
theorem dS_film_80 : decode bS_film 80 = .ok (.iload_n 1, 1) := by decide +kernel
theorem dS_film_81 : decode bS_film 81 = .ok (.aaload, 1) := by decide +kernel
theorem dS_film_82 : decode bS_film 82 = .ok (.iload 4, 2) := by decide +kernel
theorem dS_film_84 : decode bS_film 84 = .ok (.aload_n 0, 1) := by decide +kernel
theorem dS_film_85 : decode bS_film 85 = .ok (.getfield 53, 3) := by decide +kernel
theorem dS_film_88 : decode bS_film 88 = .ok (.getfield 143, 3) := by decide +kernel
theorem dS_film_91 : decode bS_film 91 = .ok (.iconst 1, 1) := by decide +kernel
theorem dS_film_92 : decode bS_film 92 = .ok (.aaload, 1) := by decide +kernel
theorem dS_film_93 : decode bS_film 93 = .ok (.iload_n 2, 1) := by decide +kernel
theorem dS_film_94 : decode bS_film 94 = .ok (.iaload, 1) := by decide +kernel
theorem dS_film_95 : decode bS_film 95 = .ok (.invokevirtual 226, 3) := by decide +kernel
theorem dS_film_98 : decode bS_film 98 = .ok (.iinc 4 1, 3) := by decide +kernel
theorem dS_film_101 : decode bS_film 101 = .ok (.goto (-39), 3) := by decide +kernel
theorem dS_film_104 : decode bS_film 104 = .ok (.iload_n 3, 1) := by decide +kernel
theorem dS_film_105 : decode bS_film 105 = .ok (.ireturn, 1) := by decide +kernel
theorem wS_film_62 {p : Program} {l : Launch} {e : Env} {s : State} {m : MethodId} {args : Array Value} {below : List Frame} {meth : Method} {c : Code} {G : GT} {I : List Nat} (C : CX p s m args meth c NS bS_film 5 (some .int) G I) (hI : cI I) {fu : Nat} {R1 : Int32} {Z : Sg} : ∀ (k : Nat) {v1 : Int32} {v2 : Int32} {v3 : Int32} {v4 : Int32} {z : Sg} {H : Heap} {locs : List Loc} {ls : Array Slot}, pS_film_62 fu k v1 v2 v3 v4 z = some (R1, Z) → GW G I z s.heap H locs → lv_has ls 5 [(0, .ref (gA G 0)), (1, .int v1), (2, .int v2), (3, .int v3), (4, .int v4)] → W p l e rmS_film s m args below meth c H locs 0 0 (MQ below (Qi G I R1 Z) args s 0 0 (AD G I)) (F0 m 62 ls []) := by
  intro k
  induction k with
  | zero => intro v1 v2 v3 v4 z H locs ls h hG hl; rw [pS_film_62] at h; cases h
  | succ k ih =>
    intro v1 v2 v3 v4 z H locs ls h hG hl
    rw [pS_film_62] at h
    refine rIload C dS_film_62 hl 4 rfl ?_
    refine rIload_n C dS_film_64 hl 3 rfl ?_
    refine rIcmpge C (tgt := 104) h dS_film_65 (by decide) (fun h => ?_) (fun h => ?_)
    · refine rIload_n C dS_film_104 hl 3 rfl ?_
      exact rReti C hG h dS_film_105
    · refine rAload_n C dS_film_68 hl 0 rfl ?_
      refine rGet C hG (hI 0 (by decide)) e_0 fiS_6 (v := .ref (gA G 20)) rfl k_375 dS_film_69 ?_
      refine rCVi [] [] C hG h (fun h => cR_swingOn hI row20 h) mvR_swingOn k_540 ⟨Nat.le_of_ble_eq_true rfl, Nat.le_of_ble_eq_true rfl⟩ ⟨rfl, rfl⟩ (rRecv C hG (hI 20 (by decide)) e_20 rfl) rfl hl.1 (Nat.le_of_ble_eq_true rfl) dS_film_72 ⟨Nat.zero_le _, Nat.zero_le _⟩ rfl (fun H locs x10 z9 h hG => ?_)
      refine lv_pop C.1 C.2.1 dS_film_75 rfl ?_
      refine rAload_n C dS_film_76 hl 0 rfl ?_
      refine rGet C hG (hI 0 (by decide)) e_0 fiS_1 (v := .ref (gA G 2)) rfl k_370 dS_film_77 ?_
      refine rIload_n C dS_film_80 hl 1 rfl ?_
      refine rAald C hG (hI 2 (by decide)) e_2 (t0 := 2) rfl rfl h dS_film_81 (fun hq81 h => ?_)
      refine rIload C dS_film_82 hl 4 rfl ?_
      refine rAload_n C dS_film_84 hl 0 rfl ?_
      refine rGet C hG (hI 0 (by decide)) e_0 fiS_6 (v := .ref (gA G 20)) rfl k_375 dS_film_85 ?_
      refine rGet C hG (hI 20 (by decide)) e_20 fiR_2 (v := .ref (gA G 22)) rfl k_143 dS_film_88 ?_
      refine lv_iconst (v := 1) C.1 C.2.1 dS_film_91 (by decide) ?_
      refine rAaldK C hG (hI 22 (by decide)) e_22 (t0 := 3) rfl rfl 1 (by decide) (by decide) 24 rfl dS_film_92 ?_
      refine rIload_n C dS_film_93 hl 2 rfl ?_
      refine rIald C hG (hI 24 (by decide)) e_24 h dS_film_94 (fun h => ?_)
      refine rCVv [.int v4, .int (ga z9 24 v2)] [] C hG h (fun h => cH_write hI (isSheet.of hq81) h) mvH_write k_695 ⟨Nat.le_of_ble_eq_true rfl, Nat.le_of_ble_eq_true rfl⟩ ⟨rfl, rfl⟩ (rRecv C hG (hI _ (isSheet.of hq81).lt0) (eH_0 (isSheet.of hq81)) rfl) rfl hl.1 (Nat.le_of_ble_eq_true rfl) dS_film_95 ⟨Nat.zero_le _, Nat.zero_le _⟩ rfl (fun H locs z11 h hG => ?_)
      refine rIinc C dS_film_98 hl 4 rfl (d := 1) (by decide) h (by decide) [(0, .ref (gA G 0)), (1, .int v1), (2, .int v2), (3, .int v3)] rfl (fun x12 ls h hl => ?_)
      refine lv_goto (tgt := 62) C.1 C.2.1 dS_film_101 (by decide) ?_
      exact ih h hG (lv_sub hl [1, 2, 3, 4, 0] rfl)
theorem cS_film {l : Launch} {G : GT} {I : List Nat} (hI : cI I) {fu : Nat} {v1 : Int32} {v2 : Int32} {v3 : Int32} {z : Sg} {R1 : Int32} {Z : Sg} (h : pS_film fu v1 v2 v3 z = some (R1, Z)) : Mt l yS_film rmS_film bS_film 5 (some .int) G I z [.ref (gA G 0), .int v1, .int v2, .int v3] (Qi G I R1 Z) := by
  refine entM (by decide +kernel) (Nat.le_of_ble_eq_true rfl) ?_
  intro p e s m below meth c C hG ls hl
  have hl : lv_has ls 5 [(0, .ref (gA G 0)), (1, .int v1), (2, .int v2), (3, .int v3)] := hl
  unfold pS_film at h
  refine rIload_n C dS_film_0 hl 1 rfl ?_
  refine lv_iconst (v := 3) C.1 C.2.1 dS_film_1 (by decide) ?_
  refine rCSi [.int v1, .int 3] [] C hG h (fun h => cS_within hI h) mvS_within k_423 ⟨Nat.le_of_ble_eq_true rfl, Nat.le_of_ble_eq_true rfl⟩ ⟨rfl, rfl⟩ rfl hl.1 (Nat.le_of_ble_eq_true rfl) dS_film_2 ⟨Nat.zero_le _, Nat.zero_le _⟩ rfl (fun H locs x2 z1 h hG => ?_)
  refine rIfne C (tgt := 11) h dS_film_5 (by decide) (fun h => ?_) (fun h => ?_)
  · refine rAload_n C dS_film_11 hl 0 rfl ?_
    refine rGet C hG (hI 0 (by decide)) e_0 fiS_5 (v := .ref (gA G 9)) rfl k_374 dS_film_12 ?_
    refine rIload_n C dS_film_15 hl 2 rfl ?_
    refine rCVi [.int v2] [] C hG h (fun h => cR_has hI row9 h) mvR_has k_452 ⟨Nat.le_of_ble_eq_true rfl, Nat.le_of_ble_eq_true rfl⟩ ⟨rfl, rfl⟩ (rRecv C hG (hI 9 (by decide)) e_9 rfl) rfl hl.1 (Nat.le_of_ble_eq_true rfl) dS_film_16 ⟨Nat.zero_le _, Nat.zero_le _⟩ rfl (fun H locs x4 z3 h hG => ?_)
    refine rIfne C (tgt := 25) h dS_film_19 (by decide) (fun h => ?_) (fun h => ?_)
    · refine rIload_n C dS_film_25 hl 3 rfl ?_
      refine lv_bipush (v := 20) C.1 C.2.1 dS_film_26 (by decide) ?_
      refine rCSi [.int v3, .int 20] [] C hG h (fun h => cS_within hI h) mvS_within k_423 ⟨Nat.le_of_ble_eq_true rfl, Nat.le_of_ble_eq_true rfl⟩ ⟨rfl, rfl⟩ rfl hl.1 (Nat.le_of_ble_eq_true rfl) dS_film_28 ⟨Nat.zero_le _, Nat.zero_le _⟩ rfl (fun H locs x6 z5 h hG => ?_)
      refine rIfne C (tgt := 37) h dS_film_31 (by decide) (fun h => ?_) (fun h => ?_)
      · refine rAload_n C dS_film_37 hl 0 rfl ?_
        refine rGet C hG (hI 0 (by decide)) e_0 fiS_6 (v := .ref (gA G 20)) rfl k_375 dS_film_38 ?_
        refine rAload_n C dS_film_41 hl 0 rfl ?_
        refine rGet C hG (hI 0 (by decide)) e_0 fiS_5 (v := .ref (gA G 9)) rfl k_374 dS_film_42 ?_
        refine rCVv [.ref (gA G 9)] [] C hG h (fun h => cR_become hI row20 row9 h) mvR_become k_552 ⟨Nat.le_of_ble_eq_true rfl, Nat.le_of_ble_eq_true rfl⟩ ⟨rfl, rfl⟩ (rRecv C hG (hI 20 (by decide)) e_20 rfl) rfl hl.1 (Nat.le_of_ble_eq_true rfl) dS_film_45 ⟨Nat.zero_le _, Nat.zero_le _⟩ rfl (fun H locs z7 h hG => ?_)
        refine rAload_n C dS_film_48 hl 0 rfl ?_
        refine rGet C hG (hI 0 (by decide)) e_0 fiS_1 (v := .ref (gA G 2)) rfl k_370 dS_film_49 ?_
        refine rIload_n C dS_film_52 hl 1 rfl ?_
        refine rAald C hG (hI 2 (by decide)) e_2 (t0 := 2) rfl rfl h dS_film_53 (fun hq53 h => ?_)
        refine lv_iconst (v := 0) C.1 C.2.1 dS_film_54 (by decide) ?_
        refine rIload_n C dS_film_55 hl 3 rfl ?_
        refine rCVv [.int 0, .int v3] [] C hG h (fun h => cH_remake hI (isSheet.of hq53) h) mvH_remake k_691 ⟨Nat.le_of_ble_eq_true rfl, Nat.le_of_ble_eq_true rfl⟩ ⟨rfl, rfl⟩ (rRecv C hG (hI _ (isSheet.of hq53).lt0) (eH_0 (isSheet.of hq53)) rfl) rfl hl.1 (Nat.le_of_ble_eq_true rfl) dS_film_56 ⟨Nat.zero_le _, Nat.zero_le _⟩ rfl (fun H locs z8 h hG => ?_)
        refine lv_iconst (v := 0) C.1 C.2.1 dS_film_59 (by decide) ?_
        refine rIstoreA C dS_film_60 hl (by decide) [(0, .ref (gA G 0)), (1, .int v1), (2, .int v2), (3, .int v3)] rfl (fun ls hl => ?_)
        exact wS_film_62 C hI _ h hG (lv_sub hl [1, 2, 3, 4, 0] rfl)
      · refine lv_bipush (v := (-7)) C.1 C.2.1 dS_film_34 (by decide) ?_
        exact rReti C hG h dS_film_36
    · refine lv_bipush (v := (-5)) C.1 C.2.1 dS_film_22 (by decide) ?_
      exact rReti C hG h dS_film_24
  · refine lv_bipush (v := (-2)) C.1 C.2.1 dS_film_8 (by decide) ?_
    exact rReti C hG h dS_film_10
theorem dS_drawn_0 : decode bS_drawn 0 = .ok (.iload_n 1, 1) := by decide +kernel
theorem dS_drawn_1 : decode bS_drawn 1 = .ok (.ldc 229, 2) := by decide +kernel
theorem dS_drawn_3 : decode bS_drawn 3 = .ok (.invokestatic 108, 3) := by decide +kernel
theorem dS_drawn_6 : decode bS_drawn 6 = .ok (.ifCond .eq 11, 3) := by decide +kernel
theorem dS_drawn_9 : decode bS_drawn 9 = .ok (.iload_n 2, 1) := by decide +kernel
theorem dS_drawn_10 : decode bS_drawn 10 = .ok (.iconst 1, 1) := by decide +kernel
theorem dS_drawn_11 : decode bS_drawn 11 = .ok (.invokestatic 108, 3) := by decide +kernel
theorem dS_drawn_14 : decode bS_drawn 14 = .ok (.ifCond .ne 6, 3) := by decide +kernel
theorem dS_drawn_17 : decode bS_drawn 17 = .ok (.bipush (-2), 2) := by decide +kernel
theorem dS_drawn_19 : decode bS_drawn 19 = .ok (.ireturn, 1) := by decide +kernel
theorem dS_drawn_20 : decode bS_drawn 20 = .ok (.aload_n 0, 1) := by decide +kernel
theorem dS_drawn_21 : decode bS_drawn 21 = .ok (.getfield 53, 3) := by decide +kernel
theorem dS_drawn_24 : decode bS_drawn 24 = .ok (.aload_n 0, 1) := by decide +kernel
theorem dS_drawn_25 : decode bS_drawn 25 = .ok (.getfield 49, 3) := by decide +kernel
theorem dS_drawn_28 : decode bS_drawn 28 = .ok (.invokevirtual 166, 3) := by decide +kernel
theorem dS_drawn_31 : decode bS_drawn 31 = .ok (.aload_n 0, 1) := by decide +kernel
theorem dS_drawn_32 : decode bS_drawn 32 = .ok (.getfield 53, 3) := by decide +kernel
theorem dS_drawn_35 : decode bS_drawn 35 = .ok (.iload_n 1, 1) := by decide +kernel
theorem dS_drawn_36 : decode bS_drawn 36 = .ok (.invokevirtual 230, 3) := by decide +kernel
theorem dS_drawn_39 : decode bS_drawn 39 = .ok (.istore_n 3, 1) := by decide +kernel
theorem dS_drawn_40 : decode bS_drawn 40 = .ok (.iload_n 2, 1) := by decide +kernel
theorem dS_drawn_41 : decode bS_drawn 41 = .ok (.ifCond .ne 7, 3) := by decide +kernel
theorem dS_drawn_44 : decode bS_drawn 44 = .ok (.iload_n 3, 1) := by decide +kernel
theorem dS_drawn_45 : decode bS_drawn 45 = .ok (.goto 10, 3) := by decide +kernel
theorem dS_drawn_48 : decode bS_drawn 48 = .ok (.aload_n 0, 1) := by decide +kernel
theorem dS_drawn_49 : decode bS_drawn 49 = .ok (.getfield 53, 3) := by decide +kernel
theorem dS_drawn_52 : decode bS_drawn 52 = .ok (.invokevirtual 93, 3) := by decide +kernel
theorem dS_drawn_55 : decode bS_drawn 55 = .ok (.ireturn, 1) := by decide +kernel
theorem cS_drawn {l : Launch} {G : GT} {I : List Nat} (hI : cI I) {fu : Nat} {v1 : Int32} {v2 : Int32} {z : Sg} {R1 : Int32} {Z : Sg} (h : pS_drawn fu v1 v2 z = some (R1, Z)) : Mt l yS_drawn rmS_drawn bS_drawn 4 (some .int) G I z [.ref (gA G 0), .int v1, .int v2] (Qi G I R1 Z) := by
  refine entM (by decide +kernel) (Nat.le_of_ble_eq_true rfl) ?_
  intro p e s m below meth c C hG ls hl
  have hl : lv_has ls 4 [(0, .ref (gA G 0)), (1, .int v1), (2, .int v2)] := hl
  unfold pS_drawn at h
  refine rIload_n C dS_drawn_0 hl 1 rfl ?_
  refine lv_ldc C.1 C.2.1 C.2.2.2.1 (C.2.2.2.2.1 _ k_703) dS_drawn_1 ?_
  refine rCSi [.int v1, .int 99999] [] C hG h (fun h => cS_within hI h) mvS_within k_423 ⟨Nat.le_of_ble_eq_true rfl, Nat.le_of_ble_eq_true rfl⟩ ⟨rfl, rfl⟩ rfl hl.1 (Nat.le_of_ble_eq_true rfl) dS_drawn_3 ⟨Nat.zero_le _, Nat.zero_le _⟩ rfl (fun H locs x2 z1 h hG => ?_)
  refine rIfeq C (tgt := 17) h dS_drawn_6 (by decide) (fun h => ?_) (fun h => ?_)
  · refine lv_bipush (v := (-2)) C.1 C.2.1 dS_drawn_17 (by decide) ?_
    exact rReti C hG h dS_drawn_19
  · refine rIload_n C dS_drawn_9 hl 2 rfl ?_
    refine lv_iconst (v := 1) C.1 C.2.1 dS_drawn_10 (by decide) ?_
    refine rCSi [.int v2, .int 1] [] C hG h (fun h => cS_within hI h) mvS_within k_423 ⟨Nat.le_of_ble_eq_true rfl, Nat.le_of_ble_eq_true rfl⟩ ⟨rfl, rfl⟩ rfl hl.1 (Nat.le_of_ble_eq_true rfl) dS_drawn_11 ⟨Nat.zero_le _, Nat.zero_le _⟩ rfl (fun H locs x4 z3 h hG => ?_)
    refine rIfne C (tgt := 20) h dS_drawn_14 (by decide) (fun h => ?_) (fun h => ?_)
    · refine rAload_n C dS_drawn_20 hl 0 rfl ?_
      refine rGet C hG (hI 0 (by decide)) e_0 fiS_6 (v := .ref (gA G 20)) rfl k_375 dS_drawn_21 ?_
      refine rAload_n C dS_drawn_24 hl 0 rfl ?_
      refine rGet C hG (hI 0 (by decide)) e_0 fiS_5 (v := .ref (gA G 9)) rfl k_374 dS_drawn_25 ?_
      refine rCVv [.ref (gA G 9)] [] C hG h (fun h => cR_become hI row20 row9 h) mvR_become k_552 ⟨Nat.le_of_ble_eq_true rfl, Nat.le_of_ble_eq_true rfl⟩ ⟨rfl, rfl⟩ (rRecv C hG (hI 20 (by decide)) e_20 rfl) rfl hl.1 (Nat.le_of_ble_eq_true rfl) dS_drawn_28 ⟨Nat.zero_le _, Nat.zero_le _⟩ rfl (fun H locs z5 h hG => ?_)
      refine rAload_n C dS_drawn_31 hl 0 rfl ?_
      refine rGet C hG (hI 0 (by decide)) e_0 fiS_6 (v := .ref (gA G 20)) rfl k_375 dS_drawn_32 ?_
      refine rIload_n C dS_drawn_35 hl 1 rfl ?_
      refine rCVi [.int v1] [] C hG h (fun h => cR_cutByGusts hI row20 h) mvR_cutByGusts k_704 ⟨Nat.le_of_ble_eq_true rfl, Nat.le_of_ble_eq_true rfl⟩ ⟨rfl, rfl⟩ (rRecv C hG (hI 20 (by decide)) e_20 rfl) rfl hl.1 (Nat.le_of_ble_eq_true rfl) dS_drawn_36 ⟨Nat.zero_le _, Nat.zero_le _⟩ rfl (fun H locs x7 z6 h hG => ?_)
      refine rIstoreA_n C dS_drawn_39 hl (by decide) [(0, .ref (gA G 0)), (1, .int v1), (2, .int v2)] rfl (fun ls hl => ?_)
      refine rIload_n C dS_drawn_40 hl 3 rfl ?_
      refine rIfne C (tgt := 48) h dS_drawn_41 (by decide) (fun h => ?_) (fun h => ?_)
      · refine rAload_n C dS_drawn_48 hl 1 rfl ?_
        refine rGet C hG (hI 0 (by decide)) e_0 fiS_6 (v := .ref (gA G 20)) rfl k_375 dS_drawn_49 ?_
        refine rCVi [] [] C hG h (fun h => cR_inStepBits hI row20 h) mvR_inStepBits k_405 ⟨Nat.le_of_ble_eq_true rfl, Nat.le_of_ble_eq_true rfl⟩ ⟨rfl, rfl⟩ (rRecv C hG (hI 20 (by decide)) e_20 rfl) rfl hl.1 (Nat.le_of_ble_eq_true rfl) dS_drawn_52 ⟨Nat.zero_le _, Nat.zero_le _⟩ rfl (fun H locs x9 z8 h hG => ?_)
        exact rReti C hG h dS_drawn_55
      · refine rIload_n C dS_drawn_44 hl 0 rfl ?_
        refine lv_goto (tgt := 55) C.1 C.2.1 dS_drawn_45 (by decide) ?_
        exact rReti C hG h dS_drawn_55
    · refine lv_bipush (v := (-2)) C.1 C.2.1 dS_drawn_17 (by decide) ?_
      exact rReti C hG h dS_drawn_19
theorem dS_odds_0 : decode bS_odds 0 = .ok (.iload_n 1, 1) := by decide +kernel
theorem dS_odds_1 : decode bS_odds 1 = .ok (.ldc 229, 2) := by decide +kernel
theorem dS_odds_3 : decode bS_odds 3 = .ok (.invokestatic 108, 3) := by decide +kernel
theorem dS_odds_6 : decode bS_odds 6 = .ok (.ifCond .eq 14, 3) := by decide +kernel
theorem dS_odds_9 : decode bS_odds 9 = .ok (.iload_n 2, 1) := by decide +kernel
theorem dS_odds_10 : decode bS_odds 10 = .ok (.iconst 1, 1) := by decide +kernel
theorem dS_odds_11 : decode bS_odds 11 = .ok (.if_icmp .lt 9, 3) := by decide +kernel
theorem dS_odds_14 : decode bS_odds 14 = .ok (.iload_n 2, 1) := by decide +kernel
theorem dS_odds_15 : decode bS_odds 15 = .ok (.bipush 40, 2) := by decide +kernel
theorem dS_odds_17 : decode bS_odds 17 = .ok (.if_icmp .le 7, 3) := by decide +kernel
theorem dS_odds_20 : decode bS_odds 20 = .ok (.ldc2_w 200, 3) := by decide +kernel
theorem dS_odds_23 : decode bS_odds 23 = .ok (.lreturn, 1) := by decide +kernel
theorem dS_odds_24 : decode bS_odds 24 = .ok (.iload_n 3, 1) := by decide +kernel
theorem dS_odds_25 : decode bS_odds 25 = .ok (.bipush 99, 2) := by decide +kernel
theorem dS_odds_27 : decode bS_odds 27 = .ok (.invokestatic 108, 3) := by decide +kernel
theorem dS_odds_30 : decode bS_odds 30 = .ok (.ifCond .eq 12, 3) := by decide +kernel
theorem dS_odds_33 : decode bS_odds 33 = .ok (.iload 4, 2) := by decide +kernel
theorem dS_odds_35 : decode bS_odds 35 = .ok (.iconst 1, 1) := by decide +kernel
theorem dS_odds_36 : decode bS_odds 36 = .ok (.invokestatic 108, 3) := by decide +kernel
theorem dS_odds_39 : decode bS_odds 39 = .ok (.ifCond .ne 7, 3) := by decide +kernel
theorem dS_odds_42 : decode bS_odds 42 = .ok (.ldc2_w 200, 3) := by decide +kernel
theorem dS_odds_45 : decode bS_odds 45 = .ok (.lreturn, 1) := by decide +kernel
theorem dS_odds_46 : decode bS_odds 46 = .ok (.iconst 0, 1) := by decide +kernel
theorem dS_odds_47 : decode bS_odds 47 = .ok (.istore 5, 2) := by decide +kernel
theorem dS_odds_49 : decode bS_odds 49 = .ok (.iconst 0, 1) := by decide +kernel
theorem dS_odds_50 : decode bS_odds 50 = .ok (.istore 6, 2) := by decide +kernel
theorem dS_odds_52 : decode bS_odds 52 = .ok (.iload 6, 2) := by decide +kernel
theorem dS_odds_54 : decode bS_odds 54 = .ok (.iload_n 2, 1) := by decide +kernel
theorem dS_odds_55 : decode bS_odds 55 = .ok (.if_icmp .ge 38, 3) := by decide +kernel
theorem dS_odds_58 : decode bS_odds 58 = .ok (.aload_n 0, 1) := by decide +kernel
theorem dS_odds_59 : decode bS_odds 59 = .ok (.getfield 53, 3) := by decide +kernel
theorem dS_odds_62 : decode bS_odds 62 = .ok (.aload_n 0, 1) := by decide +kernel
theorem dS_odds_63 : decode bS_odds 63 = .ok (.getfield 49, 3) := by decide +kernel
theorem dS_odds_66 : decode bS_odds 66 = .ok (.invokevirtual 166, 3) := by decide +kernel
theorem dS_odds_69 : decode bS_odds 69 = .ok (.aload_n 0, 1) := by decide +kernel
theorem dS_odds_70 : decode bS_odds 70 = .ok (.getfield 53, 3) := by decide +kernel
theorem dS_odds_73 : decode bS_odds 73 = .ok (.iload_n 1, 1) := by decide +kernel
theorem dS_odds_74 : decode bS_odds 74 = .ok (.iload 6, 2) := by decide +kernel
theorem dS_odds_76 : decode bS_odds 76 = .ok (.iadd, 1) := by decide +kernel
theorem dS_odds_77 : decode bS_odds 77 = .ok (.invokevirtual 230, 3) := by decide +kernel
theorem dS_odds_80 : decode bS_odds 80 = .ok (.iload_n 3, 1) := by decide +kernel
theorem dS_odds_81 : decode bS_odds 81 = .ok (.if_icmp .lt 6, 3) := by decide +kernel
theorem dS_odds_84 : decode bS_odds 84 = .ok (.iinc 5 1, 3) := by decide +kernel
theorem dS_odds_87 : decode bS_odds 87 = .ok (.iinc 6 1, 3) := by decide +kernel
theorem dS_odds_90 : decode bS_odds 90 = .ok (.goto (-38), 3) := by decide +kernel
theorem dS_odds_93 : decode bS_odds 93 = .ok (.iload 5, 2) := by decide +kernel
theorem dS_odds_95 : decode bS_odds 95 = .ok (.iload_n 2, 1) := by decide +kernel
theorem dS_odds_96 : decode bS_odds 96 = .ok (.iload 4, 2) := by decide +kernel
theorem dS_odds_98 : decode bS_odds 98 = .ok (.invokestatic 202, 3) := by decide +kernel
theorem dS_odds_101 : decode bS_odds 101 = .ok (.lreturn, 1) := by decide +kernel
theorem wS_odds_87 {p : Program} {l : Launch} {e : Env} {s : State} {m : MethodId} {args : Array Value} {below : List Frame} {meth : Method} {c : Code} {G : GT} {I : List Nat} (C : CX p s m args meth c NS bS_odds 7 (some .long) G I) (hI : cI I) {fu : Nat} {R1 : Int64} {Z : Sg} {rc52 : Int32 → Int32 → Int32 → Int32 → Int32 → Int32 → Sg → Option (Int64 × Sg)} (hr52 : ∀ {v1 : Int32} {v2 : Int32} {v3 : Int32} {v4 : Int32} {v5 : Int32} {v6 : Int32} {z : Sg} {H : Heap} {locs : List Loc} {ls : Array Slot}, rc52 v1 v2 v3 v4 v5 v6 z = some (R1, Z) → GW G I z s.heap H locs → lv_has ls 7 [(0, .ref (gA G 0)), (1, .int v1), (2, .int v2), (3, .int v3), (4, .int v4), (5, .int v5), (6, .int v6)] → W p l e rmS_odds s m args below meth c H locs 0 0 (MQ below (Ql G I R1 Z) args s 0 0 (AD G I)) (F0 m 52 ls [])) {v1 : Int32} {v2 : Int32} {v3 : Int32} {v4 : Int32} {v5 : Int32} {v6 : Int32} {z : Sg} {H : Heap} {locs : List Loc} {ls : Array Slot} (h : pS_odds_87 fu rc52 v1 v2 v3 v4 v5 v6 z = some (R1, Z)) (hG : GW G I z s.heap H locs) (hl : lv_has ls 7 [(0, .ref (gA G 0)), (1, .int v1), (2, .int v2), (3, .int v3), (4, .int v4), (5, .int v5), (6, .int v6)]) : W p l e rmS_odds s m args below meth c H locs 0 0 (MQ below (Ql G I R1 Z) args s 0 0 (AD G I)) (F0 m 87 ls []) := by
  unfold pS_odds_87 at h
  refine rIinc C dS_odds_87 hl 6 rfl (d := 1) (by decide) h (by decide) [(0, .ref (gA G 0)), (1, .int v1), (2, .int v2), (3, .int v3), (4, .int v4), (5, .int v5)] rfl (fun x13 ls h hl => ?_)
  refine lv_goto (tgt := 52) C.1 C.2.1 dS_odds_90 (by decide) ?_
  exact hr52 h hG (lv_sub hl [1, 2, 3, 4, 5, 6, 0] rfl)
theorem wS_odds_52 {p : Program} {l : Launch} {e : Env} {s : State} {m : MethodId} {args : Array Value} {below : List Frame} {meth : Method} {c : Code} {G : GT} {I : List Nat} (C : CX p s m args meth c NS bS_odds 7 (some .long) G I) (hI : cI I) {fu : Nat} {R1 : Int64} {Z : Sg} : ∀ (k : Nat) {v1 : Int32} {v2 : Int32} {v3 : Int32} {v4 : Int32} {v5 : Int32} {v6 : Int32} {z : Sg} {H : Heap} {locs : List Loc} {ls : Array Slot}, pS_odds_52 fu k v1 v2 v3 v4 v5 v6 z = some (R1, Z) → GW G I z s.heap H locs → lv_has ls 7 [(0, .ref (gA G 0)), (1, .int v1), (2, .int v2), (3, .int v3), (4, .int v4), (5, .int v5), (6, .int v6)] → W p l e rmS_odds s m args below meth c H locs 0 0 (MQ below (Ql G I R1 Z) args s 0 0 (AD G I)) (F0 m 52 ls []) := by
  intro k
  induction k with
  | zero => intro v1 v2 v3 v4 v5 v6 z H locs ls h hG hl; rw [pS_odds_52] at h; cases h
  | succ k ih =>
    intro v1 v2 v3 v4 v5 v6 z H locs ls h hG hl
    rw [pS_odds_52] at h
    refine rIload C dS_odds_52 hl 6 rfl ?_
    refine rIload_n C dS_odds_54 hl 2 rfl ?_
    refine rIcmpge C (tgt := 93) h dS_odds_55 (by decide) (fun h => ?_) (fun h => ?_)
    · refine rIload C dS_odds_93 hl 5 rfl ?_
      refine rIload_n C dS_odds_95 hl 2 rfl ?_
      refine rIload C dS_odds_96 hl 4 rfl ?_
      refine rCSl [.int v5, .int v2, .int v4] [] C hG h (fun h => cS_lowestTerm hI h) mvS_lowestTerm k_636 ⟨Nat.le_of_ble_eq_true rfl, Nat.le_of_ble_eq_true rfl⟩ ⟨rfl, rfl⟩ rfl hl.1 (Nat.le_of_ble_eq_true rfl) dS_odds_98 ⟨Nat.zero_le _, Nat.zero_le _⟩ rfl (fun H locs y8 z7 h hG => ?_)
      exact rRetl C hG h dS_odds_101
    · refine rAload_n C dS_odds_58 hl 0 rfl ?_
      refine rGet C hG (hI 0 (by decide)) e_0 fiS_6 (v := .ref (gA G 20)) rfl k_375 dS_odds_59 ?_
      refine rAload_n C dS_odds_62 hl 0 rfl ?_
      refine rGet C hG (hI 0 (by decide)) e_0 fiS_5 (v := .ref (gA G 9)) rfl k_374 dS_odds_63 ?_
      refine rCVv [.ref (gA G 9)] [] C hG h (fun h => cR_become hI row20 row9 h) mvR_become k_552 ⟨Nat.le_of_ble_eq_true rfl, Nat.le_of_ble_eq_true rfl⟩ ⟨rfl, rfl⟩ (rRecv C hG (hI 20 (by decide)) e_20 rfl) rfl hl.1 (Nat.le_of_ble_eq_true rfl) dS_odds_66 ⟨Nat.zero_le _, Nat.zero_le _⟩ rfl (fun H locs z9 h hG => ?_)
      refine rAload_n C dS_odds_69 hl 0 rfl ?_
      refine rGet C hG (hI 0 (by decide)) e_0 fiS_6 (v := .ref (gA G 20)) rfl k_375 dS_odds_70 ?_
      refine rIload_n C dS_odds_73 hl 1 rfl ?_
      refine rIload C dS_odds_74 hl 6 rfl ?_
      refine lv_iadd C.1 C.2.1 dS_odds_76 ?_
      refine rCVi [.int (v1 + v6)] [] C hG h (fun h => cR_cutByGusts hI row20 h) mvR_cutByGusts k_704 ⟨Nat.le_of_ble_eq_true rfl, Nat.le_of_ble_eq_true rfl⟩ ⟨rfl, rfl⟩ (rRecv C hG (hI 20 (by decide)) e_20 rfl) rfl hl.1 (Nat.le_of_ble_eq_true rfl) dS_odds_77 ⟨Nat.zero_le _, Nat.zero_le _⟩ rfl (fun H locs x11 z10 h hG => ?_)
      refine rIload_n C dS_odds_80 hl 3 rfl ?_
      refine rIcmplt C (tgt := 87) h dS_odds_81 (by decide) (fun h => ?_) (fun h => ?_)
      · exact wS_odds_87 C hI ih h hG (lv_sub hl [0, 1, 2, 3, 4, 5, 6] rfl)
      · refine rIinc C dS_odds_84 hl 5 rfl (d := 1) (by decide) h (by decide) [(0, .ref (gA G 0)), (1, .int v1), (2, .int v2), (3, .int v3), (4, .int v4), (6, .int v6)] rfl (fun x12 ls h hl => ?_)
        exact wS_odds_87 C hI ih h hG (lv_sub hl [1, 2, 3, 4, 5, 0, 6] rfl)
theorem cS_odds {l : Launch} {G : GT} {I : List Nat} (hI : cI I) {fu : Nat} {v1 : Int32} {v2 : Int32} {v3 : Int32} {v4 : Int32} {z : Sg} {R1 : Int64} {Z : Sg} (h : pS_odds fu v1 v2 v3 v4 z = some (R1, Z)) : Mt l yS_odds rmS_odds bS_odds 7 (some .long) G I z [.ref (gA G 0), .int v1, .int v2, .int v3, .int v4] (Ql G I R1 Z) := by
  refine entM (by decide +kernel) (Nat.le_of_ble_eq_true rfl) ?_
  intro p e s m below meth c C hG ls hl
  have hl : lv_has ls 7 [(0, .ref (gA G 0)), (1, .int v1), (2, .int v2), (3, .int v3), (4, .int v4)] := hl
  unfold pS_odds at h
  refine rIload_n C dS_odds_0 hl 1 rfl ?_
  refine lv_ldc C.1 C.2.1 C.2.2.2.1 (C.2.2.2.2.1 _ k_703) dS_odds_1 ?_
  refine rCSi [.int v1, .int 99999] [] C hG h (fun h => cS_within hI h) mvS_within k_423 ⟨Nat.le_of_ble_eq_true rfl, Nat.le_of_ble_eq_true rfl⟩ ⟨rfl, rfl⟩ rfl hl.1 (Nat.le_of_ble_eq_true rfl) dS_odds_3 ⟨Nat.zero_le _, Nat.zero_le _⟩ rfl (fun H locs x2 z1 h hG => ?_)
  refine rIfeq C (tgt := 20) h dS_odds_6 (by decide) (fun h => ?_) (fun h => ?_)
  · refine lv_ldc2 C.1 C.2.1 C.2.2.2.1 (C.2.2.2.2.1 _ k_635) dS_odds_20 ?_
    exact rRetl C hG h dS_odds_23
  · refine rIload_n C dS_odds_9 hl 2 rfl ?_
    refine lv_iconst (v := 1) C.1 C.2.1 dS_odds_10 (by decide) ?_
    refine rIcmplt C (tgt := 20) h dS_odds_11 (by decide) (fun h => ?_) (fun h => ?_)
    · refine lv_ldc2 C.1 C.2.1 C.2.2.2.1 (C.2.2.2.2.1 _ k_635) dS_odds_20 ?_
      exact rRetl C hG h dS_odds_23
    · refine rIload_n C dS_odds_14 hl 2 rfl ?_
      refine lv_bipush (v := 40) C.1 C.2.1 dS_odds_15 (by decide) ?_
      refine rIcmple C (tgt := 24) h dS_odds_17 (by decide) (fun h => ?_) (fun h => ?_)
      · refine rIload_n C dS_odds_24 hl 3 rfl ?_
        refine lv_bipush (v := 99) C.1 C.2.1 dS_odds_25 (by decide) ?_
        refine rCSi [.int v3, .int 99] [] C hG h (fun h => cS_within hI h) mvS_within k_423 ⟨Nat.le_of_ble_eq_true rfl, Nat.le_of_ble_eq_true rfl⟩ ⟨rfl, rfl⟩ rfl hl.1 (Nat.le_of_ble_eq_true rfl) dS_odds_27 ⟨Nat.zero_le _, Nat.zero_le _⟩ rfl (fun H locs x4 z3 h hG => ?_)
        refine rIfeq C (tgt := 42) h dS_odds_30 (by decide) (fun h => ?_) (fun h => ?_)
        · refine lv_ldc2 C.1 C.2.1 C.2.2.2.1 (C.2.2.2.2.1 _ k_635) dS_odds_42 ?_
          exact rRetl C hG h dS_odds_45
        · refine rIload C dS_odds_33 hl 4 rfl ?_
          refine lv_iconst (v := 1) C.1 C.2.1 dS_odds_35 (by decide) ?_
          refine rCSi [.int v4, .int 1] [] C hG h (fun h => cS_within hI h) mvS_within k_423 ⟨Nat.le_of_ble_eq_true rfl, Nat.le_of_ble_eq_true rfl⟩ ⟨rfl, rfl⟩ rfl hl.1 (Nat.le_of_ble_eq_true rfl) dS_odds_36 ⟨Nat.zero_le _, Nat.zero_le _⟩ rfl (fun H locs x6 z5 h hG => ?_)
          refine rIfne C (tgt := 46) h dS_odds_39 (by decide) (fun h => ?_) (fun h => ?_)
          · refine lv_iconst (v := 0) C.1 C.2.1 dS_odds_46 (by decide) ?_
            refine rIstoreA C dS_odds_47 hl (by decide) [(0, .ref (gA G 0)), (1, .int v1), (2, .int v2), (3, .int v3), (4, .int v4)] rfl (fun ls hl => ?_)
            refine lv_iconst (v := 0) C.1 C.2.1 dS_odds_49 (by decide) ?_
            refine rIstoreA C dS_odds_50 hl (by decide) [(5, .int 0), (0, .ref (gA G 0)), (1, .int v1), (2, .int v2), (3, .int v3), (4, .int v4)] rfl (fun ls hl => ?_)
            exact wS_odds_52 C hI _ h hG (lv_sub hl [2, 3, 4, 5, 6, 1, 0] rfl)
          · refine lv_ldc2 C.1 C.2.1 C.2.2.2.1 (C.2.2.2.2.1 _ k_635) dS_odds_42 ?_
            exact rRetl C hG h dS_odds_45
      · refine lv_ldc2 C.1 C.2.1 C.2.2.2.1 (C.2.2.2.2.1 _ k_635) dS_odds_20 ?_
        exact rRetl C hG h dS_odds_23
theorem dS_image_0 : decode bS_image 0 = .ok (.aload_n 0, 1) := by decide +kernel
theorem dS_image_1 : decode bS_image 1 = .ok (.getfield 56, 3) := by decide +kernel
theorem dS_image_4 : decode bS_image 4 = .ok (.aload_n 0, 1) := by decide +kernel
theorem dS_image_5 : decode bS_image 5 = .ok (.getfield 49, 3) := by decide +kernel
theorem dS_image_8 : decode bS_image 8 = .ok (.invokevirtual 166, 3) := by decide +kernel
theorem dS_image_11 : decode bS_image 11 = .ok (.aload_n 0, 1) := by decide +kernel
theorem dS_image_12 : decode bS_image 12 = .ok (.iconst 1, 1) := by decide +kernel
theorem dS_image_13 : decode bS_image 13 = .ok (.putfield 233, 3) := by decide +kernel
theorem dS_image_16 : decode bS_image 16 = .ok (.aload_n 0, 1) := by decide +kernel
theorem dS_image_17 : decode bS_image 17 = .ok (.getfield 56, 3) := by decide +kernel
theorem dS_image_20 : decode bS_image 20 = .ok (.getfield 90, 3) := by decide +kernel
theorem dS_image_23 : decode bS_image 23 = .ok (.ireturn, 1) := by decide +kernel
theorem cS_image {l : Launch} {G : GT} {I : List Nat} (hI : cI I) {fu : Nat} {z : Sg} {R1 : Int32} {Z : Sg} (h : pS_image fu z = some (R1, Z)) : Mt l yS_image rmS_image bS_image 1 (some .int) G I z [.ref (gA G 0)] (Qi G I R1 Z) := by
  refine entM (by decide +kernel) (Nat.le_of_ble_eq_true rfl) ?_
  intro p e s m below meth c C hG ls hl
  have hl : lv_has ls 1 [(0, .ref (gA G 0))] := hl
  unfold pS_image at h
  refine rAload_n C dS_image_0 hl 0 rfl ?_
  refine rGet C hG (hI 0 (by decide)) e_0 fiS_7 (v := .ref (gA G 31)) rfl k_376 dS_image_1 ?_
  refine rAload_n C dS_image_4 hl 0 rfl ?_
  refine rGet C hG (hI 0 (by decide)) e_0 fiS_5 (v := .ref (gA G 9)) rfl k_374 dS_image_5 ?_
  refine rCVv [.ref (gA G 9)] [] C hG h (fun h => cR_become hI row31 row9 h) mvR_become k_552 ⟨Nat.le_of_ble_eq_true rfl, Nat.le_of_ble_eq_true rfl⟩ ⟨rfl, rfl⟩ (rRecv C hG (hI 31 (by decide)) e_31 rfl) rfl hl.1 (Nat.le_of_ble_eq_true rfl) dS_image_8 ⟨Nat.zero_le _, Nat.zero_le _⟩ rfl (fun H locs z1 h hG => ?_)
  refine rAload_n C dS_image_11 hl 0 rfl ?_
  refine lv_iconst (v := 1) C.1 C.2.1 dS_image_12 (by decide) ?_
  refine rPut C hG (hI 0 (by decide)) e_0 fiS_9 tokS nmS rfl (fpS_9 _) (Nat.le_of_ble_eq_true rfl) rfl rfl k_378 h dS_image_13 (fun H locs z2 h hG => ?_)
  refine rAload_n C dS_image_16 hl 0 rfl ?_
  refine rGet C hG (hI 0 (by decide)) e_0 fiS_7 (v := .ref (gA G 31)) rfl k_376 dS_image_17 ?_
  refine rGet C hG (hI 31 (by decide)) e_31 fiR_3 (v := .int (z2 31 3)) rfl k_144 dS_image_20 ?_
  exact rReti C hG h dS_image_23
theorem dS_back_0 : decode bS_back 0 = .ok (.aload_n 0, 1) := by decide +kernel
theorem dS_back_1 : decode bS_back 1 = .ok (.getfield 233, 3) := by decide +kernel
theorem dS_back_4 : decode bS_back 4 = .ok (.ifCond .ne 6, 3) := by decide +kernel
theorem dS_back_7 : decode bS_back 7 = .ok (.bipush (-3), 2) := by decide +kernel
theorem dS_back_9 : decode bS_back 9 = .ok (.ireturn, 1) := by decide +kernel
theorem dS_back_10 : decode bS_back 10 = .ok (.aload_n 0, 1) := by decide +kernel
theorem dS_back_11 : decode bS_back 11 = .ok (.getfield 49, 3) := by decide +kernel
theorem dS_back_14 : decode bS_back 14 = .ok (.aload_n 0, 1) := by decide +kernel
theorem dS_back_15 : decode bS_back 15 = .ok (.getfield 56, 3) := by decide +kernel
theorem dS_back_18 : decode bS_back 18 = .ok (.invokevirtual 166, 3) := by decide +kernel
theorem dS_back_21 : decode bS_back 21 = .ok (.aload_n 0, 1) := by decide +kernel
theorem dS_back_22 : decode bS_back 22 = .ok (.getfield 49, 3) := by decide +kernel
theorem dS_back_25 : decode bS_back 25 = .ok (.getfield 90, 3) := by decide +kernel
theorem dS_back_28 : decode bS_back 28 = .ok (.ireturn, 1) := by decide +kernel
theorem cS_back {l : Launch} {G : GT} {I : List Nat} (hI : cI I) {fu : Nat} {z : Sg} {R1 : Int32} {Z : Sg} (h : pS_back fu z = some (R1, Z)) : Mt l yS_back rmS_back bS_back 1 (some .int) G I z [.ref (gA G 0)] (Qi G I R1 Z) := by
  refine entM (by decide +kernel) (Nat.le_of_ble_eq_true rfl) ?_
  intro p e s m below meth c C hG ls hl
  have hl : lv_has ls 1 [(0, .ref (gA G 0))] := hl
  unfold pS_back at h
  refine rAload_n C dS_back_0 hl 0 rfl ?_
  refine rGet C hG (hI 0 (by decide)) e_0 fiS_9 (v := .int (z 0 9)) rfl k_378 dS_back_1 ?_
  refine rIfne C (tgt := 10) h dS_back_4 (by decide) (fun h => ?_) (fun h => ?_)
  · refine rAload_n C dS_back_10 hl 0 rfl ?_
    refine rGet C hG (hI 0 (by decide)) e_0 fiS_5 (v := .ref (gA G 9)) rfl k_374 dS_back_11 ?_
    refine rAload_n C dS_back_14 hl 0 rfl ?_
    refine rGet C hG (hI 0 (by decide)) e_0 fiS_7 (v := .ref (gA G 31)) rfl k_376 dS_back_15 ?_
    refine rCVv [.ref (gA G 31)] [] C hG h (fun h => cR_become hI row9 row31 h) mvR_become k_552 ⟨Nat.le_of_ble_eq_true rfl, Nat.le_of_ble_eq_true rfl⟩ ⟨rfl, rfl⟩ (rRecv C hG (hI 9 (by decide)) e_9 rfl) rfl hl.1 (Nat.le_of_ble_eq_true rfl) dS_back_18 ⟨Nat.zero_le _, Nat.zero_le _⟩ rfl (fun H locs z1 h hG => ?_)
    refine rAload_n C dS_back_21 hl 0 rfl ?_
    refine rGet C hG (hI 0 (by decide)) e_0 fiS_5 (v := .ref (gA G 9)) rfl k_374 dS_back_22 ?_
    refine rGet C hG (hI 9 (by decide)) e_9 fiR_3 (v := .int (z1 9 3)) rfl k_144 dS_back_25 ?_
    exact rReti C hG h dS_back_28
  · refine lv_bipush (v := (-3)) C.1 C.2.1 dS_back_7 (by decide) ?_
    exact rReti C hG h dS_back_9
theorem dS_sheet_0 : decode bS_sheet 0 = .ok (.iload_n 1, 1) := by decide +kernel
theorem dS_sheet_1 : decode bS_sheet 1 = .ok (.iconst 3, 1) := by decide +kernel
theorem dS_sheet_2 : decode bS_sheet 2 = .ok (.invokestatic 108, 3) := by decide +kernel
theorem dS_sheet_5 : decode bS_sheet 5 = .ok (.ifCond .eq 13, 3) := by decide +kernel
theorem dS_sheet_8 : decode bS_sheet 8 = .ok (.iload_n 2, 1) := by decide +kernel
theorem dS_sheet_9 : decode bS_sheet 9 = .ok (.iconst (-1), 1) := by decide +kernel
theorem dS_sheet_10 : decode bS_sheet 10 = .ok (.if_icmp .lt 8, 3) := by decide +kernel
theorem dS_sheet_13 : decode bS_sheet 13 = .ok (.iload_n 2, 1) := by decide +kernel
theorem dS_sheet_14 : decode bS_sheet 14 = .ok (.iconst 2, 1) := by decide +kernel
theorem dS_sheet_15 : decode bS_sheet 15 = .ok (.if_icmp .le 6, 3) := by decide +kernel
theorem dS_sheet_18 : decode bS_sheet 18 = .ok (.bipush (-2), 2) := by decide +kernel
theorem dS_sheet_20 : decode bS_sheet 20 = .ok (.ireturn, 1) := by decide +kernel
theorem dS_sheet_21 : decode bS_sheet 21 = .ok (.iload_n 2, 1) := by decide +kernel
theorem dS_sheet_22 : decode bS_sheet 22 = .ok (.iconst (-1), 1) := by decide +kernel
theorem dS_sheet_23 : decode bS_sheet 23 = .ok (.if_icmp .ne 16, 3) := by decide +kernel
theorem dS_sheet_26 : decode bS_sheet 26 = .ok (.aload_n 0, 1) := by decide +kernel
theorem dS_sheet_27 : decode bS_sheet 27 = .ok (.getfield 17, 3) := by decide +kernel
theorem dS_sheet_30 : decode bS_sheet 30 = .ok (.iload_n 1, 1) := by decide +kernel
theorem dS_sheet_31 : decode bS_sheet 31 = .ok (.aaload, 1) := by decide +kernel
theorem dS_sheet_32 : decode bS_sheet 32 = .ok (.iconst (-1), 1) := by decide +kernel
theorem dS_sheet_33 : decode bS_sheet 33 = .ok (.iconst 0, 1) := by decide +kernel
theorem dS_sheet_34 : decode bS_sheet 34 = .ok (.invokevirtual 223, 3) := by decide +kernel
theorem dS_sheet_37 : decode bS_sheet 37 = .ok (.iconst 1, 1) := by decide +kernel
theorem dS_sheet_38 : decode bS_sheet 38 = .ok (.ireturn, 1) := by decide +kernel
theorem dS_sheet_39 : decode bS_sheet 39 = .ok (.iload_n 3, 1) := by decide +kernel
theorem dS_sheet_40 : decode bS_sheet 40 = .ok (.bipush 40, 2) := by decide +kernel
theorem dS_sheet_42 : decode bS_sheet 42 = .ok (.if_icmp .le 6, 3) := by decide +kernel
theorem dS_sheet_45 : decode bS_sheet 45 = .ok (.bipush (-2), 2) := by decide +kernel
theorem dS_sheet_47 : decode bS_sheet 47 = .ok (.ireturn, 1) := by decide +kernel
theorem dS_sheet_48 : decode bS_sheet 48 = .ok (.iload_n 3, 1) := by decide +kernel
theorem dS_sheet_49 : decode bS_sheet 49 = .ok (.ifCond .ge 6, 3) := by decide +kernel
theorem dS_sheet_52 : decode bS_sheet 52 = .ok (.bipush (-14), 2) := by decide +kernel
theorem dS_sheet_54 : decode bS_sheet 54 = .ok (.ireturn, 1) := by decide +kernel
theorem dS_sheet_55 : decode bS_sheet 55 = .ok (.aload_n 0, 1) := by decide +kernel
theorem dS_sheet_56 : decode bS_sheet 56 = .ok (.getfield 17, 3) := by decide +kernel
theorem dS_sheet_59 : decode bS_sheet 59 = .ok (.iload_n 1, 1) := by decide +kernel
theorem dS_sheet_60 : decode bS_sheet 60 = .ok (.aaload, 1) := by decide +kernel
theorem dS_sheet_61 : decode bS_sheet 61 = .ok (.iload_n 2, 1) := by decide +kernel
theorem dS_sheet_62 : decode bS_sheet 62 = .ok (.iload_n 3, 1) := by decide +kernel
theorem dS_sheet_63 : decode bS_sheet 63 = .ok (.invokevirtual 223, 3) := by decide +kernel
theorem dS_sheet_66 : decode bS_sheet 66 = .ok (.iconst 1, 1) := by decide +kernel
theorem dS_sheet_67 : decode bS_sheet 67 = .ok (.ireturn, 1) := by decide +kernel
theorem cS_sheet {l : Launch} {G : GT} {I : List Nat} (hI : cI I) {fu : Nat} {v1 : Int32} {v2 : Int32} {v3 : Int32} {z : Sg} {R1 : Int32} {Z : Sg} (h : pS_sheet fu v1 v2 v3 z = some (R1, Z)) : Mt l yS_sheet rmS_sheet bS_sheet 4 (some .int) G I z [.ref (gA G 0), .int v1, .int v2, .int v3] (Qi G I R1 Z) := by
  refine entM (by decide +kernel) (Nat.le_of_ble_eq_true rfl) ?_
  intro p e s m below meth c C hG ls hl
  have hl : lv_has ls 4 [(0, .ref (gA G 0)), (1, .int v1), (2, .int v2), (3, .int v3)] := hl
  unfold pS_sheet at h
  refine rIload_n C dS_sheet_0 hl 1 rfl ?_
  refine lv_iconst (v := 3) C.1 C.2.1 dS_sheet_1 (by decide) ?_
  refine rCSi [.int v1, .int 3] [] C hG h (fun h => cS_within hI h) mvS_within k_423 ⟨Nat.le_of_ble_eq_true rfl, Nat.le_of_ble_eq_true rfl⟩ ⟨rfl, rfl⟩ rfl hl.1 (Nat.le_of_ble_eq_true rfl) dS_sheet_2 ⟨Nat.zero_le _, Nat.zero_le _⟩ rfl (fun H locs x2 z1 h hG => ?_)
  refine rIfeq C (tgt := 18) h dS_sheet_5 (by decide) (fun h => ?_) (fun h => ?_)
  · refine lv_bipush (v := (-2)) C.1 C.2.1 dS_sheet_18 (by decide) ?_
    exact rReti C hG h dS_sheet_20
  · refine rIload_n C dS_sheet_8 hl 2 rfl ?_
    refine lv_iconst (v := (-1)) C.1 C.2.1 dS_sheet_9 (by decide) ?_
    refine rIcmplt C (tgt := 18) h dS_sheet_10 (by decide) (fun h => ?_) (fun h => ?_)
    · refine lv_bipush (v := (-2)) C.1 C.2.1 dS_sheet_18 (by decide) ?_
      exact rReti C hG h dS_sheet_20
    · refine rIload_n C dS_sheet_13 hl 2 rfl ?_
      refine lv_iconst (v := 2) C.1 C.2.1 dS_sheet_14 (by decide) ?_
      refine rIcmple C (tgt := 21) h dS_sheet_15 (by decide) (fun h => ?_) (fun h => ?_)
      · refine rIload_n C dS_sheet_21 hl 2 rfl ?_
        refine lv_iconst (v := (-1)) C.1 C.2.1 dS_sheet_22 (by decide) ?_
        refine rIcmpne C (tgt := 39) h dS_sheet_23 (by decide) (fun h => ?_) (fun h => ?_)
        · refine rIload_n C dS_sheet_39 hl 3 rfl ?_
          refine lv_bipush (v := 40) C.1 C.2.1 dS_sheet_40 (by decide) ?_
          refine rIcmple C (tgt := 48) h dS_sheet_42 (by decide) (fun h => ?_) (fun h => ?_)
          · refine rIload_n C dS_sheet_48 hl 3 rfl ?_
            refine rIfge C (tgt := 55) h dS_sheet_49 (by decide) (fun h => ?_) (fun h => ?_)
            · refine rAload_n C dS_sheet_55 hl 0 rfl ?_
              refine rGet C hG (hI 0 (by decide)) e_0 fiS_1 (v := .ref (gA G 2)) rfl k_370 dS_sheet_56 ?_
              refine rIload_n C dS_sheet_59 hl 1 rfl ?_
              refine rAald C hG (hI 2 (by decide)) e_2 (t0 := 2) rfl rfl h dS_sheet_60 (fun hq60 h => ?_)
              refine rIload_n C dS_sheet_61 hl 2 rfl ?_
              refine rIload_n C dS_sheet_62 hl 3 rfl ?_
              refine rCVv [.int v2, .int v3] [] C hG h (fun h => cH_remake hI (isSheet.of hq60) h) mvH_remake k_691 ⟨Nat.le_of_ble_eq_true rfl, Nat.le_of_ble_eq_true rfl⟩ ⟨rfl, rfl⟩ (rRecv C hG (hI _ (isSheet.of hq60).lt0) (eH_0 (isSheet.of hq60)) rfl) rfl hl.1 (Nat.le_of_ble_eq_true rfl) dS_sheet_63 ⟨Nat.zero_le _, Nat.zero_le _⟩ rfl (fun H locs z3 h hG => ?_)
              refine lv_iconst (v := 1) C.1 C.2.1 dS_sheet_66 (by decide) ?_
              exact rReti C hG h dS_sheet_67
            · refine lv_bipush (v := (-14)) C.1 C.2.1 dS_sheet_52 (by decide) ?_
              exact rReti C hG h dS_sheet_54
          · refine lv_bipush (v := (-2)) C.1 C.2.1 dS_sheet_45 (by decide) ?_
            exact rReti C hG h dS_sheet_47
        · refine rAload_n C dS_sheet_26 hl 0 rfl ?_
          refine rGet C hG (hI 0 (by decide)) e_0 fiS_1 (v := .ref (gA G 2)) rfl k_370 dS_sheet_27 ?_
          refine rIload_n C dS_sheet_30 hl 1 rfl ?_
          refine rAald C hG (hI 2 (by decide)) e_2 (t0 := 2) rfl rfl h dS_sheet_31 (fun hq31 h => ?_)
          refine lv_iconst (v := (-1)) C.1 C.2.1 dS_sheet_32 (by decide) ?_
          refine lv_iconst (v := 0) C.1 C.2.1 dS_sheet_33 (by decide) ?_
          refine rCVv [.int (-1), .int 0] [] C hG h (fun h => cH_remake hI (isSheet.of hq31) h) mvH_remake k_691 ⟨Nat.le_of_ble_eq_true rfl, Nat.le_of_ble_eq_true rfl⟩ ⟨rfl, rfl⟩ (rRecv C hG (hI _ (isSheet.of hq31).lt0) (eH_0 (isSheet.of hq31)) rfl) rfl hl.1 (Nat.le_of_ble_eq_true rfl) dS_sheet_34 ⟨Nat.zero_le _, Nat.zero_le _⟩ rfl (fun H locs z4 h hG => ?_)
          refine lv_iconst (v := 1) C.1 C.2.1 dS_sheet_37 (by decide) ?_
          exact rReti C hG h dS_sheet_38
      · refine lv_bipush (v := (-2)) C.1 C.2.1 dS_sheet_18 (by decide) ?_
        exact rReti C hG h dS_sheet_20
theorem dS_cell_0 : decode bS_cell 0 = .ok (.iload_n 1, 1) := by decide +kernel
theorem dS_cell_1 : decode bS_cell 1 = .ok (.iconst 3, 1) := by decide +kernel
theorem dS_cell_2 : decode bS_cell 2 = .ok (.invokestatic 108, 3) := by decide +kernel
theorem dS_cell_5 : decode bS_cell 5 = .ok (.ifCond .ne 6, 3) := by decide +kernel
theorem dS_cell_8 : decode bS_cell 8 = .ok (.bipush (-2), 2) := by decide +kernel
theorem dS_cell_10 : decode bS_cell 10 = .ok (.ireturn, 1) := by decide +kernel
theorem dS_cell_11 : decode bS_cell 11 = .ok (.aload_n 0, 1) := by decide +kernel
theorem dS_cell_12 : decode bS_cell 12 = .ok (.getfield 17, 3) := by decide +kernel
theorem dS_cell_15 : decode bS_cell 15 = .ok (.iload_n 1, 1) := by decide +kernel
theorem dS_cell_16 : decode bS_cell 16 = .ok (.aaload, 1) := by decide +kernel
theorem dS_cell_17 : decode bS_cell 17 = .ok (.invokevirtual 237, 3) := by decide +kernel
theorem dS_cell_20 : decode bS_cell 20 = .ok (.ifCond .eq 6, 3) := by decide +kernel
theorem dS_cell_23 : decode bS_cell 23 = .ok (.bipush (-11), 2) := by decide +kernel
theorem dS_cell_25 : decode bS_cell 25 = .ok (.ireturn, 1) := by decide +kernel
theorem dS_cell_26 : decode bS_cell 26 = .ok (.iload_n 2, 1) := by decide +kernel
theorem dS_cell_27 : decode bS_cell 27 = .ok (.aload_n 0, 1) := by decide +kernel
theorem dS_cell_28 : decode bS_cell 28 = .ok (.getfield 17, 3) := by decide +kernel
theorem dS_cell_31 : decode bS_cell 31 = .ok (.iload_n 1, 1) := by decide +kernel
theorem dS_cell_32 : decode bS_cell 32 = .ok (.aaload, 1) := by decide +kernel
theorem dS_cell_33 : decode bS_cell 33 = .ok (.getfield 240, 3) := by decide +kernel
theorem dS_cell_36 : decode bS_cell 36 = .ok (.iconst 1, 1) := by decide +kernel
theorem dS_cell_37 : decode bS_cell 37 = .ok (.isub, 1) := by decide +kernel
theorem dS_cell_38 : decode bS_cell 38 = .ok (.invokestatic 108, 3) := by decide +kernel
theorem dS_cell_41 : decode bS_cell 41 = .ok (.ifCond .ne 6, 3) := by decide +kernel
theorem dS_cell_44 : decode bS_cell 44 = .ok (.bipush (-12), 2) := by decide +kernel
theorem dS_cell_46 : decode bS_cell 46 = .ok (.ireturn, 1) := by decide +kernel
theorem dS_cell_47 : decode bS_cell 47 = .ok (.aload_n 0, 1) := by decide +kernel
theorem dS_cell_48 : decode bS_cell 48 = .ok (.getfield 17, 3) := by decide +kernel
theorem dS_cell_51 : decode bS_cell 51 = .ok (.iload_n 1, 1) := by decide +kernel
theorem dS_cell_52 : decode bS_cell 52 = .ok (.aaload, 1) := by decide +kernel
theorem dS_cell_53 : decode bS_cell 53 = .ok (.iload_n 2, 1) := by decide +kernel
theorem dS_cell_54 : decode bS_cell 54 = .ok (.iload_n 3, 1) := by decide +kernel
theorem dS_cell_55 : decode bS_cell 55 = .ok (.invokevirtual 226, 3) := by decide +kernel
theorem dS_cell_58 : decode bS_cell 58 = .ok (.iconst 1, 1) := by decide +kernel
theorem dS_cell_59 : decode bS_cell 59 = .ok (.ireturn, 1) := by decide +kernel
theorem cS_cell {l : Launch} {G : GT} {I : List Nat} (hI : cI I) {fu : Nat} {v1 : Int32} {v2 : Int32} {v3 : Int32} {z : Sg} {R1 : Int32} {Z : Sg} (h : pS_cell fu v1 v2 v3 z = some (R1, Z)) : Mt l yS_cell rmS_cell bS_cell 4 (some .int) G I z [.ref (gA G 0), .int v1, .int v2, .int v3] (Qi G I R1 Z) := by
  refine entM (by decide +kernel) (Nat.le_of_ble_eq_true rfl) ?_
  intro p e s m below meth c C hG ls hl
  have hl : lv_has ls 4 [(0, .ref (gA G 0)), (1, .int v1), (2, .int v2), (3, .int v3)] := hl
  unfold pS_cell at h
  refine rIload_n C dS_cell_0 hl 1 rfl ?_
  refine lv_iconst (v := 3) C.1 C.2.1 dS_cell_1 (by decide) ?_
  refine rCSi [.int v1, .int 3] [] C hG h (fun h => cS_within hI h) mvS_within k_423 ⟨Nat.le_of_ble_eq_true rfl, Nat.le_of_ble_eq_true rfl⟩ ⟨rfl, rfl⟩ rfl hl.1 (Nat.le_of_ble_eq_true rfl) dS_cell_2 ⟨Nat.zero_le _, Nat.zero_le _⟩ rfl (fun H locs x2 z1 h hG => ?_)
  refine rIfne C (tgt := 11) h dS_cell_5 (by decide) (fun h => ?_) (fun h => ?_)
  · refine rAload_n C dS_cell_11 hl 0 rfl ?_
    refine rGet C hG (hI 0 (by decide)) e_0 fiS_1 (v := .ref (gA G 2)) rfl k_370 dS_cell_12 ?_
    refine rIload_n C dS_cell_15 hl 1 rfl ?_
    refine rAald C hG (hI 2 (by decide)) e_2 (t0 := 2) rfl rfl h dS_cell_16 (fun hq16 h => ?_)
    refine rCVi [] [] C hG h (fun h => cH_isMissing hI (isSheet.of hq16) h) mvH_isMissing k_651 ⟨Nat.le_of_ble_eq_true rfl, Nat.le_of_ble_eq_true rfl⟩ ⟨rfl, rfl⟩ (rRecv C hG (hI _ (isSheet.of hq16).lt0) (eH_0 (isSheet.of hq16)) rfl) rfl hl.1 (Nat.le_of_ble_eq_true rfl) dS_cell_17 ⟨Nat.zero_le _, Nat.zero_le _⟩ rfl (fun H locs x4 z3 h hG => ?_)
    refine rIfeq C (tgt := 26) h dS_cell_20 (by decide) (fun h => ?_) (fun h => ?_)
    · refine rIload_n C dS_cell_26 hl 2 rfl ?_
      refine rAload_n C dS_cell_27 hl 0 rfl ?_
      refine rGet C hG (hI 0 (by decide)) e_0 fiS_1 (v := .ref (gA G 2)) rfl k_370 dS_cell_28 ?_
      refine rIload_n C dS_cell_31 hl 1 rfl ?_
      refine rAald C hG (hI 2 (by decide)) e_2 (t0 := 2) rfl rfl h dS_cell_32 (fun hq32 h => ?_)
      refine rGet C hG (hI _ (isSheet.of hq32).lt0) (eH_0 (isSheet.of hq32)) fiH_2 (v := .int (z3 (70 + 2 * v1.toNatClampNeg) 2)) rfl k_122 dS_cell_33 ?_
      refine lv_iconst (v := 1) C.1 C.2.1 dS_cell_36 (by decide) ?_
      refine lv_isub C.1 C.2.1 dS_cell_37 ?_
      refine rCSi [.int v2, .int ((z3 (70 + 2 * v1.toNatClampNeg) 2) - 1)] [] C hG h (fun h => cS_within hI h) mvS_within k_423 ⟨Nat.le_of_ble_eq_true rfl, Nat.le_of_ble_eq_true rfl⟩ ⟨rfl, rfl⟩ rfl hl.1 (Nat.le_of_ble_eq_true rfl) dS_cell_38 ⟨Nat.zero_le _, Nat.zero_le _⟩ rfl (fun H locs x6 z5 h hG => ?_)
      refine rIfne C (tgt := 47) h dS_cell_41 (by decide) (fun h => ?_) (fun h => ?_)
      · refine rAload_n C dS_cell_47 hl 0 rfl ?_
        refine rGet C hG (hI 0 (by decide)) e_0 fiS_1 (v := .ref (gA G 2)) rfl k_370 dS_cell_48 ?_
        refine rIload_n C dS_cell_51 hl 1 rfl ?_
        refine rAald C hG (hI 2 (by decide)) e_2 (t0 := 2) rfl rfl h dS_cell_52 (fun hq52 h => ?_)
        refine rIload_n C dS_cell_53 hl 2 rfl ?_
        refine rIload_n C dS_cell_54 hl 3 rfl ?_
        refine rCVv [.int v2, .int v3] [] C hG h (fun h => cH_write hI (isSheet.of hq52) h) mvH_write k_695 ⟨Nat.le_of_ble_eq_true rfl, Nat.le_of_ble_eq_true rfl⟩ ⟨rfl, rfl⟩ (rRecv C hG (hI _ (isSheet.of hq52).lt0) (eH_0 (isSheet.of hq52)) rfl) rfl hl.1 (Nat.le_of_ble_eq_true rfl) dS_cell_55 ⟨Nat.zero_le _, Nat.zero_le _⟩ rfl (fun H locs z7 h hG => ?_)
        refine lv_iconst (v := 1) C.1 C.2.1 dS_cell_58 (by decide) ?_
        exact rReti C hG h dS_cell_59
      · refine lv_bipush (v := (-12)) C.1 C.2.1 dS_cell_44 (by decide) ?_
        exact rReti C hG h dS_cell_46
    · refine lv_bipush (v := (-11)) C.1 C.2.1 dS_cell_23 (by decide) ?_
      exact rReti C hG h dS_cell_25
  · refine lv_bipush (v := (-2)) C.1 C.2.1 dS_cell_8 (by decide) ?_
    exact rReti C hG h dS_cell_10
theorem dS_copy_0 : decode bS_copy 0 = .ok (.iload_n 1, 1) := by decide +kernel
theorem dS_copy_1 : decode bS_copy 1 = .ok (.iconst 3, 1) := by decide +kernel
theorem dS_copy_2 : decode bS_copy 2 = .ok (.invokestatic 108, 3) := by decide +kernel
theorem dS_copy_5 : decode bS_copy 5 = .ok (.ifCond .eq 11, 3) := by decide +kernel
theorem dS_copy_8 : decode bS_copy 8 = .ok (.iload_n 3, 1) := by decide +kernel
theorem dS_copy_9 : decode bS_copy 9 = .ok (.iconst 3, 1) := by decide +kernel
theorem dS_copy_10 : decode bS_copy 10 = .ok (.invokestatic 108, 3) := by decide +kernel
theorem dS_copy_13 : decode bS_copy 13 = .ok (.ifCond .ne 6, 3) := by decide +kernel
theorem dS_copy_16 : decode bS_copy 16 = .ok (.bipush (-2), 2) := by decide +kernel
theorem dS_copy_18 : decode bS_copy 18 = .ok (.ireturn, 1) := by decide +kernel
theorem dS_copy_19 : decode bS_copy 19 = .ok (.aload_n 0, 1) := by decide +kernel
theorem dS_copy_20 : decode bS_copy 20 = .ok (.getfield 17, 3) := by decide +kernel
theorem dS_copy_23 : decode bS_copy 23 = .ok (.iload_n 1, 1) := by decide +kernel
theorem dS_copy_24 : decode bS_copy 24 = .ok (.aaload, 1) := by decide +kernel
theorem dS_copy_25 : decode bS_copy 25 = .ok (.astore 6, 2) := by decide +kernel
theorem dS_copy_27 : decode bS_copy 27 = .ok (.aload_n 0, 1) := by decide +kernel
theorem dS_copy_28 : decode bS_copy 28 = .ok (.getfield 17, 3) := by decide +kernel
theorem dS_copy_31 : decode bS_copy 31 = .ok (.iload_n 3, 1) := by decide +kernel
theorem dS_copy_32 : decode bS_copy 32 = .ok (.aaload, 1) := by decide +kernel
theorem dS_copy_33 : decode bS_copy 33 = .ok (.astore 7, 2) := by decide +kernel
theorem dS_copy_35 : decode bS_copy 35 = .ok (.aload 6, 2) := by decide +kernel
theorem dS_copy_37 : decode bS_copy 37 = .ok (.invokevirtual 237, 3) := by decide +kernel
theorem dS_copy_40 : decode bS_copy 40 = .ok (.ifCond .ne 11, 3) := by decide +kernel
theorem dS_copy_43 : decode bS_copy 43 = .ok (.aload 7, 2) := by decide +kernel
theorem dS_copy_45 : decode bS_copy 45 = .ok (.invokevirtual 237, 3) := by decide +kernel
theorem dS_copy_48 : decode bS_copy 48 = .ok (.ifCond .eq 6, 3) := by decide +kernel
theorem dS_copy_51 : decode bS_copy 51 = .ok (.bipush (-11), 2) := by decide +kernel
theorem dS_copy_53 : decode bS_copy 53 = .ok (.ireturn, 1) := by decide +kernel
theorem dS_copy_54 : decode bS_copy 54 = .ok (.aload 6, 2) := by decide +kernel
theorem dS_copy_56 : decode bS_copy 56 = .ok (.getfield 241, 3) := by decide +kernel
theorem dS_copy_59 : decode bS_copy 59 = .ok (.aload 7, 2) := by decide +kernel
theorem dS_copy_61 : decode bS_copy 61 = .ok (.getfield 241, 3) := by decide +kernel
theorem dS_copy_64 : decode bS_copy 64 = .ok (.if_icmp .eq 6, 3) := by decide +kernel
theorem dS_copy_67 : decode bS_copy 67 = .ok (.bipush (-13), 2) := by decide +kernel
theorem dS_copy_69 : decode bS_copy 69 = .ok (.ireturn, 1) := by decide +kernel
theorem dS_copy_70 : decode bS_copy 70 = .ok (.iload 5, 2) := by decide +kernel
theorem dS_copy_72 : decode bS_copy 72 = .ok (.ifCond .lt 26, 3) := by decide +kernel
theorem dS_copy_75 : decode bS_copy 75 = .ok (.aload 6, 2) := by decide +kernel
theorem dS_copy_77 : decode bS_copy 77 = .ok (.iload_n 2, 1) := by decide +kernel
theorem dS_copy_78 : decode bS_copy 78 = .ok (.iload 5, 2) := by decide +kernel
theorem dS_copy_80 : decode bS_copy 80 = .ok (.invokevirtual 244, 3) := by decide +kernel
theorem dS_copy_83 : decode bS_copy 83 = .ok (.ifCond .eq 15, 3) := by decide +kernel
theorem dS_copy_86 : decode bS_copy 86 = .ok (.aload 7, 2) := by decide +kernel
theorem dS_copy_88 : decode bS_copy 88 = .ok (.iload 4, 2) := by decide +kernel
theorem dS_copy_90 : decode bS_copy 90 = .ok (.iload 5, 2) := by decide +kernel
theorem dS_copy_92 : decode bS_copy 92 = .ok (.invokevirtual 244, 3) := by decide +kernel
theorem dS_copy_95 : decode bS_copy 95 = .ok (.ifCond .ne 6, 3) := by decide +kernel
theorem dS_copy_98 : decode bS_copy 98 = .ok (.bipush (-12), 2) := by decide +kernel
theorem dS_copy_100 : decode bS_copy 100 = .ok (.ireturn, 1) := by decide +kernel
theorem dS_copy_101 : decode bS_copy 101 = .ok (.aload 6, 2) := by decide +kernel
theorem dS_copy_103 : decode bS_copy 103 = .ok (.getfield 247, 3) := by decide +kernel
theorem dS_copy_106 : decode bS_copy 106 = .ok (.iload_n 2, 1) := by decide +kernel
theorem dS_copy_107 : decode bS_copy 107 = .ok (.aload 7, 2) := by decide +kernel
theorem dS_copy_109 : decode bS_copy 109 = .ok (.getfield 247, 3) := by decide +kernel
theorem dS_copy_112 : decode bS_copy 112 = .ok (.iload 4, 2) := by decide +kernel
theorem dS_copy_114 : decode bS_copy 114 = .ok (.iload 5, 2) := by decide +kernel
theorem dS_copy_116 : decode bS_copy 116 = .ok (.invokestatic 250, 3) := by decide +kernel
theorem dS_copy_119 : decode bS_copy 119 = .ok (.iload 5, 2) := by decide +kernel
theorem dS_copy_121 : decode bS_copy 121 = .ok (.ireturn, 1) := by decide +kernel
theorem cS_copy {l : Launch} {G : GT} {I : List Nat} (hI : cI I) {fu : Nat} {v1 : Int32} {v2 : Int32} {v3 : Int32} {v4 : Int32} {v5 : Int32} {z : Sg} {R1 : Int32} {Z : Sg} (h : pS_copy fu v1 v2 v3 v4 v5 z = some (R1, Z)) : Mt l yS_copy rmS_copy bS_copy 8 (some .int) G I z [.ref (gA G 0), .int v1, .int v2, .int v3, .int v4, .int v5] (Qi G I R1 Z) := by
  refine entM (by decide +kernel) (Nat.le_of_ble_eq_true rfl) ?_
  intro p e s m below meth c C hG ls hl
  have hl : lv_has ls 8 [(0, .ref (gA G 0)), (1, .int v1), (2, .int v2), (3, .int v3), (4, .int v4), (5, .int v5)] := hl
  unfold pS_copy at h
  refine rIload_n C dS_copy_0 hl 1 rfl ?_
  refine lv_iconst (v := 3) C.1 C.2.1 dS_copy_1 (by decide) ?_
  refine rCSi [.int v1, .int 3] [] C hG h (fun h => cS_within hI h) mvS_within k_423 ⟨Nat.le_of_ble_eq_true rfl, Nat.le_of_ble_eq_true rfl⟩ ⟨rfl, rfl⟩ rfl hl.1 (Nat.le_of_ble_eq_true rfl) dS_copy_2 ⟨Nat.zero_le _, Nat.zero_le _⟩ rfl (fun H locs x2 z1 h hG => ?_)
  refine rIfeq C (tgt := 16) h dS_copy_5 (by decide) (fun h => ?_) (fun h => ?_)
  · refine lv_bipush (v := (-2)) C.1 C.2.1 dS_copy_16 (by decide) ?_
    exact rReti C hG h dS_copy_18
  · refine rIload_n C dS_copy_8 hl 3 rfl ?_
    refine lv_iconst (v := 3) C.1 C.2.1 dS_copy_9 (by decide) ?_
    refine rCSi [.int v3, .int 3] [] C hG h (fun h => cS_within hI h) mvS_within k_423 ⟨Nat.le_of_ble_eq_true rfl, Nat.le_of_ble_eq_true rfl⟩ ⟨rfl, rfl⟩ rfl hl.1 (Nat.le_of_ble_eq_true rfl) dS_copy_10 ⟨Nat.zero_le _, Nat.zero_le _⟩ rfl (fun H locs x4 z3 h hG => ?_)
    refine rIfne C (tgt := 19) h dS_copy_13 (by decide) (fun h => ?_) (fun h => ?_)
    · refine rAload_n C dS_copy_19 hl 0 rfl ?_
      refine rGet C hG (hI 0 (by decide)) e_0 fiS_1 (v := .ref (gA G 2)) rfl k_370 dS_copy_20 ?_
      refine rIload_n C dS_copy_23 hl 1 rfl ?_
      refine rAald C hG (hI 2 (by decide)) e_2 (t0 := 2) rfl rfl h dS_copy_24 (fun hq24 h => ?_)
      refine rAstore C dS_copy_25 hl (by decide) [(0, .ref (gA G 0)), (1, .int v1), (2, .int v2), (3, .int v3), (4, .int v4), (5, .int v5)] rfl (fun ls hl => ?_)
      refine rAload_n C dS_copy_27 hl 1 rfl ?_
      refine rGet C hG (hI 0 (by decide)) e_0 fiS_1 (v := .ref (gA G 2)) rfl k_370 dS_copy_28 ?_
      refine rIload_n C dS_copy_31 hl 4 rfl ?_
      refine rAald C hG (hI 2 (by decide)) e_2 (t0 := 2) rfl rfl h dS_copy_32 (fun hq32 h => ?_)
      refine rAstore C dS_copy_33 hl (by decide) [(6, .ref (gA G (70 + 2 * v1.toNatClampNeg))), (0, .ref (gA G 0)), (1, .int v1), (2, .int v2), (3, .int v3), (4, .int v4), (5, .int v5)] rfl (fun ls hl => ?_)
      refine rAload C dS_copy_35 hl 1 rfl ?_
      refine rCVi [] [] C hG h (fun h => cH_isMissing hI (isSheet.of hq24) h) mvH_isMissing k_651 ⟨Nat.le_of_ble_eq_true rfl, Nat.le_of_ble_eq_true rfl⟩ ⟨rfl, rfl⟩ (rRecv C hG (hI _ (isSheet.of hq24).lt0) (eH_0 (isSheet.of hq24)) rfl) rfl hl.1 (Nat.le_of_ble_eq_true rfl) dS_copy_37 ⟨Nat.zero_le _, Nat.zero_le _⟩ rfl (fun H locs x6 z5 h hG => ?_)
      refine rIfne C (tgt := 51) h dS_copy_40 (by decide) (fun h => ?_) (fun h => ?_)
      · refine lv_bipush (v := (-11)) C.1 C.2.1 dS_copy_51 (by decide) ?_
        exact rReti C hG h dS_copy_53
      · refine rAload C dS_copy_43 hl 0 rfl ?_
        refine rCVi [] [] C hG h (fun h => cH_isMissing hI (isSheet.of hq32) h) mvH_isMissing k_651 ⟨Nat.le_of_ble_eq_true rfl, Nat.le_of_ble_eq_true rfl⟩ ⟨rfl, rfl⟩ (rRecv C hG (hI _ (isSheet.of hq32).lt0) (eH_0 (isSheet.of hq32)) rfl) rfl hl.1 (Nat.le_of_ble_eq_true rfl) dS_copy_45 ⟨Nat.zero_le _, Nat.zero_le _⟩ rfl (fun H locs x8 z7 h hG => ?_)
        refine rIfeq C (tgt := 54) h dS_copy_48 (by decide) (fun h => ?_) (fun h => ?_)
        · refine rAload C dS_copy_54 hl 1 rfl ?_
          refine rGet C hG (hI _ (isSheet.of hq24).lt0) (eH_0 (isSheet.of hq24)) fiH_1 (v := .int (z7 (70 + 2 * v1.toNatClampNeg) 1)) rfl k_120 dS_copy_56 ?_
          refine rAload C dS_copy_59 hl 0 rfl ?_
          refine rGet C hG (hI _ (isSheet.of hq32).lt0) (eH_0 (isSheet.of hq32)) fiH_1 (v := .int (z7 (70 + 2 * v3.toNatClampNeg) 1)) rfl k_120 dS_copy_61 ?_
          refine rIcmpeq C (tgt := 70) h dS_copy_64 (by decide) (fun h => ?_) (fun h => ?_)
          · refine rIload C dS_copy_70 hl 7 rfl ?_
            refine rIflt C (tgt := 98) h dS_copy_72 (by decide) (fun h => ?_) (fun h => ?_)
            · refine lv_bipush (v := (-12)) C.1 C.2.1 dS_copy_98 (by decide) ?_
              exact rReti C hG h dS_copy_100
            · refine rAload C dS_copy_75 hl 1 rfl ?_
              refine rIload_n C dS_copy_77 hl 4 rfl ?_
              refine rIload C dS_copy_78 hl 7 rfl ?_
              refine rCVi [.int v2, .int v5] [] C hG h (fun h => cH_holds hI (isSheet.of hq24) h) mvH_holds k_739 ⟨Nat.le_of_ble_eq_true rfl, Nat.le_of_ble_eq_true rfl⟩ ⟨rfl, rfl⟩ (rRecv C hG (hI _ (isSheet.of hq24).lt0) (eH_0 (isSheet.of hq24)) rfl) rfl hl.1 (Nat.le_of_ble_eq_true rfl) dS_copy_80 ⟨Nat.zero_le _, Nat.zero_le _⟩ rfl (fun H locs x10 z9 h hG => ?_)
              refine rIfeq C (tgt := 98) h dS_copy_83 (by decide) (fun h => ?_) (fun h => ?_)
              · refine lv_bipush (v := (-12)) C.1 C.2.1 dS_copy_98 (by decide) ?_
                exact rReti C hG h dS_copy_100
              · refine rAload C dS_copy_86 hl 0 rfl ?_
                refine rIload C dS_copy_88 hl 6 rfl ?_
                refine rIload C dS_copy_90 hl 7 rfl ?_
                refine rCVi [.int v4, .int v5] [] C hG h (fun h => cH_holds hI (isSheet.of hq32) h) mvH_holds k_739 ⟨Nat.le_of_ble_eq_true rfl, Nat.le_of_ble_eq_true rfl⟩ ⟨rfl, rfl⟩ (rRecv C hG (hI _ (isSheet.of hq32).lt0) (eH_0 (isSheet.of hq32)) rfl) rfl hl.1 (Nat.le_of_ble_eq_true rfl) dS_copy_92 ⟨Nat.zero_le _, Nat.zero_le _⟩ rfl (fun H locs x12 z11 h hG => ?_)
                refine rIfne C (tgt := 101) h dS_copy_95 (by decide) (fun h => ?_) (fun h => ?_)
                · refine rAload C dS_copy_101 hl 1 rfl ?_
                  refine rGet C hG (hI _ (isSheet.of hq24).lt0) (eH_0 (isSheet.of hq24)) fiH_0 (v := .ref (gA G ((70 + 2 * v1.toNatClampNeg) + 1))) rfl k_118 dS_copy_103 ?_
                  refine rIload_n C dS_copy_106 hl 4 rfl ?_
                  refine rAload C dS_copy_107 hl 0 rfl ?_
                  refine rGet C hG (hI _ (isSheet.of hq32).lt0) (eH_0 (isSheet.of hq32)) fiH_0 (v := .ref (gA G ((70 + 2 * v3.toNatClampNeg) + 1))) rfl k_118 dS_copy_109 ?_
                  refine rIload C dS_copy_112 hl 6 rfl ?_
                  refine rIload C dS_copy_114 hl 7 rfl ?_
                  refine rCopy C hG (hI _ ((isSheet.of hq24).lt (k := 1) (by decide))) (hI _ ((isSheet.of hq32).lt (k := 1) (by decide))) (eH_1 (isSheet.of hq24)) (eH_1 (isSheet.of hq32)) k_743 cpw h hl.1 (Nat.le_of_ble_eq_true rfl) (Nat.le_of_ble_eq_true rfl) dS_copy_116 (fun H locs z13 h hG => ?_)
                  refine rIload C dS_copy_119 hl 7 rfl ?_
                  exact rReti C hG h dS_copy_121
                · refine lv_bipush (v := (-12)) C.1 C.2.1 dS_copy_98 (by decide) ?_
                  exact rReti C hG h dS_copy_100
          · refine lv_bipush (v := (-13)) C.1 C.2.1 dS_copy_67 (by decide) ?_
            exact rReti C hG h dS_copy_69
        · refine lv_bipush (v := (-11)) C.1 C.2.1 dS_copy_51 (by decide) ?_
          exact rReti C hG h dS_copy_53
    · refine lv_bipush (v := (-2)) C.1 C.2.1 dS_copy_16 (by decide) ?_
      exact rReti C hG h dS_copy_18
theorem dS_mowersBy_0 : decode bS_mowersBy 0 = .ok (.iload_n 1, 1) := by decide +kernel
theorem dS_mowersBy_1 : decode bS_mowersBy 1 = .ok (.iconst 3, 1) := by decide +kernel
theorem dS_mowersBy_2 : decode bS_mowersBy 2 = .ok (.invokestatic 108, 3) := by decide +kernel
theorem dS_mowersBy_5 : decode bS_mowersBy 5 = .ok (.ifCond .eq 21, 3) := by decide +kernel
theorem dS_mowersBy_8 : decode bS_mowersBy 8 = .ok (.iload_n 2, 1) := by decide +kernel
theorem dS_mowersBy_9 : decode bS_mowersBy 9 = .ok (.iconst 2, 1) := by decide +kernel
theorem dS_mowersBy_10 : decode bS_mowersBy 10 = .ok (.invokestatic 108, 3) := by decide +kernel
theorem dS_mowersBy_13 : decode bS_mowersBy 13 = .ok (.ifCond .eq 13, 3) := by decide +kernel
theorem dS_mowersBy_16 : decode bS_mowersBy 16 = .ok (.iload 4, 2) := by decide +kernel
theorem dS_mowersBy_18 : decode bS_mowersBy 18 = .ok (.bipush 6, 2) := by decide +kernel
theorem dS_mowersBy_20 : decode bS_mowersBy 20 = .ok (.invokestatic 108, 3) := by decide +kernel
theorem dS_mowersBy_23 : decode bS_mowersBy 23 = .ok (.ifCond .ne 6, 3) := by decide +kernel
theorem dS_mowersBy_26 : decode bS_mowersBy 26 = .ok (.bipush (-2), 2) := by decide +kernel
theorem dS_mowersBy_28 : decode bS_mowersBy 28 = .ok (.ireturn, 1) := by decide +kernel
theorem dS_mowersBy_29 : decode bS_mowersBy 29 = .ok (.aload_n 0, 1) := by decide +kernel
theorem dS_mowersBy_30 : decode bS_mowersBy 30 = .ok (.getfield 17, 3) := by decide +kernel
theorem dS_mowersBy_33 : decode bS_mowersBy 33 = .ok (.iload_n 1, 1) := by decide +kernel
theorem dS_mowersBy_34 : decode bS_mowersBy 34 = .ok (.aaload, 1) := by decide +kernel
theorem dS_mowersBy_35 : decode bS_mowersBy 35 = .ok (.astore 5, 2) := by decide +kernel
theorem dS_mowersBy_37 : decode bS_mowersBy 37 = .ok (.aload 5, 2) := by decide +kernel
theorem dS_mowersBy_39 : decode bS_mowersBy 39 = .ok (.invokevirtual 237, 3) := by decide +kernel
theorem dS_mowersBy_42 : decode bS_mowersBy 42 = .ok (.ifCond .eq 6, 3) := by decide +kernel
theorem dS_mowersBy_45 : decode bS_mowersBy 45 = .ok (.bipush (-11), 2) := by decide +kernel
theorem dS_mowersBy_47 : decode bS_mowersBy 47 = .ok (.ireturn, 1) := by decide +kernel
theorem dS_mowersBy_48 : decode bS_mowersBy 48 = .ok (.aload 5, 2) := by decide +kernel
theorem dS_mowersBy_50 : decode bS_mowersBy 50 = .ok (.getfield 241, 3) := by decide +kernel
theorem dS_mowersBy_53 : decode bS_mowersBy 53 = .ok (.iload_n 2, 1) := by decide +kernel
theorem dS_mowersBy_54 : decode bS_mowersBy 54 = .ok (.if_icmp .eq 6, 3) := by decide +kernel
theorem dS_mowersBy_57 : decode bS_mowersBy 57 = .ok (.bipush (-13), 2) := by decide +kernel
theorem dS_mowersBy_59 : decode bS_mowersBy 59 = .ok (.ireturn, 1) := by decide +kernel
theorem dS_mowersBy_60 : decode bS_mowersBy 60 = .ok (.iconst 0, 1) := by decide +kernel
theorem dS_mowersBy_61 : decode bS_mowersBy 61 = .ok (.istore 6, 2) := by decide +kernel
theorem dS_mowersBy_63 : decode bS_mowersBy 63 = .ok (.iconst 0, 1) := by decide +kernel
theorem dS_mowersBy_64 : decode bS_mowersBy 64 = .ok (.istore 7, 2) := by decide +kernel
theorem dS_mowersBy_66 : decode bS_mowersBy 66 = .ok (.iload 7, 2) := by decide +kernel
theorem dS_mowersBy_68 : decode bS_mowersBy 68 = .ok (.iload 4, 2) := by decide +kernel
theorem dS_mowersBy_70 : decode bS_mowersBy 70 = .ok (.if_icmp .ge 59, 3) := by decide +kernel
theorem dS_mowersBy_73 : decode bS_mowersBy 73 = .ok (.iload_n 3, 1) := by decide +kernel
theorem dS_mowersBy_74 : decode bS_mowersBy 74 = .ok (.iconst 2, 1) := by decide +kernel
theorem dS_mowersBy_75 : decode bS_mowersBy 75 = .ok (.iload 7, 2) := by decide +kernel
theorem dS_mowersBy_77 : decode bS_mowersBy 77 = .ok (.imul, 1) := by decide +kernel
theorem dS_mowersBy_78 : decode bS_mowersBy 78 = .ok (.iadd, 1) := by decide +kernel
theorem dS_mowersBy_79 : decode bS_mowersBy 79 = .ok (.istore 8, 2) := by decide +kernel
theorem dS_mowersBy_81 : decode bS_mowersBy 81 = .ok (.aload 5, 2) := by decide +kernel
theorem dS_mowersBy_83 : decode bS_mowersBy 83 = .ok (.iload 8, 2) := by decide +kernel
theorem dS_mowersBy_85 : decode bS_mowersBy 85 = .ok (.iconst 2, 1) := by decide +kernel
theorem dS_mowersBy_86 : decode bS_mowersBy 86 = .ok (.invokevirtual 244, 3) := by decide +kernel
theorem dS_mowersBy_89 : decode bS_mowersBy 89 = .ok (.ifCond .ne 6, 3) := by decide +kernel
theorem dS_mowersBy_92 : decode bS_mowersBy 92 = .ok (.bipush (-12), 2) := by decide +kernel
theorem dS_mowersBy_94 : decode bS_mowersBy 94 = .ok (.ireturn, 1) := by decide +kernel
theorem dS_mowersBy_95 : decode bS_mowersBy 95 = .ok (.aload_n 0, 1) := by decide +kernel
theorem dS_mowersBy_96 : decode bS_mowersBy 96 = .ok (.aload 5, 2) := by decide +kernel
theorem dS_mowersBy_98 : decode bS_mowersBy 98 = .ok (.getfield 247, 3) := by decide +kernel
theorem dS_mowersBy_101 : decode bS_mowersBy 101 = .ok (.iload 8, 2) := by decide +kernel
theorem dS_mowersBy_103 : decode bS_mowersBy 103 = .ok (.iaload, 1) := by decide +kernel
theorem dS_mowersBy_104 : decode bS_mowersBy 104 = .ok (.aload 5, 2) := by decide +kernel
theorem dS_mowersBy_106 : decode bS_mowersBy 106 = .ok (.getfield 247, 3) := by decide +kernel
theorem dS_mowersBy_109 : decode bS_mowersBy 109 = .ok (.iload 8, 2) := by decide +kernel
theorem dS_mowersBy_111 : decode bS_mowersBy 111 = .ok (.iconst 1, 1) := by decide +kernel
theorem dS_mowersBy_112 : decode bS_mowersBy 112 = .ok (.iadd, 1) := by decide +kernel
theorem dS_mowersBy_113 : decode bS_mowersBy 113 = .ok (.iaload, 1) := by decide +kernel
theorem dS_mowersBy_114 : decode bS_mowersBy 114 = .ok (.invokevirtual 136, 3) := by decide +kernel
theorem dS_mowersBy_117 : decode bS_mowersBy 117 = .ok (.ifCond .lt 6, 3) := by decide +kernel
theorem dS_mowersBy_120 : decode bS_mowersBy 120 = .ok (.iinc 6 1, 3) := by decide +kernel
theorem dS_mowersBy_123 : decode bS_mowersBy 123 = .ok (.iinc 7 1, 3) := by decide +kernel
theorem dS_mowersBy_126 : decode bS_mowersBy 126 = .ok (.goto (-60), 3) := by decide +kernel
theorem dS_mowersBy_129 : decode bS_mowersBy 129 = .ok (.iload 6, 2) := by decide +kernel
theorem dS_mowersBy_131 : decode bS_mowersBy 131 = .ok (.ireturn, 1) := by decide +kernel
theorem wS_mowersBy_123 {p : Program} {l : Launch} {e : Env} {s : State} {m : MethodId} {args : Array Value} {below : List Frame} {meth : Method} {c : Code} {G : GT} {I : List Nat} (C : CX p s m args meth c NS bS_mowersBy 9 (some .int) G I) (hI : cI I) {fu : Nat} {R1 : Int32} {Z : Sg} {rc66 : Int32 → Int32 → Nat → Int32 → Int32 → Sg → Option (Int32 × Sg)} (hr66 : ∀ {v3 : Int32} {v4 : Int32} {c5 : Nat} {v6 : Int32} {v7 : Int32} {z : Sg} {H : Heap} {locs : List Loc} {ls : Array Slot} (_ : isSheet c5), rc66 v3 v4 c5 v6 v7 z = some (R1, Z) → GW G I z s.heap H locs → lv_has ls 9 [(0, .ref (gA G 0)), (3, .int v3), (4, .int v4), (5, .ref (gA G c5)), (6, .int v6), (7, .int v7)] → W p l e rmS_mowersBy s m args below meth c H locs 0 0 (MQ below (Qi G I R1 Z) args s 0 0 (AD G I)) (F0 m 66 ls [])) {v3 : Int32} {v4 : Int32} {c5 : Nat} {v6 : Int32} {v7 : Int32} {z : Sg} {H : Heap} {locs : List Loc} {ls : Array Slot} (hc5 : isSheet c5) (h : pS_mowersBy_123 fu rc66 v3 v4 c5 v6 v7 z = some (R1, Z)) (hG : GW G I z s.heap H locs) (hl : lv_has ls 9 [(0, .ref (gA G 0)), (3, .int v3), (4, .int v4), (5, .ref (gA G c5)), (6, .int v6), (7, .int v7)]) : W p l e rmS_mowersBy s m args below meth c H locs 0 0 (MQ below (Qi G I R1 Z) args s 0 0 (AD G I)) (F0 m 123 ls []) := by
  unfold pS_mowersBy_123 at h
  refine rIinc C dS_mowersBy_123 hl 5 rfl (d := 1) (by decide) h (by decide) [(0, .ref (gA G 0)), (3, .int v3), (4, .int v4), (5, .ref (gA G c5)), (6, .int v6)] rfl (fun x15 ls h hl => ?_)
  refine lv_goto (tgt := 66) C.1 C.2.1 dS_mowersBy_126 (by decide) ?_
  exact hr66 hc5 h hG (lv_sub hl [1, 2, 3, 4, 5, 0] rfl)
theorem wS_mowersBy_66 {p : Program} {l : Launch} {e : Env} {s : State} {m : MethodId} {args : Array Value} {below : List Frame} {meth : Method} {c : Code} {G : GT} {I : List Nat} (C : CX p s m args meth c NS bS_mowersBy 9 (some .int) G I) (hI : cI I) {fu : Nat} {R1 : Int32} {Z : Sg} : ∀ (k : Nat) {v3 : Int32} {v4 : Int32} {c5 : Nat} {v6 : Int32} {v7 : Int32} {z : Sg} {H : Heap} {locs : List Loc} {ls : Array Slot} (hc5 : isSheet c5), pS_mowersBy_66 fu k v3 v4 c5 v6 v7 z = some (R1, Z) → GW G I z s.heap H locs → lv_has ls 9 [(0, .ref (gA G 0)), (3, .int v3), (4, .int v4), (5, .ref (gA G c5)), (6, .int v6), (7, .int v7)] → W p l e rmS_mowersBy s m args below meth c H locs 0 0 (MQ below (Qi G I R1 Z) args s 0 0 (AD G I)) (F0 m 66 ls []) := by
  intro k
  induction k with
  | zero => intro v3 v4 c5 v6 v7 z H locs ls hc5 h hG hl; rw [pS_mowersBy_66] at h; cases h
  | succ k ih =>
    intro v3 v4 c5 v6 v7 z H locs ls hc5 h hG hl
    rw [pS_mowersBy_66] at h
    refine rIload C dS_mowersBy_66 hl 5 rfl ?_
    refine rIload C dS_mowersBy_68 hl 2 rfl ?_
    refine rIcmpge C (tgt := 129) h dS_mowersBy_70 (by decide) (fun h => ?_) (fun h => ?_)
    · refine rIload C dS_mowersBy_129 hl 4 rfl ?_
      exact rReti C hG h dS_mowersBy_131
    · refine rIload_n C dS_mowersBy_73 hl 1 rfl ?_
      refine lv_iconst (v := 2) C.1 C.2.1 dS_mowersBy_74 (by decide) ?_
      refine rIload C dS_mowersBy_75 hl 5 rfl ?_
      refine lv_imul C.1 C.2.1 dS_mowersBy_77 ?_
      refine lv_iadd C.1 C.2.1 dS_mowersBy_78 ?_
      refine rIstore C dS_mowersBy_79 hl h (by decide) [(0, .ref (gA G 0)), (3, .int v3), (4, .int v4), (5, .ref (gA G c5)), (6, .int v6), (7, .int v7)] rfl (fun x9 ls h hl => ?_)
      refine rAload C dS_mowersBy_81 hl 4 rfl ?_
      refine rIload C dS_mowersBy_83 hl 0 rfl ?_
      refine lv_iconst (v := 2) C.1 C.2.1 dS_mowersBy_85 (by decide) ?_
      refine rCVi [.int x9, .int 2] [] C hG h (fun h => cH_holds hI hc5 h) mvH_holds k_739 ⟨Nat.le_of_ble_eq_true rfl, Nat.le_of_ble_eq_true rfl⟩ ⟨rfl, rfl⟩ (rRecv C hG (hI _ hc5.lt0) (eH_0 hc5) rfl) rfl hl.1 (Nat.le_of_ble_eq_true rfl) dS_mowersBy_86 ⟨Nat.zero_le _, Nat.zero_le _⟩ rfl (fun H locs x11 z10 h hG => ?_)
      refine rIfne C (tgt := 95) h dS_mowersBy_89 (by decide) (fun h => ?_) (fun h => ?_)
      · refine rAload_n C dS_mowersBy_95 hl 1 rfl ?_
        refine rAload C dS_mowersBy_96 hl 4 rfl ?_
        refine rGet C hG (hI _ hc5.lt0) (eH_0 hc5) fiH_0 (v := .ref (gA G (c5 + 1))) rfl k_118 dS_mowersBy_98 ?_
        refine rIload C dS_mowersBy_101 hl 0 rfl ?_
        refine rIald C hG (hI _ (hc5.lt (k := 1) (by decide))) (eH_1 hc5) h dS_mowersBy_103 (fun h => ?_)
        refine rAload C dS_mowersBy_104 hl 4 rfl ?_
        refine rGet C hG (hI _ hc5.lt0) (eH_0 hc5) fiH_0 (v := .ref (gA G (c5 + 1))) rfl k_118 dS_mowersBy_106 ?_
        refine rIload C dS_mowersBy_109 hl 0 rfl ?_
        refine lv_iconst (v := 1) C.1 C.2.1 dS_mowersBy_111 (by decide) ?_
        refine lv_iadd C.1 C.2.1 dS_mowersBy_112 ?_
        refine rIald C hG (hI _ (hc5.lt (k := 1) (by decide))) (eH_1 hc5) h dS_mowersBy_113 (fun h => ?_)
        refine rCVi [.int (ga z10 (c5 + 1) x9), .int (ga z10 (c5 + 1) (x9 + 1))] [] C hG h (fun h => cS_comes hI h) mvS_comes k_478 ⟨Nat.le_of_ble_eq_true rfl, Nat.le_of_ble_eq_true rfl⟩ ⟨rfl, rfl⟩ (rRecv C hG (hI 0 (by decide)) e_0 rfl) rfl hl.1 (Nat.le_of_ble_eq_true rfl) dS_mowersBy_114 ⟨Nat.zero_le _, Nat.zero_le _⟩ rfl (fun H locs x13 z12 h hG => ?_)
        refine rIflt C (tgt := 123) h dS_mowersBy_117 (by decide) (fun h => ?_) (fun h => ?_)
        · exact wS_mowersBy_123 C hI ih hc5 h hG (lv_sub hl [1, 2, 3, 4, 5, 6] rfl)
        · refine rIinc C dS_mowersBy_120 hl 5 rfl (d := 1) (by decide) h (by decide) [(8, .int x9), (0, .ref (gA G 0)), (3, .int v3), (4, .int v4), (5, .ref (gA G c5)), (7, .int v7)] rfl (fun x14 ls h hl => ?_)
          exact wS_mowersBy_123 C hI ih hc5 h hG (lv_sub hl [2, 3, 4, 5, 0, 6] rfl)
      · refine lv_bipush (v := (-12)) C.1 C.2.1 dS_mowersBy_92 (by decide) ?_
        exact rReti C hG h dS_mowersBy_94
theorem cS_mowersBy {l : Launch} {G : GT} {I : List Nat} (hI : cI I) {fu : Nat} {v1 : Int32} {v2 : Int32} {v3 : Int32} {v4 : Int32} {z : Sg} {R1 : Int32} {Z : Sg} (h : pS_mowersBy fu v1 v2 v3 v4 z = some (R1, Z)) : Mt l yS_mowersBy rmS_mowersBy bS_mowersBy 9 (some .int) G I z [.ref (gA G 0), .int v1, .int v2, .int v3, .int v4] (Qi G I R1 Z) := by
  refine entM (by decide +kernel) (Nat.le_of_ble_eq_true rfl) ?_
  intro p e s m below meth c C hG ls hl
  have hl : lv_has ls 9 [(0, .ref (gA G 0)), (1, .int v1), (2, .int v2), (3, .int v3), (4, .int v4)] := hl
  unfold pS_mowersBy at h
  refine rIload_n C dS_mowersBy_0 hl 1 rfl ?_
  refine lv_iconst (v := 3) C.1 C.2.1 dS_mowersBy_1 (by decide) ?_
  refine rCSi [.int v1, .int 3] [] C hG h (fun h => cS_within hI h) mvS_within k_423 ⟨Nat.le_of_ble_eq_true rfl, Nat.le_of_ble_eq_true rfl⟩ ⟨rfl, rfl⟩ rfl hl.1 (Nat.le_of_ble_eq_true rfl) dS_mowersBy_2 ⟨Nat.zero_le _, Nat.zero_le _⟩ rfl (fun H locs x2 z1 h hG => ?_)
  refine rIfeq C (tgt := 26) h dS_mowersBy_5 (by decide) (fun h => ?_) (fun h => ?_)
  · refine lv_bipush (v := (-2)) C.1 C.2.1 dS_mowersBy_26 (by decide) ?_
    exact rReti C hG h dS_mowersBy_28
  · refine rIload_n C dS_mowersBy_8 hl 2 rfl ?_
    refine lv_iconst (v := 2) C.1 C.2.1 dS_mowersBy_9 (by decide) ?_
    refine rCSi [.int v2, .int 2] [] C hG h (fun h => cS_within hI h) mvS_within k_423 ⟨Nat.le_of_ble_eq_true rfl, Nat.le_of_ble_eq_true rfl⟩ ⟨rfl, rfl⟩ rfl hl.1 (Nat.le_of_ble_eq_true rfl) dS_mowersBy_10 ⟨Nat.zero_le _, Nat.zero_le _⟩ rfl (fun H locs x4 z3 h hG => ?_)
    refine rIfeq C (tgt := 26) h dS_mowersBy_13 (by decide) (fun h => ?_) (fun h => ?_)
    · refine lv_bipush (v := (-2)) C.1 C.2.1 dS_mowersBy_26 (by decide) ?_
      exact rReti C hG h dS_mowersBy_28
    · refine rIload C dS_mowersBy_16 hl 4 rfl ?_
      refine lv_bipush (v := 6) C.1 C.2.1 dS_mowersBy_18 (by decide) ?_
      refine rCSi [.int v4, .int 6] [] C hG h (fun h => cS_within hI h) mvS_within k_423 ⟨Nat.le_of_ble_eq_true rfl, Nat.le_of_ble_eq_true rfl⟩ ⟨rfl, rfl⟩ rfl hl.1 (Nat.le_of_ble_eq_true rfl) dS_mowersBy_20 ⟨Nat.zero_le _, Nat.zero_le _⟩ rfl (fun H locs x6 z5 h hG => ?_)
      refine rIfne C (tgt := 29) h dS_mowersBy_23 (by decide) (fun h => ?_) (fun h => ?_)
      · refine rAload_n C dS_mowersBy_29 hl 0 rfl ?_
        refine rGet C hG (hI 0 (by decide)) e_0 fiS_1 (v := .ref (gA G 2)) rfl k_370 dS_mowersBy_30 ?_
        refine rIload_n C dS_mowersBy_33 hl 1 rfl ?_
        refine rAald C hG (hI 2 (by decide)) e_2 (t0 := 2) rfl rfl h dS_mowersBy_34 (fun hq34 h => ?_)
        refine rAstore C dS_mowersBy_35 hl (by decide) [(0, .ref (gA G 0)), (1, .int v1), (2, .int v2), (3, .int v3), (4, .int v4)] rfl (fun ls hl => ?_)
        refine rAload C dS_mowersBy_37 hl 0 rfl ?_
        refine rCVi [] [] C hG h (fun h => cH_isMissing hI (isSheet.of hq34) h) mvH_isMissing k_651 ⟨Nat.le_of_ble_eq_true rfl, Nat.le_of_ble_eq_true rfl⟩ ⟨rfl, rfl⟩ (rRecv C hG (hI _ (isSheet.of hq34).lt0) (eH_0 (isSheet.of hq34)) rfl) rfl hl.1 (Nat.le_of_ble_eq_true rfl) dS_mowersBy_39 ⟨Nat.zero_le _, Nat.zero_le _⟩ rfl (fun H locs x8 z7 h hG => ?_)
        refine rIfeq C (tgt := 48) h dS_mowersBy_42 (by decide) (fun h => ?_) (fun h => ?_)
        · refine rAload C dS_mowersBy_48 hl 0 rfl ?_
          refine rGet C hG (hI _ (isSheet.of hq34).lt0) (eH_0 (isSheet.of hq34)) fiH_1 (v := .int (z7 (70 + 2 * v1.toNatClampNeg) 1)) rfl k_120 dS_mowersBy_50 ?_
          refine rIload_n C dS_mowersBy_53 hl 3 rfl ?_
          refine rIcmpeq C (tgt := 60) h dS_mowersBy_54 (by decide) (fun h => ?_) (fun h => ?_)
          · refine lv_iconst (v := 0) C.1 C.2.1 dS_mowersBy_60 (by decide) ?_
            refine rIstoreA C dS_mowersBy_61 hl (by decide) [(5, .ref (gA G (70 + 2 * v1.toNatClampNeg))), (0, .ref (gA G 0)), (1, .int v1), (2, .int v2), (3, .int v3), (4, .int v4)] rfl (fun ls hl => ?_)
            refine lv_iconst (v := 0) C.1 C.2.1 dS_mowersBy_63 (by decide) ?_
            refine rIstoreA C dS_mowersBy_64 hl (by decide) [(6, .int 0), (5, .ref (gA G (70 + 2 * v1.toNatClampNeg))), (0, .ref (gA G 0)), (1, .int v1), (2, .int v2), (3, .int v3), (4, .int v4)] rfl (fun ls hl => ?_)
            exact wS_mowersBy_66 C hI _ (isSheet.of hq34) h hG (lv_sub hl [3, 6, 7, 2, 1, 0] rfl)
          · refine lv_bipush (v := (-13)) C.1 C.2.1 dS_mowersBy_57 (by decide) ?_
            exact rReti C hG h dS_mowersBy_59
        · refine lv_bipush (v := (-11)) C.1 C.2.1 dS_mowersBy_45 (by decide) ?_
          exact rReti C hG h dS_mowersBy_47
      · refine lv_bipush (v := (-2)) C.1 C.2.1 dS_mowersBy_26 (by decide) ?_
        exact rReti C hG h dS_mowersBy_28
theorem dS_taken_0 : decode bS_taken 0 = .ok (.iload_n 2, 1) := by decide +kernel
theorem dS_taken_1 : decode bS_taken 1 = .ok (.bipush 6, 2) := by decide +kernel
theorem dS_taken_3 : decode bS_taken 3 = .ok (.invokestatic 108, 3) := by decide +kernel
theorem dS_taken_6 : decode bS_taken 6 = .ok (.ifCond .ne 6, 3) := by decide +kernel
theorem dS_taken_9 : decode bS_taken 9 = .ok (.bipush (-2), 2) := by decide +kernel
theorem dS_taken_11 : decode bS_taken 11 = .ok (.ireturn, 1) := by decide +kernel
theorem dS_taken_12 : decode bS_taken 12 = .ok (.iload_n 1, 1) := by decide +kernel
theorem dS_taken_13 : decode bS_taken 13 = .ok (.bipush 11, 2) := by decide +kernel
theorem dS_taken_15 : decode bS_taken 15 = .ok (.invokestatic 108, 3) := by decide +kernel
theorem dS_taken_18 : decode bS_taken 18 = .ok (.ifCond .ne 6, 3) := by decide +kernel
theorem dS_taken_21 : decode bS_taken 21 = .ok (.bipush (-12), 2) := by decide +kernel
theorem dS_taken_23 : decode bS_taken 23 = .ok (.ireturn, 1) := by decide +kernel
theorem dS_taken_24 : decode bS_taken 24 = .ok (.iload_n 1, 1) := by decide +kernel
theorem dS_taken_25 : decode bS_taken 25 = .ok (.bipush 6, 2) := by decide +kernel
theorem dS_taken_27 : decode bS_taken 27 = .ok (.irem, 1) := by decide +kernel
theorem dS_taken_28 : decode bS_taken 28 = .ok (.istore_n 3, 1) := by decide +kernel
theorem dS_taken_29 : decode bS_taken 29 = .ok (.aload_n 0, 1) := by decide +kernel
theorem dS_taken_30 : decode bS_taken 30 = .ok (.getfield 49, 3) := by decide +kernel
theorem dS_taken_33 : decode bS_taken 33 = .ok (.iload_n 3, 1) := by decide +kernel
theorem dS_taken_34 : decode bS_taken 34 = .ok (.invokevirtual 122, 3) := by decide +kernel
theorem dS_taken_37 : decode bS_taken 37 = .ok (.ifCond .ne 6, 3) := by decide +kernel
theorem dS_taken_40 : decode bS_taken 40 = .ok (.bipush (-11), 2) := by decide +kernel
theorem dS_taken_42 : decode bS_taken 42 = .ok (.ireturn, 1) := by decide +kernel
theorem dS_taken_43 : decode bS_taken 43 = .ok (.iload_n 1, 1) := by decide +kernel
theorem dS_taken_44 : decode bS_taken 44 = .ok (.bipush 6, 2) := by decide +kernel
theorem dS_taken_46 : decode bS_taken 46 = .ok (.if_icmp .ge 7, 3) := by decide +kernel
theorem dS_taken_49 : decode bS_taken 49 = .ok (.iconst 1, 1) := by decide +kernel
theorem dS_taken_50 : decode bS_taken 50 = .ok (.goto 4, 3) := by decide +kernel
theorem dS_taken_53 : decode bS_taken 53 = .ok (.iconst 0, 1) := by decide +kernel
theorem dS_taken_54 : decode bS_taken 54 = .ok (.istore 4, 2) := by decide +kernel
theorem dS_taken_56 : decode bS_taken 56 = .ok (.iload 4, 2) := by decide +kernel
theorem dS_taken_58 : decode bS_taken 58 = .ok (.iload_n 2, 1) := by decide +kernel
theorem dS_taken_59 : decode bS_taken 59 = .ok (.bipush 6, 2) := by decide +kernel
theorem dS_taken_61 : decode bS_taken 61 = .ok (.if_icmp .ge 7, 3) := by decide +kernel
theorem dS_taken_64 : decode bS_taken 64 = .ok (.iconst 1, 1) := by decide +kernel
theorem dS_taken_65 : decode bS_taken 65 = .ok (.goto 4, 3) := by decide +kernel
theorem dS_taken_68 : decode bS_taken 68 = .ok (.iconst 0, 1) := by decide +kernel
theorem dS_taken_69 : decode bS_taken 69 = .ok (.if_icmp .eq 6, 3) := by decide +kernel
theorem dS_taken_72 : decode bS_taken 72 = .ok (.bipush (-13), 2) := by decide +kernel
theorem dS_taken_74 : decode bS_taken 74 = .ok (.ireturn, 1) := by decide +kernel
theorem dS_taken_75 : decode bS_taken 75 = .ok (.iload 4, 2) := by decide +kernel
theorem dS_taken_77 : decode bS_taken 77 = .ok (.ifCond .ne 15, 3) := by decide +kernel
theorem dS_taken_80 : decode bS_taken 80 = .ok (.aload_n 0, 1) := by decide +kernel
theorem dS_taken_81 : decode bS_taken 81 = .ok (.getfield 49, 3) := by decide +kernel
theorem dS_taken_84 : decode bS_taken 84 = .ok (.getfield 143, 3) := by decide +kernel
theorem dS_taken_87 : decode bS_taken 87 = .ok (.iconst 1, 1) := by decide +kernel
theorem dS_taken_88 : decode bS_taken 88 = .ok (.aaload, 1) := by decide +kernel
theorem dS_taken_89 : decode bS_taken 89 = .ok (.iload_n 3, 1) := by decide +kernel
theorem dS_taken_90 : decode bS_taken 90 = .ok (.iaload, 1) := by decide +kernel
theorem dS_taken_91 : decode bS_taken 91 = .ok (.ireturn, 1) := by decide +kernel
theorem dS_taken_92 : decode bS_taken 92 = .ok (.aload_n 0, 1) := by decide +kernel
theorem dS_taken_93 : decode bS_taken 93 = .ok (.getfield 49, 3) := by decide +kernel
theorem dS_taken_96 : decode bS_taken 96 = .ok (.getfield 143, 3) := by decide +kernel
theorem dS_taken_99 : decode bS_taken 99 = .ok (.iconst 3, 1) := by decide +kernel
theorem dS_taken_100 : decode bS_taken 100 = .ok (.aaload, 1) := by decide +kernel
theorem dS_taken_101 : decode bS_taken 101 = .ok (.iload_n 3, 1) := by decide +kernel
theorem dS_taken_102 : decode bS_taken 102 = .ok (.iaload, 1) := by decide +kernel
theorem dS_taken_103 : decode bS_taken 103 = .ok (.iload_n 2, 1) := by decide +kernel
theorem dS_taken_104 : decode bS_taken 104 = .ok (.invokestatic 256, 3) := by decide +kernel
theorem dS_taken_107 : decode bS_taken 107 = .ok (.ifCond .eq 7, 3) := by decide +kernel
theorem dS_taken_110 : decode bS_taken 110 = .ok (.iload_n 3, 1) := by decide +kernel
theorem dS_taken_111 : decode bS_taken 111 = .ok (.goto 5, 3) := by decide +kernel
theorem dS_taken_114 : decode bS_taken 114 = .ok (.bipush (-13), 2) := by decide +kernel
theorem dS_taken_116 : decode bS_taken 116 = .ok (.ireturn, 1) := by decide +kernel
theorem wS_taken_69 {p : Program} {l : Launch} {e : Env} {s : State} {m : MethodId} {args : Array Value} {below : List Frame} {meth : Method} {c : Code} {G : GT} {I : List Nat} (C : CX p s m args meth c NS bS_taken 5 (some .int) G I) (hI : cI I) {fu : Nat} {R1 : Int32} {Z : Sg} {v2 : Int32} {v3 : Int32} {v4 : Int32} {t0 : Int32} {t1 : Int32} {z : Sg} {H : Heap} {locs : List Loc} {ls : Array Slot} (h : pS_taken_69 fu v2 v3 v4 t0 t1 z = some (R1, Z)) (hG : GW G I z s.heap H locs) (hl : lv_has ls 5 [(0, .ref (gA G 0)), (2, .int v2), (3, .int v3), (4, .int v4)]) : W p l e rmS_taken s m args below meth c H locs 0 0 (MQ below (Qi G I R1 Z) args s 0 0 (AD G I)) (F0 m 69 ls [.int t1, .int t0]) := by
  unfold pS_taken_69 at h
  refine rIcmpeq C (tgt := 75) h dS_taken_69 (by decide) (fun h => ?_) (fun h => ?_)
  · refine rIload C dS_taken_75 hl 3 rfl ?_
    refine rIfne C (tgt := 92) h dS_taken_77 (by decide) (fun h => ?_) (fun h => ?_)
    · refine rAload_n C dS_taken_92 hl 0 rfl ?_
      refine rGet C hG (hI 0 (by decide)) e_0 fiS_5 (v := .ref (gA G 9)) rfl k_374 dS_taken_93 ?_
      refine rGet C hG (hI 9 (by decide)) e_9 fiR_2 (v := .ref (gA G 11)) rfl k_143 dS_taken_96 ?_
      refine lv_iconst (v := 3) C.1 C.2.1 dS_taken_99 (by decide) ?_
      refine rAaldK C hG (hI 11 (by decide)) e_11 (t0 := 3) rfl rfl 3 (by decide) (by decide) 15 rfl dS_taken_100 ?_
      refine rIload_n C dS_taken_101 hl 2 rfl ?_
      refine rIald C hG (hI 15 (by decide)) e_15 h dS_taken_102 (fun h => ?_)
      refine rIload_n C dS_taken_103 hl 1 rfl ?_
      refine rCSi [.int (ga z 15 v3), .int v2] [] C hG h (fun h => cS_isA hI h) mvS_isA k_752 ⟨Nat.le_of_ble_eq_true rfl, Nat.le_of_ble_eq_true rfl⟩ ⟨rfl, rfl⟩ rfl hl.1 (Nat.le_of_ble_eq_true rfl) dS_taken_104 ⟨Nat.zero_le _, Nat.zero_le _⟩ rfl (fun H locs x9 z8 h hG => ?_)
      refine rIfeq C (tgt := 114) h dS_taken_107 (by decide) (fun h => ?_) (fun h => ?_)
      · refine lv_bipush (v := (-13)) C.1 C.2.1 dS_taken_114 (by decide) ?_
        exact rReti C hG h dS_taken_116
      · refine rIload_n C dS_taken_110 hl 2 rfl ?_
        refine lv_goto (tgt := 116) C.1 C.2.1 dS_taken_111 (by decide) ?_
        exact rReti C hG h dS_taken_116
    · refine rAload_n C dS_taken_80 hl 0 rfl ?_
      refine rGet C hG (hI 0 (by decide)) e_0 fiS_5 (v := .ref (gA G 9)) rfl k_374 dS_taken_81 ?_
      refine rGet C hG (hI 9 (by decide)) e_9 fiR_2 (v := .ref (gA G 11)) rfl k_143 dS_taken_84 ?_
      refine lv_iconst (v := 1) C.1 C.2.1 dS_taken_87 (by decide) ?_
      refine rAaldK C hG (hI 11 (by decide)) e_11 (t0 := 3) rfl rfl 1 (by decide) (by decide) 13 rfl dS_taken_88 ?_
      refine rIload_n C dS_taken_89 hl 2 rfl ?_
      refine rIald C hG (hI 13 (by decide)) e_13 h dS_taken_90 (fun h => ?_)
      exact rReti C hG h dS_taken_91
  · refine lv_bipush (v := (-13)) C.1 C.2.1 dS_taken_72 (by decide) ?_
    exact rReti C hG h dS_taken_74
theorem wS_taken_54 {p : Program} {l : Launch} {e : Env} {s : State} {m : MethodId} {args : Array Value} {below : List Frame} {meth : Method} {c : Code} {G : GT} {I : List Nat} (C : CX p s m args meth c NS bS_taken 5 (some .int) G I) (hI : cI I) {fu : Nat} {R1 : Int32} {Z : Sg} {v2 : Int32} {v3 : Int32} {t0 : Int32} {z : Sg} {H : Heap} {locs : List Loc} {ls : Array Slot} (h : pS_taken_54 fu v2 v3 t0 z = some (R1, Z)) (hG : GW G I z s.heap H locs) (hl : lv_has ls 5 [(0, .ref (gA G 0)), (2, .int v2), (3, .int v3)]) : W p l e rmS_taken s m args below meth c H locs 0 0 (MQ below (Qi G I R1 Z) args s 0 0 (AD G I)) (F0 m 54 ls [.int t0]) := by
  unfold pS_taken_54 at h
  refine rIstoreA C dS_taken_54 hl (by decide) [(0, .ref (gA G 0)), (2, .int v2), (3, .int v3)] rfl (fun ls hl => ?_)
  refine rIload C dS_taken_56 hl 0 rfl ?_
  refine rIload_n C dS_taken_58 hl 2 rfl ?_
  refine lv_bipush (v := 6) C.1 C.2.1 dS_taken_59 (by decide) ?_
  refine rIcmpge C (tgt := 68) h dS_taken_61 (by decide) (fun h => ?_) (fun h => ?_)
  · refine lv_iconst (v := 0) C.1 C.2.1 dS_taken_68 (by decide) ?_
    exact wS_taken_69 C hI h hG (lv_sub hl [1, 2, 3, 0] rfl)
  · refine lv_iconst (v := 1) C.1 C.2.1 dS_taken_64 (by decide) ?_
    refine lv_goto (tgt := 69) C.1 C.2.1 dS_taken_65 (by decide) ?_
    exact wS_taken_69 C hI h hG (lv_sub hl [1, 2, 3, 0] rfl)
theorem cS_taken {l : Launch} {G : GT} {I : List Nat} (hI : cI I) {fu : Nat} {v1 : Int32} {v2 : Int32} {z : Sg} {R1 : Int32} {Z : Sg} (h : pS_taken fu v1 v2 z = some (R1, Z)) : Mt l yS_taken rmS_taken bS_taken 5 (some .int) G I z [.ref (gA G 0), .int v1, .int v2] (Qi G I R1 Z) := by
  refine entM (by decide +kernel) (Nat.le_of_ble_eq_true rfl) ?_
  intro p e s m below meth c C hG ls hl
  have hl : lv_has ls 5 [(0, .ref (gA G 0)), (1, .int v1), (2, .int v2)] := hl
  unfold pS_taken at h
  refine rIload_n C dS_taken_0 hl 2 rfl ?_
  refine lv_bipush (v := 6) C.1 C.2.1 dS_taken_1 (by decide) ?_
  refine rCSi [.int v2, .int 6] [] C hG h (fun h => cS_within hI h) mvS_within k_423 ⟨Nat.le_of_ble_eq_true rfl, Nat.le_of_ble_eq_true rfl⟩ ⟨rfl, rfl⟩ rfl hl.1 (Nat.le_of_ble_eq_true rfl) dS_taken_3 ⟨Nat.zero_le _, Nat.zero_le _⟩ rfl (fun H locs x2 z1 h hG => ?_)
  refine rIfne C (tgt := 12) h dS_taken_6 (by decide) (fun h => ?_) (fun h => ?_)
  · refine rIload_n C dS_taken_12 hl 1 rfl ?_
    refine lv_bipush (v := 11) C.1 C.2.1 dS_taken_13 (by decide) ?_
    refine rCSi [.int v1, .int 11] [] C hG h (fun h => cS_within hI h) mvS_within k_423 ⟨Nat.le_of_ble_eq_true rfl, Nat.le_of_ble_eq_true rfl⟩ ⟨rfl, rfl⟩ rfl hl.1 (Nat.le_of_ble_eq_true rfl) dS_taken_15 ⟨Nat.zero_le _, Nat.zero_le _⟩ rfl (fun H locs x4 z3 h hG => ?_)
    refine rIfne C (tgt := 24) h dS_taken_18 (by decide) (fun h => ?_) (fun h => ?_)
    · refine rIload_n C dS_taken_24 hl 1 rfl ?_
      refine lv_bipush (v := 6) C.1 C.2.1 dS_taken_25 (by decide) ?_
      refine lv_irem C.1 C.2.1 dS_taken_27 (by decide) ?_
      refine rIstore_n C dS_taken_28 hl h (by decide) [(0, .ref (gA G 0)), (1, .int v1), (2, .int v2)] rfl (fun x5 ls h hl => ?_)
      refine rAload_n C dS_taken_29 hl 1 rfl ?_
      refine rGet C hG (hI 0 (by decide)) e_0 fiS_5 (v := .ref (gA G 9)) rfl k_374 dS_taken_30 ?_
      refine rIload_n C dS_taken_33 hl 0 rfl ?_
      refine rCVi [.int x5] [] C hG h (fun h => cR_has hI row9 h) mvR_has k_452 ⟨Nat.le_of_ble_eq_true rfl, Nat.le_of_ble_eq_true rfl⟩ ⟨rfl, rfl⟩ (rRecv C hG (hI 9 (by decide)) e_9 rfl) rfl hl.1 (Nat.le_of_ble_eq_true rfl) dS_taken_34 ⟨Nat.zero_le _, Nat.zero_le _⟩ rfl (fun H locs x7 z6 h hG => ?_)
      refine rIfne C (tgt := 43) h dS_taken_37 (by decide) (fun h => ?_) (fun h => ?_)
      · refine rIload_n C dS_taken_43 hl 2 rfl ?_
        refine lv_bipush (v := 6) C.1 C.2.1 dS_taken_44 (by decide) ?_
        refine rIcmpge C (tgt := 53) h dS_taken_46 (by decide) (fun h => ?_) (fun h => ?_)
        · refine lv_iconst (v := 0) C.1 C.2.1 dS_taken_53 (by decide) ?_
          exact wS_taken_54 C hI h hG (lv_sub hl [1, 3, 0] rfl)
        · refine lv_iconst (v := 1) C.1 C.2.1 dS_taken_49 (by decide) ?_
          refine lv_goto (tgt := 54) C.1 C.2.1 dS_taken_50 (by decide) ?_
          exact wS_taken_54 C hI h hG (lv_sub hl [1, 3, 0] rfl)
      · refine lv_bipush (v := (-11)) C.1 C.2.1 dS_taken_40 (by decide) ?_
        exact rReti C hG h dS_taken_42
    · refine lv_bipush (v := (-12)) C.1 C.2.1 dS_taken_21 (by decide) ?_
      exact rReti C hG h dS_taken_23
  · refine lv_bipush (v := (-2)) C.1 C.2.1 dS_taken_9 (by decide) ?_
    exact rReti C hG h dS_taken_11
