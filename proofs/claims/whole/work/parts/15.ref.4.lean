theorem dM_told_0 : decode bM_told 0 = .ok (.aload_n 0, 1) := by decide +kernel
theorem dM_told_1 : decode bM_told 1 = .ok (.iload_n 1, 1) := by decide +kernel
theorem dM_told_2 : decode bM_told 2 = .ok (.invokevirtual 186, 3) := by decide +kernel
theorem dM_told_5 : decode bM_told 5 = .ok (.ifCond .ne 7, 3) := by decide +kernel
theorem dM_told_8 : decode bM_told 8 = .ok (.sipush (-5000), 3) := by decide +kernel
theorem dM_told_11 : decode bM_told 11 = .ok (.ireturn, 1) := by decide +kernel
theorem dM_told_12 : decode bM_told 12 = .ok (.iload_n 2, 1) := by decide +kernel
theorem dM_told_13 : decode bM_told 13 = .ok (.tableswitch 137 0 9 #[55, 55, 55, 66, 73, 80, 86, 92, 98, 112], 55) := by decide +kernel
theorem dM_told_68 : decode bM_told 68 = .ok (.aload_n 0, 1) := by decide +kernel
theorem dM_told_69 : decode bM_told 69 = .ok (.getfield 16, 3) := by decide +kernel
theorem dM_told_72 : decode bM_told 72 = .ok (.iconst 3, 1) := by decide +kernel
theorem dM_told_73 : decode bM_told 73 = .ok (.iload_n 1, 1) := by decide +kernel
theorem dM_told_74 : decode bM_told 74 = .ok (.imul, 1) := by decide +kernel
theorem dM_told_75 : decode bM_told 75 = .ok (.iload_n 2, 1) := by decide +kernel
theorem dM_told_76 : decode bM_told 76 = .ok (.iadd, 1) := by decide +kernel
theorem dM_told_77 : decode bM_told 77 = .ok (.iaload, 1) := by decide +kernel
theorem dM_told_78 : decode bM_told 78 = .ok (.ireturn, 1) := by decide +kernel
theorem dM_told_79 : decode bM_told 79 = .ok (.aload_n 0, 1) := by decide +kernel
theorem dM_told_80 : decode bM_told 80 = .ok (.getfield 7, 3) := by decide +kernel
theorem dM_told_83 : decode bM_told 83 = .ok (.iload_n 1, 1) := by decide +kernel
theorem dM_told_84 : decode bM_told 84 = .ok (.iaload, 1) := by decide +kernel
theorem dM_told_85 : decode bM_told 85 = .ok (.ireturn, 1) := by decide +kernel
theorem dM_told_86 : decode bM_told 86 = .ok (.aload_n 0, 1) := by decide +kernel
theorem dM_told_87 : decode bM_told 87 = .ok (.getfield 13, 3) := by decide +kernel
theorem dM_told_90 : decode bM_told 90 = .ok (.iload_n 1, 1) := by decide +kernel
theorem dM_told_91 : decode bM_told 91 = .ok (.iaload, 1) := by decide +kernel
theorem dM_told_92 : decode bM_told 92 = .ok (.ireturn, 1) := by decide +kernel
theorem dM_told_93 : decode bM_told 93 = .ok (.aload_n 0, 1) := by decide +kernel
theorem dM_told_94 : decode bM_told 94 = .ok (.iload_n 1, 1) := by decide +kernel
theorem dM_told_95 : decode bM_told 95 = .ok (.invokevirtual 195, 3) := by decide +kernel
theorem dM_told_98 : decode bM_told 98 = .ok (.ireturn, 1) := by decide +kernel
theorem dM_told_99 : decode bM_told 99 = .ok (.aload_n 0, 1) := by decide +kernel
theorem dM_told_100 : decode bM_told 100 = .ok (.iload_n 1, 1) := by decide +kernel
theorem dM_told_101 : decode bM_told 101 = .ok (.invokevirtual 198, 3) := by decide +kernel
theorem dM_told_104 : decode bM_told 104 = .ok (.ireturn, 1) := by decide +kernel
theorem dM_told_105 : decode bM_told 105 = .ok (.aload_n 0, 1) := by decide +kernel
theorem dM_told_106 : decode bM_told 106 = .ok (.iload_n 1, 1) := by decide +kernel
theorem dM_told_107 : decode bM_told 107 = .ok (.invokevirtual 201, 3) := by decide +kernel
theorem dM_told_110 : decode bM_told 110 = .ok (.ireturn, 1) := by decide +kernel
theorem dM_told_111 : decode bM_told 111 = .ok (.aload_n 0, 1) := by decide +kernel
theorem dM_told_112 : decode bM_told 112 = .ok (.iload_n 1, 1) := by decide +kernel
theorem dM_told_113 : decode bM_told 113 = .ok (.invokevirtual 103, 3) := by decide +kernel
theorem dM_told_116 : decode bM_told 116 = .ok (.ifCond .eq 7, 3) := by decide +kernel
theorem dM_told_119 : decode bM_told 119 = .ok (.iconst 1, 1) := by decide +kernel
theorem dM_told_120 : decode bM_told 120 = .ok (.goto 4, 3) := by decide +kernel
theorem dM_told_123 : decode bM_told 123 = .ok (.iconst 0, 1) := by decide +kernel
theorem dM_told_124 : decode bM_told 124 = .ok (.ireturn, 1) := by decide +kernel
theorem dM_told_125 : decode bM_told 125 = .ok (.aload_n 0, 1) := by decide +kernel
theorem dM_told_126 : decode bM_told 126 = .ok (.getfield 16, 3) := by decide +kernel
theorem dM_told_129 : decode bM_told 129 = .ok (.iconst 3, 1) := by decide +kernel
theorem dM_told_130 : decode bM_told 130 = .ok (.iload_n 1, 1) := by decide +kernel
theorem dM_told_131 : decode bM_told 131 = .ok (.imul, 1) := by decide +kernel
theorem dM_told_132 : decode bM_told 132 = .ok (.iconst 1, 1) := by decide +kernel
theorem dM_told_133 : decode bM_told 133 = .ok (.iadd, 1) := by decide +kernel
theorem dM_told_134 : decode bM_told 134 = .ok (.iaload, 1) := by decide +kernel
theorem dM_told_135 : decode bM_told 135 = .ok (.aload_n 0, 1) := by decide +kernel
theorem dM_told_136 : decode bM_told 136 = .ok (.getfield 19, 3) := by decide +kernel
theorem dM_told_139 : decode bM_told 139 = .ok (.iconst 1, 1) := by decide +kernel
theorem dM_told_140 : decode bM_told 140 = .ok (.iaload, 1) := by decide +kernel
theorem dM_told_141 : decode bM_told 141 = .ok (.if_icmp .ne 7, 3) := by decide +kernel
theorem dM_told_144 : decode bM_told 144 = .ok (.iconst 1, 1) := by decide +kernel
theorem dM_told_145 : decode bM_told 145 = .ok (.goto 4, 3) := by decide +kernel
theorem dM_told_148 : decode bM_told 148 = .ok (.iconst 0, 1) := by decide +kernel
theorem dM_told_149 : decode bM_told 149 = .ok (.ireturn, 1) := by decide +kernel
theorem dM_told_150 : decode bM_told 150 = .ok (.sipush (-7000), 3) := by decide +kernel
theorem dM_told_153 : decode bM_told 153 = .ok (.ireturn, 1) := by decide +kernel
theorem cM_told {l : Launch} {G : GT} {I : List Nat} (hI : mI I) {fu : Nat} {v1 : Int32} {v2 : Int32} {z : Sg} {R1 : Int32} {Z : Sg} (h : pM_told fu v1 v2 z = some (R1, Z)) : Mt l yM_told rmM_told bM_told 3 (some .int) G I z [.ref (gA G 78), .int v1, .int v2] (Qi G I R1 Z) := by
  refine entM (by decide +kernel) (Nat.le_of_ble_eq_true rfl) ?_
  intro p e s m below meth c C hG ls hl
  have hl : lv_has ls 3 [(0, .ref (gA G 78)), (1, .int v1), (2, .int v2)] := hl
  unfold pM_told at h
  refine rAload_n C dM_told_0 hl 0 rfl ?_
  refine rIload_n C dM_told_1 hl 1 rfl ?_
  refine rCVi [.int v1] [] C hG h (fun h => cM_isOne hI h) mvM_isOne k_948 ⟨Nat.le_of_ble_eq_true rfl, Nat.le_of_ble_eq_true rfl⟩ ⟨rfl, rfl⟩ (rRecv C hG (hI 78 (by decide) (by decide)) e_78 rfl) rfl hl.1 (Nat.le_of_ble_eq_true rfl) dM_told_2 ⟨Nat.zero_le _, Nat.zero_le _⟩ rfl (fun H locs x2 z1 h hG => ?_)
  refine rIfne C (tgt := 12) h dM_told_5 (by decide) (fun h => ?_) (fun h => ?_)
  · refine rIload_n C dM_told_12 hl 2 rfl ?_
    by_cases q13_0 : v2 = 0
    · replace h := ifP q13_0 h
      refine rSwT C dM_told_13 0 q13_0 (by decide) (off := 55) (tgt := 68) (by decide) (by decide) ?_
      refine rAload_n C dM_told_68 hl 0 rfl ?_
      refine rGet C hG (hI 78 (by decide) (by decide)) e_78 fiM_3 (v := .ref (gA G 81)) rfl k_809 dM_told_69 ?_
      refine lv_iconst (v := 3) C.1 C.2.1 dM_told_72 (by decide) ?_
      refine rIload_n C dM_told_73 hl 1 rfl ?_
      refine lv_imul C.1 C.2.1 dM_told_74 ?_
      refine rIload_n C dM_told_75 hl 2 rfl ?_
      refine lv_iadd C.1 C.2.1 dM_told_76 ?_
      refine rIald C hG (hI 81 (by decide) (by decide)) e_81 h dM_told_77 (fun h => ?_)
      exact rReti C hG h dM_told_78
    replace h := ifN q13_0 h
    by_cases q13_1 : v2 = 1
    · replace h := ifP q13_1 h
      refine rSwT C dM_told_13 1 q13_1 (by decide) (off := 55) (tgt := 68) (by decide) (by decide) ?_
      refine rAload_n C dM_told_68 hl 0 rfl ?_
      refine rGet C hG (hI 78 (by decide) (by decide)) e_78 fiM_3 (v := .ref (gA G 81)) rfl k_809 dM_told_69 ?_
      refine lv_iconst (v := 3) C.1 C.2.1 dM_told_72 (by decide) ?_
      refine rIload_n C dM_told_73 hl 1 rfl ?_
      refine lv_imul C.1 C.2.1 dM_told_74 ?_
      refine rIload_n C dM_told_75 hl 2 rfl ?_
      refine lv_iadd C.1 C.2.1 dM_told_76 ?_
      refine rIald C hG (hI 81 (by decide) (by decide)) e_81 h dM_told_77 (fun h => ?_)
      exact rReti C hG h dM_told_78
    replace h := ifN q13_1 h
    by_cases q13_2 : v2 = 2
    · replace h := ifP q13_2 h
      refine rSwT C dM_told_13 2 q13_2 (by decide) (off := 55) (tgt := 68) (by decide) (by decide) ?_
      refine rAload_n C dM_told_68 hl 0 rfl ?_
      refine rGet C hG (hI 78 (by decide) (by decide)) e_78 fiM_3 (v := .ref (gA G 81)) rfl k_809 dM_told_69 ?_
      refine lv_iconst (v := 3) C.1 C.2.1 dM_told_72 (by decide) ?_
      refine rIload_n C dM_told_73 hl 1 rfl ?_
      refine lv_imul C.1 C.2.1 dM_told_74 ?_
      refine rIload_n C dM_told_75 hl 2 rfl ?_
      refine lv_iadd C.1 C.2.1 dM_told_76 ?_
      refine rIald C hG (hI 81 (by decide) (by decide)) e_81 h dM_told_77 (fun h => ?_)
      exact rReti C hG h dM_told_78
    replace h := ifN q13_2 h
    by_cases q13_3 : v2 = 3
    · replace h := ifP q13_3 h
      refine rSwT C dM_told_13 3 q13_3 (by decide) (off := 66) (tgt := 79) (by decide) (by decide) ?_
      refine rAload_n C dM_told_79 hl 0 rfl ?_
      refine rGet C hG (hI 78 (by decide) (by decide)) e_78 fiM_1 (v := .ref (gA G 79)) rfl k_807 dM_told_80 ?_
      refine rIload_n C dM_told_83 hl 1 rfl ?_
      refine rIald C hG (hI 79 (by decide) (by decide)) e_79 h dM_told_84 (fun h => ?_)
      exact rReti C hG h dM_told_85
    replace h := ifN q13_3 h
    by_cases q13_4 : v2 = 4
    · replace h := ifP q13_4 h
      refine rSwT C dM_told_13 4 q13_4 (by decide) (off := 73) (tgt := 86) (by decide) (by decide) ?_
      refine rAload_n C dM_told_86 hl 0 rfl ?_
      refine rGet C hG (hI 78 (by decide) (by decide)) e_78 fiM_2 (v := .ref (gA G 80)) rfl k_808 dM_told_87 ?_
      refine rIload_n C dM_told_90 hl 1 rfl ?_
      refine rIald C hG (hI 80 (by decide) (by decide)) e_80 h dM_told_91 (fun h => ?_)
      exact rReti C hG h dM_told_92
    replace h := ifN q13_4 h
    by_cases q13_5 : v2 = 5
    · replace h := ifP q13_5 h
      refine rSwT C dM_told_13 5 q13_5 (by decide) (off := 80) (tgt := 93) (by decide) (by decide) ?_
      refine rAload_n C dM_told_93 hl 0 rfl ?_
      refine rIload_n C dM_told_94 hl 1 rfl ?_
      refine rCVi [.int v1] [] C hG h (fun h => cM_keepsOf hI h) mvM_keepsOf k_994 ⟨Nat.le_of_ble_eq_true rfl, Nat.le_of_ble_eq_true rfl⟩ ⟨rfl, rfl⟩ (rRecv C hG (hI 78 (by decide) (by decide)) e_78 rfl) rfl hl.1 (Nat.le_of_ble_eq_true rfl) dM_told_95 ⟨Nat.zero_le _, Nat.zero_le _⟩ rfl (fun H locs x4 z3 h hG => ?_)
      exact rReti C hG h dM_told_98
    replace h := ifN q13_5 h
    by_cases q13_6 : v2 = 6
    · replace h := ifP q13_6 h
      refine rSwT C dM_told_13 6 q13_6 (by decide) (off := 86) (tgt := 99) (by decide) (by decide) ?_
      refine rAload_n C dM_told_99 hl 0 rfl ?_
      refine rIload_n C dM_told_100 hl 1 rfl ?_
      refine rCVi [.int v1] [] C hG h (fun h => cM_swingsOf hI h) mvM_swingsOf k_998 ⟨Nat.le_of_ble_eq_true rfl, Nat.le_of_ble_eq_true rfl⟩ ⟨rfl, rfl⟩ (rRecv C hG (hI 78 (by decide) (by decide)) e_78 rfl) rfl hl.1 (Nat.le_of_ble_eq_true rfl) dM_told_101 ⟨Nat.zero_le _, Nat.zero_le _⟩ rfl (fun H locs x6 z5 h hG => ?_)
      exact rReti C hG h dM_told_104
    replace h := ifN q13_6 h
    by_cases q13_7 : v2 = 7
    · replace h := ifP q13_7 h
      refine rSwT C dM_told_13 7 q13_7 (by decide) (off := 92) (tgt := 105) (by decide) (by decide) ?_
      refine rAload_n C dM_told_105 hl 0 rfl ?_
      refine rIload_n C dM_told_106 hl 1 rfl ?_
      refine rCVi [.int v1] [] C hG h (fun h => cM_tiresOf hI h) mvM_tiresOf k_1002 ⟨Nat.le_of_ble_eq_true rfl, Nat.le_of_ble_eq_true rfl⟩ ⟨rfl, rfl⟩ (rRecv C hG (hI 78 (by decide) (by decide)) e_78 rfl) rfl hl.1 (Nat.le_of_ble_eq_true rfl) dM_told_107 ⟨Nat.zero_le _, Nat.zero_le _⟩ rfl (fun H locs x8 z7 h hG => ?_)
      exact rReti C hG h dM_told_110
    replace h := ifN q13_7 h
    by_cases q13_8 : v2 = 8
    · replace h := ifP q13_8 h
      refine rSwT C dM_told_13 8 q13_8 (by decide) (off := 98) (tgt := 111) (by decide) (by decide) ?_
      refine rAload_n C dM_told_111 hl 0 rfl ?_
      refine rIload_n C dM_told_112 hl 1 rfl ?_
      refine rCVi [.int v1] [] C hG h (fun h => cM_doesClash hI h) mvM_doesClash k_1006 ⟨Nat.le_of_ble_eq_true rfl, Nat.le_of_ble_eq_true rfl⟩ ⟨rfl, rfl⟩ (rRecv C hG (hI 78 (by decide) (by decide)) e_78 rfl) rfl hl.1 (Nat.le_of_ble_eq_true rfl) dM_told_113 ⟨Nat.zero_le _, Nat.zero_le _⟩ rfl (fun H locs x10 z9 h hG => ?_)
      refine rIfeq C (tgt := 123) h dM_told_116 (by decide) (fun h => ?_) (fun h => ?_)
      · refine lv_iconst (v := 0) C.1 C.2.1 dM_told_123 (by decide) ?_
        exact rReti C hG h dM_told_124
      · refine lv_iconst (v := 1) C.1 C.2.1 dM_told_119 (by decide) ?_
        refine lv_goto (tgt := 124) C.1 C.2.1 dM_told_120 (by decide) ?_
        exact rReti C hG h dM_told_124
    replace h := ifN q13_8 h
    by_cases q13_9 : v2 = 9
    · replace h := ifP q13_9 h
      refine rSwT C dM_told_13 9 q13_9 (by decide) (off := 112) (tgt := 125) (by decide) (by decide) ?_
      refine rAload_n C dM_told_125 hl 0 rfl ?_
      refine rGet C hG (hI 78 (by decide) (by decide)) e_78 fiM_3 (v := .ref (gA G 81)) rfl k_809 dM_told_126 ?_
      refine lv_iconst (v := 3) C.1 C.2.1 dM_told_129 (by decide) ?_
      refine rIload_n C dM_told_130 hl 1 rfl ?_
      refine lv_imul C.1 C.2.1 dM_told_131 ?_
      refine lv_iconst (v := 1) C.1 C.2.1 dM_told_132 (by decide) ?_
      refine lv_iadd C.1 C.2.1 dM_told_133 ?_
      refine rIald C hG (hI 81 (by decide) (by decide)) e_81 h dM_told_134 (fun h => ?_)
      refine rAload_n C dM_told_135 hl 0 rfl ?_
      refine rGet C hG (hI 78 (by decide) (by decide)) e_78 fiM_4 (v := .ref (gA G 82)) rfl k_810 dM_told_136 ?_
      refine lv_iconst (v := 1) C.1 C.2.1 dM_told_139 (by decide) ?_
      refine rIaldK C hG (hI 82 (by decide) (by decide)) e_82 1 (by decide) (by decide) dM_told_140 ?_
      refine rIcmpne C (tgt := 148) h dM_told_141 (by decide) (fun h => ?_) (fun h => ?_)
      · refine lv_iconst (v := 0) C.1 C.2.1 dM_told_148 (by decide) ?_
        exact rReti C hG h dM_told_149
      · refine lv_iconst (v := 1) C.1 C.2.1 dM_told_144 (by decide) ?_
        refine lv_goto (tgt := 149) C.1 C.2.1 dM_told_145 (by decide) ?_
        exact rReti C hG h dM_told_149
    replace h := ifN q13_9 h
    refine rSwD C dM_told_13 (tgt := 150) (by have q13_0n := ne_toInt (k := 0) q13_0 (by decide); have q13_1n := ne_toInt (k := 1) q13_1 (by decide); have q13_2n := ne_toInt (k := 2) q13_2 (by decide); have q13_3n := ne_toInt (k := 3) q13_3 (by decide); have q13_4n := ne_toInt (k := 4) q13_4 (by decide); have q13_5n := ne_toInt (k := 5) q13_5 (by decide); have q13_6n := ne_toInt (k := 6) q13_6 (by decide); have q13_7n := ne_toInt (k := 7) q13_7 (by decide); have q13_8n := ne_toInt (k := 8) q13_8 (by decide); have q13_9n := ne_toInt (k := 9) q13_9 (by decide); omega) (by decide) ?_
    refine lv_sipush (v := (-7000)) C.1 C.2.1 dM_told_150 (by decide) ?_
    exact rReti C hG h dM_told_153
  · refine lv_sipush (v := (-5000)) C.1 C.2.1 dM_told_8 (by decide) ?_
    exact rReti C hG h dM_told_11
theorem dM_strokeOf_0 : decode bM_strokeOf 0 = .ok (.iconst 0, 1) := by decide +kernel
theorem dM_strokeOf_1 : decode bM_strokeOf 1 = .ok (.istore_n 1, 1) := by decide +kernel
theorem dM_strokeOf_2 : decode bM_strokeOf 2 = .ok (.iconst 0, 1) := by decide +kernel
theorem dM_strokeOf_3 : decode bM_strokeOf 3 = .ok (.istore_n 2, 1) := by decide +kernel
theorem dM_strokeOf_4 : decode bM_strokeOf 4 = .ok (.iload_n 2, 1) := by decide +kernel
theorem dM_strokeOf_5 : decode bM_strokeOf 5 = .ok (.aload_n 0, 1) := by decide +kernel
theorem dM_strokeOf_6 : decode bM_strokeOf 6 = .ok (.getfield 78, 3) := by decide +kernel
theorem dM_strokeOf_9 : decode bM_strokeOf 9 = .ok (.if_icmp .ge 56, 3) := by decide +kernel
theorem dM_strokeOf_12 : decode bM_strokeOf 12 = .ok (.aload_n 0, 1) := by decide +kernel
theorem dM_strokeOf_13 : decode bM_strokeOf 13 = .ok (.getfield 61, 3) := by decide +kernel
theorem dM_strokeOf_16 : decode bM_strokeOf 16 = .ok (.iconst 2, 1) := by decide +kernel
theorem dM_strokeOf_17 : decode bM_strokeOf 17 = .ok (.iload_n 2, 1) := by decide +kernel
theorem dM_strokeOf_18 : decode bM_strokeOf 18 = .ok (.imul, 1) := by decide +kernel
theorem dM_strokeOf_19 : decode bM_strokeOf 19 = .ok (.aload_n 0, 1) := by decide +kernel
theorem dM_strokeOf_20 : decode bM_strokeOf 20 = .ok (.getfield 16, 3) := by decide +kernel
theorem dM_strokeOf_23 : decode bM_strokeOf 23 = .ok (.iconst 3, 1) := by decide +kernel
theorem dM_strokeOf_24 : decode bM_strokeOf 24 = .ok (.iload_n 2, 1) := by decide +kernel
theorem dM_strokeOf_25 : decode bM_strokeOf 25 = .ok (.imul, 1) := by decide +kernel
theorem dM_strokeOf_26 : decode bM_strokeOf 26 = .ok (.iconst 2, 1) := by decide +kernel
theorem dM_strokeOf_27 : decode bM_strokeOf 27 = .ok (.iadd, 1) := by decide +kernel
theorem dM_strokeOf_28 : decode bM_strokeOf 28 = .ok (.iaload, 1) := by decide +kernel
theorem dM_strokeOf_29 : decode bM_strokeOf 29 = .ok (.bipush 99, 2) := by decide +kernel
theorem dM_strokeOf_31 : decode bM_strokeOf 31 = .ok (.if_icmp .ne 7, 3) := by decide +kernel
theorem dM_strokeOf_34 : decode bM_strokeOf 34 = .ok (.iconst 0, 1) := by decide +kernel
theorem dM_strokeOf_35 : decode bM_strokeOf 35 = .ok (.goto 8, 3) := by decide +kernel
theorem dM_strokeOf_38 : decode bM_strokeOf 38 = .ok (.aload_n 0, 1) := by decide +kernel
theorem dM_strokeOf_39 : decode bM_strokeOf 39 = .ok (.iload_n 2, 1) := by decide +kernel
theorem dM_strokeOf_40 : decode bM_strokeOf 40 = .ok (.invokevirtual 198, 3) := by decide +kernel
theorem dM_strokeOf_43 : decode bM_strokeOf 43 = .ok (.iastore, 1) := by decide +kernel
theorem dM_strokeOf_44 : decode bM_strokeOf 44 = .ok (.aload_n 0, 1) := by decide +kernel
theorem dM_strokeOf_45 : decode bM_strokeOf 45 = .ok (.getfield 61, 3) := by decide +kernel
theorem dM_strokeOf_48 : decode bM_strokeOf 48 = .ok (.iconst 2, 1) := by decide +kernel
theorem dM_strokeOf_49 : decode bM_strokeOf 49 = .ok (.iload_n 2, 1) := by decide +kernel
theorem dM_strokeOf_50 : decode bM_strokeOf 50 = .ok (.imul, 1) := by decide +kernel
theorem dM_strokeOf_51 : decode bM_strokeOf 51 = .ok (.iconst 1, 1) := by decide +kernel
theorem dM_strokeOf_52 : decode bM_strokeOf 52 = .ok (.iadd, 1) := by decide +kernel
theorem dM_strokeOf_53 : decode bM_strokeOf 53 = .ok (.aload_n 0, 1) := by decide +kernel
theorem dM_strokeOf_54 : decode bM_strokeOf 54 = .ok (.iload_n 2, 1) := by decide +kernel
theorem dM_strokeOf_55 : decode bM_strokeOf 55 = .ok (.invokevirtual 201, 3) := by decide +kernel
theorem dM_strokeOf_58 : decode bM_strokeOf 58 = .ok (.iastore, 1) := by decide +kernel
theorem dM_strokeOf_59 : decode bM_strokeOf 59 = .ok (.iinc 2 1, 3) := by decide +kernel
theorem dM_strokeOf_62 : decode bM_strokeOf 62 = .ok (.goto (-58), 3) := by decide +kernel
theorem dM_strokeOf_65 : decode bM_strokeOf 65 = .ok (.iconst 0, 1) := by decide +kernel
theorem dM_strokeOf_66 : decode bM_strokeOf 66 = .ok (.istore_n 2, 1) := by decide +kernel
theorem dM_strokeOf_67 : decode bM_strokeOf 67 = .ok (.iload_n 2, 1) := by decide +kernel
theorem dM_strokeOf_68 : decode bM_strokeOf 68 = .ok (.aload_n 0, 1) := by decide +kernel
theorem dM_strokeOf_69 : decode bM_strokeOf 69 = .ok (.getfield 78, 3) := by decide +kernel
theorem dM_strokeOf_72 : decode bM_strokeOf 72 = .ok (.if_icmp .ge 94, 3) := by decide +kernel
theorem dM_strokeOf_75 : decode bM_strokeOf 75 = .ok (.aload_n 0, 1) := by decide +kernel
theorem dM_strokeOf_76 : decode bM_strokeOf 76 = .ok (.getfield 16, 3) := by decide +kernel
theorem dM_strokeOf_79 : decode bM_strokeOf 79 = .ok (.iconst 3, 1) := by decide +kernel
theorem dM_strokeOf_80 : decode bM_strokeOf 80 = .ok (.iload_n 2, 1) := by decide +kernel
theorem dM_strokeOf_81 : decode bM_strokeOf 81 = .ok (.imul, 1) := by decide +kernel
theorem dM_strokeOf_82 : decode bM_strokeOf 82 = .ok (.iconst 1, 1) := by decide +kernel
theorem dM_strokeOf_83 : decode bM_strokeOf 83 = .ok (.iadd, 1) := by decide +kernel
theorem dM_strokeOf_84 : decode bM_strokeOf 84 = .ok (.iaload, 1) := by decide +kernel
theorem dM_strokeOf_85 : decode bM_strokeOf 85 = .ok (.aload_n 0, 1) := by decide +kernel
theorem dM_strokeOf_86 : decode bM_strokeOf 86 = .ok (.getfield 61, 3) := by decide +kernel
theorem dM_strokeOf_89 : decode bM_strokeOf 89 = .ok (.iconst 2, 1) := by decide +kernel
theorem dM_strokeOf_90 : decode bM_strokeOf 90 = .ok (.iload_n 2, 1) := by decide +kernel
theorem dM_strokeOf_91 : decode bM_strokeOf 91 = .ok (.imul, 1) := by decide +kernel
theorem dM_strokeOf_92 : decode bM_strokeOf 92 = .ok (.iaload, 1) := by decide +kernel
theorem dM_strokeOf_93 : decode bM_strokeOf 93 = .ok (.iadd, 1) := by decide +kernel
theorem dM_strokeOf_94 : decode bM_strokeOf 94 = .ok (.istore_n 3, 1) := by decide +kernel
theorem dM_strokeOf_95 : decode bM_strokeOf 95 = .ok (.iload_n 1, 1) := by decide +kernel
theorem dM_strokeOf_96 : decode bM_strokeOf 96 = .ok (.iload_n 3, 1) := by decide +kernel
theorem dM_strokeOf_97 : decode bM_strokeOf 97 = .ok (.bipush 12, 2) := by decide +kernel
theorem dM_strokeOf_99 : decode bM_strokeOf 99 = .ok (.if_icmp .lt 7, 3) := by decide +kernel
theorem dM_strokeOf_102 : decode bM_strokeOf 102 = .ok (.iconst 1, 1) := by decide +kernel
theorem dM_strokeOf_103 : decode bM_strokeOf 103 = .ok (.goto 4, 3) := by decide +kernel
theorem dM_strokeOf_106 : decode bM_strokeOf 106 = .ok (.iconst 0, 1) := by decide +kernel
theorem dM_strokeOf_107 : decode bM_strokeOf 107 = .ok (.iadd, 1) := by decide +kernel
theorem dM_strokeOf_108 : decode bM_strokeOf 108 = .ok (.istore_n 1, 1) := by decide +kernel
theorem dM_strokeOf_109 : decode bM_strokeOf 109 = .ok (.aload_n 0, 1) := by decide +kernel
theorem dM_strokeOf_110 : decode bM_strokeOf 110 = .ok (.getfield 16, 3) := by decide +kernel
theorem dM_strokeOf_113 : decode bM_strokeOf 113 = .ok (.iconst 3, 1) := by decide +kernel
theorem dM_strokeOf_114 : decode bM_strokeOf 114 = .ok (.iload_n 2, 1) := by decide +kernel
theorem dM_strokeOf_115 : decode bM_strokeOf 115 = .ok (.imul, 1) := by decide +kernel
theorem dM_strokeOf_116 : decode bM_strokeOf 116 = .ok (.iconst 1, 1) := by decide +kernel
theorem dM_strokeOf_117 : decode bM_strokeOf 117 = .ok (.iadd, 1) := by decide +kernel
theorem dM_strokeOf_118 : decode bM_strokeOf 118 = .ok (.iload_n 3, 1) := by decide +kernel
theorem dM_strokeOf_119 : decode bM_strokeOf 119 = .ok (.bipush 12, 2) := by decide +kernel
theorem dM_strokeOf_121 : decode bM_strokeOf 121 = .ok (.irem, 1) := by decide +kernel
theorem dM_strokeOf_122 : decode bM_strokeOf 122 = .ok (.iastore, 1) := by decide +kernel
theorem dM_strokeOf_123 : decode bM_strokeOf 123 = .ok (.aload_n 0, 1) := by decide +kernel
theorem dM_strokeOf_124 : decode bM_strokeOf 124 = .ok (.getfield 16, 3) := by decide +kernel
theorem dM_strokeOf_127 : decode bM_strokeOf 127 = .ok (.iconst 3, 1) := by decide +kernel
theorem dM_strokeOf_128 : decode bM_strokeOf 128 = .ok (.iload_n 2, 1) := by decide +kernel
theorem dM_strokeOf_129 : decode bM_strokeOf 129 = .ok (.imul, 1) := by decide +kernel
theorem dM_strokeOf_130 : decode bM_strokeOf 130 = .ok (.iconst 2, 1) := by decide +kernel
theorem dM_strokeOf_131 : decode bM_strokeOf 131 = .ok (.iadd, 1) := by decide +kernel
theorem dM_strokeOf_132 : decode bM_strokeOf 132 = .ok (.aload_n 0, 1) := by decide +kernel
theorem dM_strokeOf_133 : decode bM_strokeOf 133 = .ok (.getfield 16, 3) := by decide +kernel
theorem dM_strokeOf_136 : decode bM_strokeOf 136 = .ok (.iconst 3, 1) := by decide +kernel
theorem dM_strokeOf_137 : decode bM_strokeOf 137 = .ok (.iload_n 2, 1) := by decide +kernel
theorem dM_strokeOf_138 : decode bM_strokeOf 138 = .ok (.imul, 1) := by decide +kernel
theorem dM_strokeOf_139 : decode bM_strokeOf 139 = .ok (.iconst 2, 1) := by decide +kernel
theorem dM_strokeOf_140 : decode bM_strokeOf 140 = .ok (.iadd, 1) := by decide +kernel
theorem dM_strokeOf_141 : decode bM_strokeOf 141 = .ok (.iaload, 1) := by decide +kernel
theorem dM_strokeOf_142 : decode bM_strokeOf 142 = .ok (.aload_n 0, 1) := by decide +kernel
theorem dM_strokeOf_143 : decode bM_strokeOf 143 = .ok (.getfield 61, 3) := by decide +kernel
theorem dM_strokeOf_146 : decode bM_strokeOf 146 = .ok (.iconst 2, 1) := by decide +kernel
theorem dM_strokeOf_147 : decode bM_strokeOf 147 = .ok (.iload_n 2, 1) := by decide +kernel
theorem dM_strokeOf_148 : decode bM_strokeOf 148 = .ok (.imul, 1) := by decide +kernel
theorem dM_strokeOf_149 : decode bM_strokeOf 149 = .ok (.iconst 1, 1) := by decide +kernel
theorem dM_strokeOf_150 : decode bM_strokeOf 150 = .ok (.iadd, 1) := by decide +kernel
theorem dM_strokeOf_151 : decode bM_strokeOf 151 = .ok (.iaload, 1) := by decide +kernel
theorem dM_strokeOf_152 : decode bM_strokeOf 152 = .ok (.iadd, 1) := by decide +kernel
theorem dM_strokeOf_153 : decode bM_strokeOf 153 = .ok (.iconst 0, 1) := by decide +kernel
theorem dM_strokeOf_154 : decode bM_strokeOf 154 = .ok (.bipush 99, 2) := by decide +kernel
theorem dM_strokeOf_156 : decode bM_strokeOf 156 = .ok (.invokestatic 183, 3) := by decide +kernel
theorem dM_strokeOf_159 : decode bM_strokeOf 159 = .ok (.iastore, 1) := by decide +kernel
theorem dM_strokeOf_160 : decode bM_strokeOf 160 = .ok (.iinc 2 1, 3) := by decide +kernel
theorem dM_strokeOf_163 : decode bM_strokeOf 163 = .ok (.goto (-96), 3) := by decide +kernel
theorem dM_strokeOf_166 : decode bM_strokeOf 166 = .ok (.aload_n 0, 1) := by decide +kernel
theorem dM_strokeOf_167 : decode bM_strokeOf 167 = .ok (.getfield 19, 3) := by decide +kernel
theorem dM_strokeOf_170 : decode bM_strokeOf 170 = .ok (.iconst 1, 1) := by decide +kernel
theorem dM_strokeOf_171 : decode bM_strokeOf 171 = .ok (.aload_n 0, 1) := by decide +kernel
theorem dM_strokeOf_172 : decode bM_strokeOf 172 = .ok (.getfield 19, 3) := by decide +kernel
theorem dM_strokeOf_175 : decode bM_strokeOf 175 = .ok (.iconst 1, 1) := by decide +kernel
theorem dM_strokeOf_176 : decode bM_strokeOf 176 = .ok (.iaload, 1) := by decide +kernel
theorem dM_strokeOf_177 : decode bM_strokeOf 177 = .ok (.aload_n 0, 1) := by decide +kernel
theorem dM_strokeOf_178 : decode bM_strokeOf 178 = .ok (.getfield 19, 3) := by decide +kernel
theorem dM_strokeOf_181 : decode bM_strokeOf 181 = .ok (.iconst 2, 1) := by decide +kernel
theorem dM_strokeOf_182 : decode bM_strokeOf 182 = .ok (.iaload, 1) := by decide +kernel
theorem dM_strokeOf_183 : decode bM_strokeOf 183 = .ok (.iadd, 1) := by decide +kernel
theorem dM_strokeOf_184 : decode bM_strokeOf 184 = .ok (.bipush 12, 2) := by decide +kernel
theorem dM_strokeOf_186 : decode bM_strokeOf 186 = .ok (.irem, 1) := by decide +kernel
theorem dM_strokeOf_187 : decode bM_strokeOf 187 = .ok (.iastore, 1) := by decide +kernel
theorem dM_strokeOf_188 : decode bM_strokeOf 188 = .ok (.aload_n 0, 1) := by decide +kernel
theorem dM_strokeOf_189 : decode bM_strokeOf 189 = .ok (.getfield 19, 3) := by decide +kernel
theorem dM_strokeOf_192 : decode bM_strokeOf 192 = .ok (.iconst 3, 1) := by decide +kernel
theorem dM_strokeOf_193 : decode bM_strokeOf 193 = .ok (.dup2, 1) := by decide +kernel
theorem dM_strokeOf_194 : decode bM_strokeOf 194 = .ok (.iaload, 1) := by decide +kernel
theorem dM_strokeOf_195 : decode bM_strokeOf 195 = .ok (.iconst 1, 1) := by decide +kernel
theorem dM_strokeOf_196 : decode bM_strokeOf 196 = .ok (.iadd, 1) := by decide +kernel
theorem dM_strokeOf_197 : decode bM_strokeOf 197 = .ok (.iastore, 1) := by decide +kernel
theorem dM_strokeOf_198 : decode bM_strokeOf 198 = .ok (.iload_n 1, 1) := by decide +kernel
theorem dM_strokeOf_199 : decode bM_strokeOf 199 = .ok (.ireturn, 1) := by decide +kernel
theorem wM_strokeOf_43 {p : Program} {l : Launch} {e : Env} {s : State} {m : MethodId} {args : Array Value} {below : List Frame} {meth : Method} {c : Code} {G : GT} {I : List Nat} (C : CX p s m args meth c NM bM_strokeOf 4 (some .int) G I) (hI : mI I) {fu : Nat} {R1 : Int32} {Z : Sg} {rc4 : Int32 → Int32 → Sg → Option (Int32 × Sg)} (hr4 : ∀ {v1 : Int32} {v2 : Int32} {z : Sg} {H : Heap} {locs : List Loc} {ls : Array Slot}, rc4 v1 v2 z = some (R1, Z) → GW G I z s.heap H locs → lv_has ls 4 [(0, .ref (gA G 78)), (1, .int v1), (2, .int v2)] → W p l e rmM_strokeOf s m args below meth c H locs 0 0 (MQ below (Qi G I R1 Z) args s 0 0 (AD G I)) (F0 m 4 ls [])) {v1 : Int32} {v2 : Int32} {t1 : Int32} {t2 : Int32} {z : Sg} {H : Heap} {locs : List Loc} {ls : Array Slot} (h : pM_strokeOf_43 fu rc4 v1 v2 t1 t2 z = some (R1, Z)) (hG : GW G I z s.heap H locs) (hl : lv_has ls 4 [(0, .ref (gA G 78)), (1, .int v1), (2, .int v2)]) : W p l e rmM_strokeOf s m args below meth c H locs 0 0 (MQ below (Qi G I R1 Z) args s 0 0 (AD G I)) (F0 m 43 ls [.int t2, .int t1, .ref (gA G 96)]) := by
  unfold pM_strokeOf_43 at h
  refine rIast C hG (hI 96 (by decide) (by decide)) e_96 h dM_strokeOf_43 (fun H locs z6 h hG => ?_)
  refine rAload_n C dM_strokeOf_44 hl 0 rfl ?_
  refine rGet C hG (hI 78 (by decide) (by decide)) e_78 fiM_29 (v := .ref (gA G 96)) rfl k_835 dM_strokeOf_45 ?_
  refine lv_iconst (v := 2) C.1 C.2.1 dM_strokeOf_48 (by decide) ?_
  refine rIload_n C dM_strokeOf_49 hl 2 rfl ?_
  refine lv_imul C.1 C.2.1 dM_strokeOf_50 ?_
  refine lv_iconst (v := 1) C.1 C.2.1 dM_strokeOf_51 (by decide) ?_
  refine lv_iadd C.1 C.2.1 dM_strokeOf_52 ?_
  refine rAload_n C dM_strokeOf_53 hl 0 rfl ?_
  refine rIload_n C dM_strokeOf_54 hl 2 rfl ?_
  refine rCVi [.int v2] [.int ((2 * v2) + 1), .ref (gA G 96)] C hG h (fun h => cM_tiresOf hI h) mvM_tiresOf k_1002 ⟨Nat.le_of_ble_eq_true rfl, Nat.le_of_ble_eq_true rfl⟩ ⟨rfl, rfl⟩ (rRecv C hG (hI 78 (by decide) (by decide)) e_78 rfl) rfl hl.1 (Nat.le_of_ble_eq_true rfl) dM_strokeOf_55 ⟨Nat.zero_le _, Nat.zero_le _⟩ rfl (fun H locs x8 z7 h hG => ?_)
  refine rIast C hG (hI 96 (by decide) (by decide)) e_96 h dM_strokeOf_58 (fun H locs z9 h hG => ?_)
  refine rIinc C dM_strokeOf_59 hl 2 rfl (d := 1) (by decide) h (by decide) [(0, .ref (gA G 78)), (1, .int v1)] rfl (fun x10 ls h hl => ?_)
  refine lv_goto (tgt := 4) C.1 C.2.1 dM_strokeOf_62 (by decide) ?_
  exact hr4 h hG (lv_sub hl [1, 2, 0] rfl)
theorem wM_strokeOf_107 {p : Program} {l : Launch} {e : Env} {s : State} {m : MethodId} {args : Array Value} {below : List Frame} {meth : Method} {c : Code} {G : GT} {I : List Nat} (C : CX p s m args meth c NM bM_strokeOf 4 (some .int) G I) (hI : mI I) {fu : Nat} {R1 : Int32} {Z : Sg} {rc67 : Int32 → Int32 → Sg → Option (Int32 × Sg)} (hr67 : ∀ {v1 : Int32} {v2 : Int32} {z : Sg} {H : Heap} {locs : List Loc} {ls : Array Slot}, rc67 v1 v2 z = some (R1, Z) → GW G I z s.heap H locs → lv_has ls 4 [(0, .ref (gA G 78)), (1, .int v1), (2, .int v2)] → W p l e rmM_strokeOf s m args below meth c H locs 0 0 (MQ below (Qi G I R1 Z) args s 0 0 (AD G I)) (F0 m 67 ls [])) {v2 : Int32} {v3 : Int32} {t0 : Int32} {t1 : Int32} {z : Sg} {H : Heap} {locs : List Loc} {ls : Array Slot} (h : pM_strokeOf_107 fu rc67 v2 v3 t0 t1 z = some (R1, Z)) (hG : GW G I z s.heap H locs) (hl : lv_has ls 4 [(0, .ref (gA G 78)), (2, .int v2), (3, .int v3)]) : W p l e rmM_strokeOf s m args below meth c H locs 0 0 (MQ below (Qi G I R1 Z) args s 0 0 (AD G I)) (F0 m 107 ls [.int t1, .int t0]) := by
  unfold pM_strokeOf_107 at h
  refine lv_iadd C.1 C.2.1 dM_strokeOf_107 ?_
  refine rIstore_n C dM_strokeOf_108 hl h (by decide) [(0, .ref (gA G 78)), (2, .int v2), (3, .int v3)] rfl (fun x11 ls h hl => ?_)
  refine rAload_n C dM_strokeOf_109 hl 1 rfl ?_
  refine rGet C hG (hI 78 (by decide) (by decide)) e_78 fiM_3 (v := .ref (gA G 81)) rfl k_809 dM_strokeOf_110 ?_
  refine lv_iconst (v := 3) C.1 C.2.1 dM_strokeOf_113 (by decide) ?_
  refine rIload_n C dM_strokeOf_114 hl 2 rfl ?_
  refine lv_imul C.1 C.2.1 dM_strokeOf_115 ?_
  refine lv_iconst (v := 1) C.1 C.2.1 dM_strokeOf_116 (by decide) ?_
  refine lv_iadd C.1 C.2.1 dM_strokeOf_117 ?_
  refine rIload_n C dM_strokeOf_118 hl 3 rfl ?_
  refine lv_bipush (v := 12) C.1 C.2.1 dM_strokeOf_119 (by decide) ?_
  refine lv_irem C.1 C.2.1 dM_strokeOf_121 (by decide) ?_
  refine rIast C hG (hI 81 (by decide) (by decide)) e_81 h dM_strokeOf_122 (fun H locs z12 h hG => ?_)
  refine rAload_n C dM_strokeOf_123 hl 1 rfl ?_
  refine rGet C hG (hI 78 (by decide) (by decide)) e_78 fiM_3 (v := .ref (gA G 81)) rfl k_809 dM_strokeOf_124 ?_
  refine lv_iconst (v := 3) C.1 C.2.1 dM_strokeOf_127 (by decide) ?_
  refine rIload_n C dM_strokeOf_128 hl 2 rfl ?_
  refine lv_imul C.1 C.2.1 dM_strokeOf_129 ?_
  refine lv_iconst (v := 2) C.1 C.2.1 dM_strokeOf_130 (by decide) ?_
  refine lv_iadd C.1 C.2.1 dM_strokeOf_131 ?_
  refine rAload_n C dM_strokeOf_132 hl 1 rfl ?_
  refine rGet C hG (hI 78 (by decide) (by decide)) e_78 fiM_3 (v := .ref (gA G 81)) rfl k_809 dM_strokeOf_133 ?_
  refine lv_iconst (v := 3) C.1 C.2.1 dM_strokeOf_136 (by decide) ?_
  refine rIload_n C dM_strokeOf_137 hl 2 rfl ?_
  refine lv_imul C.1 C.2.1 dM_strokeOf_138 ?_
  refine lv_iconst (v := 2) C.1 C.2.1 dM_strokeOf_139 (by decide) ?_
  refine lv_iadd C.1 C.2.1 dM_strokeOf_140 ?_
  refine rIald C hG (hI 81 (by decide) (by decide)) e_81 h dM_strokeOf_141 (fun h => ?_)
  refine rAload_n C dM_strokeOf_142 hl 1 rfl ?_
  refine rGet C hG (hI 78 (by decide) (by decide)) e_78 fiM_29 (v := .ref (gA G 96)) rfl k_835 dM_strokeOf_143 ?_
  refine lv_iconst (v := 2) C.1 C.2.1 dM_strokeOf_146 (by decide) ?_
  refine rIload_n C dM_strokeOf_147 hl 2 rfl ?_
  refine lv_imul C.1 C.2.1 dM_strokeOf_148 ?_
  refine lv_iconst (v := 1) C.1 C.2.1 dM_strokeOf_149 (by decide) ?_
  refine lv_iadd C.1 C.2.1 dM_strokeOf_150 ?_
  refine rIald C hG (hI 96 (by decide) (by decide)) e_96 h dM_strokeOf_151 (fun h => ?_)
  refine lv_iadd C.1 C.2.1 dM_strokeOf_152 ?_
  refine lv_iconst (v := 0) C.1 C.2.1 dM_strokeOf_153 (by decide) ?_
  refine lv_bipush (v := 99) C.1 C.2.1 dM_strokeOf_154 (by decide) ?_
  refine rCSi [.int ((ga z12 81 ((3 * v2) + 2)) + (ga z12 96 ((2 * v2) + 1))), .int 0, .int 99] [.int ((3 * v2) + 2), .ref (gA G 81)] C hG h (fun h => cM_within hI h) mvM_within k_975 ⟨Nat.le_of_ble_eq_true rfl, Nat.le_of_ble_eq_true rfl⟩ ⟨rfl, rfl⟩ rfl hl.1 (Nat.le_of_ble_eq_true rfl) dM_strokeOf_156 ⟨Nat.zero_le _, Nat.zero_le _⟩ rfl (fun H locs x14 z13 h hG => ?_)
  refine rIast C hG (hI 81 (by decide) (by decide)) e_81 h dM_strokeOf_159 (fun H locs z15 h hG => ?_)
  refine rIinc C dM_strokeOf_160 hl 2 rfl (d := 1) (by decide) h (by decide) [(1, .int x11), (0, .ref (gA G 78)), (3, .int v3)] rfl (fun x16 ls h hl => ?_)
  refine lv_goto (tgt := 67) C.1 C.2.1 dM_strokeOf_163 (by decide) ?_
  exact hr67 h hG (lv_sub hl [2, 1, 0] rfl)
theorem wM_strokeOf_67 {p : Program} {l : Launch} {e : Env} {s : State} {m : MethodId} {args : Array Value} {below : List Frame} {meth : Method} {c : Code} {G : GT} {I : List Nat} (C : CX p s m args meth c NM bM_strokeOf 4 (some .int) G I) (hI : mI I) {fu : Nat} {R1 : Int32} {Z : Sg} : ∀ (k : Nat) {v1 : Int32} {v2 : Int32} {z : Sg} {H : Heap} {locs : List Loc} {ls : Array Slot}, pM_strokeOf_67 fu k v1 v2 z = some (R1, Z) → GW G I z s.heap H locs → lv_has ls 4 [(0, .ref (gA G 78)), (1, .int v1), (2, .int v2)] → W p l e rmM_strokeOf s m args below meth c H locs 0 0 (MQ below (Qi G I R1 Z) args s 0 0 (AD G I)) (F0 m 67 ls []) := by
  intro k
  induction k with
  | zero => intro v1 v2 z H locs ls h hG hl; rw [pM_strokeOf_67] at h; cases h
  | succ k ih =>
    intro v1 v2 z H locs ls h hG hl
    rw [pM_strokeOf_67] at h
    refine rIload_n C dM_strokeOf_67 hl 2 rfl ?_
    refine rAload_n C dM_strokeOf_68 hl 0 rfl ?_
    refine rGet C hG (hI 78 (by decide) (by decide)) e_78 fiM_0 (v := .int (z 78 0)) rfl k_806 dM_strokeOf_69 ?_
    refine rIcmpge C (tgt := 166) h dM_strokeOf_72 (by decide) (fun h => ?_) (fun h => ?_)
    · refine rAload_n C dM_strokeOf_166 hl 0 rfl ?_
      refine rGet C hG (hI 78 (by decide) (by decide)) e_78 fiM_4 (v := .ref (gA G 82)) rfl k_810 dM_strokeOf_167 ?_
      refine lv_iconst (v := 1) C.1 C.2.1 dM_strokeOf_170 (by decide) ?_
      refine rAload_n C dM_strokeOf_171 hl 0 rfl ?_
      refine rGet C hG (hI 78 (by decide) (by decide)) e_78 fiM_4 (v := .ref (gA G 82)) rfl k_810 dM_strokeOf_172 ?_
      refine lv_iconst (v := 1) C.1 C.2.1 dM_strokeOf_175 (by decide) ?_
      refine rIaldK C hG (hI 82 (by decide) (by decide)) e_82 1 (by decide) (by decide) dM_strokeOf_176 ?_
      refine rAload_n C dM_strokeOf_177 hl 0 rfl ?_
      refine rGet C hG (hI 78 (by decide) (by decide)) e_78 fiM_4 (v := .ref (gA G 82)) rfl k_810 dM_strokeOf_178 ?_
      refine lv_iconst (v := 2) C.1 C.2.1 dM_strokeOf_181 (by decide) ?_
      refine rIaldK C hG (hI 82 (by decide) (by decide)) e_82 2 (by decide) (by decide) dM_strokeOf_182 ?_
      refine lv_iadd C.1 C.2.1 dM_strokeOf_183 ?_
      refine lv_bipush (v := 12) C.1 C.2.1 dM_strokeOf_184 (by decide) ?_
      refine lv_irem C.1 C.2.1 dM_strokeOf_186 (by decide) ?_
      refine rIastK C hG (hI 82 (by decide) (by decide)) e_82 1 (by decide) (by decide) h dM_strokeOf_187 (fun H locs z3 h hG => ?_)
      refine rAload_n C dM_strokeOf_188 hl 0 rfl ?_
      refine rGet C hG (hI 78 (by decide) (by decide)) e_78 fiM_4 (v := .ref (gA G 82)) rfl k_810 dM_strokeOf_189 ?_
      refine lv_iconst (v := 3) C.1 C.2.1 dM_strokeOf_192 (by decide) ?_
      refine lv_dup2_11 C.1 C.2.1 dM_strokeOf_193 rfl rfl ?_
      refine rIaldK C hG (hI 82 (by decide) (by decide)) e_82 3 (by decide) (by decide) dM_strokeOf_194 ?_
      refine lv_iconst (v := 1) C.1 C.2.1 dM_strokeOf_195 (by decide) ?_
      refine lv_iadd C.1 C.2.1 dM_strokeOf_196 ?_
      refine rIastK C hG (hI 82 (by decide) (by decide)) e_82 3 (by decide) (by decide) h dM_strokeOf_197 (fun H locs z4 h hG => ?_)
      refine rIload_n C dM_strokeOf_198 hl 1 rfl ?_
      exact rReti C hG h dM_strokeOf_199
    · refine rAload_n C dM_strokeOf_75 hl 0 rfl ?_
      refine rGet C hG (hI 78 (by decide) (by decide)) e_78 fiM_3 (v := .ref (gA G 81)) rfl k_809 dM_strokeOf_76 ?_
      refine lv_iconst (v := 3) C.1 C.2.1 dM_strokeOf_79 (by decide) ?_
      refine rIload_n C dM_strokeOf_80 hl 2 rfl ?_
      refine lv_imul C.1 C.2.1 dM_strokeOf_81 ?_
      refine lv_iconst (v := 1) C.1 C.2.1 dM_strokeOf_82 (by decide) ?_
      refine lv_iadd C.1 C.2.1 dM_strokeOf_83 ?_
      refine rIald C hG (hI 81 (by decide) (by decide)) e_81 h dM_strokeOf_84 (fun h => ?_)
      refine rAload_n C dM_strokeOf_85 hl 0 rfl ?_
      refine rGet C hG (hI 78 (by decide) (by decide)) e_78 fiM_29 (v := .ref (gA G 96)) rfl k_835 dM_strokeOf_86 ?_
      refine lv_iconst (v := 2) C.1 C.2.1 dM_strokeOf_89 (by decide) ?_
      refine rIload_n C dM_strokeOf_90 hl 2 rfl ?_
      refine lv_imul C.1 C.2.1 dM_strokeOf_91 ?_
      refine rIald C hG (hI 96 (by decide) (by decide)) e_96 h dM_strokeOf_92 (fun h => ?_)
      refine lv_iadd C.1 C.2.1 dM_strokeOf_93 ?_
      refine rIstore_n C dM_strokeOf_94 hl h (by decide) [(0, .ref (gA G 78)), (1, .int v1), (2, .int v2)] rfl (fun x5 ls h hl => ?_)
      refine rIload_n C dM_strokeOf_95 hl 2 rfl ?_
      refine rIload_n C dM_strokeOf_96 hl 0 rfl ?_
      refine lv_bipush (v := 12) C.1 C.2.1 dM_strokeOf_97 (by decide) ?_
      refine rIcmplt C (tgt := 106) h dM_strokeOf_99 (by decide) (fun h => ?_) (fun h => ?_)
      · refine lv_iconst (v := 0) C.1 C.2.1 dM_strokeOf_106 (by decide) ?_
        exact wM_strokeOf_107 C hI ih h hG (lv_sub hl [1, 3, 0] rfl)
      · refine lv_iconst (v := 1) C.1 C.2.1 dM_strokeOf_102 (by decide) ?_
        refine lv_goto (tgt := 107) C.1 C.2.1 dM_strokeOf_103 (by decide) ?_
        exact wM_strokeOf_107 C hI ih h hG (lv_sub hl [1, 3, 0] rfl)
theorem wM_strokeOf_4 {p : Program} {l : Launch} {e : Env} {s : State} {m : MethodId} {args : Array Value} {below : List Frame} {meth : Method} {c : Code} {G : GT} {I : List Nat} (C : CX p s m args meth c NM bM_strokeOf 4 (some .int) G I) (hI : mI I) {fu : Nat} {R1 : Int32} {Z : Sg} : ∀ (k : Nat) {v1 : Int32} {v2 : Int32} {z : Sg} {H : Heap} {locs : List Loc} {ls : Array Slot}, pM_strokeOf_4 fu k v1 v2 z = some (R1, Z) → GW G I z s.heap H locs → lv_has ls 4 [(0, .ref (gA G 78)), (1, .int v1), (2, .int v2)] → W p l e rmM_strokeOf s m args below meth c H locs 0 0 (MQ below (Qi G I R1 Z) args s 0 0 (AD G I)) (F0 m 4 ls []) := by
  intro k
  induction k with
  | zero => intro v1 v2 z H locs ls h hG hl; rw [pM_strokeOf_4] at h; cases h
  | succ k ih =>
    intro v1 v2 z H locs ls h hG hl
    rw [pM_strokeOf_4] at h
    refine rIload_n C dM_strokeOf_4 hl 2 rfl ?_
    refine rAload_n C dM_strokeOf_5 hl 0 rfl ?_
    refine rGet C hG (hI 78 (by decide) (by decide)) e_78 fiM_0 (v := .int (z 78 0)) rfl k_806 dM_strokeOf_6 ?_
    refine rIcmpge C (tgt := 65) h dM_strokeOf_9 (by decide) (fun h => ?_) (fun h => ?_)
    · refine lv_iconst (v := 0) C.1 C.2.1 dM_strokeOf_65 (by decide) ?_
      refine rIstoreA_n C dM_strokeOf_66 hl (by decide) [(0, .ref (gA G 78)), (1, .int v1)] rfl (fun ls hl => ?_)
      exact wM_strokeOf_67 C hI _ h hG (lv_sub hl [1, 2, 0] rfl)
    · refine rAload_n C dM_strokeOf_12 hl 0 rfl ?_
      refine rGet C hG (hI 78 (by decide) (by decide)) e_78 fiM_29 (v := .ref (gA G 96)) rfl k_835 dM_strokeOf_13 ?_
      refine lv_iconst (v := 2) C.1 C.2.1 dM_strokeOf_16 (by decide) ?_
      refine rIload_n C dM_strokeOf_17 hl 2 rfl ?_
      refine lv_imul C.1 C.2.1 dM_strokeOf_18 ?_
      refine rAload_n C dM_strokeOf_19 hl 0 rfl ?_
      refine rGet C hG (hI 78 (by decide) (by decide)) e_78 fiM_3 (v := .ref (gA G 81)) rfl k_809 dM_strokeOf_20 ?_
      refine lv_iconst (v := 3) C.1 C.2.1 dM_strokeOf_23 (by decide) ?_
      refine rIload_n C dM_strokeOf_24 hl 2 rfl ?_
      refine lv_imul C.1 C.2.1 dM_strokeOf_25 ?_
      refine lv_iconst (v := 2) C.1 C.2.1 dM_strokeOf_26 (by decide) ?_
      refine lv_iadd C.1 C.2.1 dM_strokeOf_27 ?_
      refine rIald C hG (hI 81 (by decide) (by decide)) e_81 h dM_strokeOf_28 (fun h => ?_)
      refine lv_bipush (v := 99) C.1 C.2.1 dM_strokeOf_29 (by decide) ?_
      refine rIcmpne C (tgt := 38) h dM_strokeOf_31 (by decide) (fun h => ?_) (fun h => ?_)
      · refine rAload_n C dM_strokeOf_38 hl 0 rfl ?_
        refine rIload_n C dM_strokeOf_39 hl 2 rfl ?_
        refine rCVi [.int v2] [.int (2 * v2), .ref (gA G 96)] C hG h (fun h => cM_swingsOf hI h) mvM_swingsOf k_998 ⟨Nat.le_of_ble_eq_true rfl, Nat.le_of_ble_eq_true rfl⟩ ⟨rfl, rfl⟩ (rRecv C hG (hI 78 (by decide) (by decide)) e_78 rfl) rfl hl.1 (Nat.le_of_ble_eq_true rfl) dM_strokeOf_40 ⟨Nat.zero_le _, Nat.zero_le _⟩ rfl (fun H locs x2 z1 h hG => ?_)
        exact wM_strokeOf_43 C hI ih h hG (lv_sub hl [0, 1, 2] rfl)
      · refine lv_iconst (v := 0) C.1 C.2.1 dM_strokeOf_34 (by decide) ?_
        refine lv_goto (tgt := 43) C.1 C.2.1 dM_strokeOf_35 (by decide) ?_
        exact wM_strokeOf_43 C hI ih h hG (lv_sub hl [0, 1, 2] rfl)
theorem cM_strokeOf {l : Launch} {G : GT} {I : List Nat} (hI : mI I) {fu : Nat} {z : Sg} {R1 : Int32} {Z : Sg} (h : pM_strokeOf fu z = some (R1, Z)) : Mt l yM_strokeOf rmM_strokeOf bM_strokeOf 4 (some .int) G I z [.ref (gA G 78)] (Qi G I R1 Z) := by
  refine entM (by decide +kernel) (Nat.le_of_ble_eq_true rfl) ?_
  intro p e s m below meth c C hG ls hl
  have hl : lv_has ls 4 [(0, .ref (gA G 78))] := hl
  unfold pM_strokeOf at h
  refine lv_iconst (v := 0) C.1 C.2.1 dM_strokeOf_0 (by decide) ?_
  refine rIstoreA_n C dM_strokeOf_1 hl (by decide) [(0, .ref (gA G 78))] rfl (fun ls hl => ?_)
  refine lv_iconst (v := 0) C.1 C.2.1 dM_strokeOf_2 (by decide) ?_
  refine rIstoreA_n C dM_strokeOf_3 hl (by decide) [(1, .int 0), (0, .ref (gA G 78))] rfl (fun ls hl => ?_)
  exact wM_strokeOf_4 C hI _ h hG (lv_sub hl [2, 1, 0] rfl)
theorem dM_stroke_0 : decode bM_stroke 0 = .ok (.aload_n 0, 1) := by decide +kernel
theorem dM_stroke_1 : decode bM_stroke 1 = .ok (.getfield 19, 3) := by decide +kernel
theorem dM_stroke_4 : decode bM_stroke 4 = .ok (.iconst 3, 1) := by decide +kernel
theorem dM_stroke_5 : decode bM_stroke 5 = .ok (.iaload, 1) := by decide +kernel
theorem dM_stroke_6 : decode bM_stroke 6 = .ok (.sipush 999, 3) := by decide +kernel
theorem dM_stroke_9 : decode bM_stroke 9 = .ok (.if_icmp .ne 6, 3) := by decide +kernel
theorem dM_stroke_12 : decode bM_stroke 12 = .ok (.bipush (-3), 2) := by decide +kernel
theorem dM_stroke_14 : decode bM_stroke 14 = .ok (.ireturn, 1) := by decide +kernel
theorem dM_stroke_15 : decode bM_stroke 15 = .ok (.aload_n 0, 1) := by decide +kernel
theorem dM_stroke_16 : decode bM_stroke 16 = .ok (.invokevirtual 204, 3) := by decide +kernel
theorem dM_stroke_19 : decode bM_stroke 19 = .ok (.istore_n 1, 1) := by decide +kernel
theorem dM_stroke_20 : decode bM_stroke 20 = .ok (.aload_n 0, 1) := by decide +kernel
theorem dM_stroke_21 : decode bM_stroke 21 = .ok (.getfield 19, 3) := by decide +kernel
theorem dM_stroke_24 : decode bM_stroke 24 = .ok (.iconst 4, 1) := by decide +kernel
theorem dM_stroke_25 : decode bM_stroke 25 = .ok (.aload_n 0, 1) := by decide +kernel
theorem dM_stroke_26 : decode bM_stroke 26 = .ok (.getfield 19, 3) := by decide +kernel
theorem dM_stroke_29 : decode bM_stroke 29 = .ok (.iconst 4, 1) := by decide +kernel
theorem dM_stroke_30 : decode bM_stroke 30 = .ok (.iaload, 1) := by decide +kernel
theorem dM_stroke_31 : decode bM_stroke 31 = .ok (.iload_n 1, 1) := by decide +kernel
theorem dM_stroke_32 : decode bM_stroke 32 = .ok (.iadd, 1) := by decide +kernel
theorem dM_stroke_33 : decode bM_stroke 33 = .ok (.iconst 0, 1) := by decide +kernel
theorem dM_stroke_34 : decode bM_stroke 34 = .ok (.sipush 9999, 3) := by decide +kernel
theorem dM_stroke_37 : decode bM_stroke 37 = .ok (.invokestatic 183, 3) := by decide +kernel
theorem dM_stroke_40 : decode bM_stroke 40 = .ok (.iastore, 1) := by decide +kernel
theorem dM_stroke_41 : decode bM_stroke 41 = .ok (.iload_n 1, 1) := by decide +kernel
theorem dM_stroke_42 : decode bM_stroke 42 = .ok (.ireturn, 1) := by decide +kernel
theorem cM_stroke {l : Launch} {G : GT} {I : List Nat} (hI : mI I) {fu : Nat} {z : Sg} {R1 : Int32} {Z : Sg} (h : pM_stroke fu z = some (R1, Z)) : Mt l yM_stroke rmM_stroke bM_stroke 2 (some .int) G I z [.ref (gA G 78)] (Qi G I R1 Z) := by
  refine entM (by decide +kernel) (Nat.le_of_ble_eq_true rfl) ?_
  intro p e s m below meth c C hG ls hl
  have hl : lv_has ls 2 [(0, .ref (gA G 78))] := hl
  unfold pM_stroke at h
  refine rAload_n C dM_stroke_0 hl 0 rfl ?_
  refine rGet C hG (hI 78 (by decide) (by decide)) e_78 fiM_4 (v := .ref (gA G 82)) rfl k_810 dM_stroke_1 ?_
  refine lv_iconst (v := 3) C.1 C.2.1 dM_stroke_4 (by decide) ?_
  refine rIaldK C hG (hI 82 (by decide) (by decide)) e_82 3 (by decide) (by decide) dM_stroke_5 ?_
  refine lv_sipush (v := 999) C.1 C.2.1 dM_stroke_6 (by decide) ?_
  refine rIcmpne C (tgt := 15) h dM_stroke_9 (by decide) (fun h => ?_) (fun h => ?_)
  · refine rAload_n C dM_stroke_15 hl 0 rfl ?_
    refine rCVi [] [] C hG h (fun h => cM_strokeOf hI h) mvM_strokeOf k_1017 ⟨Nat.le_of_ble_eq_true rfl, Nat.le_of_ble_eq_true rfl⟩ ⟨rfl, rfl⟩ (rRecv C hG (hI 78 (by decide) (by decide)) e_78 rfl) rfl hl.1 (Nat.le_of_ble_eq_true rfl) dM_stroke_16 ⟨Nat.zero_le _, Nat.zero_le _⟩ rfl (fun H locs x2 z1 h hG => ?_)
    refine rIstoreA_n C dM_stroke_19 hl (by decide) [(0, .ref (gA G 78))] rfl (fun ls hl => ?_)
    refine rAload_n C dM_stroke_20 hl 1 rfl ?_
    refine rGet C hG (hI 78 (by decide) (by decide)) e_78 fiM_4 (v := .ref (gA G 82)) rfl k_810 dM_stroke_21 ?_
    refine lv_iconst (v := 4) C.1 C.2.1 dM_stroke_24 (by decide) ?_
    refine rAload_n C dM_stroke_25 hl 1 rfl ?_
    refine rGet C hG (hI 78 (by decide) (by decide)) e_78 fiM_4 (v := .ref (gA G 82)) rfl k_810 dM_stroke_26 ?_
    refine lv_iconst (v := 4) C.1 C.2.1 dM_stroke_29 (by decide) ?_
    refine rIaldK C hG (hI 82 (by decide) (by decide)) e_82 4 (by decide) (by decide) dM_stroke_30 ?_
    refine rIload_n C dM_stroke_31 hl 0 rfl ?_
    refine lv_iadd C.1 C.2.1 dM_stroke_32 ?_
    refine lv_iconst (v := 0) C.1 C.2.1 dM_stroke_33 (by decide) ?_
    refine lv_sipush (v := 9999) C.1 C.2.1 dM_stroke_34 (by decide) ?_
    refine rCSi [.int ((z1 82 4) + x2), .int 0, .int 9999] [.int 4, .ref (gA G 82)] C hG h (fun h => cM_within hI h) mvM_within k_975 ⟨Nat.le_of_ble_eq_true rfl, Nat.le_of_ble_eq_true rfl⟩ ⟨rfl, rfl⟩ rfl hl.1 (Nat.le_of_ble_eq_true rfl) dM_stroke_37 ⟨Nat.zero_le _, Nat.zero_le _⟩ rfl (fun H locs x4 z3 h hG => ?_)
    refine rIastK C hG (hI 82 (by decide) (by decide)) e_82 4 (by decide) (by decide) h dM_stroke_40 (fun H locs z5 h hG => ?_)
    refine rIload_n C dM_stroke_41 hl 0 rfl ?_
    exact rReti C hG h dM_stroke_42
  · refine lv_bipush (v := (-3)) C.1 C.2.1 dM_stroke_12 (by decide) ?_
    exact rReti C hG h dM_stroke_14
theorem dM_keeps_0 : decode bM_keeps 0 = .ok (.iconst 0, 1) := by decide +kernel
theorem dM_keeps_1 : decode bM_keeps 1 = .ok (.istore_n 1, 1) := by decide +kernel
theorem dM_keeps_2 : decode bM_keeps 2 = .ok (.iload_n 1, 1) := by decide +kernel
theorem dM_keeps_3 : decode bM_keeps 3 = .ok (.bipush 18, 2) := by decide +kernel
theorem dM_keeps_5 : decode bM_keeps 5 = .ok (.if_icmp .ge 21, 3) := by decide +kernel
theorem dM_keeps_8 : decode bM_keeps 8 = .ok (.aload_n 0, 1) := by decide +kernel
theorem dM_keeps_9 : decode bM_keeps 9 = .ok (.getfield 64, 3) := by decide +kernel
theorem dM_keeps_12 : decode bM_keeps 12 = .ok (.iload_n 1, 1) := by decide +kernel
theorem dM_keeps_13 : decode bM_keeps 13 = .ok (.aload_n 0, 1) := by decide +kernel
theorem dM_keeps_14 : decode bM_keeps 14 = .ok (.getfield 16, 3) := by decide +kernel
theorem dM_keeps_17 : decode bM_keeps 17 = .ok (.iload_n 1, 1) := by decide +kernel
theorem dM_keeps_18 : decode bM_keeps 18 = .ok (.iaload, 1) := by decide +kernel
theorem dM_keeps_19 : decode bM_keeps 19 = .ok (.iastore, 1) := by decide +kernel
theorem dM_keeps_20 : decode bM_keeps 20 = .ok (.iinc 1 1, 3) := by decide +kernel
theorem dM_keeps_23 : decode bM_keeps 23 = .ok (.goto (-21), 3) := by decide +kernel
theorem dM_keeps_26 : decode bM_keeps 26 = .ok (.iconst 0, 1) := by decide +kernel
theorem dM_keeps_27 : decode bM_keeps 27 = .ok (.istore_n 1, 1) := by decide +kernel
theorem dM_keeps_28 : decode bM_keeps 28 = .ok (.iload_n 1, 1) := by decide +kernel
theorem dM_keeps_29 : decode bM_keeps 29 = .ok (.iconst 5, 1) := by decide +kernel
theorem dM_keeps_30 : decode bM_keeps 30 = .ok (.if_icmp .ge 24, 3) := by decide +kernel
theorem dM_keeps_33 : decode bM_keeps 33 = .ok (.aload_n 0, 1) := by decide +kernel
theorem dM_keeps_34 : decode bM_keeps 34 = .ok (.getfield 64, 3) := by decide +kernel
theorem dM_keeps_37 : decode bM_keeps 37 = .ok (.bipush 18, 2) := by decide +kernel
theorem dM_keeps_39 : decode bM_keeps 39 = .ok (.iload_n 1, 1) := by decide +kernel
theorem dM_keeps_40 : decode bM_keeps 40 = .ok (.iadd, 1) := by decide +kernel
theorem dM_keeps_41 : decode bM_keeps 41 = .ok (.aload_n 0, 1) := by decide +kernel
theorem dM_keeps_42 : decode bM_keeps 42 = .ok (.getfield 19, 3) := by decide +kernel
theorem dM_keeps_45 : decode bM_keeps 45 = .ok (.iload_n 1, 1) := by decide +kernel
theorem dM_keeps_46 : decode bM_keeps 46 = .ok (.iaload, 1) := by decide +kernel
theorem dM_keeps_47 : decode bM_keeps 47 = .ok (.iastore, 1) := by decide +kernel
theorem dM_keeps_48 : decode bM_keeps 48 = .ok (.iinc 1 1, 3) := by decide +kernel
theorem dM_keeps_51 : decode bM_keeps 51 = .ok (.goto (-23), 3) := by decide +kernel
theorem dM_keeps_54 : decode bM_keeps 54 = .ok (.return_, 1) := by decide +kernel
theorem wM_keeps_28 {p : Program} {l : Launch} {e : Env} {s : State} {m : MethodId} {args : Array Value} {below : List Frame} {meth : Method} {c : Code} {G : GT} {I : List Nat} (C : CX p s m args meth c NM bM_keeps 2 none G I) (hI : mI I) {fu : Nat} {Z : Sg} : ∀ (k : Nat) {v1 : Int32} {z : Sg} {H : Heap} {locs : List Loc} {ls : Array Slot}, pM_keeps_28 fu k v1 z = some Z → GW G I z s.heap H locs → lv_has ls 2 [(0, .ref (gA G 78)), (1, .int v1)] → W p l e rmM_keeps s m args below meth c H locs 0 0 (MQ below (Qv G I Z) args s 0 0 (AD G I)) (F0 m 28 ls []) := by
  intro k
  induction k with
  | zero => intro v1 z H locs ls h hG hl; rw [pM_keeps_28] at h; cases h
  | succ k ih =>
    intro v1 z H locs ls h hG hl
    rw [pM_keeps_28] at h
    refine rIload_n C dM_keeps_28 hl 1 rfl ?_
    refine lv_iconst (v := 5) C.1 C.2.1 dM_keeps_29 (by decide) ?_
    refine rIcmpge C (tgt := 54) h dM_keeps_30 (by decide) (fun h => ?_) (fun h => ?_)
    · exact rRetv C hG h dM_keeps_54
    · refine rAload_n C dM_keeps_33 hl 0 rfl ?_
      refine rGet C hG (hI 78 (by decide) (by decide)) e_78 fiM_30 (v := .ref (gA G 97)) rfl k_836 dM_keeps_34 ?_
      refine lv_bipush (v := 18) C.1 C.2.1 dM_keeps_37 (by decide) ?_
      refine rIload_n C dM_keeps_39 hl 1 rfl ?_
      refine lv_iadd C.1 C.2.1 dM_keeps_40 ?_
      refine rAload_n C dM_keeps_41 hl 0 rfl ?_
      refine rGet C hG (hI 78 (by decide) (by decide)) e_78 fiM_4 (v := .ref (gA G 82)) rfl k_810 dM_keeps_42 ?_
      refine rIload_n C dM_keeps_45 hl 1 rfl ?_
      refine rIald C hG (hI 82 (by decide) (by decide)) e_82 h dM_keeps_46 (fun h => ?_)
      refine rIast C hG (hI 97 (by decide) (by decide)) e_97 h dM_keeps_47 (fun H locs z3 h hG => ?_)
      refine rIinc C dM_keeps_48 hl 1 rfl (d := 1) (by decide) h (by decide) [(0, .ref (gA G 78))] rfl (fun x4 ls h hl => ?_)
      refine lv_goto (tgt := 28) C.1 C.2.1 dM_keeps_51 (by decide) ?_
      exact ih h hG (lv_sub hl [1, 0] rfl)
theorem wM_keeps_2 {p : Program} {l : Launch} {e : Env} {s : State} {m : MethodId} {args : Array Value} {below : List Frame} {meth : Method} {c : Code} {G : GT} {I : List Nat} (C : CX p s m args meth c NM bM_keeps 2 none G I) (hI : mI I) {fu : Nat} {Z : Sg} : ∀ (k : Nat) {v1 : Int32} {z : Sg} {H : Heap} {locs : List Loc} {ls : Array Slot}, pM_keeps_2 fu k v1 z = some Z → GW G I z s.heap H locs → lv_has ls 2 [(0, .ref (gA G 78)), (1, .int v1)] → W p l e rmM_keeps s m args below meth c H locs 0 0 (MQ below (Qv G I Z) args s 0 0 (AD G I)) (F0 m 2 ls []) := by
  intro k
  induction k with
  | zero => intro v1 z H locs ls h hG hl; rw [pM_keeps_2] at h; cases h
  | succ k ih =>
    intro v1 z H locs ls h hG hl
    rw [pM_keeps_2] at h
    refine rIload_n C dM_keeps_2 hl 1 rfl ?_
    refine lv_bipush (v := 18) C.1 C.2.1 dM_keeps_3 (by decide) ?_
    refine rIcmpge C (tgt := 26) h dM_keeps_5 (by decide) (fun h => ?_) (fun h => ?_)
    · refine lv_iconst (v := 0) C.1 C.2.1 dM_keeps_26 (by decide) ?_
      refine rIstoreA_n C dM_keeps_27 hl (by decide) [(0, .ref (gA G 78))] rfl (fun ls hl => ?_)
      exact wM_keeps_28 C hI _ h hG (lv_sub hl [1, 0] rfl)
    · refine rAload_n C dM_keeps_8 hl 0 rfl ?_
      refine rGet C hG (hI 78 (by decide) (by decide)) e_78 fiM_30 (v := .ref (gA G 97)) rfl k_836 dM_keeps_9 ?_
      refine rIload_n C dM_keeps_12 hl 1 rfl ?_
      refine rAload_n C dM_keeps_13 hl 0 rfl ?_
      refine rGet C hG (hI 78 (by decide) (by decide)) e_78 fiM_3 (v := .ref (gA G 81)) rfl k_809 dM_keeps_14 ?_
      refine rIload_n C dM_keeps_17 hl 1 rfl ?_
      refine rIald C hG (hI 81 (by decide) (by decide)) e_81 h dM_keeps_18 (fun h => ?_)
      refine rIast C hG (hI 97 (by decide) (by decide)) e_97 h dM_keeps_19 (fun H locs z1 h hG => ?_)
      refine rIinc C dM_keeps_20 hl 1 rfl (d := 1) (by decide) h (by decide) [(0, .ref (gA G 78))] rfl (fun x2 ls h hl => ?_)
      refine lv_goto (tgt := 2) C.1 C.2.1 dM_keeps_23 (by decide) ?_
      exact ih h hG (lv_sub hl [1, 0] rfl)
theorem cM_keeps {l : Launch} {G : GT} {I : List Nat} (hI : mI I) {fu : Nat} {z : Sg} {Z : Sg} (h : pM_keeps fu z = some Z) : Mt l yM_keeps rmM_keeps bM_keeps 2 none G I z [.ref (gA G 78)] (Qv G I Z) := by
  refine entM (by decide +kernel) (Nat.le_of_ble_eq_true rfl) ?_
  intro p e s m below meth c C hG ls hl
  have hl : lv_has ls 2 [(0, .ref (gA G 78))] := hl
  unfold pM_keeps at h
  refine lv_iconst (v := 0) C.1 C.2.1 dM_keeps_0 (by decide) ?_
  refine rIstoreA_n C dM_keeps_1 hl (by decide) [(0, .ref (gA G 78))] rfl (fun ls hl => ?_)
  exact wM_keeps_2 C hI _ h hG (lv_sub hl [1, 0] rfl)
theorem dM_goes_0 : decode bM_goes 0 = .ok (.iconst 0, 1) := by decide +kernel
theorem dM_goes_1 : decode bM_goes 1 = .ok (.istore_n 2, 1) := by decide +kernel
theorem dM_goes_2 : decode bM_goes 2 = .ok (.iconst 0, 1) := by decide +kernel
theorem dM_goes_3 : decode bM_goes 3 = .ok (.istore_n 3, 1) := by decide +kernel
theorem dM_goes_4 : decode bM_goes 4 = .ok (.iload_n 3, 1) := by decide +kernel
theorem dM_goes_5 : decode bM_goes 5 = .ok (.iload_n 1, 1) := by decide +kernel
theorem dM_goes_6 : decode bM_goes 6 = .ok (.if_icmp .ge 16, 3) := by decide +kernel
theorem dM_goes_9 : decode bM_goes 9 = .ok (.iload_n 2, 1) := by decide +kernel
theorem dM_goes_10 : decode bM_goes 10 = .ok (.aload_n 0, 1) := by decide +kernel
theorem dM_goes_11 : decode bM_goes 11 = .ok (.invokevirtual 204, 3) := by decide +kernel
theorem dM_goes_14 : decode bM_goes 14 = .ok (.iadd, 1) := by decide +kernel
theorem dM_goes_15 : decode bM_goes 15 = .ok (.istore_n 2, 1) := by decide +kernel
theorem dM_goes_16 : decode bM_goes 16 = .ok (.iinc 3 1, 3) := by decide +kernel
theorem dM_goes_19 : decode bM_goes 19 = .ok (.goto (-15), 3) := by decide +kernel
theorem dM_goes_22 : decode bM_goes 22 = .ok (.iload_n 2, 1) := by decide +kernel
theorem dM_goes_23 : decode bM_goes 23 = .ok (.ireturn, 1) := by decide +kernel
theorem wM_goes_4 {p : Program} {l : Launch} {e : Env} {s : State} {m : MethodId} {args : Array Value} {below : List Frame} {meth : Method} {c : Code} {G : GT} {I : List Nat} (C : CX p s m args meth c NM bM_goes 4 (some .int) G I) (hI : mI I) {fu : Nat} {R1 : Int32} {Z : Sg} : ∀ (k : Nat) {v1 : Int32} {v2 : Int32} {v3 : Int32} {z : Sg} {H : Heap} {locs : List Loc} {ls : Array Slot}, pM_goes_4 fu k v1 v2 v3 z = some (R1, Z) → GW G I z s.heap H locs → lv_has ls 4 [(0, .ref (gA G 78)), (1, .int v1), (2, .int v2), (3, .int v3)] → W p l e rmM_goes s m args below meth c H locs 0 0 (MQ below (Qi G I R1 Z) args s 0 0 (AD G I)) (F0 m 4 ls []) := by
  intro k
  induction k with
  | zero => intro v1 v2 v3 z H locs ls h hG hl; rw [pM_goes_4] at h; cases h
  | succ k ih =>
    intro v1 v2 v3 z H locs ls h hG hl
    rw [pM_goes_4] at h
    refine rIload_n C dM_goes_4 hl 3 rfl ?_
    refine rIload_n C dM_goes_5 hl 1 rfl ?_
    refine rIcmpge C (tgt := 22) h dM_goes_6 (by decide) (fun h => ?_) (fun h => ?_)
    · refine rIload_n C dM_goes_22 hl 2 rfl ?_
      exact rReti C hG h dM_goes_23
    · refine rIload_n C dM_goes_9 hl 2 rfl ?_
      refine rAload_n C dM_goes_10 hl 0 rfl ?_
      refine rCVi [] [.int v2] C hG h (fun h => cM_strokeOf hI h) mvM_strokeOf k_1017 ⟨Nat.le_of_ble_eq_true rfl, Nat.le_of_ble_eq_true rfl⟩ ⟨rfl, rfl⟩ (rRecv C hG (hI 78 (by decide) (by decide)) e_78 rfl) rfl hl.1 (Nat.le_of_ble_eq_true rfl) dM_goes_11 ⟨Nat.zero_le _, Nat.zero_le _⟩ rfl (fun H locs x2 z1 h hG => ?_)
      refine lv_iadd C.1 C.2.1 dM_goes_14 ?_
      refine rIstore_n C dM_goes_15 hl h (by decide) [(0, .ref (gA G 78)), (1, .int v1), (3, .int v3)] rfl (fun x3 ls h hl => ?_)
      refine rIinc C dM_goes_16 hl 3 rfl (d := 1) (by decide) h (by decide) [(2, .int x3), (0, .ref (gA G 78)), (1, .int v1)] rfl (fun x4 ls h hl => ?_)
      refine lv_goto (tgt := 4) C.1 C.2.1 dM_goes_19 (by decide) ?_
      exact ih h hG (lv_sub hl [2, 3, 1, 0] rfl)
theorem cM_goes {l : Launch} {G : GT} {I : List Nat} (hI : mI I) {fu : Nat} {v1 : Int32} {z : Sg} {R1 : Int32} {Z : Sg} (h : pM_goes fu v1 z = some (R1, Z)) : Mt l yM_goes rmM_goes bM_goes 4 (some .int) G I z [.ref (gA G 78), .int v1] (Qi G I R1 Z) := by
  refine entM (by decide +kernel) (Nat.le_of_ble_eq_true rfl) ?_
  intro p e s m below meth c C hG ls hl
  have hl : lv_has ls 4 [(0, .ref (gA G 78)), (1, .int v1)] := hl
  unfold pM_goes at h
  refine lv_iconst (v := 0) C.1 C.2.1 dM_goes_0 (by decide) ?_
  refine rIstoreA_n C dM_goes_1 hl (by decide) [(0, .ref (gA G 78)), (1, .int v1)] rfl (fun ls hl => ?_)
  refine lv_iconst (v := 0) C.1 C.2.1 dM_goes_2 (by decide) ?_
  refine rIstoreA_n C dM_goes_3 hl (by decide) [(2, .int 0), (0, .ref (gA G 78)), (1, .int v1)] rfl (fun ls hl => ?_)
  exact wM_goes_4 C hI _ h hG (lv_sub hl [2, 3, 1, 0] rfl)
theorem dM_clashing_0 : decode bM_clashing 0 = .ok (.iconst 0, 1) := by decide +kernel
theorem dM_clashing_1 : decode bM_clashing 1 = .ok (.istore_n 1, 1) := by decide +kernel
theorem dM_clashing_2 : decode bM_clashing 2 = .ok (.iconst 0, 1) := by decide +kernel
theorem dM_clashing_3 : decode bM_clashing 3 = .ok (.istore_n 2, 1) := by decide +kernel
theorem dM_clashing_4 : decode bM_clashing 4 = .ok (.iload_n 2, 1) := by decide +kernel
theorem dM_clashing_5 : decode bM_clashing 5 = .ok (.aload_n 0, 1) := by decide +kernel
theorem dM_clashing_6 : decode bM_clashing 6 = .ok (.getfield 78, 3) := by decide +kernel
theorem dM_clashing_9 : decode bM_clashing 9 = .ok (.if_icmp .ge 27, 3) := by decide +kernel
theorem dM_clashing_12 : decode bM_clashing 12 = .ok (.iload_n 1, 1) := by decide +kernel
theorem dM_clashing_13 : decode bM_clashing 13 = .ok (.aload_n 0, 1) := by decide +kernel
theorem dM_clashing_14 : decode bM_clashing 14 = .ok (.iload_n 2, 1) := by decide +kernel
theorem dM_clashing_15 : decode bM_clashing 15 = .ok (.invokevirtual 103, 3) := by decide +kernel
theorem dM_clashing_18 : decode bM_clashing 18 = .ok (.ifCond .eq 9, 3) := by decide +kernel
theorem dM_clashing_21 : decode bM_clashing 21 = .ok (.iconst 1, 1) := by decide +kernel
theorem dM_clashing_22 : decode bM_clashing 22 = .ok (.iload_n 2, 1) := by decide +kernel
theorem dM_clashing_23 : decode bM_clashing 23 = .ok (.ishl, 1) := by decide +kernel
theorem dM_clashing_24 : decode bM_clashing 24 = .ok (.goto 4, 3) := by decide +kernel
theorem dM_clashing_27 : decode bM_clashing 27 = .ok (.iconst 0, 1) := by decide +kernel
theorem dM_clashing_28 : decode bM_clashing 28 = .ok (.ior, 1) := by decide +kernel
theorem dM_clashing_29 : decode bM_clashing 29 = .ok (.istore_n 1, 1) := by decide +kernel
theorem dM_clashing_30 : decode bM_clashing 30 = .ok (.iinc 2 1, 3) := by decide +kernel
theorem dM_clashing_33 : decode bM_clashing 33 = .ok (.goto (-29), 3) := by decide +kernel
theorem dM_clashing_36 : decode bM_clashing 36 = .ok (.iload_n 1, 1) := by decide +kernel
theorem dM_clashing_37 : decode bM_clashing 37 = .ok (.ireturn, 1) := by decide +kernel
theorem wM_clashing_28 {p : Program} {l : Launch} {e : Env} {s : State} {m : MethodId} {args : Array Value} {below : List Frame} {meth : Method} {c : Code} {G : GT} {I : List Nat} (C : CX p s m args meth c NM bM_clashing 3 (some .int) G I) (hI : mI I) {fu : Nat} {R1 : Int32} {Z : Sg} {rc4 : Int32 → Int32 → Sg → Option (Int32 × Sg)} (hr4 : ∀ {v1 : Int32} {v2 : Int32} {z : Sg} {H : Heap} {locs : List Loc} {ls : Array Slot}, rc4 v1 v2 z = some (R1, Z) → GW G I z s.heap H locs → lv_has ls 3 [(0, .ref (gA G 78)), (1, .int v1), (2, .int v2)] → W p l e rmM_clashing s m args below meth c H locs 0 0 (MQ below (Qi G I R1 Z) args s 0 0 (AD G I)) (F0 m 4 ls [])) {v2 : Int32} {t0 : Int32} {t1 : Int32} {z : Sg} {H : Heap} {locs : List Loc} {ls : Array Slot} (h : pM_clashing_28 fu rc4 v2 t0 t1 z = some (R1, Z)) (hG : GW G I z s.heap H locs) (hl : lv_has ls 3 [(0, .ref (gA G 78)), (2, .int v2)]) : W p l e rmM_clashing s m args below meth c H locs 0 0 (MQ below (Qi G I R1 Z) args s 0 0 (AD G I)) (F0 m 28 ls [.int t1, .int t0]) := by
  unfold pM_clashing_28 at h
  refine lv_ior C.1 C.2.1 dM_clashing_28 ?_
  refine rIstore_n C dM_clashing_29 hl h (by decide) [(0, .ref (gA G 78)), (2, .int v2)] rfl (fun x3 ls h hl => ?_)
  refine rIinc C dM_clashing_30 hl 2 rfl (d := 1) (by decide) h (by decide) [(1, .int x3), (0, .ref (gA G 78))] rfl (fun x4 ls h hl => ?_)
  refine lv_goto (tgt := 4) C.1 C.2.1 dM_clashing_33 (by decide) ?_
  exact hr4 h hG (lv_sub hl [2, 1, 0] rfl)
theorem wM_clashing_4 {p : Program} {l : Launch} {e : Env} {s : State} {m : MethodId} {args : Array Value} {below : List Frame} {meth : Method} {c : Code} {G : GT} {I : List Nat} (C : CX p s m args meth c NM bM_clashing 3 (some .int) G I) (hI : mI I) {fu : Nat} {R1 : Int32} {Z : Sg} : ∀ (k : Nat) {v1 : Int32} {v2 : Int32} {z : Sg} {H : Heap} {locs : List Loc} {ls : Array Slot}, pM_clashing_4 fu k v1 v2 z = some (R1, Z) → GW G I z s.heap H locs → lv_has ls 3 [(0, .ref (gA G 78)), (1, .int v1), (2, .int v2)] → W p l e rmM_clashing s m args below meth c H locs 0 0 (MQ below (Qi G I R1 Z) args s 0 0 (AD G I)) (F0 m 4 ls []) := by
  intro k
  induction k with
  | zero => intro v1 v2 z H locs ls h hG hl; rw [pM_clashing_4] at h; cases h
  | succ k ih =>
    intro v1 v2 z H locs ls h hG hl
    rw [pM_clashing_4] at h
    refine rIload_n C dM_clashing_4 hl 2 rfl ?_
    refine rAload_n C dM_clashing_5 hl 0 rfl ?_
    refine rGet C hG (hI 78 (by decide) (by decide)) e_78 fiM_0 (v := .int (z 78 0)) rfl k_806 dM_clashing_6 ?_
    refine rIcmpge C (tgt := 36) h dM_clashing_9 (by decide) (fun h => ?_) (fun h => ?_)
    · refine rIload_n C dM_clashing_36 hl 1 rfl ?_
      exact rReti C hG h dM_clashing_37
    · refine rIload_n C dM_clashing_12 hl 1 rfl ?_
      refine rAload_n C dM_clashing_13 hl 0 rfl ?_
      refine rIload_n C dM_clashing_14 hl 2 rfl ?_
      refine rCVi [.int v2] [.int v1] C hG h (fun h => cM_doesClash hI h) mvM_doesClash k_1006 ⟨Nat.le_of_ble_eq_true rfl, Nat.le_of_ble_eq_true rfl⟩ ⟨rfl, rfl⟩ (rRecv C hG (hI 78 (by decide) (by decide)) e_78 rfl) rfl hl.1 (Nat.le_of_ble_eq_true rfl) dM_clashing_15 ⟨Nat.zero_le _, Nat.zero_le _⟩ rfl (fun H locs x2 z1 h hG => ?_)
      refine rIfeq C (tgt := 27) h dM_clashing_18 (by decide) (fun h => ?_) (fun h => ?_)
      · refine lv_iconst (v := 0) C.1 C.2.1 dM_clashing_27 (by decide) ?_
        exact wM_clashing_28 C hI ih h hG (lv_sub hl [0, 2] rfl)
      · refine lv_iconst (v := 1) C.1 C.2.1 dM_clashing_21 (by decide) ?_
        refine rIload_n C dM_clashing_22 hl 2 rfl ?_
        refine lv_ishl C.1 C.2.1 dM_clashing_23 ?_
        refine lv_goto (tgt := 28) C.1 C.2.1 dM_clashing_24 (by decide) ?_
        exact wM_clashing_28 C hI ih h hG (lv_sub hl [0, 2] rfl)
theorem cM_clashing {l : Launch} {G : GT} {I : List Nat} (hI : mI I) {fu : Nat} {z : Sg} {R1 : Int32} {Z : Sg} (h : pM_clashing fu z = some (R1, Z)) : Mt l yM_clashing rmM_clashing bM_clashing 3 (some .int) G I z [.ref (gA G 78)] (Qi G I R1 Z) := by
  refine entM (by decide +kernel) (Nat.le_of_ble_eq_true rfl) ?_
  intro p e s m below meth c C hG ls hl
  have hl : lv_has ls 3 [(0, .ref (gA G 78))] := hl
  unfold pM_clashing at h
  refine lv_iconst (v := 0) C.1 C.2.1 dM_clashing_0 (by decide) ?_
  refine rIstoreA_n C dM_clashing_1 hl (by decide) [(0, .ref (gA G 78))] rfl (fun ls hl => ?_)
  refine lv_iconst (v := 0) C.1 C.2.1 dM_clashing_2 (by decide) ?_
  refine rIstoreA_n C dM_clashing_3 hl (by decide) [(1, .int 0), (0, .ref (gA G 78))] rfl (fun ls hl => ?_)
  exact wM_clashing_4 C hI _ h hG (lv_sub hl [2, 1, 0] rfl)
theorem dM_toldBehind_0 : decode bM_toldBehind 0 = .ok (.iload_n 1, 1) := by decide +kernel
theorem dM_toldBehind_1 : decode bM_toldBehind 1 = .ok (.tableswitch 44 1 3 #[27, 32, 37], 27) := by decide +kernel
theorem dM_toldBehind_28 : decode bM_toldBehind 28 = .ok (.aload_n 0, 1) := by decide +kernel
theorem dM_toldBehind_29 : decode bM_toldBehind 29 = .ok (.invokevirtual 107, 3) := by decide +kernel
theorem dM_toldBehind_32 : decode bM_toldBehind 32 = .ok (.ireturn, 1) := by decide +kernel
theorem dM_toldBehind_33 : decode bM_toldBehind 33 = .ok (.aload_n 0, 1) := by decide +kernel
theorem dM_toldBehind_34 : decode bM_toldBehind 34 = .ok (.invokevirtual 207, 3) := by decide +kernel
theorem dM_toldBehind_37 : decode bM_toldBehind 37 = .ok (.ireturn, 1) := by decide +kernel
theorem dM_toldBehind_38 : decode bM_toldBehind 38 = .ok (.aload_n 0, 1) := by decide +kernel
theorem dM_toldBehind_39 : decode bM_toldBehind 39 = .ok (.getfield 19, 3) := by decide +kernel
theorem dM_toldBehind_42 : decode bM_toldBehind 42 = .ok (.iconst 1, 1) := by decide +kernel
theorem dM_toldBehind_43 : decode bM_toldBehind 43 = .ok (.iaload, 1) := by decide +kernel
theorem dM_toldBehind_44 : decode bM_toldBehind 44 = .ok (.ireturn, 1) := by decide +kernel
theorem dM_toldBehind_45 : decode bM_toldBehind 45 = .ok (.iload_n 1, 1) := by decide +kernel
theorem dM_toldBehind_46 : decode bM_toldBehind 46 = .ok (.bipush 20, 2) := by decide +kernel
theorem dM_toldBehind_48 : decode bM_toldBehind 48 = .ok (.if_icmp .ge 19, 3) := by decide +kernel
theorem dM_toldBehind_51 : decode bM_toldBehind 51 = .ok (.aload_n 0, 1) := by decide +kernel
theorem dM_toldBehind_52 : decode bM_toldBehind 52 = .ok (.getfield 16, 3) := by decide +kernel
theorem dM_toldBehind_55 : decode bM_toldBehind 55 = .ok (.iconst 3, 1) := by decide +kernel
theorem dM_toldBehind_56 : decode bM_toldBehind 56 = .ok (.iload_n 1, 1) := by decide +kernel
theorem dM_toldBehind_57 : decode bM_toldBehind 57 = .ok (.bipush 10, 2) := by decide +kernel
theorem dM_toldBehind_59 : decode bM_toldBehind 59 = .ok (.isub, 1) := by decide +kernel
theorem dM_toldBehind_60 : decode bM_toldBehind 60 = .ok (.imul, 1) := by decide +kernel
theorem dM_toldBehind_61 : decode bM_toldBehind 61 = .ok (.iconst 1, 1) := by decide +kernel
theorem dM_toldBehind_62 : decode bM_toldBehind 62 = .ok (.iadd, 1) := by decide +kernel
theorem dM_toldBehind_63 : decode bM_toldBehind 63 = .ok (.iaload, 1) := by decide +kernel
theorem dM_toldBehind_64 : decode bM_toldBehind 64 = .ok (.goto 16, 3) := by decide +kernel
theorem dM_toldBehind_67 : decode bM_toldBehind 67 = .ok (.aload_n 0, 1) := by decide +kernel
theorem dM_toldBehind_68 : decode bM_toldBehind 68 = .ok (.getfield 16, 3) := by decide +kernel
theorem dM_toldBehind_71 : decode bM_toldBehind 71 = .ok (.iconst 3, 1) := by decide +kernel
theorem dM_toldBehind_72 : decode bM_toldBehind 72 = .ok (.iload_n 1, 1) := by decide +kernel
theorem dM_toldBehind_73 : decode bM_toldBehind 73 = .ok (.bipush 20, 2) := by decide +kernel
theorem dM_toldBehind_75 : decode bM_toldBehind 75 = .ok (.isub, 1) := by decide +kernel
theorem dM_toldBehind_76 : decode bM_toldBehind 76 = .ok (.imul, 1) := by decide +kernel
theorem dM_toldBehind_77 : decode bM_toldBehind 77 = .ok (.iconst 2, 1) := by decide +kernel
theorem dM_toldBehind_78 : decode bM_toldBehind 78 = .ok (.iadd, 1) := by decide +kernel
theorem dM_toldBehind_79 : decode bM_toldBehind 79 = .ok (.iaload, 1) := by decide +kernel
theorem dM_toldBehind_80 : decode bM_toldBehind 80 = .ok (.ireturn, 1) := by decide +kernel
theorem cM_toldBehind {l : Launch} {G : GT} {I : List Nat} (hI : mI I) {fu : Nat} {v1 : Int32} {z : Sg} {R1 : Int32} {Z : Sg} (h : pM_toldBehind fu v1 z = some (R1, Z)) : Mt l yM_toldBehind rmM_toldBehind bM_toldBehind 2 (some .int) G I z [.ref (gA G 78), .int v1] (Qi G I R1 Z) := by
  refine entM (by decide +kernel) (Nat.le_of_ble_eq_true rfl) ?_
  intro p e s m below meth c C hG ls hl
  have hl : lv_has ls 2 [(0, .ref (gA G 78)), (1, .int v1)] := hl
  unfold pM_toldBehind at h
  refine rIload_n C dM_toldBehind_0 hl 1 rfl ?_
  by_cases q1_0 : v1 = 1
  · replace h := ifP q1_0 h
    refine rSwT C dM_toldBehind_1 1 q1_0 (by decide) (off := 27) (tgt := 28) (by decide) (by decide) ?_
    refine rAload_n C dM_toldBehind_28 hl 0 rfl ?_
    refine rCVi [] [] C hG h (fun h => cM_inStep hI h) mvM_inStep k_913 ⟨Nat.le_of_ble_eq_true rfl, Nat.le_of_ble_eq_true rfl⟩ ⟨rfl, rfl⟩ (rRecv C hG (hI 78 (by decide) (by decide)) e_78 rfl) rfl hl.1 (Nat.le_of_ble_eq_true rfl) dM_toldBehind_29 ⟨Nat.zero_le _, Nat.zero_le _⟩ rfl (fun H locs x2 z1 h hG => ?_)
    exact rReti C hG h dM_toldBehind_32
  replace h := ifN q1_0 h
  by_cases q1_1 : v1 = 2
  · replace h := ifP q1_1 h
    refine rSwT C dM_toldBehind_1 2 q1_1 (by decide) (off := 32) (tgt := 33) (by decide) (by decide) ?_
    refine rAload_n C dM_toldBehind_33 hl 0 rfl ?_
    refine rCVi [] [] C hG h (fun h => cM_clashing hI h) mvM_clashing k_1037 ⟨Nat.le_of_ble_eq_true rfl, Nat.le_of_ble_eq_true rfl⟩ ⟨rfl, rfl⟩ (rRecv C hG (hI 78 (by decide) (by decide)) e_78 rfl) rfl hl.1 (Nat.le_of_ble_eq_true rfl) dM_toldBehind_34 ⟨Nat.zero_le _, Nat.zero_le _⟩ rfl (fun H locs x4 z3 h hG => ?_)
    exact rReti C hG h dM_toldBehind_37
  replace h := ifN q1_1 h
  by_cases q1_2 : v1 = 3
  · replace h := ifP q1_2 h
    refine rSwT C dM_toldBehind_1 3 q1_2 (by decide) (off := 37) (tgt := 38) (by decide) (by decide) ?_
    refine rAload_n C dM_toldBehind_38 hl 0 rfl ?_
    refine rGet C hG (hI 78 (by decide) (by decide)) e_78 fiM_4 (v := .ref (gA G 82)) rfl k_810 dM_toldBehind_39 ?_
    refine lv_iconst (v := 1) C.1 C.2.1 dM_toldBehind_42 (by decide) ?_
    refine rIaldK C hG (hI 82 (by decide) (by decide)) e_82 1 (by decide) (by decide) dM_toldBehind_43 ?_
    exact rReti C hG h dM_toldBehind_44
  replace h := ifN q1_2 h
  refine rSwD C dM_toldBehind_1 (tgt := 45) (by have q1_0n := ne_toInt (k := 1) q1_0 (by decide); have q1_1n := ne_toInt (k := 2) q1_1 (by decide); have q1_2n := ne_toInt (k := 3) q1_2 (by decide); omega) (by decide) ?_
  refine rIload_n C dM_toldBehind_45 hl 1 rfl ?_
  refine lv_bipush (v := 20) C.1 C.2.1 dM_toldBehind_46 (by decide) ?_
  refine rIcmpge C (tgt := 67) h dM_toldBehind_48 (by decide) (fun h => ?_) (fun h => ?_)
  · refine rAload_n C dM_toldBehind_67 hl 0 rfl ?_
    refine rGet C hG (hI 78 (by decide) (by decide)) e_78 fiM_3 (v := .ref (gA G 81)) rfl k_809 dM_toldBehind_68 ?_
    refine lv_iconst (v := 3) C.1 C.2.1 dM_toldBehind_71 (by decide) ?_
    refine rIload_n C dM_toldBehind_72 hl 1 rfl ?_
    refine lv_bipush (v := 20) C.1 C.2.1 dM_toldBehind_73 (by decide) ?_
    refine lv_isub C.1 C.2.1 dM_toldBehind_75 ?_
    refine lv_imul C.1 C.2.1 dM_toldBehind_76 ?_
    refine lv_iconst (v := 2) C.1 C.2.1 dM_toldBehind_77 (by decide) ?_
    refine lv_iadd C.1 C.2.1 dM_toldBehind_78 ?_
    refine rIald C hG (hI 81 (by decide) (by decide)) e_81 h dM_toldBehind_79 (fun h => ?_)
    exact rReti C hG h dM_toldBehind_80
  · refine rAload_n C dM_toldBehind_51 hl 0 rfl ?_
    refine rGet C hG (hI 78 (by decide) (by decide)) e_78 fiM_3 (v := .ref (gA G 81)) rfl k_809 dM_toldBehind_52 ?_
    refine lv_iconst (v := 3) C.1 C.2.1 dM_toldBehind_55 (by decide) ?_
    refine rIload_n C dM_toldBehind_56 hl 1 rfl ?_
    refine lv_bipush (v := 10) C.1 C.2.1 dM_toldBehind_57 (by decide) ?_
    refine lv_isub C.1 C.2.1 dM_toldBehind_59 ?_
    refine lv_imul C.1 C.2.1 dM_toldBehind_60 ?_
    refine lv_iconst (v := 1) C.1 C.2.1 dM_toldBehind_61 (by decide) ?_
    refine lv_iadd C.1 C.2.1 dM_toldBehind_62 ?_
    refine rIald C hG (hI 81 (by decide) (by decide)) e_81 h dM_toldBehind_63 (fun h => ?_)
    refine lv_goto (tgt := 80) C.1 C.2.1 dM_toldBehind_64 (by decide) ?_
    exact rReti C hG h dM_toldBehind_80
theorem dM_lays_0 : decode bM_lays 0 = .ok (.iconst 0, 1) := by decide +kernel
theorem dM_lays_1 : decode bM_lays 1 = .ok (.istore_n 1, 1) := by decide +kernel
theorem dM_lays_2 : decode bM_lays 2 = .ok (.iload_n 1, 1) := by decide +kernel
theorem dM_lays_3 : decode bM_lays 3 = .ok (.bipush 18, 2) := by decide +kernel
theorem dM_lays_5 : decode bM_lays 5 = .ok (.if_icmp .ge 21, 3) := by decide +kernel
theorem dM_lays_8 : decode bM_lays 8 = .ok (.aload_n 0, 1) := by decide +kernel
theorem dM_lays_9 : decode bM_lays 9 = .ok (.getfield 16, 3) := by decide +kernel
theorem dM_lays_12 : decode bM_lays 12 = .ok (.iload_n 1, 1) := by decide +kernel
theorem dM_lays_13 : decode bM_lays 13 = .ok (.aload_n 0, 1) := by decide +kernel
theorem dM_lays_14 : decode bM_lays 14 = .ok (.getfield 64, 3) := by decide +kernel
theorem dM_lays_17 : decode bM_lays 17 = .ok (.iload_n 1, 1) := by decide +kernel
theorem dM_lays_18 : decode bM_lays 18 = .ok (.iaload, 1) := by decide +kernel
theorem dM_lays_19 : decode bM_lays 19 = .ok (.iastore, 1) := by decide +kernel
theorem dM_lays_20 : decode bM_lays 20 = .ok (.iinc 1 1, 3) := by decide +kernel
theorem dM_lays_23 : decode bM_lays 23 = .ok (.goto (-21), 3) := by decide +kernel
theorem dM_lays_26 : decode bM_lays 26 = .ok (.iconst 0, 1) := by decide +kernel
theorem dM_lays_27 : decode bM_lays 27 = .ok (.istore_n 1, 1) := by decide +kernel
theorem dM_lays_28 : decode bM_lays 28 = .ok (.iload_n 1, 1) := by decide +kernel
theorem dM_lays_29 : decode bM_lays 29 = .ok (.iconst 5, 1) := by decide +kernel
theorem dM_lays_30 : decode bM_lays 30 = .ok (.if_icmp .ge 24, 3) := by decide +kernel
theorem dM_lays_33 : decode bM_lays 33 = .ok (.aload_n 0, 1) := by decide +kernel
theorem dM_lays_34 : decode bM_lays 34 = .ok (.getfield 19, 3) := by decide +kernel
theorem dM_lays_37 : decode bM_lays 37 = .ok (.iload_n 1, 1) := by decide +kernel
theorem dM_lays_38 : decode bM_lays 38 = .ok (.aload_n 0, 1) := by decide +kernel
theorem dM_lays_39 : decode bM_lays 39 = .ok (.getfield 64, 3) := by decide +kernel
theorem dM_lays_42 : decode bM_lays 42 = .ok (.bipush 18, 2) := by decide +kernel
theorem dM_lays_44 : decode bM_lays 44 = .ok (.iload_n 1, 1) := by decide +kernel
theorem dM_lays_45 : decode bM_lays 45 = .ok (.iadd, 1) := by decide +kernel
theorem dM_lays_46 : decode bM_lays 46 = .ok (.iaload, 1) := by decide +kernel
theorem dM_lays_47 : decode bM_lays 47 = .ok (.iastore, 1) := by decide +kernel
theorem dM_lays_48 : decode bM_lays 48 = .ok (.iinc 1 1, 3) := by decide +kernel
theorem dM_lays_51 : decode bM_lays 51 = .ok (.goto (-23), 3) := by decide +kernel
theorem dM_lays_54 : decode bM_lays 54 = .ok (.return_, 1) := by decide +kernel
theorem wM_lays_28 {p : Program} {l : Launch} {e : Env} {s : State} {m : MethodId} {args : Array Value} {below : List Frame} {meth : Method} {c : Code} {G : GT} {I : List Nat} (C : CX p s m args meth c NM bM_lays 2 none G I) (hI : mI I) {fu : Nat} {Z : Sg} : ∀ (k : Nat) {v1 : Int32} {z : Sg} {H : Heap} {locs : List Loc} {ls : Array Slot}, pM_lays_28 fu k v1 z = some Z → GW G I z s.heap H locs → lv_has ls 2 [(0, .ref (gA G 78)), (1, .int v1)] → W p l e rmM_lays s m args below meth c H locs 0 0 (MQ below (Qv G I Z) args s 0 0 (AD G I)) (F0 m 28 ls []) := by
  intro k
  induction k with
  | zero => intro v1 z H locs ls h hG hl; rw [pM_lays_28] at h; cases h
  | succ k ih =>
    intro v1 z H locs ls h hG hl
    rw [pM_lays_28] at h
    refine rIload_n C dM_lays_28 hl 1 rfl ?_
    refine lv_iconst (v := 5) C.1 C.2.1 dM_lays_29 (by decide) ?_
    refine rIcmpge C (tgt := 54) h dM_lays_30 (by decide) (fun h => ?_) (fun h => ?_)
    · exact rRetv C hG h dM_lays_54
    · refine rAload_n C dM_lays_33 hl 0 rfl ?_
      refine rGet C hG (hI 78 (by decide) (by decide)) e_78 fiM_4 (v := .ref (gA G 82)) rfl k_810 dM_lays_34 ?_
      refine rIload_n C dM_lays_37 hl 1 rfl ?_
      refine rAload_n C dM_lays_38 hl 0 rfl ?_
      refine rGet C hG (hI 78 (by decide) (by decide)) e_78 fiM_30 (v := .ref (gA G 97)) rfl k_836 dM_lays_39 ?_
      refine lv_bipush (v := 18) C.1 C.2.1 dM_lays_42 (by decide) ?_
      refine rIload_n C dM_lays_44 hl 1 rfl ?_
      refine lv_iadd C.1 C.2.1 dM_lays_45 ?_
      refine rIald C hG (hI 97 (by decide) (by decide)) e_97 h dM_lays_46 (fun h => ?_)
      refine rIast C hG (hI 82 (by decide) (by decide)) e_82 h dM_lays_47 (fun H locs z3 h hG => ?_)
      refine rIinc C dM_lays_48 hl 1 rfl (d := 1) (by decide) h (by decide) [(0, .ref (gA G 78))] rfl (fun x4 ls h hl => ?_)
      refine lv_goto (tgt := 28) C.1 C.2.1 dM_lays_51 (by decide) ?_
      exact ih h hG (lv_sub hl [1, 0] rfl)
theorem wM_lays_2 {p : Program} {l : Launch} {e : Env} {s : State} {m : MethodId} {args : Array Value} {below : List Frame} {meth : Method} {c : Code} {G : GT} {I : List Nat} (C : CX p s m args meth c NM bM_lays 2 none G I) (hI : mI I) {fu : Nat} {Z : Sg} : ∀ (k : Nat) {v1 : Int32} {z : Sg} {H : Heap} {locs : List Loc} {ls : Array Slot}, pM_lays_2 fu k v1 z = some Z → GW G I z s.heap H locs → lv_has ls 2 [(0, .ref (gA G 78)), (1, .int v1)] → W p l e rmM_lays s m args below meth c H locs 0 0 (MQ below (Qv G I Z) args s 0 0 (AD G I)) (F0 m 2 ls []) := by
  intro k
  induction k with
  | zero => intro v1 z H locs ls h hG hl; rw [pM_lays_2] at h; cases h
  | succ k ih =>
    intro v1 z H locs ls h hG hl
    rw [pM_lays_2] at h
    refine rIload_n C dM_lays_2 hl 1 rfl ?_
    refine lv_bipush (v := 18) C.1 C.2.1 dM_lays_3 (by decide) ?_
    refine rIcmpge C (tgt := 26) h dM_lays_5 (by decide) (fun h => ?_) (fun h => ?_)
    · refine lv_iconst (v := 0) C.1 C.2.1 dM_lays_26 (by decide) ?_
      refine rIstoreA_n C dM_lays_27 hl (by decide) [(0, .ref (gA G 78))] rfl (fun ls hl => ?_)
      exact wM_lays_28 C hI _ h hG (lv_sub hl [1, 0] rfl)
    · refine rAload_n C dM_lays_8 hl 0 rfl ?_
      refine rGet C hG (hI 78 (by decide) (by decide)) e_78 fiM_3 (v := .ref (gA G 81)) rfl k_809 dM_lays_9 ?_
      refine rIload_n C dM_lays_12 hl 1 rfl ?_
      refine rAload_n C dM_lays_13 hl 0 rfl ?_
      refine rGet C hG (hI 78 (by decide) (by decide)) e_78 fiM_30 (v := .ref (gA G 97)) rfl k_836 dM_lays_14 ?_
      refine rIload_n C dM_lays_17 hl 1 rfl ?_
      refine rIald C hG (hI 97 (by decide) (by decide)) e_97 h dM_lays_18 (fun h => ?_)
      refine rIast C hG (hI 81 (by decide) (by decide)) e_81 h dM_lays_19 (fun H locs z1 h hG => ?_)
      refine rIinc C dM_lays_20 hl 1 rfl (d := 1) (by decide) h (by decide) [(0, .ref (gA G 78))] rfl (fun x2 ls h hl => ?_)
      refine lv_goto (tgt := 2) C.1 C.2.1 dM_lays_23 (by decide) ?_
      exact ih h hG (lv_sub hl [1, 0] rfl)
theorem cM_lays {l : Launch} {G : GT} {I : List Nat} (hI : mI I) {fu : Nat} {z : Sg} {Z : Sg} (h : pM_lays fu z = some Z) : Mt l yM_lays rmM_lays bM_lays 2 none G I z [.ref (gA G 78)] (Qv G I Z) := by
  refine entM (by decide +kernel) (Nat.le_of_ble_eq_true rfl) ?_
  intro p e s m below meth c C hG ls hl
  have hl : lv_has ls 2 [(0, .ref (gA G 78))] := hl
  unfold pM_lays at h
  refine lv_iconst (v := 0) C.1 C.2.1 dM_lays_0 (by decide) ?_
  refine rIstoreA_n C dM_lays_1 hl (by decide) [(0, .ref (gA G 78))] rfl (fun ls hl => ?_)
  exact wM_lays_2 C hI _ h hG (lv_sub hl [1, 0] rfl)
theorem dM_run_0 : decode bM_run 0 = .ok (.iload_n 2, 1) := by decide +kernel
theorem dM_run_1 : decode bM_run 1 = .ok (.iconst 0, 1) := by decide +kernel
theorem dM_run_2 : decode bM_run 2 = .ok (.iconst 3, 1) := by decide +kernel
theorem dM_run_3 : decode bM_run 3 = .ok (.invokestatic 81, 3) := by decide +kernel
theorem dM_run_6 : decode bM_run 6 = .ok (.ifCond .ne 35, 3) := by decide +kernel
theorem dM_run_9 : decode bM_run 9 = .ok (.iload_n 2, 1) := by decide +kernel
theorem dM_run_10 : decode bM_run 10 = .ok (.bipush 10, 2) := by decide +kernel
theorem dM_run_12 : decode bM_run 12 = .ok (.bipush 9, 2) := by decide +kernel
theorem dM_run_14 : decode bM_run 14 = .ok (.aload_n 0, 1) := by decide +kernel
theorem dM_run_15 : decode bM_run 15 = .ok (.getfield 78, 3) := by decide +kernel
theorem dM_run_18 : decode bM_run 18 = .ok (.iadd, 1) := by decide +kernel
theorem dM_run_19 : decode bM_run 19 = .ok (.invokestatic 81, 3) := by decide +kernel
theorem dM_run_22 : decode bM_run 22 = .ok (.ifCond .ne 19, 3) := by decide +kernel
theorem dM_run_25 : decode bM_run 25 = .ok (.iload_n 2, 1) := by decide +kernel
theorem dM_run_26 : decode bM_run 26 = .ok (.bipush 20, 2) := by decide +kernel
theorem dM_run_28 : decode bM_run 28 = .ok (.bipush 19, 2) := by decide +kernel
theorem dM_run_30 : decode bM_run 30 = .ok (.aload_n 0, 1) := by decide +kernel
theorem dM_run_31 : decode bM_run 31 = .ok (.getfield 78, 3) := by decide +kernel
theorem dM_run_34 : decode bM_run 34 = .ok (.iadd, 1) := by decide +kernel
theorem dM_run_35 : decode bM_run 35 = .ok (.invokestatic 81, 3) := by decide +kernel
theorem dM_run_38 : decode bM_run 38 = .ok (.ifCond .eq 7, 3) := by decide +kernel
theorem dM_run_41 : decode bM_run 41 = .ok (.iconst 1, 1) := by decide +kernel
theorem dM_run_42 : decode bM_run 42 = .ok (.goto 4, 3) := by decide +kernel
theorem dM_run_45 : decode bM_run 45 = .ok (.iconst 0, 1) := by decide +kernel
theorem dM_run_46 : decode bM_run 46 = .ok (.istore_n 3, 1) := by decide +kernel
theorem dM_run_47 : decode bM_run 47 = .ok (.iload_n 1, 1) := by decide +kernel
theorem dM_run_48 : decode bM_run 48 = .ok (.iconst 0, 1) := by decide +kernel
theorem dM_run_49 : decode bM_run 49 = .ok (.bipush 60, 2) := by decide +kernel
theorem dM_run_51 : decode bM_run 51 = .ok (.invokestatic 81, 3) := by decide +kernel
theorem dM_run_54 : decode bM_run 54 = .ok (.ifCond .eq 7, 3) := by decide +kernel
theorem dM_run_57 : decode bM_run 57 = .ok (.iload_n 3, 1) := by decide +kernel
theorem dM_run_58 : decode bM_run 58 = .ok (.ifCond .ne 6, 3) := by decide +kernel
theorem dM_run_61 : decode bM_run 61 = .ok (.bipush (-2), 2) := by decide +kernel
theorem dM_run_63 : decode bM_run 63 = .ok (.ireturn, 1) := by decide +kernel
theorem dM_run_64 : decode bM_run 64 = .ok (.aload_n 0, 1) := by decide +kernel
theorem dM_run_65 : decode bM_run 65 = .ok (.invokevirtual 210, 3) := by decide +kernel
theorem dM_run_68 : decode bM_run 68 = .ok (.aload_n 0, 1) := by decide +kernel
theorem dM_run_69 : decode bM_run 69 = .ok (.iload_n 1, 1) := by decide +kernel
theorem dM_run_70 : decode bM_run 70 = .ok (.invokevirtual 213, 3) := by decide +kernel
theorem dM_run_73 : decode bM_run 73 = .ok (.istore 4, 2) := by decide +kernel
theorem dM_run_75 : decode bM_run 75 = .ok (.iload_n 2, 1) := by decide +kernel
theorem dM_run_76 : decode bM_run 76 = .ok (.ifCond .ne 8, 3) := by decide +kernel
theorem dM_run_79 : decode bM_run 79 = .ok (.iload 4, 2) := by decide +kernel
theorem dM_run_81 : decode bM_run 81 = .ok (.goto 8, 3) := by decide +kernel
theorem dM_run_84 : decode bM_run 84 = .ok (.aload_n 0, 1) := by decide +kernel
theorem dM_run_85 : decode bM_run 85 = .ok (.iload_n 2, 1) := by decide +kernel
theorem dM_run_86 : decode bM_run 86 = .ok (.invokevirtual 216, 3) := by decide +kernel
theorem dM_run_89 : decode bM_run 89 = .ok (.istore 5, 2) := by decide +kernel
theorem dM_run_91 : decode bM_run 91 = .ok (.aload_n 0, 1) := by decide +kernel
theorem dM_run_92 : decode bM_run 92 = .ok (.invokevirtual 219, 3) := by decide +kernel
theorem dM_run_95 : decode bM_run 95 = .ok (.iload 5, 2) := by decide +kernel
theorem dM_run_97 : decode bM_run 97 = .ok (.ireturn, 1) := by decide +kernel
theorem wM_run_89 {p : Program} {l : Launch} {e : Env} {s : State} {m : MethodId} {args : Array Value} {below : List Frame} {meth : Method} {c : Code} {G : GT} {I : List Nat} (C : CX p s m args meth c NM bM_run 6 (some .int) G I) (hI : mI I) {fu : Nat} {R1 : Int32} {Z : Sg} {t0 : Int32} {z : Sg} {H : Heap} {locs : List Loc} {ls : Array Slot} (h : pM_run_89 fu t0 z = some (R1, Z)) (hG : GW G I z s.heap H locs) (hl : lv_has ls 6 [(0, .ref (gA G 78))]) : W p l e rmM_run s m args below meth c H locs 0 0 (MQ below (Qi G I R1 Z) args s 0 0 (AD G I)) (F0 m 89 ls [.int t0]) := by
  unfold pM_run_89 at h
  refine rIstoreA C dM_run_89 hl (by decide) [(0, .ref (gA G 78))] rfl (fun ls hl => ?_)
  refine rAload_n C dM_run_91 hl 1 rfl ?_
  refine rCVv [] [] C hG h (fun h => cM_lays hI h) mvM_lays k_1041 ⟨Nat.le_of_ble_eq_true rfl, Nat.le_of_ble_eq_true rfl⟩ ⟨rfl, rfl⟩ (rRecv C hG (hI 78 (by decide) (by decide)) e_78 rfl) rfl hl.1 (Nat.le_of_ble_eq_true rfl) dM_run_92 ⟨Nat.zero_le _, Nat.zero_le _⟩ rfl (fun H locs z14 h hG => ?_)
  refine rIload C dM_run_95 hl 0 rfl ?_
  exact rReti C hG h dM_run_97
theorem wM_run_46 {p : Program} {l : Launch} {e : Env} {s : State} {m : MethodId} {args : Array Value} {below : List Frame} {meth : Method} {c : Code} {G : GT} {I : List Nat} (C : CX p s m args meth c NM bM_run 6 (some .int) G I) (hI : mI I) {fu : Nat} {R1 : Int32} {Z : Sg} {v1 : Int32} {v2 : Int32} {t0 : Int32} {z : Sg} {H : Heap} {locs : List Loc} {ls : Array Slot} (h : pM_run_46 fu v1 v2 t0 z = some (R1, Z)) (hG : GW G I z s.heap H locs) (hl : lv_has ls 6 [(0, .ref (gA G 78)), (1, .int v1), (2, .int v2)]) : W p l e rmM_run s m args below meth c H locs 0 0 (MQ below (Qi G I R1 Z) args s 0 0 (AD G I)) (F0 m 46 ls [.int t0]) := by
  unfold pM_run_46 at h
  refine rIstoreA_n C dM_run_46 hl (by decide) [(0, .ref (gA G 78)), (1, .int v1), (2, .int v2)] rfl (fun ls hl => ?_)
  refine rIload_n C dM_run_47 hl 2 rfl ?_
  refine lv_iconst (v := 0) C.1 C.2.1 dM_run_48 (by decide) ?_
  refine lv_bipush (v := 60) C.1 C.2.1 dM_run_49 (by decide) ?_
  refine rCSi [.int v1, .int 0, .int 60] [] C hG h (fun h => cM_in hI h) mvM_in k_767 ⟨Nat.le_of_ble_eq_true rfl, Nat.le_of_ble_eq_true rfl⟩ ⟨rfl, rfl⟩ rfl hl.1 (Nat.le_of_ble_eq_true rfl) dM_run_51 ⟨Nat.zero_le _, Nat.zero_le _⟩ rfl (fun H locs x8 z7 h hG => ?_)
  refine rIfeq C (tgt := 61) h dM_run_54 (by decide) (fun h => ?_) (fun h => ?_)
  · refine lv_bipush (v := (-2)) C.1 C.2.1 dM_run_61 (by decide) ?_
    exact rReti C hG h dM_run_63
  · refine rIload_n C dM_run_57 hl 0 rfl ?_
    refine rIfne C (tgt := 64) h dM_run_58 (by decide) (fun h => ?_) (fun h => ?_)
    · refine rAload_n C dM_run_64 hl 1 rfl ?_
      refine rCVv [] [] C hG h (fun h => cM_keeps hI h) mvM_keeps k_1025 ⟨Nat.le_of_ble_eq_true rfl, Nat.le_of_ble_eq_true rfl⟩ ⟨rfl, rfl⟩ (rRecv C hG (hI 78 (by decide) (by decide)) e_78 rfl) rfl hl.1 (Nat.le_of_ble_eq_true rfl) dM_run_65 ⟨Nat.zero_le _, Nat.zero_le _⟩ rfl (fun H locs z9 h hG => ?_)
      refine rAload_n C dM_run_68 hl 1 rfl ?_
      refine rIload_n C dM_run_69 hl 2 rfl ?_
      refine rCVi [.int v1] [] C hG h (fun h => cM_goes hI h) mvM_goes k_1029 ⟨Nat.le_of_ble_eq_true rfl, Nat.le_of_ble_eq_true rfl⟩ ⟨rfl, rfl⟩ (rRecv C hG (hI 78 (by decide) (by decide)) e_78 rfl) rfl hl.1 (Nat.le_of_ble_eq_true rfl) dM_run_70 ⟨Nat.zero_le _, Nat.zero_le _⟩ rfl (fun H locs x11 z10 h hG => ?_)
      refine rIstoreA C dM_run_73 hl (by decide) [(3, .int t0), (0, .ref (gA G 78)), (1, .int v1), (2, .int v2)] rfl (fun ls hl => ?_)
      refine rIload_n C dM_run_75 hl 4 rfl ?_
      refine rIfne C (tgt := 84) h dM_run_76 (by decide) (fun h => ?_) (fun h => ?_)
      · refine rAload_n C dM_run_84 hl 2 rfl ?_
        refine rIload_n C dM_run_85 hl 4 rfl ?_
        refine rCVi [.int v2] [] C hG h (fun h => cM_toldBehind hI h) mvM_toldBehind k_1033 ⟨Nat.le_of_ble_eq_true rfl, Nat.le_of_ble_eq_true rfl⟩ ⟨rfl, rfl⟩ (rRecv C hG (hI 78 (by decide) (by decide)) e_78 rfl) rfl hl.1 (Nat.le_of_ble_eq_true rfl) dM_run_86 ⟨Nat.zero_le _, Nat.zero_le _⟩ rfl (fun H locs x13 z12 h hG => ?_)
        exact wM_run_89 C hI h hG (lv_sub hl [2] rfl)
      · refine rIload C dM_run_79 hl 0 rfl ?_
        refine lv_goto (tgt := 89) C.1 C.2.1 dM_run_81 (by decide) ?_
        exact wM_run_89 C hI h hG (lv_sub hl [2] rfl)
    · refine lv_bipush (v := (-2)) C.1 C.2.1 dM_run_61 (by decide) ?_
      exact rReti C hG h dM_run_63
theorem wM_run_41 {p : Program} {l : Launch} {e : Env} {s : State} {m : MethodId} {args : Array Value} {below : List Frame} {meth : Method} {c : Code} {G : GT} {I : List Nat} (C : CX p s m args meth c NM bM_run 6 (some .int) G I) (hI : mI I) {fu : Nat} {R1 : Int32} {Z : Sg} {v1 : Int32} {v2 : Int32} {z : Sg} {H : Heap} {locs : List Loc} {ls : Array Slot} (h : pM_run_41 fu v1 v2 z = some (R1, Z)) (hG : GW G I z s.heap H locs) (hl : lv_has ls 6 [(0, .ref (gA G 78)), (1, .int v1), (2, .int v2)]) : W p l e rmM_run s m args below meth c H locs 0 0 (MQ below (Qi G I R1 Z) args s 0 0 (AD G I)) (F0 m 41 ls []) := by
  unfold pM_run_41 at h
  refine lv_iconst (v := 1) C.1 C.2.1 dM_run_41 (by decide) ?_
  refine lv_goto (tgt := 46) C.1 C.2.1 dM_run_42 (by decide) ?_
  exact wM_run_46 C hI h hG (lv_sub hl [0, 1, 2] rfl)
theorem cM_run {l : Launch} {G : GT} {I : List Nat} (hI : mI I) {fu : Nat} {v1 : Int32} {v2 : Int32} {z : Sg} {R1 : Int32} {Z : Sg} (h : pM_run fu v1 v2 z = some (R1, Z)) : Mt l yM_run rmM_run bM_run 6 (some .int) G I z [.ref (gA G 78), .int v1, .int v2] (Qi G I R1 Z) := by
  refine entM (by decide +kernel) (Nat.le_of_ble_eq_true rfl) ?_
  intro p e s m below meth c C hG ls hl
  have hl : lv_has ls 6 [(0, .ref (gA G 78)), (1, .int v1), (2, .int v2)] := hl
  unfold pM_run at h
  refine rIload_n C dM_run_0 hl 2 rfl ?_
  refine lv_iconst (v := 0) C.1 C.2.1 dM_run_1 (by decide) ?_
  refine lv_iconst (v := 3) C.1 C.2.1 dM_run_2 (by decide) ?_
  refine rCSi [.int v2, .int 0, .int 3] [] C hG h (fun h => cM_in hI h) mvM_in k_767 ⟨Nat.le_of_ble_eq_true rfl, Nat.le_of_ble_eq_true rfl⟩ ⟨rfl, rfl⟩ rfl hl.1 (Nat.le_of_ble_eq_true rfl) dM_run_3 ⟨Nat.zero_le _, Nat.zero_le _⟩ rfl (fun H locs x2 z1 h hG => ?_)
  refine rIfne C (tgt := 41) h dM_run_6 (by decide) (fun h => ?_) (fun h => ?_)
  · exact wM_run_41 C hI h hG (lv_sub hl [0, 1, 2] rfl)
  · refine rIload_n C dM_run_9 hl 2 rfl ?_
    refine lv_bipush (v := 10) C.1 C.2.1 dM_run_10 (by decide) ?_
    refine lv_bipush (v := 9) C.1 C.2.1 dM_run_12 (by decide) ?_
    refine rAload_n C dM_run_14 hl 0 rfl ?_
    refine rGet C hG (hI 78 (by decide) (by decide)) e_78 fiM_0 (v := .int (z1 78 0)) rfl k_806 dM_run_15 ?_
    refine lv_iadd C.1 C.2.1 dM_run_18 ?_
    refine rCSi [.int v2, .int 10, .int (9 + (z1 78 0))] [] C hG h (fun h => cM_in hI h) mvM_in k_767 ⟨Nat.le_of_ble_eq_true rfl, Nat.le_of_ble_eq_true rfl⟩ ⟨rfl, rfl⟩ rfl hl.1 (Nat.le_of_ble_eq_true rfl) dM_run_19 ⟨Nat.zero_le _, Nat.zero_le _⟩ rfl (fun H locs x4 z3 h hG => ?_)
    refine rIfne C (tgt := 41) h dM_run_22 (by decide) (fun h => ?_) (fun h => ?_)
    · exact wM_run_41 C hI h hG (lv_sub hl [0, 1, 2] rfl)
    · refine rIload_n C dM_run_25 hl 2 rfl ?_
      refine lv_bipush (v := 20) C.1 C.2.1 dM_run_26 (by decide) ?_
      refine lv_bipush (v := 19) C.1 C.2.1 dM_run_28 (by decide) ?_
      refine rAload_n C dM_run_30 hl 0 rfl ?_
      refine rGet C hG (hI 78 (by decide) (by decide)) e_78 fiM_0 (v := .int (z3 78 0)) rfl k_806 dM_run_31 ?_
      refine lv_iadd C.1 C.2.1 dM_run_34 ?_
      refine rCSi [.int v2, .int 20, .int (19 + (z3 78 0))] [] C hG h (fun h => cM_in hI h) mvM_in k_767 ⟨Nat.le_of_ble_eq_true rfl, Nat.le_of_ble_eq_true rfl⟩ ⟨rfl, rfl⟩ rfl hl.1 (Nat.le_of_ble_eq_true rfl) dM_run_35 ⟨Nat.zero_le _, Nat.zero_le _⟩ rfl (fun H locs x6 z5 h hG => ?_)
      refine rIfeq C (tgt := 45) h dM_run_38 (by decide) (fun h => ?_) (fun h => ?_)
      · refine lv_iconst (v := 0) C.1 C.2.1 dM_run_45 (by decide) ?_
        exact wM_run_46 C hI h hG (lv_sub hl [0, 1, 2] rfl)
      · exact wM_run_41 C hI h hG (lv_sub hl [0, 1, 2] rfl)
theorem dM_isNow_0 : decode bM_isNow 0 = .ok (.iload_n 1, 1) := by decide +kernel
theorem dM_isNow_1 : decode bM_isNow 1 = .ok (.iconst 2, 1) := by decide +kernel
theorem dM_isNow_2 : decode bM_isNow 2 = .ok (.if_icmp .ge 42, 3) := by decide +kernel
theorem dM_isNow_5 : decode bM_isNow 5 = .ok (.iload_n 1, 1) := by decide +kernel
theorem dM_isNow_6 : decode bM_isNow 6 = .ok (.ifCond .ne 25, 3) := by decide +kernel
theorem dM_isNow_9 : decode bM_isNow 9 = .ok (.aload_n 0, 1) := by decide +kernel
theorem dM_isNow_10 : decode bM_isNow 10 = .ok (.invokevirtual 107, 3) := by decide +kernel
theorem dM_isNow_13 : decode bM_isNow 13 = .ok (.invokestatic 110, 3) := by decide +kernel
theorem dM_isNow_16 : decode bM_isNow 16 = .ok (.aload_n 0, 1) := by decide +kernel
theorem dM_isNow_17 : decode bM_isNow 17 = .ok (.getfield 78, 3) := by decide +kernel
theorem dM_isNow_20 : decode bM_isNow 20 = .ok (.if_icmp .ne 7, 3) := by decide +kernel
theorem dM_isNow_23 : decode bM_isNow 23 = .ok (.iconst 1, 1) := by decide +kernel
theorem dM_isNow_24 : decode bM_isNow 24 = .ok (.goto 19, 3) := by decide +kernel
theorem dM_isNow_27 : decode bM_isNow 27 = .ok (.iconst 0, 1) := by decide +kernel
theorem dM_isNow_28 : decode bM_isNow 28 = .ok (.goto 15, 3) := by decide +kernel
theorem dM_isNow_31 : decode bM_isNow 31 = .ok (.aload_n 0, 1) := by decide +kernel
theorem dM_isNow_32 : decode bM_isNow 32 = .ok (.invokevirtual 207, 3) := by decide +kernel
theorem dM_isNow_35 : decode bM_isNow 35 = .ok (.ifCond .eq 7, 3) := by decide +kernel
theorem dM_isNow_38 : decode bM_isNow 38 = .ok (.iconst 1, 1) := by decide +kernel
theorem dM_isNow_39 : decode bM_isNow 39 = .ok (.goto 4, 3) := by decide +kernel
theorem dM_isNow_42 : decode bM_isNow 42 = .ok (.iconst 0, 1) := by decide +kernel
theorem dM_isNow_43 : decode bM_isNow 43 = .ok (.ireturn, 1) := by decide +kernel
theorem dM_isNow_44 : decode bM_isNow 44 = .ok (.iconst 0, 1) := by decide +kernel
theorem dM_isNow_45 : decode bM_isNow 45 = .ok (.istore_n 2, 1) := by decide +kernel
theorem dM_isNow_46 : decode bM_isNow 46 = .ok (.iload_n 2, 1) := by decide +kernel
theorem dM_isNow_47 : decode bM_isNow 47 = .ok (.aload_n 0, 1) := by decide +kernel
theorem dM_isNow_48 : decode bM_isNow 48 = .ok (.getfield 78, 3) := by decide +kernel
theorem dM_isNow_51 : decode bM_isNow 51 = .ok (.if_icmp .ge 26, 3) := by decide +kernel
theorem dM_isNow_54 : decode bM_isNow 54 = .ok (.aload_n 0, 1) := by decide +kernel
theorem dM_isNow_55 : decode bM_isNow 55 = .ok (.getfield 16, 3) := by decide +kernel
theorem dM_isNow_58 : decode bM_isNow 58 = .ok (.iconst 3, 1) := by decide +kernel
theorem dM_isNow_59 : decode bM_isNow 59 = .ok (.iload_n 2, 1) := by decide +kernel
theorem dM_isNow_60 : decode bM_isNow 60 = .ok (.imul, 1) := by decide +kernel
theorem dM_isNow_61 : decode bM_isNow 61 = .ok (.iconst 2, 1) := by decide +kernel
theorem dM_isNow_62 : decode bM_isNow 62 = .ok (.iadd, 1) := by decide +kernel
theorem dM_isNow_63 : decode bM_isNow 63 = .ok (.iaload, 1) := by decide +kernel
theorem dM_isNow_64 : decode bM_isNow 64 = .ok (.bipush 99, 2) := by decide +kernel
theorem dM_isNow_66 : decode bM_isNow 66 = .ok (.if_icmp .ne 5, 3) := by decide +kernel
theorem dM_isNow_69 : decode bM_isNow 69 = .ok (.iconst 1, 1) := by decide +kernel
theorem dM_isNow_70 : decode bM_isNow 70 = .ok (.ireturn, 1) := by decide +kernel
theorem dM_isNow_71 : decode bM_isNow 71 = .ok (.iinc 2 1, 3) := by decide +kernel
theorem dM_isNow_74 : decode bM_isNow 74 = .ok (.goto (-28), 3) := by decide +kernel
theorem dM_isNow_77 : decode bM_isNow 77 = .ok (.iconst 0, 1) := by decide +kernel
theorem dM_isNow_78 : decode bM_isNow 78 = .ok (.ireturn, 1) := by decide +kernel
theorem wM_isNow_46 {p : Program} {l : Launch} {e : Env} {s : State} {m : MethodId} {args : Array Value} {below : List Frame} {meth : Method} {c : Code} {G : GT} {I : List Nat} (C : CX p s m args meth c NM bM_isNow 3 (some .boolean) G I) (hI : mI I) {fu : Nat} {R1 : Int32} {Z : Sg} : ∀ (k : Nat) {v2 : Int32} {z : Sg} {H : Heap} {locs : List Loc} {ls : Array Slot}, pM_isNow_46 fu k v2 z = some (R1, Z) → GW G I z s.heap H locs → lv_has ls 3 [(0, .ref (gA G 78)), (2, .int v2)] → W p l e rmM_isNow s m args below meth c H locs 0 0 (MQ below (Qi G I R1 Z) args s 0 0 (AD G I)) (F0 m 46 ls []) := by
  intro k
  induction k with
  | zero => intro v2 z H locs ls h hG hl; rw [pM_isNow_46] at h; cases h
  | succ k ih =>
    intro v2 z H locs ls h hG hl
    rw [pM_isNow_46] at h
    refine rIload_n C dM_isNow_46 hl 1 rfl ?_
    refine rAload_n C dM_isNow_47 hl 0 rfl ?_
    refine rGet C hG (hI 78 (by decide) (by decide)) e_78 fiM_0 (v := .int (z 78 0)) rfl k_806 dM_isNow_48 ?_
    refine rIcmpge C (tgt := 77) h dM_isNow_51 (by decide) (fun h => ?_) (fun h => ?_)
    · refine lv_iconst (v := 0) C.1 C.2.1 dM_isNow_77 (by decide) ?_
      exact rRetn C hG (ty := .boolean) rfl rfl h dM_isNow_78
    · refine rAload_n C dM_isNow_54 hl 0 rfl ?_
      refine rGet C hG (hI 78 (by decide) (by decide)) e_78 fiM_3 (v := .ref (gA G 81)) rfl k_809 dM_isNow_55 ?_
      refine lv_iconst (v := 3) C.1 C.2.1 dM_isNow_58 (by decide) ?_
      refine rIload_n C dM_isNow_59 hl 1 rfl ?_
      refine lv_imul C.1 C.2.1 dM_isNow_60 ?_
      refine lv_iconst (v := 2) C.1 C.2.1 dM_isNow_61 (by decide) ?_
      refine lv_iadd C.1 C.2.1 dM_isNow_62 ?_
      refine rIald C hG (hI 81 (by decide) (by decide)) e_81 h dM_isNow_63 (fun h => ?_)
      refine lv_bipush (v := 99) C.1 C.2.1 dM_isNow_64 (by decide) ?_
      refine rIcmpne C (tgt := 71) h dM_isNow_66 (by decide) (fun h => ?_) (fun h => ?_)
      · refine rIinc C dM_isNow_71 hl 1 rfl (d := 1) (by decide) h (by decide) [(0, .ref (gA G 78))] rfl (fun x7 ls h hl => ?_)
        refine lv_goto (tgt := 46) C.1 C.2.1 dM_isNow_74 (by decide) ?_
        exact ih h hG (lv_sub hl [1, 0] rfl)
      · refine lv_iconst (v := 1) C.1 C.2.1 dM_isNow_69 (by decide) ?_
        exact rRetn C hG (ty := .boolean) rfl rfl h dM_isNow_70
theorem cM_isNow {l : Launch} {G : GT} {I : List Nat} (hI : mI I) {fu : Nat} {v1 : Int32} {z : Sg} {R1 : Int32} {Z : Sg} (h : pM_isNow fu v1 z = some (R1, Z)) : Mt l yM_isNow rmM_isNow bM_isNow 3 (some .boolean) G I z [.ref (gA G 78), .int v1] (Qi G I R1 Z) := by
  refine entM (by decide +kernel) (Nat.le_of_ble_eq_true rfl) ?_
  intro p e s m below meth c C hG ls hl
  have hl : lv_has ls 3 [(0, .ref (gA G 78)), (1, .int v1)] := hl
  unfold pM_isNow at h
  refine rIload_n C dM_isNow_0 hl 1 rfl ?_
  refine lv_iconst (v := 2) C.1 C.2.1 dM_isNow_1 (by decide) ?_
  refine rIcmpge C (tgt := 44) h dM_isNow_2 (by decide) (fun h => ?_) (fun h => ?_)
  · refine lv_iconst (v := 0) C.1 C.2.1 dM_isNow_44 (by decide) ?_
    refine rIstoreA_n C dM_isNow_45 hl (by decide) [(0, .ref (gA G 78)), (1, .int v1)] rfl (fun ls hl => ?_)
    exact wM_isNow_46 C hI _ h hG (lv_sub hl [1, 0] rfl)
  · refine rIload_n C dM_isNow_5 hl 1 rfl ?_
    refine rIfne C (tgt := 31) h dM_isNow_6 (by decide) (fun h => ?_) (fun h => ?_)
    · refine rAload_n C dM_isNow_31 hl 0 rfl ?_
      refine rCVi [] [] C hG h (fun h => cM_clashing hI h) mvM_clashing k_1037 ⟨Nat.le_of_ble_eq_true rfl, Nat.le_of_ble_eq_true rfl⟩ ⟨rfl, rfl⟩ (rRecv C hG (hI 78 (by decide) (by decide)) e_78 rfl) rfl hl.1 (Nat.le_of_ble_eq_true rfl) dM_isNow_32 ⟨Nat.zero_le _, Nat.zero_le _⟩ rfl (fun H locs x2 z1 h hG => ?_)
      refine rIfeq C (tgt := 42) h dM_isNow_35 (by decide) (fun h => ?_) (fun h => ?_)
      · refine lv_iconst (v := 0) C.1 C.2.1 dM_isNow_42 (by decide) ?_
        exact rRetn C hG (ty := .boolean) rfl rfl h dM_isNow_43
      · refine lv_iconst (v := 1) C.1 C.2.1 dM_isNow_38 (by decide) ?_
        refine lv_goto (tgt := 43) C.1 C.2.1 dM_isNow_39 (by decide) ?_
        exact rRetn C hG (ty := .boolean) rfl rfl h dM_isNow_43
    · refine rAload_n C dM_isNow_9 hl 0 rfl ?_
      refine rCVi [] [] C hG h (fun h => cM_inStep hI h) mvM_inStep k_913 ⟨Nat.le_of_ble_eq_true rfl, Nat.le_of_ble_eq_true rfl⟩ ⟨rfl, rfl⟩ (rRecv C hG (hI 78 (by decide) (by decide)) e_78 rfl) rfl hl.1 (Nat.le_of_ble_eq_true rfl) dM_isNow_10 ⟨Nat.zero_le _, Nat.zero_le _⟩ rfl (fun H locs x4 z3 h hG => ?_)
      refine rCSi [.int x4] [] C hG h (fun h => cM_ones hI h) mvM_ones k_917 ⟨Nat.le_of_ble_eq_true rfl, Nat.le_of_ble_eq_true rfl⟩ ⟨rfl, rfl⟩ rfl hl.1 (Nat.le_of_ble_eq_true rfl) dM_isNow_13 ⟨Nat.zero_le _, Nat.zero_le _⟩ rfl (fun H locs x6 z5 h hG => ?_)
      refine rAload_n C dM_isNow_16 hl 0 rfl ?_
      refine rGet C hG (hI 78 (by decide) (by decide)) e_78 fiM_0 (v := .int (z5 78 0)) rfl k_806 dM_isNow_17 ?_
      refine rIcmpne C (tgt := 27) h dM_isNow_20 (by decide) (fun h => ?_) (fun h => ?_)
      · refine lv_iconst (v := 0) C.1 C.2.1 dM_isNow_27 (by decide) ?_
        refine lv_goto (tgt := 43) C.1 C.2.1 dM_isNow_28 (by decide) ?_
        exact rRetn C hG (ty := .boolean) rfl rfl h dM_isNow_43
      · refine lv_iconst (v := 1) C.1 C.2.1 dM_isNow_23 (by decide) ?_
        refine lv_goto (tgt := 43) C.1 C.2.1 dM_isNow_24 (by decide) ?_
        exact rRetn C hG (ty := .boolean) rfl rfl h dM_isNow_43
theorem dM_when_0 : decode bM_when 0 = .ok (.iload_n 1, 1) := by decide +kernel
theorem dM_when_1 : decode bM_when 1 = .ok (.iconst 0, 1) := by decide +kernel
theorem dM_when_2 : decode bM_when 2 = .ok (.iconst 2, 1) := by decide +kernel
theorem dM_when_3 : decode bM_when 3 = .ok (.invokestatic 81, 3) := by decide +kernel
theorem dM_when_6 : decode bM_when 6 = .ok (.ifCond .ne 6, 3) := by decide +kernel
theorem dM_when_9 : decode bM_when 9 = .ok (.bipush (-2), 2) := by decide +kernel
theorem dM_when_11 : decode bM_when 11 = .ok (.ireturn, 1) := by decide +kernel
theorem dM_when_12 : decode bM_when 12 = .ok (.iconst (-1), 1) := by decide +kernel
theorem dM_when_13 : decode bM_when 13 = .ok (.istore_n 2, 1) := by decide +kernel
theorem dM_when_14 : decode bM_when 14 = .ok (.aload_n 0, 1) := by decide +kernel
theorem dM_when_15 : decode bM_when 15 = .ok (.invokevirtual 210, 3) := by decide +kernel
theorem dM_when_18 : decode bM_when 18 = .ok (.iconst 0, 1) := by decide +kernel
theorem dM_when_19 : decode bM_when 19 = .ok (.istore_n 3, 1) := by decide +kernel
theorem dM_when_20 : decode bM_when 20 = .ok (.iload_n 3, 1) := by decide +kernel
theorem dM_when_21 : decode bM_when 21 = .ok (.bipush 60, 2) := by decide +kernel
theorem dM_when_23 : decode bM_when 23 = .ok (.if_icmp .gt 33, 3) := by decide +kernel
theorem dM_when_26 : decode bM_when 26 = .ok (.iload_n 2, 1) := by decide +kernel
theorem dM_when_27 : decode bM_when 27 = .ok (.iconst (-1), 1) := by decide +kernel
theorem dM_when_28 : decode bM_when 28 = .ok (.if_icmp .ne 28, 3) := by decide +kernel
theorem dM_when_31 : decode bM_when 31 = .ok (.aload_n 0, 1) := by decide +kernel
theorem dM_when_32 : decode bM_when 32 = .ok (.iload_n 1, 1) := by decide +kernel
theorem dM_when_33 : decode bM_when 33 = .ok (.invokevirtual 222, 3) := by decide +kernel
theorem dM_when_36 : decode bM_when 36 = .ok (.ifCond .eq 7, 3) := by decide +kernel
theorem dM_when_39 : decode bM_when 39 = .ok (.iload_n 3, 1) := by decide +kernel
theorem dM_when_40 : decode bM_when 40 = .ok (.goto 4, 3) := by decide +kernel
theorem dM_when_43 : decode bM_when 43 = .ok (.iconst (-1), 1) := by decide +kernel
theorem dM_when_44 : decode bM_when 44 = .ok (.istore_n 2, 1) := by decide +kernel
theorem dM_when_45 : decode bM_when 45 = .ok (.aload_n 0, 1) := by decide +kernel
theorem dM_when_46 : decode bM_when 46 = .ok (.invokevirtual 204, 3) := by decide +kernel
theorem dM_when_49 : decode bM_when 49 = .ok (.pop, 1) := by decide +kernel
theorem dM_when_50 : decode bM_when 50 = .ok (.iinc 3 1, 3) := by decide +kernel
theorem dM_when_53 : decode bM_when 53 = .ok (.goto (-33), 3) := by decide +kernel
theorem dM_when_56 : decode bM_when 56 = .ok (.aload_n 0, 1) := by decide +kernel
theorem dM_when_57 : decode bM_when 57 = .ok (.invokevirtual 219, 3) := by decide +kernel
theorem dM_when_60 : decode bM_when 60 = .ok (.iload_n 2, 1) := by decide +kernel
theorem dM_when_61 : decode bM_when 61 = .ok (.ireturn, 1) := by decide +kernel
theorem wM_when_44 {p : Program} {l : Launch} {e : Env} {s : State} {m : MethodId} {args : Array Value} {below : List Frame} {meth : Method} {c : Code} {G : GT} {I : List Nat} (C : CX p s m args meth c NM bM_when 4 (some .int) G I) (hI : mI I) {fu : Nat} {R1 : Int32} {Z : Sg} {rc20 : Int32 → Int32 → Int32 → Sg → Option (Int32 × Sg)} (hr20 : ∀ {v1 : Int32} {v2 : Int32} {v3 : Int32} {z : Sg} {H : Heap} {locs : List Loc} {ls : Array Slot}, rc20 v1 v2 v3 z = some (R1, Z) → GW G I z s.heap H locs → lv_has ls 4 [(0, .ref (gA G 78)), (1, .int v1), (2, .int v2), (3, .int v3)] → W p l e rmM_when s m args below meth c H locs 0 0 (MQ below (Qi G I R1 Z) args s 0 0 (AD G I)) (F0 m 20 ls [])) {v1 : Int32} {v3 : Int32} {t0 : Int32} {z : Sg} {H : Heap} {locs : List Loc} {ls : Array Slot} (h : pM_when_44 fu rc20 v1 v3 t0 z = some (R1, Z)) (hG : GW G I z s.heap H locs) (hl : lv_has ls 4 [(0, .ref (gA G 78)), (1, .int v1), (3, .int v3)]) : W p l e rmM_when s m args below meth c H locs 0 0 (MQ below (Qi G I R1 Z) args s 0 0 (AD G I)) (F0 m 44 ls [.int t0]) := by
  unfold pM_when_44 at h
  refine rIstoreA_n C dM_when_44 hl (by decide) [(0, .ref (gA G 78)), (1, .int v1), (3, .int v3)] rfl (fun ls hl => ?_)
  refine rAload_n C dM_when_45 hl 1 rfl ?_
  refine rCVi [] [] C hG h (fun h => cM_strokeOf hI h) mvM_strokeOf k_1017 ⟨Nat.le_of_ble_eq_true rfl, Nat.le_of_ble_eq_true rfl⟩ ⟨rfl, rfl⟩ (rRecv C hG (hI 78 (by decide) (by decide)) e_78 rfl) rfl hl.1 (Nat.le_of_ble_eq_true rfl) dM_when_46 ⟨Nat.zero_le _, Nat.zero_le _⟩ rfl (fun H locs x8 z7 h hG => ?_)
  refine lv_pop C.1 C.2.1 dM_when_49 rfl ?_
  refine rIinc C dM_when_50 hl 3 rfl (d := 1) (by decide) h (by decide) [(2, .int t0), (0, .ref (gA G 78)), (1, .int v1)] rfl (fun x9 ls h hl => ?_)
  refine lv_goto (tgt := 20) C.1 C.2.1 dM_when_53 (by decide) ?_
  exact hr20 h hG (lv_sub hl [2, 3, 1, 0] rfl)
theorem wM_when_56 {p : Program} {l : Launch} {e : Env} {s : State} {m : MethodId} {args : Array Value} {below : List Frame} {meth : Method} {c : Code} {G : GT} {I : List Nat} (C : CX p s m args meth c NM bM_when 4 (some .int) G I) (hI : mI I) {fu : Nat} {R1 : Int32} {Z : Sg} {v2 : Int32} {z : Sg} {H : Heap} {locs : List Loc} {ls : Array Slot} (h : pM_when_56 fu v2 z = some (R1, Z)) (hG : GW G I z s.heap H locs) (hl : lv_has ls 4 [(0, .ref (gA G 78)), (2, .int v2)]) : W p l e rmM_when s m args below meth c H locs 0 0 (MQ below (Qi G I R1 Z) args s 0 0 (AD G I)) (F0 m 56 ls []) := by
  unfold pM_when_56 at h
  refine rAload_n C dM_when_56 hl 0 rfl ?_
  refine rCVv [] [] C hG h (fun h => cM_lays hI h) mvM_lays k_1041 ⟨Nat.le_of_ble_eq_true rfl, Nat.le_of_ble_eq_true rfl⟩ ⟨rfl, rfl⟩ (rRecv C hG (hI 78 (by decide) (by decide)) e_78 rfl) rfl hl.1 (Nat.le_of_ble_eq_true rfl) dM_when_57 ⟨Nat.zero_le _, Nat.zero_le _⟩ rfl (fun H locs z6 h hG => ?_)
  refine rIload_n C dM_when_60 hl 1 rfl ?_
  exact rReti C hG h dM_when_61
theorem wM_when_20 {p : Program} {l : Launch} {e : Env} {s : State} {m : MethodId} {args : Array Value} {below : List Frame} {meth : Method} {c : Code} {G : GT} {I : List Nat} (C : CX p s m args meth c NM bM_when 4 (some .int) G I) (hI : mI I) {fu : Nat} {R1 : Int32} {Z : Sg} : ∀ (k : Nat) {v1 : Int32} {v2 : Int32} {v3 : Int32} {z : Sg} {H : Heap} {locs : List Loc} {ls : Array Slot}, pM_when_20 fu k v1 v2 v3 z = some (R1, Z) → GW G I z s.heap H locs → lv_has ls 4 [(0, .ref (gA G 78)), (1, .int v1), (2, .int v2), (3, .int v3)] → W p l e rmM_when s m args below meth c H locs 0 0 (MQ below (Qi G I R1 Z) args s 0 0 (AD G I)) (F0 m 20 ls []) := by
  intro k
  induction k with
  | zero => intro v1 v2 v3 z H locs ls h hG hl; rw [pM_when_20] at h; cases h
  | succ k ih =>
    intro v1 v2 v3 z H locs ls h hG hl
    rw [pM_when_20] at h
    refine rIload_n C dM_when_20 hl 3 rfl ?_
    refine lv_bipush (v := 60) C.1 C.2.1 dM_when_21 (by decide) ?_
    refine rIcmpgt C (tgt := 56) h dM_when_23 (by decide) (fun h => ?_) (fun h => ?_)
    · exact wM_when_56 C hI h hG (lv_sub hl [0, 2] rfl)
    · refine rIload_n C dM_when_26 hl 2 rfl ?_
      refine lv_iconst (v := (-1)) C.1 C.2.1 dM_when_27 (by decide) ?_
      refine rIcmpne C (tgt := 56) h dM_when_28 (by decide) (fun h => ?_) (fun h => ?_)
      · exact wM_when_56 C hI h hG (lv_sub hl [0, 2] rfl)
      · refine rAload_n C dM_when_31 hl 0 rfl ?_
        refine rIload_n C dM_when_32 hl 1 rfl ?_
        refine rCVi [.int v1] [] C hG h (fun h => cM_isNow hI h) mvM_isNow k_1049 ⟨Nat.le_of_ble_eq_true rfl, Nat.le_of_ble_eq_true rfl⟩ ⟨rfl, rfl⟩ (rRecv C hG (hI 78 (by decide) (by decide)) e_78 rfl) rfl hl.1 (Nat.le_of_ble_eq_true rfl) dM_when_33 ⟨Nat.zero_le _, Nat.zero_le _⟩ rfl (fun H locs x5 z4 h hG => ?_)
        refine rIfeq C (tgt := 43) h dM_when_36 (by decide) (fun h => ?_) (fun h => ?_)
        · refine lv_iconst (v := (-1)) C.1 C.2.1 dM_when_43 (by decide) ?_
          exact wM_when_44 C hI ih h hG (lv_sub hl [0, 1, 3] rfl)
        · refine rIload_n C dM_when_39 hl 3 rfl ?_
          refine lv_goto (tgt := 44) C.1 C.2.1 dM_when_40 (by decide) ?_
          exact wM_when_44 C hI ih h hG (lv_sub hl [0, 1, 3] rfl)
theorem cM_when {l : Launch} {G : GT} {I : List Nat} (hI : mI I) {fu : Nat} {v1 : Int32} {z : Sg} {R1 : Int32} {Z : Sg} (h : pM_when fu v1 z = some (R1, Z)) : Mt l yM_when rmM_when bM_when 4 (some .int) G I z [.ref (gA G 78), .int v1] (Qi G I R1 Z) := by
  refine entM (by decide +kernel) (Nat.le_of_ble_eq_true rfl) ?_
  intro p e s m below meth c C hG ls hl
  have hl : lv_has ls 4 [(0, .ref (gA G 78)), (1, .int v1)] := hl
  unfold pM_when at h
  refine rIload_n C dM_when_0 hl 1 rfl ?_
  refine lv_iconst (v := 0) C.1 C.2.1 dM_when_1 (by decide) ?_
  refine lv_iconst (v := 2) C.1 C.2.1 dM_when_2 (by decide) ?_
  refine rCSi [.int v1, .int 0, .int 2] [] C hG h (fun h => cM_in hI h) mvM_in k_767 ⟨Nat.le_of_ble_eq_true rfl, Nat.le_of_ble_eq_true rfl⟩ ⟨rfl, rfl⟩ rfl hl.1 (Nat.le_of_ble_eq_true rfl) dM_when_3 ⟨Nat.zero_le _, Nat.zero_le _⟩ rfl (fun H locs x2 z1 h hG => ?_)
  refine rIfne C (tgt := 12) h dM_when_6 (by decide) (fun h => ?_) (fun h => ?_)
  · refine lv_iconst (v := (-1)) C.1 C.2.1 dM_when_12 (by decide) ?_
    refine rIstoreA_n C dM_when_13 hl (by decide) [(0, .ref (gA G 78)), (1, .int v1)] rfl (fun ls hl => ?_)
    refine rAload_n C dM_when_14 hl 1 rfl ?_
    refine rCVv [] [] C hG h (fun h => cM_keeps hI h) mvM_keeps k_1025 ⟨Nat.le_of_ble_eq_true rfl, Nat.le_of_ble_eq_true rfl⟩ ⟨rfl, rfl⟩ (rRecv C hG (hI 78 (by decide) (by decide)) e_78 rfl) rfl hl.1 (Nat.le_of_ble_eq_true rfl) dM_when_15 ⟨Nat.zero_le _, Nat.zero_le _⟩ rfl (fun H locs z3 h hG => ?_)
    refine lv_iconst (v := 0) C.1 C.2.1 dM_when_18 (by decide) ?_
    refine rIstoreA_n C dM_when_19 hl (by decide) [(2, .int (-1)), (0, .ref (gA G 78)), (1, .int v1)] rfl (fun ls hl => ?_)
    exact wM_when_20 C hI _ h hG (lv_sub hl [2, 3, 1, 0] rfl)
  · refine lv_bipush (v := (-2)) C.1 C.2.1 dM_when_9 (by decide) ?_
    exact rReti C hG h dM_when_11
theorem dM_often_0 : decode bM_often 0 = .ok (.aload_n 0, 1) := by decide +kernel
theorem dM_often_1 : decode bM_often 1 = .ok (.iload_n 1, 1) := by decide +kernel
theorem dM_often_2 : decode bM_often 2 = .ok (.invokevirtual 186, 3) := by decide +kernel
theorem dM_often_5 : decode bM_often 5 = .ok (.ifCond .ne 6, 3) := by decide +kernel
theorem dM_often_8 : decode bM_often 8 = .ok (.bipush (-5), 2) := by decide +kernel
theorem dM_often_10 : decode bM_often 10 = .ok (.ireturn, 1) := by decide +kernel
theorem dM_often_11 : decode bM_often 11 = .ok (.iload_n 2, 1) := by decide +kernel
theorem dM_often_12 : decode bM_often 12 = .ok (.iconst 0, 1) := by decide +kernel
theorem dM_often_13 : decode bM_often 13 = .ok (.bipush 60, 2) := by decide +kernel
theorem dM_often_15 : decode bM_often 15 = .ok (.invokestatic 81, 3) := by decide +kernel
theorem dM_often_18 : decode bM_often 18 = .ok (.ifCond .eq 12, 3) := by decide +kernel
theorem dM_often_21 : decode bM_often 21 = .ok (.iload_n 3, 1) := by decide +kernel
theorem dM_often_22 : decode bM_often 22 = .ok (.iconst 0, 1) := by decide +kernel
theorem dM_often_23 : decode bM_often 23 = .ok (.iconst 1, 1) := by decide +kernel
theorem dM_often_24 : decode bM_often 24 = .ok (.invokestatic 81, 3) := by decide +kernel
theorem dM_often_27 : decode bM_often 27 = .ok (.ifCond .ne 6, 3) := by decide +kernel
theorem dM_often_30 : decode bM_often 30 = .ok (.bipush (-7), 2) := by decide +kernel
theorem dM_often_32 : decode bM_often 32 = .ok (.ireturn, 1) := by decide +kernel
theorem dM_often_33 : decode bM_often 33 = .ok (.iconst 0, 1) := by decide +kernel
theorem dM_often_34 : decode bM_often 34 = .ok (.istore 4, 2) := by decide +kernel
theorem dM_often_36 : decode bM_often 36 = .ok (.aload_n 0, 1) := by decide +kernel
theorem dM_often_37 : decode bM_often 37 = .ok (.invokevirtual 210, 3) := by decide +kernel
theorem dM_often_40 : decode bM_often 40 = .ok (.iconst 0, 1) := by decide +kernel
theorem dM_often_41 : decode bM_often 41 = .ok (.istore 5, 2) := by decide +kernel
theorem dM_often_43 : decode bM_often 43 = .ok (.iload 5, 2) := by decide +kernel
theorem dM_often_45 : decode bM_often 45 = .ok (.iload_n 2, 1) := by decide +kernel
theorem dM_often_46 : decode bM_often 46 = .ok (.if_icmp .ge 67, 3) := by decide +kernel
theorem dM_often_49 : decode bM_often 49 = .ok (.aload_n 0, 1) := by decide +kernel
theorem dM_often_50 : decode bM_often 50 = .ok (.invokevirtual 204, 3) := by decide +kernel
theorem dM_often_53 : decode bM_often 53 = .ok (.pop, 1) := by decide +kernel
theorem dM_often_54 : decode bM_often 54 = .ok (.iload_n 3, 1) := by decide +kernel
theorem dM_often_55 : decode bM_often 55 = .ok (.ifCond .ne 30, 3) := by decide +kernel
theorem dM_often_58 : decode bM_often 58 = .ok (.aload_n 0, 1) := by decide +kernel
theorem dM_often_59 : decode bM_often 59 = .ok (.getfield 16, 3) := by decide +kernel
theorem dM_often_62 : decode bM_often 62 = .ok (.iconst 3, 1) := by decide +kernel
theorem dM_often_63 : decode bM_often 63 = .ok (.iload_n 1, 1) := by decide +kernel
theorem dM_often_64 : decode bM_often 64 = .ok (.imul, 1) := by decide +kernel
theorem dM_often_65 : decode bM_often 65 = .ok (.iconst 1, 1) := by decide +kernel
theorem dM_often_66 : decode bM_often 66 = .ok (.iadd, 1) := by decide +kernel
theorem dM_often_67 : decode bM_often 67 = .ok (.iaload, 1) := by decide +kernel
theorem dM_often_68 : decode bM_often 68 = .ok (.aload_n 0, 1) := by decide +kernel
theorem dM_often_69 : decode bM_often 69 = .ok (.getfield 19, 3) := by decide +kernel
theorem dM_often_72 : decode bM_often 72 = .ok (.iconst 1, 1) := by decide +kernel
theorem dM_often_73 : decode bM_often 73 = .ok (.iaload, 1) := by decide +kernel
theorem dM_often_74 : decode bM_often 74 = .ok (.if_icmp .ne 7, 3) := by decide +kernel
theorem dM_often_77 : decode bM_often 77 = .ok (.iconst 1, 1) := by decide +kernel
theorem dM_often_78 : decode bM_often 78 = .ok (.goto 12, 3) := by decide +kernel
theorem dM_often_81 : decode bM_often 81 = .ok (.iconst 0, 1) := by decide +kernel
theorem dM_often_82 : decode bM_often 82 = .ok (.goto 8, 3) := by decide +kernel
theorem dM_often_85 : decode bM_often 85 = .ok (.aload_n 0, 1) := by decide +kernel
theorem dM_often_86 : decode bM_often 86 = .ok (.iload_n 1, 1) := by decide +kernel
theorem dM_often_87 : decode bM_often 87 = .ok (.invokevirtual 103, 3) := by decide +kernel
theorem dM_often_90 : decode bM_often 90 = .ok (.istore 6, 2) := by decide +kernel
theorem dM_often_92 : decode bM_often 92 = .ok (.iload 4, 2) := by decide +kernel
theorem dM_often_94 : decode bM_often 94 = .ok (.iload 6, 2) := by decide +kernel
theorem dM_often_96 : decode bM_often 96 = .ok (.ifCond .eq 7, 3) := by decide +kernel
theorem dM_often_99 : decode bM_often 99 = .ok (.iconst 1, 1) := by decide +kernel
theorem dM_often_100 : decode bM_often 100 = .ok (.goto 4, 3) := by decide +kernel
theorem dM_often_103 : decode bM_often 103 = .ok (.iconst 0, 1) := by decide +kernel
theorem dM_often_104 : decode bM_often 104 = .ok (.iadd, 1) := by decide +kernel
theorem dM_often_105 : decode bM_often 105 = .ok (.istore 4, 2) := by decide +kernel
theorem dM_often_107 : decode bM_often 107 = .ok (.iinc 5 1, 3) := by decide +kernel
theorem dM_often_110 : decode bM_often 110 = .ok (.goto (-67), 3) := by decide +kernel
theorem dM_often_113 : decode bM_often 113 = .ok (.aload_n 0, 1) := by decide +kernel
theorem dM_often_114 : decode bM_often 114 = .ok (.invokevirtual 219, 3) := by decide +kernel
theorem dM_often_117 : decode bM_often 117 = .ok (.iload 4, 2) := by decide +kernel
theorem dM_often_119 : decode bM_often 119 = .ok (.ireturn, 1) := by decide +kernel
theorem wM_often_104 {p : Program} {l : Launch} {e : Env} {s : State} {m : MethodId} {args : Array Value} {below : List Frame} {meth : Method} {c : Code} {G : GT} {I : List Nat} (C : CX p s m args meth c NM bM_often 7 (some .int) G I) (hI : mI I) {fu : Nat} {R1 : Int32} {Z : Sg} {rc43 : Int32 → Int32 → Int32 → Int32 → Int32 → Sg → Option (Int32 × Sg)} (hr43 : ∀ {v1 : Int32} {v2 : Int32} {v3 : Int32} {v4 : Int32} {v5 : Int32} {z : Sg} {H : Heap} {locs : List Loc} {ls : Array Slot}, rc43 v1 v2 v3 v4 v5 z = some (R1, Z) → GW G I z s.heap H locs → lv_has ls 7 [(0, .ref (gA G 78)), (1, .int v1), (2, .int v2), (3, .int v3), (4, .int v4), (5, .int v5)] → W p l e rmM_often s m args below meth c H locs 0 0 (MQ below (Qi G I R1 Z) args s 0 0 (AD G I)) (F0 m 43 ls [])) {v1 : Int32} {v2 : Int32} {v3 : Int32} {v5 : Int32} {t0 : Int32} {t1 : Int32} {z : Sg} {H : Heap} {locs : List Loc} {ls : Array Slot} (h : pM_often_104 fu rc43 v1 v2 v3 v5 t0 t1 z = some (R1, Z)) (hG : GW G I z s.heap H locs) (hl : lv_has ls 7 [(0, .ref (gA G 78)), (1, .int v1), (2, .int v2), (3, .int v3), (5, .int v5)]) : W p l e rmM_often s m args below meth c H locs 0 0 (MQ below (Qi G I R1 Z) args s 0 0 (AD G I)) (F0 m 104 ls [.int t1, .int t0]) := by
  unfold pM_often_104 at h
  refine lv_iadd C.1 C.2.1 dM_often_104 ?_
  refine rIstore C dM_often_105 hl h (by decide) [(0, .ref (gA G 78)), (1, .int v1), (2, .int v2), (3, .int v3), (5, .int v5)] rfl (fun x13 ls h hl => ?_)
  refine rIinc C dM_often_107 hl 5 rfl (d := 1) (by decide) h (by decide) [(4, .int x13), (0, .ref (gA G 78)), (1, .int v1), (2, .int v2), (3, .int v3)] rfl (fun x14 ls h hl => ?_)
  refine lv_goto (tgt := 43) C.1 C.2.1 dM_often_110 (by decide) ?_
  exact hr43 h hG (lv_sub hl [2, 3, 4, 5, 1, 0] rfl)
theorem wM_often_90 {p : Program} {l : Launch} {e : Env} {s : State} {m : MethodId} {args : Array Value} {below : List Frame} {meth : Method} {c : Code} {G : GT} {I : List Nat} (C : CX p s m args meth c NM bM_often 7 (some .int) G I) (hI : mI I) {fu : Nat} {R1 : Int32} {Z : Sg} {rc43 : Int32 → Int32 → Int32 → Int32 → Int32 → Sg → Option (Int32 × Sg)} (hr43 : ∀ {v1 : Int32} {v2 : Int32} {v3 : Int32} {v4 : Int32} {v5 : Int32} {z : Sg} {H : Heap} {locs : List Loc} {ls : Array Slot}, rc43 v1 v2 v3 v4 v5 z = some (R1, Z) → GW G I z s.heap H locs → lv_has ls 7 [(0, .ref (gA G 78)), (1, .int v1), (2, .int v2), (3, .int v3), (4, .int v4), (5, .int v5)] → W p l e rmM_often s m args below meth c H locs 0 0 (MQ below (Qi G I R1 Z) args s 0 0 (AD G I)) (F0 m 43 ls [])) {v1 : Int32} {v2 : Int32} {v3 : Int32} {v4 : Int32} {v5 : Int32} {t0 : Int32} {z : Sg} {H : Heap} {locs : List Loc} {ls : Array Slot} (h : pM_often_90 fu rc43 v1 v2 v3 v4 v5 t0 z = some (R1, Z)) (hG : GW G I z s.heap H locs) (hl : lv_has ls 7 [(0, .ref (gA G 78)), (1, .int v1), (2, .int v2), (3, .int v3), (4, .int v4), (5, .int v5)]) : W p l e rmM_often s m args below meth c H locs 0 0 (MQ below (Qi G I R1 Z) args s 0 0 (AD G I)) (F0 m 90 ls [.int t0]) := by
  unfold pM_often_90 at h
  refine rIstoreA C dM_often_90 hl (by decide) [(0, .ref (gA G 78)), (1, .int v1), (2, .int v2), (3, .int v3), (4, .int v4), (5, .int v5)] rfl (fun ls hl => ?_)
  refine rIload C dM_often_92 hl 5 rfl ?_
  refine rIload C dM_often_94 hl 0 rfl ?_
  refine rIfeq C (tgt := 103) h dM_often_96 (by decide) (fun h => ?_) (fun h => ?_)
  · refine lv_iconst (v := 0) C.1 C.2.1 dM_often_103 (by decide) ?_
    exact wM_often_104 C hI hr43 h hG (lv_sub hl [1, 2, 3, 4, 6] rfl)
  · refine lv_iconst (v := 1) C.1 C.2.1 dM_often_99 (by decide) ?_
    refine lv_goto (tgt := 104) C.1 C.2.1 dM_often_100 (by decide) ?_
    exact wM_often_104 C hI hr43 h hG (lv_sub hl [1, 2, 3, 4, 6] rfl)
theorem wM_often_43 {p : Program} {l : Launch} {e : Env} {s : State} {m : MethodId} {args : Array Value} {below : List Frame} {meth : Method} {c : Code} {G : GT} {I : List Nat} (C : CX p s m args meth c NM bM_often 7 (some .int) G I) (hI : mI I) {fu : Nat} {R1 : Int32} {Z : Sg} : ∀ (k : Nat) {v1 : Int32} {v2 : Int32} {v3 : Int32} {v4 : Int32} {v5 : Int32} {z : Sg} {H : Heap} {locs : List Loc} {ls : Array Slot}, pM_often_43 fu k v1 v2 v3 v4 v5 z = some (R1, Z) → GW G I z s.heap H locs → lv_has ls 7 [(0, .ref (gA G 78)), (1, .int v1), (2, .int v2), (3, .int v3), (4, .int v4), (5, .int v5)] → W p l e rmM_often s m args below meth c H locs 0 0 (MQ below (Qi G I R1 Z) args s 0 0 (AD G I)) (F0 m 43 ls []) := by
  intro k
  induction k with
  | zero => intro v1 v2 v3 v4 v5 z H locs ls h hG hl; rw [pM_often_43] at h; cases h
  | succ k ih =>
    intro v1 v2 v3 v4 v5 z H locs ls h hG hl
    rw [pM_often_43] at h
    refine rIload C dM_often_43 hl 5 rfl ?_
    refine rIload_n C dM_often_45 hl 2 rfl ?_
    refine rIcmpge C (tgt := 113) h dM_often_46 (by decide) (fun h => ?_) (fun h => ?_)
    · refine rAload_n C dM_often_113 hl 0 rfl ?_
      refine rCVv [] [] C hG h (fun h => cM_lays hI h) mvM_lays k_1041 ⟨Nat.le_of_ble_eq_true rfl, Nat.le_of_ble_eq_true rfl⟩ ⟨rfl, rfl⟩ (rRecv C hG (hI 78 (by decide) (by decide)) e_78 rfl) rfl hl.1 (Nat.le_of_ble_eq_true rfl) dM_often_114 ⟨Nat.zero_le _, Nat.zero_le _⟩ rfl (fun H locs z8 h hG => ?_)
      refine rIload C dM_often_117 hl 4 rfl ?_
      exact rReti C hG h dM_often_119
    · refine rAload_n C dM_often_49 hl 0 rfl ?_
      refine rCVi [] [] C hG h (fun h => cM_strokeOf hI h) mvM_strokeOf k_1017 ⟨Nat.le_of_ble_eq_true rfl, Nat.le_of_ble_eq_true rfl⟩ ⟨rfl, rfl⟩ (rRecv C hG (hI 78 (by decide) (by decide)) e_78 rfl) rfl hl.1 (Nat.le_of_ble_eq_true rfl) dM_often_50 ⟨Nat.zero_le _, Nat.zero_le _⟩ rfl (fun H locs x10 z9 h hG => ?_)
      refine lv_pop C.1 C.2.1 dM_often_53 rfl ?_
      refine rIload_n C dM_often_54 hl 3 rfl ?_
      refine rIfne C (tgt := 85) h dM_often_55 (by decide) (fun h => ?_) (fun h => ?_)
      · refine rAload_n C dM_often_85 hl 0 rfl ?_
        refine rIload_n C dM_often_86 hl 1 rfl ?_
        refine rCVi [.int v1] [] C hG h (fun h => cM_doesClash hI h) mvM_doesClash k_1006 ⟨Nat.le_of_ble_eq_true rfl, Nat.le_of_ble_eq_true rfl⟩ ⟨rfl, rfl⟩ (rRecv C hG (hI 78 (by decide) (by decide)) e_78 rfl) rfl hl.1 (Nat.le_of_ble_eq_true rfl) dM_often_87 ⟨Nat.zero_le _, Nat.zero_le _⟩ rfl (fun H locs x12 z11 h hG => ?_)
        exact wM_often_90 C hI ih h hG (lv_sub hl [0, 1, 2, 3, 4, 5] rfl)
      · refine rAload_n C dM_often_58 hl 0 rfl ?_
        refine rGet C hG (hI 78 (by decide) (by decide)) e_78 fiM_3 (v := .ref (gA G 81)) rfl k_809 dM_often_59 ?_
        refine lv_iconst (v := 3) C.1 C.2.1 dM_often_62 (by decide) ?_
        refine rIload_n C dM_often_63 hl 1 rfl ?_
        refine lv_imul C.1 C.2.1 dM_often_64 ?_
        refine lv_iconst (v := 1) C.1 C.2.1 dM_often_65 (by decide) ?_
        refine lv_iadd C.1 C.2.1 dM_often_66 ?_
        refine rIald C hG (hI 81 (by decide) (by decide)) e_81 h dM_often_67 (fun h => ?_)
        refine rAload_n C dM_often_68 hl 0 rfl ?_
        refine rGet C hG (hI 78 (by decide) (by decide)) e_78 fiM_4 (v := .ref (gA G 82)) rfl k_810 dM_often_69 ?_
        refine lv_iconst (v := 1) C.1 C.2.1 dM_often_72 (by decide) ?_
        refine rIaldK C hG (hI 82 (by decide) (by decide)) e_82 1 (by decide) (by decide) dM_often_73 ?_
        refine rIcmpne C (tgt := 81) h dM_often_74 (by decide) (fun h => ?_) (fun h => ?_)
        · refine lv_iconst (v := 0) C.1 C.2.1 dM_often_81 (by decide) ?_
          refine lv_goto (tgt := 90) C.1 C.2.1 dM_often_82 (by decide) ?_
          exact wM_often_90 C hI ih h hG (lv_sub hl [0, 1, 2, 3, 4, 5] rfl)
        · refine lv_iconst (v := 1) C.1 C.2.1 dM_often_77 (by decide) ?_
          refine lv_goto (tgt := 90) C.1 C.2.1 dM_often_78 (by decide) ?_
          exact wM_often_90 C hI ih h hG (lv_sub hl [0, 1, 2, 3, 4, 5] rfl)
theorem cM_often {l : Launch} {G : GT} {I : List Nat} (hI : mI I) {fu : Nat} {v1 : Int32} {v2 : Int32} {v3 : Int32} {z : Sg} {R1 : Int32} {Z : Sg} (h : pM_often fu v1 v2 v3 z = some (R1, Z)) : Mt l yM_often rmM_often bM_often 7 (some .int) G I z [.ref (gA G 78), .int v1, .int v2, .int v3] (Qi G I R1 Z) := by
  refine entM (by decide +kernel) (Nat.le_of_ble_eq_true rfl) ?_
  intro p e s m below meth c C hG ls hl
  have hl : lv_has ls 7 [(0, .ref (gA G 78)), (1, .int v1), (2, .int v2), (3, .int v3)] := hl
  unfold pM_often at h
  refine rAload_n C dM_often_0 hl 0 rfl ?_
  refine rIload_n C dM_often_1 hl 1 rfl ?_
  refine rCVi [.int v1] [] C hG h (fun h => cM_isOne hI h) mvM_isOne k_948 ⟨Nat.le_of_ble_eq_true rfl, Nat.le_of_ble_eq_true rfl⟩ ⟨rfl, rfl⟩ (rRecv C hG (hI 78 (by decide) (by decide)) e_78 rfl) rfl hl.1 (Nat.le_of_ble_eq_true rfl) dM_often_2 ⟨Nat.zero_le _, Nat.zero_le _⟩ rfl (fun H locs x2 z1 h hG => ?_)
  refine rIfne C (tgt := 11) h dM_often_5 (by decide) (fun h => ?_) (fun h => ?_)
  · refine rIload_n C dM_often_11 hl 2 rfl ?_
    refine lv_iconst (v := 0) C.1 C.2.1 dM_often_12 (by decide) ?_
    refine lv_bipush (v := 60) C.1 C.2.1 dM_often_13 (by decide) ?_
    refine rCSi [.int v2, .int 0, .int 60] [] C hG h (fun h => cM_in hI h) mvM_in k_767 ⟨Nat.le_of_ble_eq_true rfl, Nat.le_of_ble_eq_true rfl⟩ ⟨rfl, rfl⟩ rfl hl.1 (Nat.le_of_ble_eq_true rfl) dM_often_15 ⟨Nat.zero_le _, Nat.zero_le _⟩ rfl (fun H locs x4 z3 h hG => ?_)
    refine rIfeq C (tgt := 30) h dM_often_18 (by decide) (fun h => ?_) (fun h => ?_)
    · refine lv_bipush (v := (-7)) C.1 C.2.1 dM_often_30 (by decide) ?_
      exact rReti C hG h dM_often_32
    · refine rIload_n C dM_often_21 hl 3 rfl ?_
      refine lv_iconst (v := 0) C.1 C.2.1 dM_often_22 (by decide) ?_
      refine lv_iconst (v := 1) C.1 C.2.1 dM_often_23 (by decide) ?_
      refine rCSi [.int v3, .int 0, .int 1] [] C hG h (fun h => cM_in hI h) mvM_in k_767 ⟨Nat.le_of_ble_eq_true rfl, Nat.le_of_ble_eq_true rfl⟩ ⟨rfl, rfl⟩ rfl hl.1 (Nat.le_of_ble_eq_true rfl) dM_often_24 ⟨Nat.zero_le _, Nat.zero_le _⟩ rfl (fun H locs x6 z5 h hG => ?_)
      refine rIfne C (tgt := 33) h dM_often_27 (by decide) (fun h => ?_) (fun h => ?_)
      · refine lv_iconst (v := 0) C.1 C.2.1 dM_often_33 (by decide) ?_
        refine rIstoreA C dM_often_34 hl (by decide) [(0, .ref (gA G 78)), (1, .int v1), (2, .int v2), (3, .int v3)] rfl (fun ls hl => ?_)
        refine rAload_n C dM_often_36 hl 1 rfl ?_
        refine rCVv [] [] C hG h (fun h => cM_keeps hI h) mvM_keeps k_1025 ⟨Nat.le_of_ble_eq_true rfl, Nat.le_of_ble_eq_true rfl⟩ ⟨rfl, rfl⟩ (rRecv C hG (hI 78 (by decide) (by decide)) e_78 rfl) rfl hl.1 (Nat.le_of_ble_eq_true rfl) dM_often_37 ⟨Nat.zero_le _, Nat.zero_le _⟩ rfl (fun H locs z7 h hG => ?_)
        refine lv_iconst (v := 0) C.1 C.2.1 dM_often_40 (by decide) ?_
        refine rIstoreA C dM_often_41 hl (by decide) [(4, .int 0), (0, .ref (gA G 78)), (1, .int v1), (2, .int v2), (3, .int v3)] rfl (fun ls hl => ?_)
        exact wM_often_43 C hI _ h hG (lv_sub hl [2, 3, 4, 5, 1, 0] rfl)
      · refine lv_bipush (v := (-7)) C.1 C.2.1 dM_often_30 (by decide) ?_
        exact rReti C hG h dM_often_32
  · refine lv_bipush (v := (-5)) C.1 C.2.1 dM_often_8 (by decide) ?_
    exact rReti C hG h dM_often_10
theorem dM_cutNow_0 : decode bM_cutNow 0 = .ok (.aload_n 0, 1) := by decide +kernel
theorem dM_cutNow_1 : decode bM_cutNow 1 = .ok (.invokevirtual 210, 3) := by decide +kernel
theorem dM_cutNow_4 : decode bM_cutNow 4 = .ok (.aload_n 0, 1) := by decide +kernel
theorem dM_cutNow_5 : decode bM_cutNow 5 = .ok (.iload_n 1, 1) := by decide +kernel
theorem dM_cutNow_6 : decode bM_cutNow 6 = .ok (.invokevirtual 213, 3) := by decide +kernel
theorem dM_cutNow_9 : decode bM_cutNow 9 = .ok (.istore_n 2, 1) := by decide +kernel
theorem dM_cutNow_10 : decode bM_cutNow 10 = .ok (.aload_n 0, 1) := by decide +kernel
theorem dM_cutNow_11 : decode bM_cutNow 11 = .ok (.invokevirtual 219, 3) := by decide +kernel
theorem dM_cutNow_14 : decode bM_cutNow 14 = .ok (.iload_n 2, 1) := by decide +kernel
theorem dM_cutNow_15 : decode bM_cutNow 15 = .ok (.ireturn, 1) := by decide +kernel
theorem cM_cutNow {l : Launch} {G : GT} {I : List Nat} (hI : mI I) {fu : Nat} {v1 : Int32} {z : Sg} {R1 : Int32} {Z : Sg} (h : pM_cutNow fu v1 z = some (R1, Z)) : Mt l yM_cutNow rmM_cutNow bM_cutNow 3 (some .int) G I z [.ref (gA G 78), .int v1] (Qi G I R1 Z) := by
  refine entM (by decide +kernel) (Nat.le_of_ble_eq_true rfl) ?_
  intro p e s m below meth c C hG ls hl
  have hl : lv_has ls 3 [(0, .ref (gA G 78)), (1, .int v1)] := hl
  unfold pM_cutNow at h
  refine rAload_n C dM_cutNow_0 hl 0 rfl ?_
  refine rCVv [] [] C hG h (fun h => cM_keeps hI h) mvM_keeps k_1025 ⟨Nat.le_of_ble_eq_true rfl, Nat.le_of_ble_eq_true rfl⟩ ⟨rfl, rfl⟩ (rRecv C hG (hI 78 (by decide) (by decide)) e_78 rfl) rfl hl.1 (Nat.le_of_ble_eq_true rfl) dM_cutNow_1 ⟨Nat.zero_le _, Nat.zero_le _⟩ rfl (fun H locs z1 h hG => ?_)
  refine rAload_n C dM_cutNow_4 hl 0 rfl ?_
  refine rIload_n C dM_cutNow_5 hl 1 rfl ?_
  refine rCVi [.int v1] [] C hG h (fun h => cM_goes hI h) mvM_goes k_1029 ⟨Nat.le_of_ble_eq_true rfl, Nat.le_of_ble_eq_true rfl⟩ ⟨rfl, rfl⟩ (rRecv C hG (hI 78 (by decide) (by decide)) e_78 rfl) rfl hl.1 (Nat.le_of_ble_eq_true rfl) dM_cutNow_6 ⟨Nat.zero_le _, Nat.zero_le _⟩ rfl (fun H locs x3 z2 h hG => ?_)
  refine rIstoreA_n C dM_cutNow_9 hl (by decide) [(0, .ref (gA G 78)), (1, .int v1)] rfl (fun ls hl => ?_)
  refine rAload_n C dM_cutNow_10 hl 1 rfl ?_
  refine rCVv [] [] C hG h (fun h => cM_lays hI h) mvM_lays k_1041 ⟨Nat.le_of_ble_eq_true rfl, Nat.le_of_ble_eq_true rfl⟩ ⟨rfl, rfl⟩ (rRecv C hG (hI 78 (by decide) (by decide)) e_78 rfl) rfl hl.1 (Nat.le_of_ble_eq_true rfl) dM_cutNow_11 ⟨Nat.zero_le _, Nat.zero_le _⟩ rfl (fun H locs z4 h hG => ?_)
  refine rIload_n C dM_cutNow_14 hl 0 rfl ?_
  exact rReti C hG h dM_cutNow_15
