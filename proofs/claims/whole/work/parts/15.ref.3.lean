theorem dM_says_0 : decode bM_says 0 = .ok (.iconst 0, 1) := by decide +kernel
theorem dM_says_1 : decode bM_says 1 = .ok (.istore_n 2, 1) := by decide +kernel
theorem dM_says_2 : decode bM_says 2 = .ok (.aload_n 0, 1) := by decide +kernel
theorem dM_says_3 : decode bM_says 3 = .ok (.getfield 28, 3) := by decide +kernel
theorem dM_says_6 : decode bM_says 6 = .ok (.iconst 4, 1) := by decide +kernel
theorem dM_says_7 : decode bM_says 7 = .ok (.aload_n 0, 1) := by decide +kernel
theorem dM_says_8 : decode bM_says 8 = .ok (.getfield 116, 3) := by decide +kernel
theorem dM_says_11 : decode bM_says 11 = .ok (.imul, 1) := by decide +kernel
theorem dM_says_12 : decode bM_says 12 = .ok (.iload_n 1, 1) := by decide +kernel
theorem dM_says_13 : decode bM_says 13 = .ok (.iadd, 1) := by decide +kernel
theorem dM_says_14 : decode bM_says 14 = .ok (.iaload, 1) := by decide +kernel
theorem dM_says_15 : decode bM_says 15 = .ok (.istore_n 3, 1) := by decide +kernel
theorem dM_says_16 : decode bM_says 16 = .ok (.iload_n 3, 1) := by decide +kernel
theorem dM_says_17 : decode bM_says 17 = .ok (.aload_n 0, 1) := by decide +kernel
theorem dM_says_18 : decode bM_says 18 = .ok (.getfield 28, 3) := by decide +kernel
theorem dM_says_21 : decode bM_says 21 = .ok (.iconst 4, 1) := by decide +kernel
theorem dM_says_22 : decode bM_says 22 = .ok (.aload_n 0, 1) := by decide +kernel
theorem dM_says_23 : decode bM_says 23 = .ok (.getfield 116, 3) := by decide +kernel
theorem dM_says_26 : decode bM_says 26 = .ok (.imul, 1) := by decide +kernel
theorem dM_says_27 : decode bM_says 27 = .ok (.iload_n 1, 1) := by decide +kernel
theorem dM_says_28 : decode bM_says 28 = .ok (.iadd, 1) := by decide +kernel
theorem dM_says_29 : decode bM_says 29 = .ok (.iconst 1, 1) := by decide +kernel
theorem dM_says_30 : decode bM_says 30 = .ok (.iadd, 1) := by decide +kernel
theorem dM_says_31 : decode bM_says 31 = .ok (.iaload, 1) := by decide +kernel
theorem dM_says_32 : decode bM_says 32 = .ok (.if_icmp .ge 165, 3) := by decide +kernel
theorem dM_says_35 : decode bM_says 35 = .ok (.aload_n 0, 1) := by decide +kernel
theorem dM_says_36 : decode bM_says 36 = .ok (.getfield 25, 3) := by decide +kernel
theorem dM_says_39 : decode bM_says 39 = .ok (.sipush 200, 3) := by decide +kernel
theorem dM_says_42 : decode bM_says 42 = .ok (.aload_n 0, 1) := by decide +kernel
theorem dM_says_43 : decode bM_says 43 = .ok (.getfield 116, 3) := by decide +kernel
theorem dM_says_46 : decode bM_says 46 = .ok (.imul, 1) := by decide +kernel
theorem dM_says_47 : decode bM_says 47 = .ok (.iload_n 3, 1) := by decide +kernel
theorem dM_says_48 : decode bM_says 48 = .ok (.iadd, 1) := by decide +kernel
theorem dM_says_49 : decode bM_says 49 = .ok (.iaload, 1) := by decide +kernel
theorem dM_says_50 : decode bM_says 50 = .ok (.istore 4, 2) := by decide +kernel
theorem dM_says_52 : decode bM_says 52 = .ok (.iload 4, 2) := by decide +kernel
theorem dM_says_54 : decode bM_says 54 = .ok (.ldc 162, 2) := by decide +kernel
theorem dM_says_56 : decode bM_says 56 = .ok (.if_icmp .ge 10, 3) := by decide +kernel
theorem dM_says_59 : decode bM_says 59 = .ok (.iload 4, 2) := by decide +kernel
theorem dM_says_61 : decode bM_says 61 = .ok (.bipush 11, 2) := by decide +kernel
theorem dM_says_63 : decode bM_says 63 = .ok (.if_icmp .ge 37, 3) := by decide +kernel
theorem dM_says_66 : decode bM_says 66 = .ok (.aload_n 0, 1) := by decide +kernel
theorem dM_says_67 : decode bM_says 67 = .ok (.getfield 55, 3) := by decide +kernel
theorem dM_says_70 : decode bM_says 70 = .ok (.iload_n 2, 1) := by decide +kernel
theorem dM_says_71 : decode bM_says 71 = .ok (.iload 4, 2) := by decide +kernel
theorem dM_says_73 : decode bM_says 73 = .ok (.bipush 11, 2) := by decide +kernel
theorem dM_says_75 : decode bM_says 75 = .ok (.if_icmp .ge 13, 3) := by decide +kernel
theorem dM_says_78 : decode bM_says 78 = .ok (.aload_n 0, 1) := by decide +kernel
theorem dM_says_79 : decode bM_says 79 = .ok (.getfield 58, 3) := by decide +kernel
theorem dM_says_82 : decode bM_says 82 = .ok (.iload 4, 2) := by decide +kernel
theorem dM_says_84 : decode bM_says 84 = .ok (.iaload, 1) := by decide +kernel
theorem dM_says_85 : decode bM_says 85 = .ok (.goto 8, 3) := by decide +kernel
theorem dM_says_88 : decode bM_says 88 = .ok (.iload 4, 2) := by decide +kernel
theorem dM_says_90 : decode bM_says 90 = .ok (.ldc 162, 2) := by decide +kernel
theorem dM_says_92 : decode bM_says 92 = .ok (.isub, 1) := by decide +kernel
theorem dM_says_93 : decode bM_says 93 = .ok (.iastore, 1) := by decide +kernel
theorem dM_says_94 : decode bM_says 94 = .ok (.iinc 2 1, 3) := by decide +kernel
theorem dM_says_97 : decode bM_says 97 = .ok (.goto 94, 3) := by decide +kernel
theorem dM_says_100 : decode bM_says 100 = .ok (.iload 4, 2) := by decide +kernel
theorem dM_says_102 : decode bM_says 102 = .ok (.bipush 13, 2) := by decide +kernel
theorem dM_says_104 : decode bM_says 104 = .ok (.if_icmp .ne 30, 3) := by decide +kernel
theorem dM_says_107 : decode bM_says 107 = .ok (.aload_n 0, 1) := by decide +kernel
theorem dM_says_108 : decode bM_says 108 = .ok (.getfield 55, 3) := by decide +kernel
theorem dM_says_111 : decode bM_says 111 = .ok (.iload_n 2, 1) := by decide +kernel
theorem dM_says_112 : decode bM_says 112 = .ok (.iconst 1, 1) := by decide +kernel
theorem dM_says_113 : decode bM_says 113 = .ok (.isub, 1) := by decide +kernel
theorem dM_says_114 : decode bM_says 114 = .ok (.aload_n 0, 1) := by decide +kernel
theorem dM_says_115 : decode bM_says 115 = .ok (.getfield 55, 3) := by decide +kernel
theorem dM_says_118 : decode bM_says 118 = .ok (.iload_n 2, 1) := by decide +kernel
theorem dM_says_119 : decode bM_says 119 = .ok (.iconst 1, 1) := by decide +kernel
theorem dM_says_120 : decode bM_says 120 = .ok (.isub, 1) := by decide +kernel
theorem dM_says_121 : decode bM_says 121 = .ok (.iaload, 1) := by decide +kernel
theorem dM_says_122 : decode bM_says 122 = .ok (.ifCond .ne 7, 3) := by decide +kernel
theorem dM_says_125 : decode bM_says 125 = .ok (.iconst 1, 1) := by decide +kernel
theorem dM_says_126 : decode bM_says 126 = .ok (.goto 4, 3) := by decide +kernel
theorem dM_says_129 : decode bM_says 129 = .ok (.iconst 0, 1) := by decide +kernel
theorem dM_says_130 : decode bM_says 130 = .ok (.iastore, 1) := by decide +kernel
theorem dM_says_131 : decode bM_says 131 = .ok (.goto 60, 3) := by decide +kernel
theorem dM_says_134 : decode bM_says 134 = .ok (.iload 4, 2) := by decide +kernel
theorem dM_says_136 : decode bM_says 136 = .ok (.bipush 19, 2) := by decide +kernel
theorem dM_says_138 : decode bM_says 138 = .ok (.if_icmp .ne 23, 3) := by decide +kernel
theorem dM_says_141 : decode bM_says 141 = .ok (.aload_n 0, 1) := by decide +kernel
theorem dM_says_142 : decode bM_says 142 = .ok (.getfield 55, 3) := by decide +kernel
theorem dM_says_145 : decode bM_says 145 = .ok (.iload_n 2, 1) := by decide +kernel
theorem dM_says_146 : decode bM_says 146 = .ok (.iconst 1, 1) := by decide +kernel
theorem dM_says_147 : decode bM_says 147 = .ok (.isub, 1) := by decide +kernel
theorem dM_says_148 : decode bM_says 148 = .ok (.aload_n 0, 1) := by decide +kernel
theorem dM_says_149 : decode bM_says 149 = .ok (.getfield 55, 3) := by decide +kernel
theorem dM_says_152 : decode bM_says 152 = .ok (.iload_n 2, 1) := by decide +kernel
theorem dM_says_153 : decode bM_says 153 = .ok (.iconst 1, 1) := by decide +kernel
theorem dM_says_154 : decode bM_says 154 = .ok (.isub, 1) := by decide +kernel
theorem dM_says_155 : decode bM_says 155 = .ok (.iaload, 1) := by decide +kernel
theorem dM_says_156 : decode bM_says 156 = .ok (.ineg, 1) := by decide +kernel
theorem dM_says_157 : decode bM_says 157 = .ok (.iastore, 1) := by decide +kernel
theorem dM_says_158 : decode bM_says 158 = .ok (.goto 33, 3) := by decide +kernel
theorem dM_says_161 : decode bM_says 161 = .ok (.iinc 2 (-1), 3) := by decide +kernel
theorem dM_says_164 : decode bM_says 164 = .ok (.aload_n 0, 1) := by decide +kernel
theorem dM_says_165 : decode bM_says 165 = .ok (.getfield 55, 3) := by decide +kernel
theorem dM_says_168 : decode bM_says 168 = .ok (.iload_n 2, 1) := by decide +kernel
theorem dM_says_169 : decode bM_says 169 = .ok (.iconst 1, 1) := by decide +kernel
theorem dM_says_170 : decode bM_says 170 = .ok (.isub, 1) := by decide +kernel
theorem dM_says_171 : decode bM_says 171 = .ok (.iload 4, 2) := by decide +kernel
theorem dM_says_173 : decode bM_says 173 = .ok (.aload_n 0, 1) := by decide +kernel
theorem dM_says_174 : decode bM_says 174 = .ok (.getfield 55, 3) := by decide +kernel
theorem dM_says_177 : decode bM_says 177 = .ok (.iload_n 2, 1) := by decide +kernel
theorem dM_says_178 : decode bM_says 178 = .ok (.iconst 1, 1) := by decide +kernel
theorem dM_says_179 : decode bM_says 179 = .ok (.isub, 1) := by decide +kernel
theorem dM_says_180 : decode bM_says 180 = .ok (.iaload, 1) := by decide +kernel
theorem dM_says_181 : decode bM_says 181 = .ok (.aload_n 0, 1) := by decide +kernel
theorem dM_says_182 : decode bM_says 182 = .ok (.getfield 55, 3) := by decide +kernel
theorem dM_says_185 : decode bM_says 185 = .ok (.iload_n 2, 1) := by decide +kernel
theorem dM_says_186 : decode bM_says 186 = .ok (.iaload, 1) := by decide +kernel
theorem dM_says_187 : decode bM_says 187 = .ok (.invokestatic 176, 3) := by decide +kernel
theorem dM_says_190 : decode bM_says 190 = .ok (.iastore, 1) := by decide +kernel
theorem dM_says_191 : decode bM_says 191 = .ok (.iinc 3 1, 3) := by decide +kernel
theorem dM_says_194 : decode bM_says 194 = .ok (.goto (-178), 3) := by decide +kernel
theorem dM_says_197 : decode bM_says 197 = .ok (.aload_n 0, 1) := by decide +kernel
theorem dM_says_198 : decode bM_says 198 = .ok (.getfield 55, 3) := by decide +kernel
theorem dM_says_201 : decode bM_says 201 = .ok (.iconst 0, 1) := by decide +kernel
theorem dM_says_202 : decode bM_says 202 = .ok (.iaload, 1) := by decide +kernel
theorem dM_says_203 : decode bM_says 203 = .ok (.ireturn, 1) := by decide +kernel
theorem wM_says_191 {p : Program} {l : Launch} {e : Env} {s : State} {m : MethodId} {args : Array Value} {below : List Frame} {meth : Method} {c : Code} {G : GT} {I : List Nat} (C : CX p s m args meth c NM bM_says 5 (some .int) G I) (hI : mI I) {fu : Nat} {R1 : Int32} {Z : Sg} {rc16 : Int32 → Int32 → Int32 → Sg → Option (Int32 × Sg)} (hr16 : ∀ {v1 : Int32} {v2 : Int32} {v3 : Int32} {z : Sg} {H : Heap} {locs : List Loc} {ls : Array Slot}, rc16 v1 v2 v3 z = some (R1, Z) → GW G I z s.heap H locs → lv_has ls 5 [(0, .ref (gA G 78)), (1, .int v1), (2, .int v2), (3, .int v3)] → W p l e rmM_says s m args below meth c H locs 0 0 (MQ below (Qi G I R1 Z) args s 0 0 (AD G I)) (F0 m 16 ls [])) {v1 : Int32} {v2 : Int32} {v3 : Int32} {z : Sg} {H : Heap} {locs : List Loc} {ls : Array Slot} (h : pM_says_191 fu rc16 v1 v2 v3 z = some (R1, Z)) (hG : GW G I z s.heap H locs) (hl : lv_has ls 5 [(0, .ref (gA G 78)), (1, .int v1), (2, .int v2), (3, .int v3)]) : W p l e rmM_says s m args below meth c H locs 0 0 (MQ below (Qi G I R1 Z) args s 0 0 (AD G I)) (F0 m 191 ls []) := by
  unfold pM_says_191 at h
  refine rIinc C dM_says_191 hl 3 rfl (d := 1) (by decide) h (by decide) [(0, .ref (gA G 78)), (1, .int v1), (2, .int v2)] rfl (fun x8 ls h hl => ?_)
  refine lv_goto (tgt := 16) C.1 C.2.1 dM_says_194 (by decide) ?_
  exact hr16 h hG (lv_sub hl [1, 2, 3, 0] rfl)
theorem wM_says_130 {p : Program} {l : Launch} {e : Env} {s : State} {m : MethodId} {args : Array Value} {below : List Frame} {meth : Method} {c : Code} {G : GT} {I : List Nat} (C : CX p s m args meth c NM bM_says 5 (some .int) G I) (hI : mI I) {fu : Nat} {R1 : Int32} {Z : Sg} {rc16 : Int32 → Int32 → Int32 → Sg → Option (Int32 × Sg)} (hr16 : ∀ {v1 : Int32} {v2 : Int32} {v3 : Int32} {z : Sg} {H : Heap} {locs : List Loc} {ls : Array Slot}, rc16 v1 v2 v3 z = some (R1, Z) → GW G I z s.heap H locs → lv_has ls 5 [(0, .ref (gA G 78)), (1, .int v1), (2, .int v2), (3, .int v3)] → W p l e rmM_says s m args below meth c H locs 0 0 (MQ below (Qi G I R1 Z) args s 0 0 (AD G I)) (F0 m 16 ls [])) {v1 : Int32} {v2 : Int32} {v3 : Int32} {t1 : Int32} {t2 : Int32} {z : Sg} {H : Heap} {locs : List Loc} {ls : Array Slot} (h : pM_says_130 fu rc16 v1 v2 v3 t1 t2 z = some (R1, Z)) (hG : GW G I z s.heap H locs) (hl : lv_has ls 5 [(0, .ref (gA G 78)), (1, .int v1), (2, .int v2), (3, .int v3)]) : W p l e rmM_says s m args below meth c H locs 0 0 (MQ below (Qi G I R1 Z) args s 0 0 (AD G I)) (F0 m 130 ls [.int t2, .int t1, .ref (gA G 94)]) := by
  unfold pM_says_130 at h
  refine rIast C hG (hI 94 (by decide) (by decide)) e_94 h dM_says_130 (fun H locs z9 h hG => ?_)
  refine lv_goto (tgt := 191) C.1 C.2.1 dM_says_131 (by decide) ?_
  exact wM_says_191 C hI hr16 h hG (lv_sub hl [0, 1, 2, 3] rfl)
theorem wM_says_93 {p : Program} {l : Launch} {e : Env} {s : State} {m : MethodId} {args : Array Value} {below : List Frame} {meth : Method} {c : Code} {G : GT} {I : List Nat} (C : CX p s m args meth c NM bM_says 5 (some .int) G I) (hI : mI I) {fu : Nat} {R1 : Int32} {Z : Sg} {rc16 : Int32 → Int32 → Int32 → Sg → Option (Int32 × Sg)} (hr16 : ∀ {v1 : Int32} {v2 : Int32} {v3 : Int32} {z : Sg} {H : Heap} {locs : List Loc} {ls : Array Slot}, rc16 v1 v2 v3 z = some (R1, Z) → GW G I z s.heap H locs → lv_has ls 5 [(0, .ref (gA G 78)), (1, .int v1), (2, .int v2), (3, .int v3)] → W p l e rmM_says s m args below meth c H locs 0 0 (MQ below (Qi G I R1 Z) args s 0 0 (AD G I)) (F0 m 16 ls [])) {v1 : Int32} {v2 : Int32} {v3 : Int32} {t1 : Int32} {t2 : Int32} {z : Sg} {H : Heap} {locs : List Loc} {ls : Array Slot} (h : pM_says_93 fu rc16 v1 v2 v3 t1 t2 z = some (R1, Z)) (hG : GW G I z s.heap H locs) (hl : lv_has ls 5 [(0, .ref (gA G 78)), (1, .int v1), (2, .int v2), (3, .int v3)]) : W p l e rmM_says s m args below meth c H locs 0 0 (MQ below (Qi G I R1 Z) args s 0 0 (AD G I)) (F0 m 93 ls [.int t2, .int t1, .ref (gA G 94)]) := by
  unfold pM_says_93 at h
  refine rIast C hG (hI 94 (by decide) (by decide)) e_94 h dM_says_93 (fun H locs z10 h hG => ?_)
  refine rIinc C dM_says_94 hl 2 rfl (d := 1) (by decide) h (by decide) [(0, .ref (gA G 78)), (1, .int v1), (3, .int v3)] rfl (fun x11 ls h hl => ?_)
  refine lv_goto (tgt := 191) C.1 C.2.1 dM_says_97 (by decide) ?_
  exact wM_says_191 C hI hr16 h hG (lv_sub hl [1, 2, 0, 3] rfl)
theorem wM_says_66 {p : Program} {l : Launch} {e : Env} {s : State} {m : MethodId} {args : Array Value} {below : List Frame} {meth : Method} {c : Code} {G : GT} {I : List Nat} (C : CX p s m args meth c NM bM_says 5 (some .int) G I) (hI : mI I) {fu : Nat} {R1 : Int32} {Z : Sg} {rc16 : Int32 → Int32 → Int32 → Sg → Option (Int32 × Sg)} (hr16 : ∀ {v1 : Int32} {v2 : Int32} {v3 : Int32} {z : Sg} {H : Heap} {locs : List Loc} {ls : Array Slot}, rc16 v1 v2 v3 z = some (R1, Z) → GW G I z s.heap H locs → lv_has ls 5 [(0, .ref (gA G 78)), (1, .int v1), (2, .int v2), (3, .int v3)] → W p l e rmM_says s m args below meth c H locs 0 0 (MQ below (Qi G I R1 Z) args s 0 0 (AD G I)) (F0 m 16 ls [])) {v1 : Int32} {v2 : Int32} {v3 : Int32} {v4 : Int32} {z : Sg} {H : Heap} {locs : List Loc} {ls : Array Slot} (h : pM_says_66 fu rc16 v1 v2 v3 v4 z = some (R1, Z)) (hG : GW G I z s.heap H locs) (hl : lv_has ls 5 [(0, .ref (gA G 78)), (1, .int v1), (2, .int v2), (3, .int v3), (4, .int v4)]) : W p l e rmM_says s m args below meth c H locs 0 0 (MQ below (Qi G I R1 Z) args s 0 0 (AD G I)) (F0 m 66 ls []) := by
  unfold pM_says_66 at h
  refine rAload_n C dM_says_66 hl 0 rfl ?_
  refine rGet C hG (hI 78 (by decide) (by decide)) e_78 fiM_27 (v := .ref (gA G 94)) rfl k_833 dM_says_67 ?_
  refine rIload_n C dM_says_70 hl 2 rfl ?_
  refine rIload C dM_says_71 hl 4 rfl ?_
  refine lv_bipush (v := 11) C.1 C.2.1 dM_says_73 (by decide) ?_
  refine rIcmpge C (tgt := 88) h dM_says_75 (by decide) (fun h => ?_) (fun h => ?_)
  · refine rIload C dM_says_88 hl 4 rfl ?_
    refine lv_ldc C.1 C.2.1 C.2.2.2.1 (C.2.2.2.2.1 _ k_778) dM_says_90 ?_
    refine lv_isub C.1 C.2.1 dM_says_92 ?_
    exact wM_says_93 C hI hr16 h hG (lv_sub hl [0, 1, 2, 3] rfl)
  · refine rAload_n C dM_says_78 hl 0 rfl ?_
    refine rGet C hG (hI 78 (by decide) (by decide)) e_78 fiM_28 (v := .ref (gA G 95)) rfl k_834 dM_says_79 ?_
    refine rIload C dM_says_82 hl 4 rfl ?_
    refine rIald C hG (hI 95 (by decide) (by decide)) e_95 h dM_says_84 (fun h => ?_)
    refine lv_goto (tgt := 93) C.1 C.2.1 dM_says_85 (by decide) ?_
    exact wM_says_93 C hI hr16 h hG (lv_sub hl [0, 1, 2, 3] rfl)
theorem wM_says_16 {p : Program} {l : Launch} {e : Env} {s : State} {m : MethodId} {args : Array Value} {below : List Frame} {meth : Method} {c : Code} {G : GT} {I : List Nat} (C : CX p s m args meth c NM bM_says 5 (some .int) G I) (hI : mI I) {fu : Nat} {R1 : Int32} {Z : Sg} : ∀ (k : Nat) {v1 : Int32} {v2 : Int32} {v3 : Int32} {z : Sg} {H : Heap} {locs : List Loc} {ls : Array Slot}, pM_says_16 fu k v1 v2 v3 z = some (R1, Z) → GW G I z s.heap H locs → lv_has ls 5 [(0, .ref (gA G 78)), (1, .int v1), (2, .int v2), (3, .int v3)] → W p l e rmM_says s m args below meth c H locs 0 0 (MQ below (Qi G I R1 Z) args s 0 0 (AD G I)) (F0 m 16 ls []) := by
  intro k
  induction k with
  | zero => intro v1 v2 v3 z H locs ls h hG hl; rw [pM_says_16] at h; cases h
  | succ k ih =>
    intro v1 v2 v3 z H locs ls h hG hl
    rw [pM_says_16] at h
    refine rIload_n C dM_says_16 hl 3 rfl ?_
    refine rAload_n C dM_says_17 hl 0 rfl ?_
    refine rGet C hG (hI 78 (by decide) (by decide)) e_78 fiM_8 (v := .ref (gA G 85)) rfl k_814 dM_says_18 ?_
    refine lv_iconst (v := 4) C.1 C.2.1 dM_says_21 (by decide) ?_
    refine rAload_n C dM_says_22 hl 0 rfl ?_
    refine rGet C hG (hI 78 (by decide) (by decide)) e_78 fiM_10 (v := .int (z 78 10)) rfl k_816 dM_says_23 ?_
    refine lv_imul C.1 C.2.1 dM_says_26 ?_
    refine rIload_n C dM_says_27 hl 1 rfl ?_
    refine lv_iadd C.1 C.2.1 dM_says_28 ?_
    refine lv_iconst (v := 1) C.1 C.2.1 dM_says_29 (by decide) ?_
    refine lv_iadd C.1 C.2.1 dM_says_30 ?_
    refine rIald C hG (hI 85 (by decide) (by decide)) e_85 h dM_says_31 (fun h => ?_)
    refine rIcmpge C (tgt := 197) h dM_says_32 (by decide) (fun h => ?_) (fun h => ?_)
    · refine rAload_n C dM_says_197 hl 0 rfl ?_
      refine rGet C hG (hI 78 (by decide) (by decide)) e_78 fiM_27 (v := .ref (gA G 94)) rfl k_833 dM_says_198 ?_
      refine lv_iconst (v := 0) C.1 C.2.1 dM_says_201 (by decide) ?_
      refine rIaldK C hG (hI 94 (by decide) (by decide)) e_94 0 (by decide) (by decide) dM_says_202 ?_
      exact rReti C hG h dM_says_203
    · refine rAload_n C dM_says_35 hl 0 rfl ?_
      refine rGet C hG (hI 78 (by decide) (by decide)) e_78 fiM_7 (v := .ref (gA G 84)) rfl k_813 dM_says_36 ?_
      refine lv_sipush (v := 200) C.1 C.2.1 dM_says_39 (by decide) ?_
      refine rAload_n C dM_says_42 hl 0 rfl ?_
      refine rGet C hG (hI 78 (by decide) (by decide)) e_78 fiM_10 (v := .int (z 78 10)) rfl k_816 dM_says_43 ?_
      refine lv_imul C.1 C.2.1 dM_says_46 ?_
      refine rIload_n C dM_says_47 hl 3 rfl ?_
      refine lv_iadd C.1 C.2.1 dM_says_48 ?_
      refine rIald C hG (hI 84 (by decide) (by decide)) e_84 h dM_says_49 (fun h => ?_)
      refine rIstore C dM_says_50 hl h (by decide) [(0, .ref (gA G 78)), (1, .int v1), (2, .int v2), (3, .int v3)] rfl (fun x2 ls h hl => ?_)
      refine rIload C dM_says_52 hl 0 rfl ?_
      refine lv_ldc C.1 C.2.1 C.2.2.2.1 (C.2.2.2.2.1 _ k_778) dM_says_54 ?_
      refine rIcmpge C (tgt := 66) h dM_says_56 (by decide) (fun h => ?_) (fun h => ?_)
      · exact wM_says_66 C hI ih h hG (lv_sub hl [1, 2, 3, 4, 0] rfl)
      · refine rIload C dM_says_59 hl 0 rfl ?_
        refine lv_bipush (v := 11) C.1 C.2.1 dM_says_61 (by decide) ?_
        refine rIcmpge C (tgt := 100) h dM_says_63 (by decide) (fun h => ?_) (fun h => ?_)
        · refine rIload C dM_says_100 hl 0 rfl ?_
          refine lv_bipush (v := 13) C.1 C.2.1 dM_says_102 (by decide) ?_
          refine rIcmpne C (tgt := 134) h dM_says_104 (by decide) (fun h => ?_) (fun h => ?_)
          · refine rIload C dM_says_134 hl 0 rfl ?_
            refine lv_bipush (v := 19) C.1 C.2.1 dM_says_136 (by decide) ?_
            refine rIcmpne C (tgt := 161) h dM_says_138 (by decide) (fun h => ?_) (fun h => ?_)
            · refine rIinc C dM_says_161 hl 3 rfl (d := (-1)) (by decide) h (by decide) [(4, .int x2), (0, .ref (gA G 78)), (1, .int v1), (3, .int v3)] rfl (fun x3 ls h hl => ?_)
              refine rAload_n C dM_says_164 hl 2 rfl ?_
              refine rGet C hG (hI 78 (by decide) (by decide)) e_78 fiM_27 (v := .ref (gA G 94)) rfl k_833 dM_says_165 ?_
              refine rIload_n C dM_says_168 hl 0 rfl ?_
              refine lv_iconst (v := 1) C.1 C.2.1 dM_says_169 (by decide) ?_
              refine lv_isub C.1 C.2.1 dM_says_170 ?_
              refine rIload C dM_says_171 hl 1 rfl ?_
              refine rAload_n C dM_says_173 hl 2 rfl ?_
              refine rGet C hG (hI 78 (by decide) (by decide)) e_78 fiM_27 (v := .ref (gA G 94)) rfl k_833 dM_says_174 ?_
              refine rIload_n C dM_says_177 hl 0 rfl ?_
              refine lv_iconst (v := 1) C.1 C.2.1 dM_says_178 (by decide) ?_
              refine lv_isub C.1 C.2.1 dM_says_179 ?_
              refine rIald C hG (hI 94 (by decide) (by decide)) e_94 h dM_says_180 (fun h => ?_)
              refine rAload_n C dM_says_181 hl 2 rfl ?_
              refine rGet C hG (hI 78 (by decide) (by decide)) e_78 fiM_27 (v := .ref (gA G 94)) rfl k_833 dM_says_182 ?_
              refine rIload_n C dM_says_185 hl 0 rfl ?_
              refine rIald C hG (hI 94 (by decide) (by decide)) e_94 h dM_says_186 (fun h => ?_)
              refine rCSi [.int x2, .int (ga z 94 (x3 - 1)), .int (ga z 94 x3)] [.int (x3 - 1), .ref (gA G 94)] C hG h (fun h => cM_two hI h) mvM_two k_972 ⟨Nat.le_of_ble_eq_true rfl, Nat.le_of_ble_eq_true rfl⟩ ⟨rfl, rfl⟩ rfl hl.1 (Nat.le_of_ble_eq_true rfl) dM_says_187 ⟨Nat.zero_le _, Nat.zero_le _⟩ rfl (fun H locs x5 z4 h hG => ?_)
              refine rIast C hG (hI 94 (by decide) (by decide)) e_94 h dM_says_190 (fun H locs z6 h hG => ?_)
              exact wM_says_191 C hI ih h hG (lv_sub hl [2, 3, 0, 4] rfl)
            · refine rAload_n C dM_says_141 hl 1 rfl ?_
              refine rGet C hG (hI 78 (by decide) (by decide)) e_78 fiM_27 (v := .ref (gA G 94)) rfl k_833 dM_says_142 ?_
              refine rIload_n C dM_says_145 hl 3 rfl ?_
              refine lv_iconst (v := 1) C.1 C.2.1 dM_says_146 (by decide) ?_
              refine lv_isub C.1 C.2.1 dM_says_147 ?_
              refine rAload_n C dM_says_148 hl 1 rfl ?_
              refine rGet C hG (hI 78 (by decide) (by decide)) e_78 fiM_27 (v := .ref (gA G 94)) rfl k_833 dM_says_149 ?_
              refine rIload_n C dM_says_152 hl 3 rfl ?_
              refine lv_iconst (v := 1) C.1 C.2.1 dM_says_153 (by decide) ?_
              refine lv_isub C.1 C.2.1 dM_says_154 ?_
              refine rIald C hG (hI 94 (by decide) (by decide)) e_94 h dM_says_155 (fun h => ?_)
              refine lv_ineg C.1 C.2.1 dM_says_156 ?_
              refine rIast C hG (hI 94 (by decide) (by decide)) e_94 h dM_says_157 (fun H locs z7 h hG => ?_)
              refine lv_goto (tgt := 191) C.1 C.2.1 dM_says_158 (by decide) ?_
              exact wM_says_191 C hI ih h hG (lv_sub hl [1, 2, 3, 4] rfl)
          · refine rAload_n C dM_says_107 hl 1 rfl ?_
            refine rGet C hG (hI 78 (by decide) (by decide)) e_78 fiM_27 (v := .ref (gA G 94)) rfl k_833 dM_says_108 ?_
            refine rIload_n C dM_says_111 hl 3 rfl ?_
            refine lv_iconst (v := 1) C.1 C.2.1 dM_says_112 (by decide) ?_
            refine lv_isub C.1 C.2.1 dM_says_113 ?_
            refine rAload_n C dM_says_114 hl 1 rfl ?_
            refine rGet C hG (hI 78 (by decide) (by decide)) e_78 fiM_27 (v := .ref (gA G 94)) rfl k_833 dM_says_115 ?_
            refine rIload_n C dM_says_118 hl 3 rfl ?_
            refine lv_iconst (v := 1) C.1 C.2.1 dM_says_119 (by decide) ?_
            refine lv_isub C.1 C.2.1 dM_says_120 ?_
            refine rIald C hG (hI 94 (by decide) (by decide)) e_94 h dM_says_121 (fun h => ?_)
            refine rIfne C (tgt := 129) h dM_says_122 (by decide) (fun h => ?_) (fun h => ?_)
            · refine lv_iconst (v := 0) C.1 C.2.1 dM_says_129 (by decide) ?_
              exact wM_says_130 C hI ih h hG (lv_sub hl [1, 2, 3, 4] rfl)
            · refine lv_iconst (v := 1) C.1 C.2.1 dM_says_125 (by decide) ?_
              refine lv_goto (tgt := 130) C.1 C.2.1 dM_says_126 (by decide) ?_
              exact wM_says_130 C hI ih h hG (lv_sub hl [1, 2, 3, 4] rfl)
        · exact wM_says_66 C hI ih h hG (lv_sub hl [1, 2, 3, 4, 0] rfl)
theorem cM_says {l : Launch} {G : GT} {I : List Nat} (hI : mI I) {fu : Nat} {v1 : Int32} {z : Sg} {R1 : Int32} {Z : Sg} (h : pM_says fu v1 z = some (R1, Z)) : Mt l yM_says rmM_says bM_says 5 (some .int) G I z [.ref (gA G 78), .int v1] (Qi G I R1 Z) := by
  refine entM (by decide +kernel) (Nat.le_of_ble_eq_true rfl) ?_
  intro p e s m below meth c C hG ls hl
  have hl : lv_has ls 5 [(0, .ref (gA G 78)), (1, .int v1)] := hl
  unfold pM_says at h
  refine lv_iconst (v := 0) C.1 C.2.1 dM_says_0 (by decide) ?_
  refine rIstoreA_n C dM_says_1 hl (by decide) [(0, .ref (gA G 78)), (1, .int v1)] rfl (fun ls hl => ?_)
  refine rAload_n C dM_says_2 hl 1 rfl ?_
  refine rGet C hG (hI 78 (by decide) (by decide)) e_78 fiM_8 (v := .ref (gA G 85)) rfl k_814 dM_says_3 ?_
  refine lv_iconst (v := 4) C.1 C.2.1 dM_says_6 (by decide) ?_
  refine rAload_n C dM_says_7 hl 1 rfl ?_
  refine rGet C hG (hI 78 (by decide) (by decide)) e_78 fiM_10 (v := .int (z 78 10)) rfl k_816 dM_says_8 ?_
  refine lv_imul C.1 C.2.1 dM_says_11 ?_
  refine rIload_n C dM_says_12 hl 2 rfl ?_
  refine lv_iadd C.1 C.2.1 dM_says_13 ?_
  refine rIald C hG (hI 85 (by decide) (by decide)) e_85 h dM_says_14 (fun h => ?_)
  refine rIstore_n C dM_says_15 hl h (by decide) [(2, .int 0), (0, .ref (gA G 78)), (1, .int v1)] rfl (fun x1 ls h hl => ?_)
  exact wM_says_16 C hI _ h hG (lv_sub hl [2, 3, 1, 0] rfl)
theorem dM_within_0 : decode bM_within 0 = .ok (.iload_n 0, 1) := by decide +kernel
theorem dM_within_1 : decode bM_within 1 = .ok (.iload_n 1, 1) := by decide +kernel
theorem dM_within_2 : decode bM_within 2 = .ok (.if_icmp .ge 7, 3) := by decide +kernel
theorem dM_within_5 : decode bM_within 5 = .ok (.iload_n 1, 1) := by decide +kernel
theorem dM_within_6 : decode bM_within 6 = .ok (.goto 13, 3) := by decide +kernel
theorem dM_within_9 : decode bM_within 9 = .ok (.iload_n 0, 1) := by decide +kernel
theorem dM_within_10 : decode bM_within 10 = .ok (.iload_n 2, 1) := by decide +kernel
theorem dM_within_11 : decode bM_within 11 = .ok (.if_icmp .le 7, 3) := by decide +kernel
theorem dM_within_14 : decode bM_within 14 = .ok (.iload_n 2, 1) := by decide +kernel
theorem dM_within_15 : decode bM_within 15 = .ok (.goto 4, 3) := by decide +kernel
theorem dM_within_18 : decode bM_within 18 = .ok (.iload_n 0, 1) := by decide +kernel
theorem dM_within_19 : decode bM_within 19 = .ok (.ireturn, 1) := by decide +kernel
theorem cM_within {l : Launch} {G : GT} {I : List Nat} (hI : mI I) {fu : Nat} {v0 : Int32} {v1 : Int32} {v2 : Int32} {z : Sg} {R1 : Int32} {Z : Sg} (h : pM_within fu v0 v1 v2 z = some (R1, Z)) : Mt l yM_within rmM_within bM_within 3 (some .int) G I z [.int v0, .int v1, .int v2] (Qi G I R1 Z) := by
  refine entM (by decide +kernel) (Nat.le_of_ble_eq_true rfl) ?_
  intro p e s m below meth c C hG ls hl
  have hl : lv_has ls 3 [(0, .int v0), (1, .int v1), (2, .int v2)] := hl
  unfold pM_within at h
  refine rIload_n C dM_within_0 hl 0 rfl ?_
  refine rIload_n C dM_within_1 hl 1 rfl ?_
  refine rIcmpge C (tgt := 9) h dM_within_2 (by decide) (fun h => ?_) (fun h => ?_)
  · refine rIload_n C dM_within_9 hl 0 rfl ?_
    refine rIload_n C dM_within_10 hl 2 rfl ?_
    refine rIcmple C (tgt := 18) h dM_within_11 (by decide) (fun h => ?_) (fun h => ?_)
    · refine rIload_n C dM_within_18 hl 0 rfl ?_
      exact rReti C hG h dM_within_19
    · refine rIload_n C dM_within_14 hl 2 rfl ?_
      refine lv_goto (tgt := 19) C.1 C.2.1 dM_within_15 (by decide) ?_
      exact rReti C hG h dM_within_19
  · refine rIload_n C dM_within_5 hl 1 rfl ?_
    refine lv_goto (tgt := 19) C.1 C.2.1 dM_within_6 (by decide) ?_
    exact rReti C hG h dM_within_19
theorem dM_asksOf_0 : decode bM_asksOf 0 = .ok (.aload_n 0, 1) := by decide +kernel
theorem dM_asksOf_1 : decode bM_asksOf 1 = .ok (.getfield 58, 3) := by decide +kernel
theorem dM_asksOf_4 : decode bM_asksOf 4 = .ok (.iconst 0, 1) := by decide +kernel
theorem dM_asksOf_5 : decode bM_asksOf 5 = .ok (.aload_n 0, 1) := by decide +kernel
theorem dM_asksOf_6 : decode bM_asksOf 6 = .ok (.getfield 19, 3) := by decide +kernel
theorem dM_asksOf_9 : decode bM_asksOf 9 = .ok (.iconst 1, 1) := by decide +kernel
theorem dM_asksOf_10 : decode bM_asksOf 10 = .ok (.iaload, 1) := by decide +kernel
theorem dM_asksOf_11 : decode bM_asksOf 11 = .ok (.iastore, 1) := by decide +kernel
theorem dM_asksOf_12 : decode bM_asksOf 12 = .ok (.aload_n 0, 1) := by decide +kernel
theorem dM_asksOf_13 : decode bM_asksOf 13 = .ok (.getfield 58, 3) := by decide +kernel
theorem dM_asksOf_16 : decode bM_asksOf 16 = .ok (.iconst 1, 1) := by decide +kernel
theorem dM_asksOf_17 : decode bM_asksOf 17 = .ok (.aload_n 0, 1) := by decide +kernel
theorem dM_asksOf_18 : decode bM_asksOf 18 = .ok (.getfield 16, 3) := by decide +kernel
theorem dM_asksOf_21 : decode bM_asksOf 21 = .ok (.iconst 3, 1) := by decide +kernel
theorem dM_asksOf_22 : decode bM_asksOf 22 = .ok (.iload_n 2, 1) := by decide +kernel
theorem dM_asksOf_23 : decode bM_asksOf 23 = .ok (.imul, 1) := by decide +kernel
theorem dM_asksOf_24 : decode bM_asksOf 24 = .ok (.iconst 1, 1) := by decide +kernel
theorem dM_asksOf_25 : decode bM_asksOf 25 = .ok (.iadd, 1) := by decide +kernel
theorem dM_asksOf_26 : decode bM_asksOf 26 = .ok (.iaload, 1) := by decide +kernel
theorem dM_asksOf_27 : decode bM_asksOf 27 = .ok (.iastore, 1) := by decide +kernel
theorem dM_asksOf_28 : decode bM_asksOf 28 = .ok (.aload_n 0, 1) := by decide +kernel
theorem dM_asksOf_29 : decode bM_asksOf 29 = .ok (.getfield 58, 3) := by decide +kernel
theorem dM_asksOf_32 : decode bM_asksOf 32 = .ok (.iconst 2, 1) := by decide +kernel
theorem dM_asksOf_33 : decode bM_asksOf 33 = .ok (.aload_n 0, 1) := by decide +kernel
theorem dM_asksOf_34 : decode bM_asksOf 34 = .ok (.iload_n 2, 1) := by decide +kernel
theorem dM_asksOf_35 : decode bM_asksOf 35 = .ok (.invokevirtual 93, 3) := by decide +kernel
theorem dM_asksOf_38 : decode bM_asksOf 38 = .ok (.iastore, 1) := by decide +kernel
theorem dM_asksOf_39 : decode bM_asksOf 39 = .ok (.aload_n 0, 1) := by decide +kernel
theorem dM_asksOf_40 : decode bM_asksOf 40 = .ok (.getfield 58, 3) := by decide +kernel
theorem dM_asksOf_43 : decode bM_asksOf 43 = .ok (.iconst 3, 1) := by decide +kernel
theorem dM_asksOf_44 : decode bM_asksOf 44 = .ok (.aload_n 0, 1) := by decide +kernel
theorem dM_asksOf_45 : decode bM_asksOf 45 = .ok (.iload_n 2, 1) := by decide +kernel
theorem dM_asksOf_46 : decode bM_asksOf 46 = .ok (.invokevirtual 100, 3) := by decide +kernel
theorem dM_asksOf_49 : decode bM_asksOf 49 = .ok (.iastore, 1) := by decide +kernel
theorem dM_asksOf_50 : decode bM_asksOf 50 = .ok (.aload_n 0, 1) := by decide +kernel
theorem dM_asksOf_51 : decode bM_asksOf 51 = .ok (.getfield 58, 3) := by decide +kernel
theorem dM_asksOf_54 : decode bM_asksOf 54 = .ok (.iconst 4, 1) := by decide +kernel
theorem dM_asksOf_55 : decode bM_asksOf 55 = .ok (.aload_n 0, 1) := by decide +kernel
theorem dM_asksOf_56 : decode bM_asksOf 56 = .ok (.getfield 16, 3) := by decide +kernel
theorem dM_asksOf_59 : decode bM_asksOf 59 = .ok (.iconst 3, 1) := by decide +kernel
theorem dM_asksOf_60 : decode bM_asksOf 60 = .ok (.iload_n 2, 1) := by decide +kernel
theorem dM_asksOf_61 : decode bM_asksOf 61 = .ok (.imul, 1) := by decide +kernel
theorem dM_asksOf_62 : decode bM_asksOf 62 = .ok (.iconst 2, 1) := by decide +kernel
theorem dM_asksOf_63 : decode bM_asksOf 63 = .ok (.iadd, 1) := by decide +kernel
theorem dM_asksOf_64 : decode bM_asksOf 64 = .ok (.iaload, 1) := by decide +kernel
theorem dM_asksOf_65 : decode bM_asksOf 65 = .ok (.iastore, 1) := by decide +kernel
theorem dM_asksOf_66 : decode bM_asksOf 66 = .ok (.aload_n 0, 1) := by decide +kernel
theorem dM_asksOf_67 : decode bM_asksOf 67 = .ok (.getfield 58, 3) := by decide +kernel
theorem dM_asksOf_70 : decode bM_asksOf 70 = .ok (.iconst 5, 1) := by decide +kernel
theorem dM_asksOf_71 : decode bM_asksOf 71 = .ok (.aload_n 0, 1) := by decide +kernel
theorem dM_asksOf_72 : decode bM_asksOf 72 = .ok (.getfield 13, 3) := by decide +kernel
theorem dM_asksOf_75 : decode bM_asksOf 75 = .ok (.iload_n 2, 1) := by decide +kernel
theorem dM_asksOf_76 : decode bM_asksOf 76 = .ok (.iaload, 1) := by decide +kernel
theorem dM_asksOf_77 : decode bM_asksOf 77 = .ok (.iastore, 1) := by decide +kernel
theorem dM_asksOf_78 : decode bM_asksOf 78 = .ok (.aload_n 0, 1) := by decide +kernel
theorem dM_asksOf_79 : decode bM_asksOf 79 = .ok (.iload_n 1, 1) := by decide +kernel
theorem dM_asksOf_80 : decode bM_asksOf 80 = .ok (.invokevirtual 180, 3) := by decide +kernel
theorem dM_asksOf_83 : decode bM_asksOf 83 = .ok (.iload_n 1, 1) := by decide +kernel
theorem dM_asksOf_84 : decode bM_asksOf 84 = .ok (.iconst 1, 1) := by decide +kernel
theorem dM_asksOf_85 : decode bM_asksOf 85 = .ok (.if_icmp .ne 8, 3) := by decide +kernel
theorem dM_asksOf_88 : decode bM_asksOf 88 = .ok (.bipush (-99), 2) := by decide +kernel
theorem dM_asksOf_90 : decode bM_asksOf 90 = .ok (.goto 4, 3) := by decide +kernel
theorem dM_asksOf_93 : decode bM_asksOf 93 = .ok (.iconst 0, 1) := by decide +kernel
theorem dM_asksOf_94 : decode bM_asksOf 94 = .ok (.iload_n 1, 1) := by decide +kernel
theorem dM_asksOf_95 : decode bM_asksOf 95 = .ok (.iconst 1, 1) := by decide +kernel
theorem dM_asksOf_96 : decode bM_asksOf 96 = .ok (.if_icmp .ne 8, 3) := by decide +kernel
theorem dM_asksOf_99 : decode bM_asksOf 99 = .ok (.bipush 99, 2) := by decide +kernel
theorem dM_asksOf_101 : decode bM_asksOf 101 = .ok (.goto 5, 3) := by decide +kernel
theorem dM_asksOf_104 : decode bM_asksOf 104 = .ok (.bipush 11, 2) := by decide +kernel
theorem dM_asksOf_106 : decode bM_asksOf 106 = .ok (.invokestatic 183, 3) := by decide +kernel
theorem dM_asksOf_109 : decode bM_asksOf 109 = .ok (.ireturn, 1) := by decide +kernel
theorem wM_asksOf_106 {p : Program} {l : Launch} {e : Env} {s : State} {m : MethodId} {args : Array Value} {below : List Frame} {meth : Method} {c : Code} {G : GT} {I : List Nat} (C : CX p s m args meth c NM bM_asksOf 3 (some .int) G I) (hI : mI I) {fu : Nat} {R1 : Int32} {Z : Sg} {t0 : Int32} {t1 : Int32} {t2 : Int32} {z : Sg} {H : Heap} {locs : List Loc} {ls : Array Slot} (h : pM_asksOf_106 fu t0 t1 t2 z = some (R1, Z)) (hG : GW G I z s.heap H locs) (hl : lv_has ls 3 []) : W p l e rmM_asksOf s m args below meth c H locs 0 0 (MQ below (Qi G I R1 Z) args s 0 0 (AD G I)) (F0 m 106 ls [.int t2, .int t1, .int t0]) := by
  unfold pM_asksOf_106 at h
  refine rCSi [.int t0, .int t1, .int t2] [] C hG h (fun h => cM_within hI h) mvM_within k_975 ⟨Nat.le_of_ble_eq_true rfl, Nat.le_of_ble_eq_true rfl⟩ ⟨rfl, rfl⟩ rfl hl.1 (Nat.le_of_ble_eq_true rfl) dM_asksOf_106 ⟨Nat.zero_le _, Nat.zero_le _⟩ rfl (fun H locs x14 z13 h hG => ?_)
  exact rReti C hG h dM_asksOf_109
theorem wM_asksOf_94 {p : Program} {l : Launch} {e : Env} {s : State} {m : MethodId} {args : Array Value} {below : List Frame} {meth : Method} {c : Code} {G : GT} {I : List Nat} (C : CX p s m args meth c NM bM_asksOf 3 (some .int) G I) (hI : mI I) {fu : Nat} {R1 : Int32} {Z : Sg} {v1 : Int32} {t0 : Int32} {t1 : Int32} {z : Sg} {H : Heap} {locs : List Loc} {ls : Array Slot} (h : pM_asksOf_94 fu v1 t0 t1 z = some (R1, Z)) (hG : GW G I z s.heap H locs) (hl : lv_has ls 3 [(1, .int v1)]) : W p l e rmM_asksOf s m args below meth c H locs 0 0 (MQ below (Qi G I R1 Z) args s 0 0 (AD G I)) (F0 m 94 ls [.int t1, .int t0]) := by
  unfold pM_asksOf_94 at h
  refine rIload_n C dM_asksOf_94 hl 0 rfl ?_
  refine lv_iconst (v := 1) C.1 C.2.1 dM_asksOf_95 (by decide) ?_
  refine rIcmpne C (tgt := 104) h dM_asksOf_96 (by decide) (fun h => ?_) (fun h => ?_)
  · refine lv_bipush (v := 11) C.1 C.2.1 dM_asksOf_104 (by decide) ?_
    exact wM_asksOf_106 C hI h hG (lv_sub hl [] rfl)
  · refine lv_bipush (v := 99) C.1 C.2.1 dM_asksOf_99 (by decide) ?_
    refine lv_goto (tgt := 106) C.1 C.2.1 dM_asksOf_101 (by decide) ?_
    exact wM_asksOf_106 C hI h hG (lv_sub hl [] rfl)
theorem cM_asksOf {l : Launch} {G : GT} {I : List Nat} (hI : mI I) {fu : Nat} {v1 : Int32} {v2 : Int32} {z : Sg} {R1 : Int32} {Z : Sg} (h : pM_asksOf fu v1 v2 z = some (R1, Z)) : Mt l yM_asksOf rmM_asksOf bM_asksOf 3 (some .int) G I z [.ref (gA G 78), .int v1, .int v2] (Qi G I R1 Z) := by
  refine entM (by decide +kernel) (Nat.le_of_ble_eq_true rfl) ?_
  intro p e s m below meth c C hG ls hl
  have hl : lv_has ls 3 [(0, .ref (gA G 78)), (1, .int v1), (2, .int v2)] := hl
  unfold pM_asksOf at h
  refine rAload_n C dM_asksOf_0 hl 0 rfl ?_
  refine rGet C hG (hI 78 (by decide) (by decide)) e_78 fiM_28 (v := .ref (gA G 95)) rfl k_834 dM_asksOf_1 ?_
  refine lv_iconst (v := 0) C.1 C.2.1 dM_asksOf_4 (by decide) ?_
  refine rAload_n C dM_asksOf_5 hl 0 rfl ?_
  refine rGet C hG (hI 78 (by decide) (by decide)) e_78 fiM_4 (v := .ref (gA G 82)) rfl k_810 dM_asksOf_6 ?_
  refine lv_iconst (v := 1) C.1 C.2.1 dM_asksOf_9 (by decide) ?_
  refine rIaldK C hG (hI 82 (by decide) (by decide)) e_82 1 (by decide) (by decide) dM_asksOf_10 ?_
  refine rIastK C hG (hI 95 (by decide) (by decide)) e_95 0 (by decide) (by decide) h dM_asksOf_11 (fun H locs z1 h hG => ?_)
  refine rAload_n C dM_asksOf_12 hl 0 rfl ?_
  refine rGet C hG (hI 78 (by decide) (by decide)) e_78 fiM_28 (v := .ref (gA G 95)) rfl k_834 dM_asksOf_13 ?_
  refine lv_iconst (v := 1) C.1 C.2.1 dM_asksOf_16 (by decide) ?_
  refine rAload_n C dM_asksOf_17 hl 0 rfl ?_
  refine rGet C hG (hI 78 (by decide) (by decide)) e_78 fiM_3 (v := .ref (gA G 81)) rfl k_809 dM_asksOf_18 ?_
  refine lv_iconst (v := 3) C.1 C.2.1 dM_asksOf_21 (by decide) ?_
  refine rIload_n C dM_asksOf_22 hl 2 rfl ?_
  refine lv_imul C.1 C.2.1 dM_asksOf_23 ?_
  refine lv_iconst (v := 1) C.1 C.2.1 dM_asksOf_24 (by decide) ?_
  refine lv_iadd C.1 C.2.1 dM_asksOf_25 ?_
  refine rIald C hG (hI 81 (by decide) (by decide)) e_81 h dM_asksOf_26 (fun h => ?_)
  refine rIastK C hG (hI 95 (by decide) (by decide)) e_95 1 (by decide) (by decide) h dM_asksOf_27 (fun H locs z2 h hG => ?_)
  refine rAload_n C dM_asksOf_28 hl 0 rfl ?_
  refine rGet C hG (hI 78 (by decide) (by decide)) e_78 fiM_28 (v := .ref (gA G 95)) rfl k_834 dM_asksOf_29 ?_
  refine lv_iconst (v := 2) C.1 C.2.1 dM_asksOf_32 (by decide) ?_
  refine rAload_n C dM_asksOf_33 hl 0 rfl ?_
  refine rIload_n C dM_asksOf_34 hl 2 rfl ?_
  refine rCVi [.int v2] [.int 2, .ref (gA G 95)] C hG h (fun h => cM_leftOf hI h) mvM_leftOf k_956 ⟨Nat.le_of_ble_eq_true rfl, Nat.le_of_ble_eq_true rfl⟩ ⟨rfl, rfl⟩ (rRecv C hG (hI 78 (by decide) (by decide)) e_78 rfl) rfl hl.1 (Nat.le_of_ble_eq_true rfl) dM_asksOf_35 ⟨Nat.zero_le _, Nat.zero_le _⟩ rfl (fun H locs x4 z3 h hG => ?_)
  refine rIastK C hG (hI 95 (by decide) (by decide)) e_95 2 (by decide) (by decide) h dM_asksOf_38 (fun H locs z5 h hG => ?_)
  refine rAload_n C dM_asksOf_39 hl 0 rfl ?_
  refine rGet C hG (hI 78 (by decide) (by decide)) e_78 fiM_28 (v := .ref (gA G 95)) rfl k_834 dM_asksOf_40 ?_
  refine lv_iconst (v := 3) C.1 C.2.1 dM_asksOf_43 (by decide) ?_
  refine rAload_n C dM_asksOf_44 hl 0 rfl ?_
  refine rIload_n C dM_asksOf_45 hl 2 rfl ?_
  refine rCVi [.int v2] [.int 3, .ref (gA G 95)] C hG h (fun h => cM_rightOf hI h) mvM_rightOf k_964 ⟨Nat.le_of_ble_eq_true rfl, Nat.le_of_ble_eq_true rfl⟩ ⟨rfl, rfl⟩ (rRecv C hG (hI 78 (by decide) (by decide)) e_78 rfl) rfl hl.1 (Nat.le_of_ble_eq_true rfl) dM_asksOf_46 ⟨Nat.zero_le _, Nat.zero_le _⟩ rfl (fun H locs x7 z6 h hG => ?_)
  refine rIastK C hG (hI 95 (by decide) (by decide)) e_95 3 (by decide) (by decide) h dM_asksOf_49 (fun H locs z8 h hG => ?_)
  refine rAload_n C dM_asksOf_50 hl 0 rfl ?_
  refine rGet C hG (hI 78 (by decide) (by decide)) e_78 fiM_28 (v := .ref (gA G 95)) rfl k_834 dM_asksOf_51 ?_
  refine lv_iconst (v := 4) C.1 C.2.1 dM_asksOf_54 (by decide) ?_
  refine rAload_n C dM_asksOf_55 hl 0 rfl ?_
  refine rGet C hG (hI 78 (by decide) (by decide)) e_78 fiM_3 (v := .ref (gA G 81)) rfl k_809 dM_asksOf_56 ?_
  refine lv_iconst (v := 3) C.1 C.2.1 dM_asksOf_59 (by decide) ?_
  refine rIload_n C dM_asksOf_60 hl 2 rfl ?_
  refine lv_imul C.1 C.2.1 dM_asksOf_61 ?_
  refine lv_iconst (v := 2) C.1 C.2.1 dM_asksOf_62 (by decide) ?_
  refine lv_iadd C.1 C.2.1 dM_asksOf_63 ?_
  refine rIald C hG (hI 81 (by decide) (by decide)) e_81 h dM_asksOf_64 (fun h => ?_)
  refine rIastK C hG (hI 95 (by decide) (by decide)) e_95 4 (by decide) (by decide) h dM_asksOf_65 (fun H locs z9 h hG => ?_)
  refine rAload_n C dM_asksOf_66 hl 0 rfl ?_
  refine rGet C hG (hI 78 (by decide) (by decide)) e_78 fiM_28 (v := .ref (gA G 95)) rfl k_834 dM_asksOf_67 ?_
  refine lv_iconst (v := 5) C.1 C.2.1 dM_asksOf_70 (by decide) ?_
  refine rAload_n C dM_asksOf_71 hl 0 rfl ?_
  refine rGet C hG (hI 78 (by decide) (by decide)) e_78 fiM_2 (v := .ref (gA G 80)) rfl k_808 dM_asksOf_72 ?_
  refine rIload_n C dM_asksOf_75 hl 2 rfl ?_
  refine rIald C hG (hI 80 (by decide) (by decide)) e_80 h dM_asksOf_76 (fun h => ?_)
  refine rIastK C hG (hI 95 (by decide) (by decide)) e_95 5 (by decide) (by decide) h dM_asksOf_77 (fun H locs z10 h hG => ?_)
  refine rAload_n C dM_asksOf_78 hl 0 rfl ?_
  refine rIload_n C dM_asksOf_79 hl 1 rfl ?_
  refine rCVi [.int v1] [] C hG h (fun h => cM_says hI h) mvM_says k_968 ⟨Nat.le_of_ble_eq_true rfl, Nat.le_of_ble_eq_true rfl⟩ ⟨rfl, rfl⟩ (rRecv C hG (hI 78 (by decide) (by decide)) e_78 rfl) rfl hl.1 (Nat.le_of_ble_eq_true rfl) dM_asksOf_80 ⟨Nat.zero_le _, Nat.zero_le _⟩ rfl (fun H locs x12 z11 h hG => ?_)
  refine rIload_n C dM_asksOf_83 hl 1 rfl ?_
  refine lv_iconst (v := 1) C.1 C.2.1 dM_asksOf_84 (by decide) ?_
  refine rIcmpne C (tgt := 93) h dM_asksOf_85 (by decide) (fun h => ?_) (fun h => ?_)
  · refine lv_iconst (v := 0) C.1 C.2.1 dM_asksOf_93 (by decide) ?_
    exact wM_asksOf_94 C hI h hG (lv_sub hl [1] rfl)
  · refine lv_bipush (v := (-99)) C.1 C.2.1 dM_asksOf_88 (by decide) ?_
    refine lv_goto (tgt := 94) C.1 C.2.1 dM_asksOf_90 (by decide) ?_
    exact wM_asksOf_94 C hI h hG (lv_sub hl [1] rfl)
theorem dM_asks_0 : decode bM_asks 0 = .ok (.iload_n 1, 1) := by decide +kernel
theorem dM_asks_1 : decode bM_asks 1 = .ok (.iconst 0, 1) := by decide +kernel
theorem dM_asks_2 : decode bM_asks 2 = .ok (.iconst 2, 1) := by decide +kernel
theorem dM_asks_3 : decode bM_asks 3 = .ok (.invokestatic 81, 3) := by decide +kernel
theorem dM_asks_6 : decode bM_asks 6 = .ok (.ifCond .eq 20, 3) := by decide +kernel
theorem dM_asks_9 : decode bM_asks 9 = .ok (.aload_n 0, 1) := by decide +kernel
theorem dM_asks_10 : decode bM_asks 10 = .ok (.iload_n 2, 1) := by decide +kernel
theorem dM_asks_11 : decode bM_asks 11 = .ok (.invokevirtual 186, 3) := by decide +kernel
theorem dM_asks_14 : decode bM_asks 14 = .ok (.ifCond .eq 12, 3) := by decide +kernel
theorem dM_asks_17 : decode bM_asks 17 = .ok (.aload_n 0, 1) := by decide +kernel
theorem dM_asks_18 : decode bM_asks 18 = .ok (.iload_n 1, 1) := by decide +kernel
theorem dM_asks_19 : decode bM_asks 19 = .ok (.iload_n 2, 1) := by decide +kernel
theorem dM_asks_20 : decode bM_asks 20 = .ok (.invokevirtual 189, 3) := by decide +kernel
theorem dM_asks_23 : decode bM_asks 23 = .ok (.goto 6, 3) := by decide +kernel
theorem dM_asks_26 : decode bM_asks 26 = .ok (.sipush (-1000), 3) := by decide +kernel
theorem dM_asks_29 : decode bM_asks 29 = .ok (.ireturn, 1) := by decide +kernel
theorem cM_asks {l : Launch} {G : GT} {I : List Nat} (hI : mI I) {fu : Nat} {v1 : Int32} {v2 : Int32} {z : Sg} {R1 : Int32} {Z : Sg} (h : pM_asks fu v1 v2 z = some (R1, Z)) : Mt l yM_asks rmM_asks bM_asks 3 (some .int) G I z [.ref (gA G 78), .int v1, .int v2] (Qi G I R1 Z) := by
  refine entM (by decide +kernel) (Nat.le_of_ble_eq_true rfl) ?_
  intro p e s m below meth c C hG ls hl
  have hl : lv_has ls 3 [(0, .ref (gA G 78)), (1, .int v1), (2, .int v2)] := hl
  unfold pM_asks at h
  refine rIload_n C dM_asks_0 hl 1 rfl ?_
  refine lv_iconst (v := 0) C.1 C.2.1 dM_asks_1 (by decide) ?_
  refine lv_iconst (v := 2) C.1 C.2.1 dM_asks_2 (by decide) ?_
  refine rCSi [.int v1, .int 0, .int 2] [] C hG h (fun h => cM_in hI h) mvM_in k_767 ⟨Nat.le_of_ble_eq_true rfl, Nat.le_of_ble_eq_true rfl⟩ ⟨rfl, rfl⟩ rfl hl.1 (Nat.le_of_ble_eq_true rfl) dM_asks_3 ⟨Nat.zero_le _, Nat.zero_le _⟩ rfl (fun H locs x2 z1 h hG => ?_)
  refine rIfeq C (tgt := 26) h dM_asks_6 (by decide) (fun h => ?_) (fun h => ?_)
  · refine lv_sipush (v := (-1000)) C.1 C.2.1 dM_asks_26 (by decide) ?_
    exact rReti C hG h dM_asks_29
  · refine rAload_n C dM_asks_9 hl 0 rfl ?_
    refine rIload_n C dM_asks_10 hl 2 rfl ?_
    refine rCVi [.int v2] [] C hG h (fun h => cM_isOne hI h) mvM_isOne k_948 ⟨Nat.le_of_ble_eq_true rfl, Nat.le_of_ble_eq_true rfl⟩ ⟨rfl, rfl⟩ (rRecv C hG (hI 78 (by decide) (by decide)) e_78 rfl) rfl hl.1 (Nat.le_of_ble_eq_true rfl) dM_asks_11 ⟨Nat.zero_le _, Nat.zero_le _⟩ rfl (fun H locs x4 z3 h hG => ?_)
    refine rIfeq C (tgt := 26) h dM_asks_14 (by decide) (fun h => ?_) (fun h => ?_)
    · refine lv_sipush (v := (-1000)) C.1 C.2.1 dM_asks_26 (by decide) ?_
      exact rReti C hG h dM_asks_29
    · refine rAload_n C dM_asks_17 hl 0 rfl ?_
      refine rIload_n C dM_asks_18 hl 1 rfl ?_
      refine rIload_n C dM_asks_19 hl 2 rfl ?_
      refine rCVi [.int v1, .int v2] [] C hG h (fun h => cM_asksOf hI h) mvM_asksOf k_952 ⟨Nat.le_of_ble_eq_true rfl, Nat.le_of_ble_eq_true rfl⟩ ⟨rfl, rfl⟩ (rRecv C hG (hI 78 (by decide) (by decide)) e_78 rfl) rfl hl.1 (Nat.le_of_ble_eq_true rfl) dM_asks_20 ⟨Nat.zero_le _, Nat.zero_le _⟩ rfl (fun H locs x6 z5 h hG => ?_)
      refine lv_goto (tgt := 29) C.1 C.2.1 dM_asks_23 (by decide) ?_
      exact rReti C hG h dM_asks_29
theorem dM_isFree_0 : decode bM_isFree 0 = .ok (.iload_n 1, 1) := by decide +kernel
theorem dM_isFree_1 : decode bM_isFree 1 = .ok (.iconst 0, 1) := by decide +kernel
theorem dM_isFree_2 : decode bM_isFree 2 = .ok (.bipush 9, 2) := by decide +kernel
theorem dM_isFree_4 : decode bM_isFree 4 = .ok (.invokestatic 81, 3) := by decide +kernel
theorem dM_isFree_7 : decode bM_isFree 7 = .ok (.ifCond .eq 26, 3) := by decide +kernel
theorem dM_isFree_10 : decode bM_isFree 10 = .ok (.iload_n 1, 1) := by decide +kernel
theorem dM_isFree_11 : decode bM_isFree 11 = .ok (.aload_n 0, 1) := by decide +kernel
theorem dM_isFree_12 : decode bM_isFree 12 = .ok (.getfield 19, 3) := by decide +kernel
theorem dM_isFree_15 : decode bM_isFree 15 = .ok (.iconst 0, 1) := by decide +kernel
theorem dM_isFree_16 : decode bM_isFree 16 = .ok (.iaload, 1) := by decide +kernel
theorem dM_isFree_17 : decode bM_isFree 17 = .ok (.if_icmp .eq 16, 3) := by decide +kernel
theorem dM_isFree_20 : decode bM_isFree 20 = .ok (.aload_n 0, 1) := by decide +kernel
theorem dM_isFree_21 : decode bM_isFree 21 = .ok (.iload_n 1, 1) := by decide +kernel
theorem dM_isFree_22 : decode bM_isFree 22 = .ok (.invokevirtual 85, 3) := by decide +kernel
theorem dM_isFree_25 : decode bM_isFree 25 = .ok (.iconst (-1), 1) := by decide +kernel
theorem dM_isFree_26 : decode bM_isFree 26 = .ok (.if_icmp .ne 7, 3) := by decide +kernel
theorem dM_isFree_29 : decode bM_isFree 29 = .ok (.iconst 1, 1) := by decide +kernel
theorem dM_isFree_30 : decode bM_isFree 30 = .ok (.goto 4, 3) := by decide +kernel
theorem dM_isFree_33 : decode bM_isFree 33 = .ok (.iconst 0, 1) := by decide +kernel
theorem dM_isFree_34 : decode bM_isFree 34 = .ok (.ireturn, 1) := by decide +kernel
theorem cM_isFree {l : Launch} {G : GT} {I : List Nat} (hI : mI I) {fu : Nat} {v1 : Int32} {z : Sg} {R1 : Int32} {Z : Sg} (h : pM_isFree fu v1 z = some (R1, Z)) : Mt l yM_isFree rmM_isFree bM_isFree 2 (some .boolean) G I z [.ref (gA G 78), .int v1] (Qi G I R1 Z) := by
  refine entM (by decide +kernel) (Nat.le_of_ble_eq_true rfl) ?_
  intro p e s m below meth c C hG ls hl
  have hl : lv_has ls 2 [(0, .ref (gA G 78)), (1, .int v1)] := hl
  unfold pM_isFree at h
  refine rIload_n C dM_isFree_0 hl 1 rfl ?_
  refine lv_iconst (v := 0) C.1 C.2.1 dM_isFree_1 (by decide) ?_
  refine lv_bipush (v := 9) C.1 C.2.1 dM_isFree_2 (by decide) ?_
  refine rCSi [.int v1, .int 0, .int 9] [] C hG h (fun h => cM_in hI h) mvM_in k_767 ⟨Nat.le_of_ble_eq_true rfl, Nat.le_of_ble_eq_true rfl⟩ ⟨rfl, rfl⟩ rfl hl.1 (Nat.le_of_ble_eq_true rfl) dM_isFree_4 ⟨Nat.zero_le _, Nat.zero_le _⟩ rfl (fun H locs x2 z1 h hG => ?_)
  refine rIfeq C (tgt := 33) h dM_isFree_7 (by decide) (fun h => ?_) (fun h => ?_)
  · refine lv_iconst (v := 0) C.1 C.2.1 dM_isFree_33 (by decide) ?_
    exact rRetn C hG (ty := .boolean) rfl rfl h dM_isFree_34
  · refine rIload_n C dM_isFree_10 hl 1 rfl ?_
    refine rAload_n C dM_isFree_11 hl 0 rfl ?_
    refine rGet C hG (hI 78 (by decide) (by decide)) e_78 fiM_4 (v := .ref (gA G 82)) rfl k_810 dM_isFree_12 ?_
    refine lv_iconst (v := 0) C.1 C.2.1 dM_isFree_15 (by decide) ?_
    refine rIaldK C hG (hI 82 (by decide) (by decide)) e_82 0 (by decide) (by decide) dM_isFree_16 ?_
    refine rIcmpeq C (tgt := 33) h dM_isFree_17 (by decide) (fun h => ?_) (fun h => ?_)
    · refine lv_iconst (v := 0) C.1 C.2.1 dM_isFree_33 (by decide) ?_
      exact rRetn C hG (ty := .boolean) rfl rfl h dM_isFree_34
    · refine rAload_n C dM_isFree_20 hl 0 rfl ?_
      refine rIload_n C dM_isFree_21 hl 1 rfl ?_
      refine rCVi [.int v1] [] C hG h (fun h => cM_whoAt hI h) mvM_whoAt k_924 ⟨Nat.le_of_ble_eq_true rfl, Nat.le_of_ble_eq_true rfl⟩ ⟨rfl, rfl⟩ (rRecv C hG (hI 78 (by decide) (by decide)) e_78 rfl) rfl hl.1 (Nat.le_of_ble_eq_true rfl) dM_isFree_22 ⟨Nat.zero_le _, Nat.zero_le _⟩ rfl (fun H locs x4 z3 h hG => ?_)
      refine lv_iconst (v := (-1)) C.1 C.2.1 dM_isFree_25 (by decide) ?_
      refine rIcmpne C (tgt := 33) h dM_isFree_26 (by decide) (fun h => ?_) (fun h => ?_)
      · refine lv_iconst (v := 0) C.1 C.2.1 dM_isFree_33 (by decide) ?_
        exact rRetn C hG (ty := .boolean) rfl rfl h dM_isFree_34
      · refine lv_iconst (v := 1) C.1 C.2.1 dM_isFree_29 (by decide) ?_
        refine lv_goto (tgt := 34) C.1 C.2.1 dM_isFree_30 (by decide) ?_
        exact rRetn C hG (ty := .boolean) rfl rfl h dM_isFree_34
theorem dM_mower_0 : decode bM_mower 0 = .ok (.iload_n 1, 1) := by decide +kernel
theorem dM_mower_1 : decode bM_mower 1 = .ok (.iconst 0, 1) := by decide +kernel
theorem dM_mower_2 : decode bM_mower 2 = .ok (.bipush 59, 2) := by decide +kernel
theorem dM_mower_4 : decode bM_mower 4 = .ok (.invokestatic 81, 3) := by decide +kernel
theorem dM_mower_7 : decode bM_mower 7 = .ok (.ifCond .eq 27, 3) := by decide +kernel
theorem dM_mower_10 : decode bM_mower 10 = .ok (.iload_n 2, 1) := by decide +kernel
theorem dM_mower_11 : decode bM_mower 11 = .ok (.iconst 0, 1) := by decide +kernel
theorem dM_mower_12 : decode bM_mower 12 = .ok (.sipush 911, 3) := by decide +kernel
theorem dM_mower_15 : decode bM_mower 15 = .ok (.invokestatic 81, 3) := by decide +kernel
theorem dM_mower_18 : decode bM_mower 18 = .ok (.ifCond .eq 16, 3) := by decide +kernel
theorem dM_mower_21 : decode bM_mower 21 = .ok (.iload_n 2, 1) := by decide +kernel
theorem dM_mower_22 : decode bM_mower 22 = .ok (.bipush 100, 2) := by decide +kernel
theorem dM_mower_24 : decode bM_mower 24 = .ok (.irem, 1) := by decide +kernel
theorem dM_mower_25 : decode bM_mower 25 = .ok (.bipush 12, 2) := by decide +kernel
theorem dM_mower_27 : decode bM_mower 27 = .ok (.if_icmp .ge 7, 3) := by decide +kernel
theorem dM_mower_30 : decode bM_mower 30 = .ok (.iconst 1, 1) := by decide +kernel
theorem dM_mower_31 : decode bM_mower 31 = .ok (.goto 4, 3) := by decide +kernel
theorem dM_mower_34 : decode bM_mower 34 = .ok (.iconst 0, 1) := by decide +kernel
theorem dM_mower_35 : decode bM_mower 35 = .ok (.istore_n 3, 1) := by decide +kernel
theorem dM_mower_36 : decode bM_mower 36 = .ok (.iload_n 3, 1) := by decide +kernel
theorem dM_mower_37 : decode bM_mower 37 = .ok (.ifCond .eq 14, 3) := by decide +kernel
theorem dM_mower_40 : decode bM_mower 40 = .ok (.aload_n 0, 1) := by decide +kernel
theorem dM_mower_41 : decode bM_mower 41 = .ok (.iload_n 2, 1) := by decide +kernel
theorem dM_mower_42 : decode bM_mower 42 = .ok (.bipush 100, 2) := by decide +kernel
theorem dM_mower_44 : decode bM_mower 44 = .ok (.idiv, 1) := by decide +kernel
theorem dM_mower_45 : decode bM_mower 45 = .ok (.invokevirtual 192, 3) := by decide +kernel
theorem dM_mower_48 : decode bM_mower 48 = .ok (.ifCond .ne 6, 3) := by decide +kernel
theorem dM_mower_51 : decode bM_mower 51 = .ok (.bipush (-2), 2) := by decide +kernel
theorem dM_mower_53 : decode bM_mower 53 = .ok (.ireturn, 1) := by decide +kernel
theorem dM_mower_54 : decode bM_mower 54 = .ok (.aload_n 0, 1) := by decide +kernel
theorem dM_mower_55 : decode bM_mower 55 = .ok (.getfield 78, 3) := by decide +kernel
theorem dM_mower_58 : decode bM_mower 58 = .ok (.bipush 6, 2) := by decide +kernel
theorem dM_mower_60 : decode bM_mower 60 = .ok (.if_icmp .ne 6, 3) := by decide +kernel
theorem dM_mower_63 : decode bM_mower 63 = .ok (.bipush (-4), 2) := by decide +kernel
theorem dM_mower_65 : decode bM_mower 65 = .ok (.ireturn, 1) := by decide +kernel
theorem dM_mower_66 : decode bM_mower 66 = .ok (.aload_n 0, 1) := by decide +kernel
theorem dM_mower_67 : decode bM_mower 67 = .ok (.getfield 7, 3) := by decide +kernel
theorem dM_mower_70 : decode bM_mower 70 = .ok (.aload_n 0, 1) := by decide +kernel
theorem dM_mower_71 : decode bM_mower 71 = .ok (.getfield 78, 3) := by decide +kernel
theorem dM_mower_74 : decode bM_mower 74 = .ok (.iload_n 1, 1) := by decide +kernel
theorem dM_mower_75 : decode bM_mower 75 = .ok (.bipush 10, 2) := by decide +kernel
theorem dM_mower_77 : decode bM_mower 77 = .ok (.idiv, 1) := by decide +kernel
theorem dM_mower_78 : decode bM_mower 78 = .ok (.iastore, 1) := by decide +kernel
theorem dM_mower_79 : decode bM_mower 79 = .ok (.aload_n 0, 1) := by decide +kernel
theorem dM_mower_80 : decode bM_mower 80 = .ok (.getfield 13, 3) := by decide +kernel
theorem dM_mower_83 : decode bM_mower 83 = .ok (.aload_n 0, 1) := by decide +kernel
theorem dM_mower_84 : decode bM_mower 84 = .ok (.getfield 78, 3) := by decide +kernel
theorem dM_mower_87 : decode bM_mower 87 = .ok (.iload_n 1, 1) := by decide +kernel
theorem dM_mower_88 : decode bM_mower 88 = .ok (.bipush 10, 2) := by decide +kernel
theorem dM_mower_90 : decode bM_mower 90 = .ok (.irem, 1) := by decide +kernel
theorem dM_mower_91 : decode bM_mower 91 = .ok (.iastore, 1) := by decide +kernel
theorem dM_mower_92 : decode bM_mower 92 = .ok (.aload_n 0, 1) := by decide +kernel
theorem dM_mower_93 : decode bM_mower 93 = .ok (.getfield 16, 3) := by decide +kernel
theorem dM_mower_96 : decode bM_mower 96 = .ok (.iconst 3, 1) := by decide +kernel
theorem dM_mower_97 : decode bM_mower 97 = .ok (.aload_n 0, 1) := by decide +kernel
theorem dM_mower_98 : decode bM_mower 98 = .ok (.getfield 78, 3) := by decide +kernel
theorem dM_mower_101 : decode bM_mower 101 = .ok (.imul, 1) := by decide +kernel
theorem dM_mower_102 : decode bM_mower 102 = .ok (.iload_n 2, 1) := by decide +kernel
theorem dM_mower_103 : decode bM_mower 103 = .ok (.bipush 100, 2) := by decide +kernel
theorem dM_mower_105 : decode bM_mower 105 = .ok (.idiv, 1) := by decide +kernel
theorem dM_mower_106 : decode bM_mower 106 = .ok (.iastore, 1) := by decide +kernel
theorem dM_mower_107 : decode bM_mower 107 = .ok (.aload_n 0, 1) := by decide +kernel
theorem dM_mower_108 : decode bM_mower 108 = .ok (.getfield 16, 3) := by decide +kernel
theorem dM_mower_111 : decode bM_mower 111 = .ok (.iconst 3, 1) := by decide +kernel
theorem dM_mower_112 : decode bM_mower 112 = .ok (.aload_n 0, 1) := by decide +kernel
theorem dM_mower_113 : decode bM_mower 113 = .ok (.getfield 78, 3) := by decide +kernel
theorem dM_mower_116 : decode bM_mower 116 = .ok (.imul, 1) := by decide +kernel
theorem dM_mower_117 : decode bM_mower 117 = .ok (.iconst 1, 1) := by decide +kernel
theorem dM_mower_118 : decode bM_mower 118 = .ok (.iadd, 1) := by decide +kernel
theorem dM_mower_119 : decode bM_mower 119 = .ok (.iload_n 2, 1) := by decide +kernel
theorem dM_mower_120 : decode bM_mower 120 = .ok (.bipush 100, 2) := by decide +kernel
theorem dM_mower_122 : decode bM_mower 122 = .ok (.irem, 1) := by decide +kernel
theorem dM_mower_123 : decode bM_mower 123 = .ok (.iastore, 1) := by decide +kernel
theorem dM_mower_124 : decode bM_mower 124 = .ok (.aload_n 0, 1) := by decide +kernel
theorem dM_mower_125 : decode bM_mower 125 = .ok (.getfield 16, 3) := by decide +kernel
theorem dM_mower_128 : decode bM_mower 128 = .ok (.iconst 3, 1) := by decide +kernel
theorem dM_mower_129 : decode bM_mower 129 = .ok (.aload_n 0, 1) := by decide +kernel
theorem dM_mower_130 : decode bM_mower 130 = .ok (.getfield 78, 3) := by decide +kernel
theorem dM_mower_133 : decode bM_mower 133 = .ok (.imul, 1) := by decide +kernel
theorem dM_mower_134 : decode bM_mower 134 = .ok (.iconst 2, 1) := by decide +kernel
theorem dM_mower_135 : decode bM_mower 135 = .ok (.iadd, 1) := by decide +kernel
theorem dM_mower_136 : decode bM_mower 136 = .ok (.iconst 0, 1) := by decide +kernel
theorem dM_mower_137 : decode bM_mower 137 = .ok (.iastore, 1) := by decide +kernel
theorem dM_mower_138 : decode bM_mower 138 = .ok (.aload_n 0, 1) := by decide +kernel
theorem dM_mower_139 : decode bM_mower 139 = .ok (.dup, 1) := by decide +kernel
theorem dM_mower_140 : decode bM_mower 140 = .ok (.getfield 78, 3) := by decide +kernel
theorem dM_mower_143 : decode bM_mower 143 = .ok (.iconst 1, 1) := by decide +kernel
theorem dM_mower_144 : decode bM_mower 144 = .ok (.iadd, 1) := by decide +kernel
theorem dM_mower_145 : decode bM_mower 145 = .ok (.putfield 78, 3) := by decide +kernel
theorem dM_mower_148 : decode bM_mower 148 = .ok (.aload_n 0, 1) := by decide +kernel
theorem dM_mower_149 : decode bM_mower 149 = .ok (.getfield 78, 3) := by decide +kernel
theorem dM_mower_152 : decode bM_mower 152 = .ok (.iconst 1, 1) := by decide +kernel
theorem dM_mower_153 : decode bM_mower 153 = .ok (.isub, 1) := by decide +kernel
theorem dM_mower_154 : decode bM_mower 154 = .ok (.ireturn, 1) := by decide +kernel
theorem wM_mower_35 {p : Program} {l : Launch} {e : Env} {s : State} {m : MethodId} {args : Array Value} {below : List Frame} {meth : Method} {c : Code} {G : GT} {I : List Nat} (C : CX p s m args meth c NM bM_mower 4 (some .int) G I) (hI : mI I) {fu : Nat} {R1 : Int32} {Z : Sg} {v1 : Int32} {v2 : Int32} {t0 : Int32} {z : Sg} {H : Heap} {locs : List Loc} {ls : Array Slot} (h : pM_mower_35 fu v1 v2 t0 z = some (R1, Z)) (hG : GW G I z s.heap H locs) (hl : lv_has ls 4 [(0, .ref (gA G 78)), (1, .int v1), (2, .int v2)]) : W p l e rmM_mower s m args below meth c H locs 0 0 (MQ below (Qi G I R1 Z) args s 0 0 (AD G I)) (F0 m 35 ls [.int t0]) := by
  unfold pM_mower_35 at h
  refine rIstoreA_n C dM_mower_35 hl (by decide) [(0, .ref (gA G 78)), (1, .int v1), (2, .int v2)] rfl (fun ls hl => ?_)
  refine rIload_n C dM_mower_36 hl 0 rfl ?_
  refine rIfeq C (tgt := 51) h dM_mower_37 (by decide) (fun h => ?_) (fun h => ?_)
  · refine lv_bipush (v := (-2)) C.1 C.2.1 dM_mower_51 (by decide) ?_
    exact rReti C hG h dM_mower_53
  · refine rAload_n C dM_mower_40 hl 1 rfl ?_
    refine rIload_n C dM_mower_41 hl 3 rfl ?_
    refine lv_bipush (v := 100) C.1 C.2.1 dM_mower_42 (by decide) ?_
    refine lv_idiv C.1 C.2.1 dM_mower_44 (by decide) ?_
    refine rCVi [.int (v2 / 100)] [] C hG h (fun h => cM_isFree hI h) mvM_isFree k_982 ⟨Nat.le_of_ble_eq_true rfl, Nat.le_of_ble_eq_true rfl⟩ ⟨rfl, rfl⟩ (rRecv C hG (hI 78 (by decide) (by decide)) e_78 rfl) rfl hl.1 (Nat.le_of_ble_eq_true rfl) dM_mower_45 ⟨Nat.zero_le _, Nat.zero_le _⟩ rfl (fun H locs x6 z5 h hG => ?_)
    refine rIfne C (tgt := 54) h dM_mower_48 (by decide) (fun h => ?_) (fun h => ?_)
    · refine rAload_n C dM_mower_54 hl 1 rfl ?_
      refine rGet C hG (hI 78 (by decide) (by decide)) e_78 fiM_0 (v := .int (z5 78 0)) rfl k_806 dM_mower_55 ?_
      refine lv_bipush (v := 6) C.1 C.2.1 dM_mower_58 (by decide) ?_
      refine rIcmpne C (tgt := 66) h dM_mower_60 (by decide) (fun h => ?_) (fun h => ?_)
      · refine rAload_n C dM_mower_66 hl 1 rfl ?_
        refine rGet C hG (hI 78 (by decide) (by decide)) e_78 fiM_1 (v := .ref (gA G 79)) rfl k_807 dM_mower_67 ?_
        refine rAload_n C dM_mower_70 hl 1 rfl ?_
        refine rGet C hG (hI 78 (by decide) (by decide)) e_78 fiM_0 (v := .int (z5 78 0)) rfl k_806 dM_mower_71 ?_
        refine rIload_n C dM_mower_74 hl 2 rfl ?_
        refine lv_bipush (v := 10) C.1 C.2.1 dM_mower_75 (by decide) ?_
        refine lv_idiv C.1 C.2.1 dM_mower_77 (by decide) ?_
        refine rIast C hG (hI 79 (by decide) (by decide)) e_79 h dM_mower_78 (fun H locs z7 h hG => ?_)
        refine rAload_n C dM_mower_79 hl 1 rfl ?_
        refine rGet C hG (hI 78 (by decide) (by decide)) e_78 fiM_2 (v := .ref (gA G 80)) rfl k_808 dM_mower_80 ?_
        refine rAload_n C dM_mower_83 hl 1 rfl ?_
        refine rGet C hG (hI 78 (by decide) (by decide)) e_78 fiM_0 (v := .int (z7 78 0)) rfl k_806 dM_mower_84 ?_
        refine rIload_n C dM_mower_87 hl 2 rfl ?_
        refine lv_bipush (v := 10) C.1 C.2.1 dM_mower_88 (by decide) ?_
        refine lv_irem C.1 C.2.1 dM_mower_90 (by decide) ?_
        refine rIast C hG (hI 80 (by decide) (by decide)) e_80 h dM_mower_91 (fun H locs z8 h hG => ?_)
        refine rAload_n C dM_mower_92 hl 1 rfl ?_
        refine rGet C hG (hI 78 (by decide) (by decide)) e_78 fiM_3 (v := .ref (gA G 81)) rfl k_809 dM_mower_93 ?_
        refine lv_iconst (v := 3) C.1 C.2.1 dM_mower_96 (by decide) ?_
        refine rAload_n C dM_mower_97 hl 1 rfl ?_
        refine rGet C hG (hI 78 (by decide) (by decide)) e_78 fiM_0 (v := .int (z8 78 0)) rfl k_806 dM_mower_98 ?_
        refine lv_imul C.1 C.2.1 dM_mower_101 ?_
        refine rIload_n C dM_mower_102 hl 3 rfl ?_
        refine lv_bipush (v := 100) C.1 C.2.1 dM_mower_103 (by decide) ?_
        refine lv_idiv C.1 C.2.1 dM_mower_105 (by decide) ?_
        refine rIast C hG (hI 81 (by decide) (by decide)) e_81 h dM_mower_106 (fun H locs z9 h hG => ?_)
        refine rAload_n C dM_mower_107 hl 1 rfl ?_
        refine rGet C hG (hI 78 (by decide) (by decide)) e_78 fiM_3 (v := .ref (gA G 81)) rfl k_809 dM_mower_108 ?_
        refine lv_iconst (v := 3) C.1 C.2.1 dM_mower_111 (by decide) ?_
        refine rAload_n C dM_mower_112 hl 1 rfl ?_
        refine rGet C hG (hI 78 (by decide) (by decide)) e_78 fiM_0 (v := .int (z9 78 0)) rfl k_806 dM_mower_113 ?_
        refine lv_imul C.1 C.2.1 dM_mower_116 ?_
        refine lv_iconst (v := 1) C.1 C.2.1 dM_mower_117 (by decide) ?_
        refine lv_iadd C.1 C.2.1 dM_mower_118 ?_
        refine rIload_n C dM_mower_119 hl 3 rfl ?_
        refine lv_bipush (v := 100) C.1 C.2.1 dM_mower_120 (by decide) ?_
        refine lv_irem C.1 C.2.1 dM_mower_122 (by decide) ?_
        refine rIast C hG (hI 81 (by decide) (by decide)) e_81 h dM_mower_123 (fun H locs z10 h hG => ?_)
        refine rAload_n C dM_mower_124 hl 1 rfl ?_
        refine rGet C hG (hI 78 (by decide) (by decide)) e_78 fiM_3 (v := .ref (gA G 81)) rfl k_809 dM_mower_125 ?_
        refine lv_iconst (v := 3) C.1 C.2.1 dM_mower_128 (by decide) ?_
        refine rAload_n C dM_mower_129 hl 1 rfl ?_
        refine rGet C hG (hI 78 (by decide) (by decide)) e_78 fiM_0 (v := .int (z10 78 0)) rfl k_806 dM_mower_130 ?_
        refine lv_imul C.1 C.2.1 dM_mower_133 ?_
        refine lv_iconst (v := 2) C.1 C.2.1 dM_mower_134 (by decide) ?_
        refine lv_iadd C.1 C.2.1 dM_mower_135 ?_
        refine lv_iconst (v := 0) C.1 C.2.1 dM_mower_136 (by decide) ?_
        refine rIast C hG (hI 81 (by decide) (by decide)) e_81 h dM_mower_137 (fun H locs z11 h hG => ?_)
        refine rAload_n C dM_mower_138 hl 1 rfl ?_
        refine lv_dup C.1 C.2.1 dM_mower_139 rfl ?_
        refine rGet C hG (hI 78 (by decide) (by decide)) e_78 fiM_0 (v := .int (z11 78 0)) rfl k_806 dM_mower_140 ?_
        refine lv_iconst (v := 1) C.1 C.2.1 dM_mower_143 (by decide) ?_
        refine lv_iadd C.1 C.2.1 dM_mower_144 ?_
        refine rPut C hG (hI 78 (by decide) (by decide)) e_78 fiM_0 tokM nmM rfl (fpM_0 _) (Nat.le_of_ble_eq_true rfl) rfl rfl k_806 h dM_mower_145 (fun H locs z12 h hG => ?_)
        refine rAload_n C dM_mower_148 hl 1 rfl ?_
        refine rGet C hG (hI 78 (by decide) (by decide)) e_78 fiM_0 (v := .int (z12 78 0)) rfl k_806 dM_mower_149 ?_
        refine lv_iconst (v := 1) C.1 C.2.1 dM_mower_152 (by decide) ?_
        refine lv_isub C.1 C.2.1 dM_mower_153 ?_
        exact rReti C hG h dM_mower_154
      · refine lv_bipush (v := (-4)) C.1 C.2.1 dM_mower_63 (by decide) ?_
        exact rReti C hG h dM_mower_65
    · refine lv_bipush (v := (-2)) C.1 C.2.1 dM_mower_51 (by decide) ?_
      exact rReti C hG h dM_mower_53
theorem wM_mower_34 {p : Program} {l : Launch} {e : Env} {s : State} {m : MethodId} {args : Array Value} {below : List Frame} {meth : Method} {c : Code} {G : GT} {I : List Nat} (C : CX p s m args meth c NM bM_mower 4 (some .int) G I) (hI : mI I) {fu : Nat} {R1 : Int32} {Z : Sg} {v1 : Int32} {v2 : Int32} {z : Sg} {H : Heap} {locs : List Loc} {ls : Array Slot} (h : pM_mower_34 fu v1 v2 z = some (R1, Z)) (hG : GW G I z s.heap H locs) (hl : lv_has ls 4 [(0, .ref (gA G 78)), (1, .int v1), (2, .int v2)]) : W p l e rmM_mower s m args below meth c H locs 0 0 (MQ below (Qi G I R1 Z) args s 0 0 (AD G I)) (F0 m 34 ls []) := by
  unfold pM_mower_34 at h
  refine lv_iconst (v := 0) C.1 C.2.1 dM_mower_34 (by decide) ?_
  exact wM_mower_35 C hI h hG (lv_sub hl [0, 1, 2] rfl)
theorem cM_mower {l : Launch} {G : GT} {I : List Nat} (hI : mI I) {fu : Nat} {v1 : Int32} {v2 : Int32} {z : Sg} {R1 : Int32} {Z : Sg} (h : pM_mower fu v1 v2 z = some (R1, Z)) : Mt l yM_mower rmM_mower bM_mower 4 (some .int) G I z [.ref (gA G 78), .int v1, .int v2] (Qi G I R1 Z) := by
  refine entM (by decide +kernel) (Nat.le_of_ble_eq_true rfl) ?_
  intro p e s m below meth c C hG ls hl
  have hl : lv_has ls 4 [(0, .ref (gA G 78)), (1, .int v1), (2, .int v2)] := hl
  unfold pM_mower at h
  refine rIload_n C dM_mower_0 hl 1 rfl ?_
  refine lv_iconst (v := 0) C.1 C.2.1 dM_mower_1 (by decide) ?_
  refine lv_bipush (v := 59) C.1 C.2.1 dM_mower_2 (by decide) ?_
  refine rCSi [.int v1, .int 0, .int 59] [] C hG h (fun h => cM_in hI h) mvM_in k_767 ⟨Nat.le_of_ble_eq_true rfl, Nat.le_of_ble_eq_true rfl⟩ ⟨rfl, rfl⟩ rfl hl.1 (Nat.le_of_ble_eq_true rfl) dM_mower_4 ⟨Nat.zero_le _, Nat.zero_le _⟩ rfl (fun H locs x2 z1 h hG => ?_)
  refine rIfeq C (tgt := 34) h dM_mower_7 (by decide) (fun h => ?_) (fun h => ?_)
  · exact wM_mower_34 C hI h hG (lv_sub hl [0, 1, 2] rfl)
  · refine rIload_n C dM_mower_10 hl 2 rfl ?_
    refine lv_iconst (v := 0) C.1 C.2.1 dM_mower_11 (by decide) ?_
    refine lv_sipush (v := 911) C.1 C.2.1 dM_mower_12 (by decide) ?_
    refine rCSi [.int v2, .int 0, .int 911] [] C hG h (fun h => cM_in hI h) mvM_in k_767 ⟨Nat.le_of_ble_eq_true rfl, Nat.le_of_ble_eq_true rfl⟩ ⟨rfl, rfl⟩ rfl hl.1 (Nat.le_of_ble_eq_true rfl) dM_mower_15 ⟨Nat.zero_le _, Nat.zero_le _⟩ rfl (fun H locs x4 z3 h hG => ?_)
    refine rIfeq C (tgt := 34) h dM_mower_18 (by decide) (fun h => ?_) (fun h => ?_)
    · exact wM_mower_34 C hI h hG (lv_sub hl [0, 1, 2] rfl)
    · refine rIload_n C dM_mower_21 hl 2 rfl ?_
      refine lv_bipush (v := 100) C.1 C.2.1 dM_mower_22 (by decide) ?_
      refine lv_irem C.1 C.2.1 dM_mower_24 (by decide) ?_
      refine lv_bipush (v := 12) C.1 C.2.1 dM_mower_25 (by decide) ?_
      refine rIcmpge C (tgt := 34) h dM_mower_27 (by decide) (fun h => ?_) (fun h => ?_)
      · exact wM_mower_34 C hI h hG (lv_sub hl [0, 1, 2] rfl)
      · refine lv_iconst (v := 1) C.1 C.2.1 dM_mower_30 (by decide) ?_
        refine lv_goto (tgt := 35) C.1 C.2.1 dM_mower_31 (by decide) ?_
        exact wM_mower_35 C hI h hG (lv_sub hl [0, 1, 2] rfl)
theorem dM_put_0 : decode bM_put 0 = .ok (.aload_n 0, 1) := by decide +kernel
theorem dM_put_1 : decode bM_put 1 = .ok (.iload_n 1, 1) := by decide +kernel
theorem dM_put_2 : decode bM_put 2 = .ok (.invokevirtual 186, 3) := by decide +kernel
theorem dM_put_5 : decode bM_put 5 = .ok (.ifCond .ne 6, 3) := by decide +kernel
theorem dM_put_8 : decode bM_put 8 = .ok (.bipush (-5), 2) := by decide +kernel
theorem dM_put_10 : decode bM_put 10 = .ok (.ireturn, 1) := by decide +kernel
theorem dM_put_11 : decode bM_put 11 = .ok (.iload_n 2, 1) := by decide +kernel
theorem dM_put_12 : decode bM_put 12 = .ok (.ifCond .ne 31, 3) := by decide +kernel
theorem dM_put_15 : decode bM_put 15 = .ok (.iload_n 3, 1) := by decide +kernel
theorem dM_put_16 : decode bM_put 16 = .ok (.aload_n 0, 1) := by decide +kernel
theorem dM_put_17 : decode bM_put 17 = .ok (.getfield 16, 3) := by decide +kernel
theorem dM_put_20 : decode bM_put 20 = .ok (.iconst 3, 1) := by decide +kernel
theorem dM_put_21 : decode bM_put 21 = .ok (.iload_n 1, 1) := by decide +kernel
theorem dM_put_22 : decode bM_put 22 = .ok (.imul, 1) := by decide +kernel
theorem dM_put_23 : decode bM_put 23 = .ok (.iaload, 1) := by decide +kernel
theorem dM_put_24 : decode bM_put 24 = .ok (.if_icmp .eq 11, 3) := by decide +kernel
theorem dM_put_27 : decode bM_put 27 = .ok (.aload_n 0, 1) := by decide +kernel
theorem dM_put_28 : decode bM_put 28 = .ok (.iload_n 3, 1) := by decide +kernel
theorem dM_put_29 : decode bM_put 29 = .ok (.invokevirtual 192, 3) := by decide +kernel
theorem dM_put_32 : decode bM_put 32 = .ok (.ifCond .eq 7, 3) := by decide +kernel
theorem dM_put_35 : decode bM_put 35 = .ok (.iconst 1, 1) := by decide +kernel
theorem dM_put_36 : decode bM_put 36 = .ok (.goto 42, 3) := by decide +kernel
theorem dM_put_39 : decode bM_put 39 = .ok (.iconst 0, 1) := by decide +kernel
theorem dM_put_40 : decode bM_put 40 = .ok (.goto 38, 3) := by decide +kernel
theorem dM_put_43 : decode bM_put 43 = .ok (.iload_n 2, 1) := by decide +kernel
theorem dM_put_44 : decode bM_put 44 = .ok (.iconst 1, 1) := by decide +kernel
theorem dM_put_45 : decode bM_put 45 = .ok (.if_icmp .ne 13, 3) := by decide +kernel
theorem dM_put_48 : decode bM_put 48 = .ok (.iload_n 3, 1) := by decide +kernel
theorem dM_put_49 : decode bM_put 49 = .ok (.iconst 0, 1) := by decide +kernel
theorem dM_put_50 : decode bM_put 50 = .ok (.bipush 11, 2) := by decide +kernel
theorem dM_put_52 : decode bM_put 52 = .ok (.invokestatic 81, 3) := by decide +kernel
theorem dM_put_55 : decode bM_put 55 = .ok (.goto 23, 3) := by decide +kernel
theorem dM_put_58 : decode bM_put 58 = .ok (.iload_n 2, 1) := by decide +kernel
theorem dM_put_59 : decode bM_put 59 = .ok (.iconst 2, 1) := by decide +kernel
theorem dM_put_60 : decode bM_put 60 = .ok (.if_icmp .ne 17, 3) := by decide +kernel
theorem dM_put_63 : decode bM_put 63 = .ok (.iload_n 3, 1) := by decide +kernel
theorem dM_put_64 : decode bM_put 64 = .ok (.iconst 0, 1) := by decide +kernel
theorem dM_put_65 : decode bM_put 65 = .ok (.bipush 99, 2) := by decide +kernel
theorem dM_put_67 : decode bM_put 67 = .ok (.invokestatic 81, 3) := by decide +kernel
theorem dM_put_70 : decode bM_put 70 = .ok (.ifCond .eq 7, 3) := by decide +kernel
theorem dM_put_73 : decode bM_put 73 = .ok (.iconst 1, 1) := by decide +kernel
theorem dM_put_74 : decode bM_put 74 = .ok (.goto 4, 3) := by decide +kernel
theorem dM_put_77 : decode bM_put 77 = .ok (.iconst 0, 1) := by decide +kernel
theorem dM_put_78 : decode bM_put 78 = .ok (.istore 4, 2) := by decide +kernel
theorem dM_put_80 : decode bM_put 80 = .ok (.iload 4, 2) := by decide +kernel
theorem dM_put_82 : decode bM_put 82 = .ok (.ifCond .ne 6, 3) := by decide +kernel
theorem dM_put_85 : decode bM_put 85 = .ok (.bipush (-7), 2) := by decide +kernel
theorem dM_put_87 : decode bM_put 87 = .ok (.ireturn, 1) := by decide +kernel
theorem dM_put_88 : decode bM_put 88 = .ok (.aload_n 0, 1) := by decide +kernel
theorem dM_put_89 : decode bM_put 89 = .ok (.getfield 16, 3) := by decide +kernel
theorem dM_put_92 : decode bM_put 92 = .ok (.iconst 3, 1) := by decide +kernel
theorem dM_put_93 : decode bM_put 93 = .ok (.iload_n 1, 1) := by decide +kernel
theorem dM_put_94 : decode bM_put 94 = .ok (.imul, 1) := by decide +kernel
theorem dM_put_95 : decode bM_put 95 = .ok (.iload_n 2, 1) := by decide +kernel
theorem dM_put_96 : decode bM_put 96 = .ok (.iadd, 1) := by decide +kernel
theorem dM_put_97 : decode bM_put 97 = .ok (.iaload, 1) := by decide +kernel
theorem dM_put_98 : decode bM_put 98 = .ok (.istore 5, 2) := by decide +kernel
theorem dM_put_100 : decode bM_put 100 = .ok (.aload_n 0, 1) := by decide +kernel
theorem dM_put_101 : decode bM_put 101 = .ok (.getfield 16, 3) := by decide +kernel
theorem dM_put_104 : decode bM_put 104 = .ok (.iconst 3, 1) := by decide +kernel
theorem dM_put_105 : decode bM_put 105 = .ok (.iload_n 1, 1) := by decide +kernel
theorem dM_put_106 : decode bM_put 106 = .ok (.imul, 1) := by decide +kernel
theorem dM_put_107 : decode bM_put 107 = .ok (.iload_n 2, 1) := by decide +kernel
theorem dM_put_108 : decode bM_put 108 = .ok (.iadd, 1) := by decide +kernel
theorem dM_put_109 : decode bM_put 109 = .ok (.iload_n 3, 1) := by decide +kernel
theorem dM_put_110 : decode bM_put 110 = .ok (.iastore, 1) := by decide +kernel
theorem dM_put_111 : decode bM_put 111 = .ok (.iload 5, 2) := by decide +kernel
theorem dM_put_113 : decode bM_put 113 = .ok (.ireturn, 1) := by decide +kernel
theorem wM_put_78 {p : Program} {l : Launch} {e : Env} {s : State} {m : MethodId} {args : Array Value} {below : List Frame} {meth : Method} {c : Code} {G : GT} {I : List Nat} (C : CX p s m args meth c NM bM_put 6 (some .int) G I) (hI : mI I) {fu : Nat} {R1 : Int32} {Z : Sg} {v1 : Int32} {v2 : Int32} {v3 : Int32} {t0 : Int32} {z : Sg} {H : Heap} {locs : List Loc} {ls : Array Slot} (h : pM_put_78 fu v1 v2 v3 t0 z = some (R1, Z)) (hG : GW G I z s.heap H locs) (hl : lv_has ls 6 [(0, .ref (gA G 78)), (1, .int v1), (2, .int v2), (3, .int v3)]) : W p l e rmM_put s m args below meth c H locs 0 0 (MQ below (Qi G I R1 Z) args s 0 0 (AD G I)) (F0 m 78 ls [.int t0]) := by
  unfold pM_put_78 at h
  refine rIstoreA C dM_put_78 hl (by decide) [(0, .ref (gA G 78)), (1, .int v1), (2, .int v2), (3, .int v3)] rfl (fun ls hl => ?_)
  refine rIload C dM_put_80 hl 0 rfl ?_
  refine rIfne C (tgt := 88) h dM_put_82 (by decide) (fun h => ?_) (fun h => ?_)
  · refine rAload_n C dM_put_88 hl 1 rfl ?_
    refine rGet C hG (hI 78 (by decide) (by decide)) e_78 fiM_3 (v := .ref (gA G 81)) rfl k_809 dM_put_89 ?_
    refine lv_iconst (v := 3) C.1 C.2.1 dM_put_92 (by decide) ?_
    refine rIload_n C dM_put_93 hl 2 rfl ?_
    refine lv_imul C.1 C.2.1 dM_put_94 ?_
    refine rIload_n C dM_put_95 hl 3 rfl ?_
    refine lv_iadd C.1 C.2.1 dM_put_96 ?_
    refine rIald C hG (hI 81 (by decide) (by decide)) e_81 h dM_put_97 (fun h => ?_)
    refine rIstore C dM_put_98 hl h (by decide) [(4, .int t0), (0, .ref (gA G 78)), (1, .int v1), (2, .int v2), (3, .int v3)] rfl (fun x9 ls h hl => ?_)
    refine rAload_n C dM_put_100 hl 2 rfl ?_
    refine rGet C hG (hI 78 (by decide) (by decide)) e_78 fiM_3 (v := .ref (gA G 81)) rfl k_809 dM_put_101 ?_
    refine lv_iconst (v := 3) C.1 C.2.1 dM_put_104 (by decide) ?_
    refine rIload_n C dM_put_105 hl 3 rfl ?_
    refine lv_imul C.1 C.2.1 dM_put_106 ?_
    refine rIload_n C dM_put_107 hl 4 rfl ?_
    refine lv_iadd C.1 C.2.1 dM_put_108 ?_
    refine rIload_n C dM_put_109 hl 5 rfl ?_
    refine rIast C hG (hI 81 (by decide) (by decide)) e_81 h dM_put_110 (fun H locs z10 h hG => ?_)
    refine rIload C dM_put_111 hl 0 rfl ?_
    exact rReti C hG h dM_put_113
  · refine lv_bipush (v := (-7)) C.1 C.2.1 dM_put_85 (by decide) ?_
    exact rReti C hG h dM_put_87
theorem wM_put_35 {p : Program} {l : Launch} {e : Env} {s : State} {m : MethodId} {args : Array Value} {below : List Frame} {meth : Method} {c : Code} {G : GT} {I : List Nat} (C : CX p s m args meth c NM bM_put 6 (some .int) G I) (hI : mI I) {fu : Nat} {R1 : Int32} {Z : Sg} {v1 : Int32} {v2 : Int32} {v3 : Int32} {z : Sg} {H : Heap} {locs : List Loc} {ls : Array Slot} (h : pM_put_35 fu v1 v2 v3 z = some (R1, Z)) (hG : GW G I z s.heap H locs) (hl : lv_has ls 6 [(0, .ref (gA G 78)), (1, .int v1), (2, .int v2), (3, .int v3)]) : W p l e rmM_put s m args below meth c H locs 0 0 (MQ below (Qi G I R1 Z) args s 0 0 (AD G I)) (F0 m 35 ls []) := by
  unfold pM_put_35 at h
  refine lv_iconst (v := 1) C.1 C.2.1 dM_put_35 (by decide) ?_
  refine lv_goto (tgt := 78) C.1 C.2.1 dM_put_36 (by decide) ?_
  exact wM_put_78 C hI h hG (lv_sub hl [0, 1, 2, 3] rfl)
theorem wM_put_77 {p : Program} {l : Launch} {e : Env} {s : State} {m : MethodId} {args : Array Value} {below : List Frame} {meth : Method} {c : Code} {G : GT} {I : List Nat} (C : CX p s m args meth c NM bM_put 6 (some .int) G I) (hI : mI I) {fu : Nat} {R1 : Int32} {Z : Sg} {v1 : Int32} {v2 : Int32} {v3 : Int32} {z : Sg} {H : Heap} {locs : List Loc} {ls : Array Slot} (h : pM_put_77 fu v1 v2 v3 z = some (R1, Z)) (hG : GW G I z s.heap H locs) (hl : lv_has ls 6 [(0, .ref (gA G 78)), (1, .int v1), (2, .int v2), (3, .int v3)]) : W p l e rmM_put s m args below meth c H locs 0 0 (MQ below (Qi G I R1 Z) args s 0 0 (AD G I)) (F0 m 77 ls []) := by
  unfold pM_put_77 at h
  refine lv_iconst (v := 0) C.1 C.2.1 dM_put_77 (by decide) ?_
  exact wM_put_78 C hI h hG (lv_sub hl [0, 1, 2, 3] rfl)
theorem cM_put {l : Launch} {G : GT} {I : List Nat} (hI : mI I) {fu : Nat} {v1 : Int32} {v2 : Int32} {v3 : Int32} {z : Sg} {R1 : Int32} {Z : Sg} (h : pM_put fu v1 v2 v3 z = some (R1, Z)) : Mt l yM_put rmM_put bM_put 6 (some .int) G I z [.ref (gA G 78), .int v1, .int v2, .int v3] (Qi G I R1 Z) := by
  refine entM (by decide +kernel) (Nat.le_of_ble_eq_true rfl) ?_
  intro p e s m below meth c C hG ls hl
  have hl : lv_has ls 6 [(0, .ref (gA G 78)), (1, .int v1), (2, .int v2), (3, .int v3)] := hl
  unfold pM_put at h
  refine rAload_n C dM_put_0 hl 0 rfl ?_
  refine rIload_n C dM_put_1 hl 1 rfl ?_
  refine rCVi [.int v1] [] C hG h (fun h => cM_isOne hI h) mvM_isOne k_948 ⟨Nat.le_of_ble_eq_true rfl, Nat.le_of_ble_eq_true rfl⟩ ⟨rfl, rfl⟩ (rRecv C hG (hI 78 (by decide) (by decide)) e_78 rfl) rfl hl.1 (Nat.le_of_ble_eq_true rfl) dM_put_2 ⟨Nat.zero_le _, Nat.zero_le _⟩ rfl (fun H locs x2 z1 h hG => ?_)
  refine rIfne C (tgt := 11) h dM_put_5 (by decide) (fun h => ?_) (fun h => ?_)
  · refine rIload_n C dM_put_11 hl 2 rfl ?_
    refine rIfne C (tgt := 43) h dM_put_12 (by decide) (fun h => ?_) (fun h => ?_)
    · refine rIload_n C dM_put_43 hl 2 rfl ?_
      refine lv_iconst (v := 1) C.1 C.2.1 dM_put_44 (by decide) ?_
      refine rIcmpne C (tgt := 58) h dM_put_45 (by decide) (fun h => ?_) (fun h => ?_)
      · refine rIload_n C dM_put_58 hl 2 rfl ?_
        refine lv_iconst (v := 2) C.1 C.2.1 dM_put_59 (by decide) ?_
        refine rIcmpne C (tgt := 77) h dM_put_60 (by decide) (fun h => ?_) (fun h => ?_)
        · exact wM_put_77 C hI h hG (lv_sub hl [0, 1, 2, 3] rfl)
        · refine rIload_n C dM_put_63 hl 3 rfl ?_
          refine lv_iconst (v := 0) C.1 C.2.1 dM_put_64 (by decide) ?_
          refine lv_bipush (v := 99) C.1 C.2.1 dM_put_65 (by decide) ?_
          refine rCSi [.int v3, .int 0, .int 99] [] C hG h (fun h => cM_in hI h) mvM_in k_767 ⟨Nat.le_of_ble_eq_true rfl, Nat.le_of_ble_eq_true rfl⟩ ⟨rfl, rfl⟩ rfl hl.1 (Nat.le_of_ble_eq_true rfl) dM_put_67 ⟨Nat.zero_le _, Nat.zero_le _⟩ rfl (fun H locs x4 z3 h hG => ?_)
          refine rIfeq C (tgt := 77) h dM_put_70 (by decide) (fun h => ?_) (fun h => ?_)
          · exact wM_put_77 C hI h hG (lv_sub hl [0, 1, 2, 3] rfl)
          · refine lv_iconst (v := 1) C.1 C.2.1 dM_put_73 (by decide) ?_
            refine lv_goto (tgt := 78) C.1 C.2.1 dM_put_74 (by decide) ?_
            exact wM_put_78 C hI h hG (lv_sub hl [0, 1, 2, 3] rfl)
      · refine rIload_n C dM_put_48 hl 3 rfl ?_
        refine lv_iconst (v := 0) C.1 C.2.1 dM_put_49 (by decide) ?_
        refine lv_bipush (v := 11) C.1 C.2.1 dM_put_50 (by decide) ?_
        refine rCSi [.int v3, .int 0, .int 11] [] C hG h (fun h => cM_in hI h) mvM_in k_767 ⟨Nat.le_of_ble_eq_true rfl, Nat.le_of_ble_eq_true rfl⟩ ⟨rfl, rfl⟩ rfl hl.1 (Nat.le_of_ble_eq_true rfl) dM_put_52 ⟨Nat.zero_le _, Nat.zero_le _⟩ rfl (fun H locs x6 z5 h hG => ?_)
        refine lv_goto (tgt := 78) C.1 C.2.1 dM_put_55 (by decide) ?_
        exact wM_put_78 C hI h hG (lv_sub hl [0, 1, 2, 3] rfl)
    · refine rIload_n C dM_put_15 hl 3 rfl ?_
      refine rAload_n C dM_put_16 hl 0 rfl ?_
      refine rGet C hG (hI 78 (by decide) (by decide)) e_78 fiM_3 (v := .ref (gA G 81)) rfl k_809 dM_put_17 ?_
      refine lv_iconst (v := 3) C.1 C.2.1 dM_put_20 (by decide) ?_
      refine rIload_n C dM_put_21 hl 1 rfl ?_
      refine lv_imul C.1 C.2.1 dM_put_22 ?_
      refine rIald C hG (hI 81 (by decide) (by decide)) e_81 h dM_put_23 (fun h => ?_)
      refine rIcmpeq C (tgt := 35) h dM_put_24 (by decide) (fun h => ?_) (fun h => ?_)
      · exact wM_put_35 C hI h hG (lv_sub hl [0, 1, 2, 3] rfl)
      · refine rAload_n C dM_put_27 hl 0 rfl ?_
        refine rIload_n C dM_put_28 hl 3 rfl ?_
        refine rCVi [.int v3] [] C hG h (fun h => cM_isFree hI h) mvM_isFree k_982 ⟨Nat.le_of_ble_eq_true rfl, Nat.le_of_ble_eq_true rfl⟩ ⟨rfl, rfl⟩ (rRecv C hG (hI 78 (by decide) (by decide)) e_78 rfl) rfl hl.1 (Nat.le_of_ble_eq_true rfl) dM_put_29 ⟨Nat.zero_le _, Nat.zero_le _⟩ rfl (fun H locs x8 z7 h hG => ?_)
        refine rIfeq C (tgt := 39) h dM_put_32 (by decide) (fun h => ?_) (fun h => ?_)
        · refine lv_iconst (v := 0) C.1 C.2.1 dM_put_39 (by decide) ?_
          refine lv_goto (tgt := 78) C.1 C.2.1 dM_put_40 (by decide) ?_
          exact wM_put_78 C hI h hG (lv_sub hl [0, 1, 2, 3] rfl)
        · exact wM_put_35 C hI h hG (lv_sub hl [0, 1, 2, 3] rfl)
  · refine lv_bipush (v := (-5)) C.1 C.2.1 dM_put_8 (by decide) ?_
    exact rReti C hG h dM_put_10
theorem dM_keepsOf_0 : decode bM_keepsOf 0 = .ok (.aload_n 0, 1) := by decide +kernel
theorem dM_keepsOf_1 : decode bM_keepsOf 1 = .ok (.getfield 7, 3) := by decide +kernel
theorem dM_keepsOf_4 : decode bM_keepsOf 4 = .ok (.iload_n 1, 1) := by decide +kernel
theorem dM_keepsOf_5 : decode bM_keepsOf 5 = .ok (.iaload, 1) := by decide +kernel
theorem dM_keepsOf_6 : decode bM_keepsOf 6 = .ok (.tableswitch 57 1 4 #[30, 57, 37, 50], 30) := by decide +kernel
theorem dM_keepsOf_36 : decode bM_keepsOf 36 = .ok (.aload_n 0, 1) := by decide +kernel
theorem dM_keepsOf_37 : decode bM_keepsOf 37 = .ok (.getfield 19, 3) := by decide +kernel
theorem dM_keepsOf_40 : decode bM_keepsOf 40 = .ok (.iconst 1, 1) := by decide +kernel
theorem dM_keepsOf_41 : decode bM_keepsOf 41 = .ok (.iaload, 1) := by decide +kernel
theorem dM_keepsOf_42 : decode bM_keepsOf 42 = .ok (.ireturn, 1) := by decide +kernel
theorem dM_keepsOf_43 : decode bM_keepsOf 43 = .ok (.aload_n 0, 1) := by decide +kernel
theorem dM_keepsOf_44 : decode bM_keepsOf 44 = .ok (.getfield 19, 3) := by decide +kernel
theorem dM_keepsOf_47 : decode bM_keepsOf 47 = .ok (.iconst 1, 1) := by decide +kernel
theorem dM_keepsOf_48 : decode bM_keepsOf 48 = .ok (.iaload, 1) := by decide +kernel
theorem dM_keepsOf_49 : decode bM_keepsOf 49 = .ok (.bipush 6, 2) := by decide +kernel
theorem dM_keepsOf_51 : decode bM_keepsOf 51 = .ok (.iadd, 1) := by decide +kernel
theorem dM_keepsOf_52 : decode bM_keepsOf 52 = .ok (.bipush 12, 2) := by decide +kernel
theorem dM_keepsOf_54 : decode bM_keepsOf 54 = .ok (.irem, 1) := by decide +kernel
theorem dM_keepsOf_55 : decode bM_keepsOf 55 = .ok (.ireturn, 1) := by decide +kernel
theorem dM_keepsOf_56 : decode bM_keepsOf 56 = .ok (.aload_n 0, 1) := by decide +kernel
theorem dM_keepsOf_57 : decode bM_keepsOf 57 = .ok (.getfield 13, 3) := by decide +kernel
theorem dM_keepsOf_60 : decode bM_keepsOf 60 = .ok (.iload_n 1, 1) := by decide +kernel
theorem dM_keepsOf_61 : decode bM_keepsOf 61 = .ok (.iaload, 1) := by decide +kernel
theorem dM_keepsOf_62 : decode bM_keepsOf 62 = .ok (.ireturn, 1) := by decide +kernel
theorem dM_keepsOf_63 : decode bM_keepsOf 63 = .ok (.aload_n 0, 1) := by decide +kernel
theorem dM_keepsOf_64 : decode bM_keepsOf 64 = .ok (.iconst 2, 1) := by decide +kernel
theorem dM_keepsOf_65 : decode bM_keepsOf 65 = .ok (.iload_n 1, 1) := by decide +kernel
theorem dM_keepsOf_66 : decode bM_keepsOf 66 = .ok (.invokevirtual 189, 3) := by decide +kernel
theorem dM_keepsOf_69 : decode bM_keepsOf 69 = .ok (.ireturn, 1) := by decide +kernel
theorem cM_keepsOf {l : Launch} {G : GT} {I : List Nat} (hI : mI I) {fu : Nat} {v1 : Int32} {z : Sg} {R1 : Int32} {Z : Sg} (h : pM_keepsOf fu v1 z = some (R1, Z)) : Mt l yM_keepsOf rmM_keepsOf bM_keepsOf 2 (some .int) G I z [.ref (gA G 78), .int v1] (Qi G I R1 Z) := by
  refine entM (by decide +kernel) (Nat.le_of_ble_eq_true rfl) ?_
  intro p e s m below meth c C hG ls hl
  have hl : lv_has ls 2 [(0, .ref (gA G 78)), (1, .int v1)] := hl
  unfold pM_keepsOf at h
  refine rAload_n C dM_keepsOf_0 hl 0 rfl ?_
  refine rGet C hG (hI 78 (by decide) (by decide)) e_78 fiM_1 (v := .ref (gA G 79)) rfl k_807 dM_keepsOf_1 ?_
  refine rIload_n C dM_keepsOf_4 hl 1 rfl ?_
  refine rIald C hG (hI 79 (by decide) (by decide)) e_79 h dM_keepsOf_5 (fun h => ?_)
  by_cases q6_0 : ga z 79 v1 = 1
  · replace h := ifP q6_0 h
    refine rSwT C dM_keepsOf_6 1 q6_0 (by decide) (off := 30) (tgt := 36) (by decide) (by decide) ?_
    refine rAload_n C dM_keepsOf_36 hl 0 rfl ?_
    refine rGet C hG (hI 78 (by decide) (by decide)) e_78 fiM_4 (v := .ref (gA G 82)) rfl k_810 dM_keepsOf_37 ?_
    refine lv_iconst (v := 1) C.1 C.2.1 dM_keepsOf_40 (by decide) ?_
    refine rIaldK C hG (hI 82 (by decide) (by decide)) e_82 1 (by decide) (by decide) dM_keepsOf_41 ?_
    exact rReti C hG h dM_keepsOf_42
  replace h := ifN q6_0 h
  by_cases q6_1 : ga z 79 v1 = 2
  · replace h := ifP q6_1 h
    refine rSwT C dM_keepsOf_6 2 q6_1 (by decide) (off := 57) (tgt := 63) (by decide) (by decide) ?_
    refine rAload_n C dM_keepsOf_63 hl 0 rfl ?_
    refine lv_iconst (v := 2) C.1 C.2.1 dM_keepsOf_64 (by decide) ?_
    refine rIload_n C dM_keepsOf_65 hl 1 rfl ?_
    refine rCVi [.int 2, .int v1] [] C hG h (fun h => cM_asksOf hI h) mvM_asksOf k_952 ⟨Nat.le_of_ble_eq_true rfl, Nat.le_of_ble_eq_true rfl⟩ ⟨rfl, rfl⟩ (rRecv C hG (hI 78 (by decide) (by decide)) e_78 rfl) rfl hl.1 (Nat.le_of_ble_eq_true rfl) dM_keepsOf_66 ⟨Nat.zero_le _, Nat.zero_le _⟩ rfl (fun H locs x2 z1 h hG => ?_)
    exact rReti C hG h dM_keepsOf_69
  replace h := ifN q6_1 h
  by_cases q6_2 : ga z 79 v1 = 3
  · replace h := ifP q6_2 h
    refine rSwT C dM_keepsOf_6 3 q6_2 (by decide) (off := 37) (tgt := 43) (by decide) (by decide) ?_
    refine rAload_n C dM_keepsOf_43 hl 0 rfl ?_
    refine rGet C hG (hI 78 (by decide) (by decide)) e_78 fiM_4 (v := .ref (gA G 82)) rfl k_810 dM_keepsOf_44 ?_
    refine lv_iconst (v := 1) C.1 C.2.1 dM_keepsOf_47 (by decide) ?_
    refine rIaldK C hG (hI 82 (by decide) (by decide)) e_82 1 (by decide) (by decide) dM_keepsOf_48 ?_
    refine lv_bipush (v := 6) C.1 C.2.1 dM_keepsOf_49 (by decide) ?_
    refine lv_iadd C.1 C.2.1 dM_keepsOf_51 ?_
    refine lv_bipush (v := 12) C.1 C.2.1 dM_keepsOf_52 (by decide) ?_
    refine lv_irem C.1 C.2.1 dM_keepsOf_54 (by decide) ?_
    exact rReti C hG h dM_keepsOf_55
  replace h := ifN q6_2 h
  by_cases q6_3 : ga z 79 v1 = 4
  · replace h := ifP q6_3 h
    refine rSwT C dM_keepsOf_6 4 q6_3 (by decide) (off := 50) (tgt := 56) (by decide) (by decide) ?_
    refine rAload_n C dM_keepsOf_56 hl 0 rfl ?_
    refine rGet C hG (hI 78 (by decide) (by decide)) e_78 fiM_2 (v := .ref (gA G 80)) rfl k_808 dM_keepsOf_57 ?_
    refine rIload_n C dM_keepsOf_60 hl 1 rfl ?_
    refine rIald C hG (hI 80 (by decide) (by decide)) e_80 h dM_keepsOf_61 (fun h => ?_)
    exact rReti C hG h dM_keepsOf_62
  replace h := ifN q6_3 h
  refine rSwD C dM_keepsOf_6 (tgt := 63) (by have q6_0n := ne_toInt (k := 1) q6_0 (by decide); have q6_1n := ne_toInt (k := 2) q6_1 (by decide); have q6_2n := ne_toInt (k := 3) q6_2 (by decide); have q6_3n := ne_toInt (k := 4) q6_3 (by decide); omega) (by decide) ?_
  refine rAload_n C dM_keepsOf_63 hl 0 rfl ?_
  refine lv_iconst (v := 2) C.1 C.2.1 dM_keepsOf_64 (by decide) ?_
  refine rIload_n C dM_keepsOf_65 hl 1 rfl ?_
  refine rCVi [.int 2, .int v1] [] C hG h (fun h => cM_asksOf hI h) mvM_asksOf k_952 ⟨Nat.le_of_ble_eq_true rfl, Nat.le_of_ble_eq_true rfl⟩ ⟨rfl, rfl⟩ (rRecv C hG (hI 78 (by decide) (by decide)) e_78 rfl) rfl hl.1 (Nat.le_of_ble_eq_true rfl) dM_keepsOf_66 ⟨Nat.zero_le _, Nat.zero_le _⟩ rfl (fun H locs x4 z3 h hG => ?_)
  exact rReti C hG h dM_keepsOf_69
theorem dM_swingsOf_0 : decode bM_swingsOf 0 = .ok (.aload_n 0, 1) := by decide +kernel
theorem dM_swingsOf_1 : decode bM_swingsOf 1 = .ok (.getfield 16, 3) := by decide +kernel
theorem dM_swingsOf_4 : decode bM_swingsOf 4 = .ok (.iconst 3, 1) := by decide +kernel
theorem dM_swingsOf_5 : decode bM_swingsOf 5 = .ok (.iload_n 1, 1) := by decide +kernel
theorem dM_swingsOf_6 : decode bM_swingsOf 6 = .ok (.imul, 1) := by decide +kernel
theorem dM_swingsOf_7 : decode bM_swingsOf 7 = .ok (.iconst 1, 1) := by decide +kernel
theorem dM_swingsOf_8 : decode bM_swingsOf 8 = .ok (.iadd, 1) := by decide +kernel
theorem dM_swingsOf_9 : decode bM_swingsOf 9 = .ok (.iaload, 1) := by decide +kernel
theorem dM_swingsOf_10 : decode bM_swingsOf 10 = .ok (.istore_n 2, 1) := by decide +kernel
theorem dM_swingsOf_11 : decode bM_swingsOf 11 = .ok (.aload_n 0, 1) := by decide +kernel
theorem dM_swingsOf_12 : decode bM_swingsOf 12 = .ok (.getfield 7, 3) := by decide +kernel
theorem dM_swingsOf_15 : decode bM_swingsOf 15 = .ok (.iload_n 1, 1) := by decide +kernel
theorem dM_swingsOf_16 : decode bM_swingsOf 16 = .ok (.iaload, 1) := by decide +kernel
theorem dM_swingsOf_17 : decode bM_swingsOf 17 = .ok (.iconst 5, 1) := by decide +kernel
theorem dM_swingsOf_18 : decode bM_swingsOf 18 = .ok (.if_icmp .ne 32, 3) := by decide +kernel
theorem dM_swingsOf_21 : decode bM_swingsOf 21 = .ok (.aload_n 0, 1) := by decide +kernel
theorem dM_swingsOf_22 : decode bM_swingsOf 22 = .ok (.getfield 19, 3) := by decide +kernel
theorem dM_swingsOf_25 : decode bM_swingsOf 25 = .ok (.iconst 3, 1) := by decide +kernel
theorem dM_swingsOf_26 : decode bM_swingsOf 26 = .ok (.iaload, 1) := by decide +kernel
theorem dM_swingsOf_27 : decode bM_swingsOf 27 = .ok (.iconst 5, 1) := by decide +kernel
theorem dM_swingsOf_28 : decode bM_swingsOf 28 = .ok (.irem, 1) := by decide +kernel
theorem dM_swingsOf_29 : decode bM_swingsOf 29 = .ok (.ifCond .ne 7, 3) := by decide +kernel
theorem dM_swingsOf_32 : decode bM_swingsOf 32 = .ok (.iconst 0, 1) := by decide +kernel
theorem dM_swingsOf_33 : decode bM_swingsOf 33 = .ok (.goto 16, 3) := by decide +kernel
theorem dM_swingsOf_36 : decode bM_swingsOf 36 = .ok (.aload_n 0, 1) := by decide +kernel
theorem dM_swingsOf_37 : decode bM_swingsOf 37 = .ok (.iload_n 1, 1) := by decide +kernel
theorem dM_swingsOf_38 : decode bM_swingsOf 38 = .ok (.invokevirtual 195, 3) := by decide +kernel
theorem dM_swingsOf_41 : decode bM_swingsOf 41 = .ok (.iload_n 2, 1) := by decide +kernel
theorem dM_swingsOf_42 : decode bM_swingsOf 42 = .ok (.isub, 1) := by decide +kernel
theorem dM_swingsOf_43 : decode bM_swingsOf 43 = .ok (.bipush 12, 2) := by decide +kernel
theorem dM_swingsOf_45 : decode bM_swingsOf 45 = .ok (.iadd, 1) := by decide +kernel
theorem dM_swingsOf_46 : decode bM_swingsOf 46 = .ok (.bipush 12, 2) := by decide +kernel
theorem dM_swingsOf_48 : decode bM_swingsOf 48 = .ok (.irem, 1) := by decide +kernel
theorem dM_swingsOf_49 : decode bM_swingsOf 49 = .ok (.ireturn, 1) := by decide +kernel
theorem dM_swingsOf_50 : decode bM_swingsOf 50 = .ok (.aload_n 0, 1) := by decide +kernel
theorem dM_swingsOf_51 : decode bM_swingsOf 51 = .ok (.iconst 0, 1) := by decide +kernel
theorem dM_swingsOf_52 : decode bM_swingsOf 52 = .ok (.iload_n 1, 1) := by decide +kernel
theorem dM_swingsOf_53 : decode bM_swingsOf 53 = .ok (.invokevirtual 189, 3) := by decide +kernel
theorem dM_swingsOf_56 : decode bM_swingsOf 56 = .ok (.istore_n 3, 1) := by decide +kernel
theorem dM_swingsOf_57 : decode bM_swingsOf 57 = .ok (.iload_n 3, 1) := by decide +kernel
theorem dM_swingsOf_58 : decode bM_swingsOf 58 = .ok (.aload_n 0, 1) := by decide +kernel
theorem dM_swingsOf_59 : decode bM_swingsOf 59 = .ok (.getfield 13, 3) := by decide +kernel
theorem dM_swingsOf_62 : decode bM_swingsOf 62 = .ok (.iload_n 1, 1) := by decide +kernel
theorem dM_swingsOf_63 : decode bM_swingsOf 63 = .ok (.iaload, 1) := by decide +kernel
theorem dM_swingsOf_64 : decode bM_swingsOf 64 = .ok (.iconst 3, 1) := by decide +kernel
theorem dM_swingsOf_65 : decode bM_swingsOf 65 = .ok (.idiv, 1) := by decide +kernel
theorem dM_swingsOf_66 : decode bM_swingsOf 66 = .ok (.iadd, 1) := by decide +kernel
theorem dM_swingsOf_67 : decode bM_swingsOf 67 = .ok (.istore 4, 2) := by decide +kernel
theorem dM_swingsOf_69 : decode bM_swingsOf 69 = .ok (.aload_n 0, 1) := by decide +kernel
theorem dM_swingsOf_70 : decode bM_swingsOf 70 = .ok (.getfield 7, 3) := by decide +kernel
theorem dM_swingsOf_73 : decode bM_swingsOf 73 = .ok (.iload_n 1, 1) := by decide +kernel
theorem dM_swingsOf_74 : decode bM_swingsOf 74 = .ok (.iaload, 1) := by decide +kernel
theorem dM_swingsOf_75 : decode bM_swingsOf 75 = .ok (.tableswitch 72 1 4 #[29, 52, 29, 61], 29) := by decide +kernel
theorem dM_swingsOf_104 : decode bM_swingsOf 104 = .ok (.aload_n 0, 1) := by decide +kernel
theorem dM_swingsOf_105 : decode bM_swingsOf 105 = .ok (.iload_n 1, 1) := by decide +kernel
theorem dM_swingsOf_106 : decode bM_swingsOf 106 = .ok (.invokevirtual 195, 3) := by decide +kernel
theorem dM_swingsOf_109 : decode bM_swingsOf 109 = .ok (.iload_n 2, 1) := by decide +kernel
theorem dM_swingsOf_110 : decode bM_swingsOf 110 = .ok (.if_icmp .eq 9, 3) := by decide +kernel
theorem dM_swingsOf_113 : decode bM_swingsOf 113 = .ok (.iload_n 3, 1) := by decide +kernel
theorem dM_swingsOf_114 : decode bM_swingsOf 114 = .ok (.iconst 1, 1) := by decide +kernel
theorem dM_swingsOf_115 : decode bM_swingsOf 115 = .ok (.iadd, 1) := by decide +kernel
theorem dM_swingsOf_116 : decode bM_swingsOf 116 = .ok (.goto 4, 3) := by decide +kernel
theorem dM_swingsOf_119 : decode bM_swingsOf 119 = .ok (.iload_n 3, 1) := by decide +kernel
theorem dM_swingsOf_120 : decode bM_swingsOf 120 = .ok (.iconst 0, 1) := by decide +kernel
theorem dM_swingsOf_121 : decode bM_swingsOf 121 = .ok (.bipush 11, 2) := by decide +kernel
theorem dM_swingsOf_123 : decode bM_swingsOf 123 = .ok (.invokestatic 183, 3) := by decide +kernel
theorem dM_swingsOf_126 : decode bM_swingsOf 126 = .ok (.ireturn, 1) := by decide +kernel
theorem dM_swingsOf_127 : decode bM_swingsOf 127 = .ok (.iload 4, 2) := by decide +kernel
theorem dM_swingsOf_129 : decode bM_swingsOf 129 = .ok (.iconst 0, 1) := by decide +kernel
theorem dM_swingsOf_130 : decode bM_swingsOf 130 = .ok (.bipush 11, 2) := by decide +kernel
theorem dM_swingsOf_132 : decode bM_swingsOf 132 = .ok (.invokestatic 183, 3) := by decide +kernel
theorem dM_swingsOf_135 : decode bM_swingsOf 135 = .ok (.ireturn, 1) := by decide +kernel
theorem dM_swingsOf_136 : decode bM_swingsOf 136 = .ok (.iconst 2, 1) := by decide +kernel
theorem dM_swingsOf_137 : decode bM_swingsOf 137 = .ok (.iload 4, 2) := by decide +kernel
theorem dM_swingsOf_139 : decode bM_swingsOf 139 = .ok (.imul, 1) := by decide +kernel
theorem dM_swingsOf_140 : decode bM_swingsOf 140 = .ok (.iconst 0, 1) := by decide +kernel
theorem dM_swingsOf_141 : decode bM_swingsOf 141 = .ok (.bipush 11, 2) := by decide +kernel
theorem dM_swingsOf_143 : decode bM_swingsOf 143 = .ok (.invokestatic 183, 3) := by decide +kernel
theorem dM_swingsOf_146 : decode bM_swingsOf 146 = .ok (.ireturn, 1) := by decide +kernel
theorem dM_swingsOf_147 : decode bM_swingsOf 147 = .ok (.iload_n 3, 1) := by decide +kernel
theorem dM_swingsOf_148 : decode bM_swingsOf 148 = .ok (.ireturn, 1) := by decide +kernel
theorem wM_swingsOf_120 {p : Program} {l : Launch} {e : Env} {s : State} {m : MethodId} {args : Array Value} {below : List Frame} {meth : Method} {c : Code} {G : GT} {I : List Nat} (C : CX p s m args meth c NM bM_swingsOf 5 (some .int) G I) (hI : mI I) {fu : Nat} {R1 : Int32} {Z : Sg} {t0 : Int32} {z : Sg} {H : Heap} {locs : List Loc} {ls : Array Slot} (h : pM_swingsOf_120 fu t0 z = some (R1, Z)) (hG : GW G I z s.heap H locs) (hl : lv_has ls 5 []) : W p l e rmM_swingsOf s m args below meth c H locs 0 0 (MQ below (Qi G I R1 Z) args s 0 0 (AD G I)) (F0 m 120 ls [.int t0]) := by
  unfold pM_swingsOf_120 at h
  refine lv_iconst (v := 0) C.1 C.2.1 dM_swingsOf_120 (by decide) ?_
  refine lv_bipush (v := 11) C.1 C.2.1 dM_swingsOf_121 (by decide) ?_
  refine rCSi [.int t0, .int 0, .int 11] [] C hG h (fun h => cM_within hI h) mvM_within k_975 ⟨Nat.le_of_ble_eq_true rfl, Nat.le_of_ble_eq_true rfl⟩ ⟨rfl, rfl⟩ rfl hl.1 (Nat.le_of_ble_eq_true rfl) dM_swingsOf_123 ⟨Nat.zero_le _, Nat.zero_le _⟩ rfl (fun H locs x16 z15 h hG => ?_)
  exact rReti C hG h dM_swingsOf_126
theorem cM_swingsOf {l : Launch} {G : GT} {I : List Nat} (hI : mI I) {fu : Nat} {v1 : Int32} {z : Sg} {R1 : Int32} {Z : Sg} (h : pM_swingsOf fu v1 z = some (R1, Z)) : Mt l yM_swingsOf rmM_swingsOf bM_swingsOf 5 (some .int) G I z [.ref (gA G 78), .int v1] (Qi G I R1 Z) := by
  refine entM (by decide +kernel) (Nat.le_of_ble_eq_true rfl) ?_
  intro p e s m below meth c C hG ls hl
  have hl : lv_has ls 5 [(0, .ref (gA G 78)), (1, .int v1)] := hl
  unfold pM_swingsOf at h
  refine rAload_n C dM_swingsOf_0 hl 0 rfl ?_
  refine rGet C hG (hI 78 (by decide) (by decide)) e_78 fiM_3 (v := .ref (gA G 81)) rfl k_809 dM_swingsOf_1 ?_
  refine lv_iconst (v := 3) C.1 C.2.1 dM_swingsOf_4 (by decide) ?_
  refine rIload_n C dM_swingsOf_5 hl 1 rfl ?_
  refine lv_imul C.1 C.2.1 dM_swingsOf_6 ?_
  refine lv_iconst (v := 1) C.1 C.2.1 dM_swingsOf_7 (by decide) ?_
  refine lv_iadd C.1 C.2.1 dM_swingsOf_8 ?_
  refine rIald C hG (hI 81 (by decide) (by decide)) e_81 h dM_swingsOf_9 (fun h => ?_)
  refine rIstore_n C dM_swingsOf_10 hl h (by decide) [(0, .ref (gA G 78)), (1, .int v1)] rfl (fun x1 ls h hl => ?_)
  refine rAload_n C dM_swingsOf_11 hl 1 rfl ?_
  refine rGet C hG (hI 78 (by decide) (by decide)) e_78 fiM_1 (v := .ref (gA G 79)) rfl k_807 dM_swingsOf_12 ?_
  refine rIload_n C dM_swingsOf_15 hl 2 rfl ?_
  refine rIald C hG (hI 79 (by decide) (by decide)) e_79 h dM_swingsOf_16 (fun h => ?_)
  refine lv_iconst (v := 5) C.1 C.2.1 dM_swingsOf_17 (by decide) ?_
  refine rIcmpne C (tgt := 50) h dM_swingsOf_18 (by decide) (fun h => ?_) (fun h => ?_)
  · refine rAload_n C dM_swingsOf_50 hl 1 rfl ?_
    refine lv_iconst (v := 0) C.1 C.2.1 dM_swingsOf_51 (by decide) ?_
    refine rIload_n C dM_swingsOf_52 hl 2 rfl ?_
    refine rCVi [.int 0, .int v1] [] C hG h (fun h => cM_asksOf hI h) mvM_asksOf k_952 ⟨Nat.le_of_ble_eq_true rfl, Nat.le_of_ble_eq_true rfl⟩ ⟨rfl, rfl⟩ (rRecv C hG (hI 78 (by decide) (by decide)) e_78 rfl) rfl hl.1 (Nat.le_of_ble_eq_true rfl) dM_swingsOf_53 ⟨Nat.zero_le _, Nat.zero_le _⟩ rfl (fun H locs x3 z2 h hG => ?_)
    refine rIstoreA_n C dM_swingsOf_56 hl (by decide) [(2, .int x1), (0, .ref (gA G 78)), (1, .int v1)] rfl (fun ls hl => ?_)
    refine rIload_n C dM_swingsOf_57 hl 0 rfl ?_
    refine rAload_n C dM_swingsOf_58 hl 2 rfl ?_
    refine rGet C hG (hI 78 (by decide) (by decide)) e_78 fiM_2 (v := .ref (gA G 80)) rfl k_808 dM_swingsOf_59 ?_
    refine rIload_n C dM_swingsOf_62 hl 3 rfl ?_
    refine rIald C hG (hI 80 (by decide) (by decide)) e_80 h dM_swingsOf_63 (fun h => ?_)
    refine lv_iconst (v := 3) C.1 C.2.1 dM_swingsOf_64 (by decide) ?_
    refine lv_idiv C.1 C.2.1 dM_swingsOf_65 (by decide) ?_
    refine lv_iadd C.1 C.2.1 dM_swingsOf_66 ?_
    refine rIstore C dM_swingsOf_67 hl h (by decide) [(3, .int x3), (2, .int x1), (0, .ref (gA G 78)), (1, .int v1)] rfl (fun x4 ls h hl => ?_)
    refine rAload_n C dM_swingsOf_69 hl 3 rfl ?_
    refine rGet C hG (hI 78 (by decide) (by decide)) e_78 fiM_1 (v := .ref (gA G 79)) rfl k_807 dM_swingsOf_70 ?_
    refine rIload_n C dM_swingsOf_73 hl 4 rfl ?_
    refine rIald C hG (hI 79 (by decide) (by decide)) e_79 h dM_swingsOf_74 (fun h => ?_)
    by_cases q75_0 : ga z2 79 v1 = 1
    · replace h := ifP q75_0 h
      refine rSwT C dM_swingsOf_75 1 q75_0 (by decide) (off := 29) (tgt := 104) (by decide) (by decide) ?_
      refine rAload_n C dM_swingsOf_104 hl 3 rfl ?_
      refine rIload_n C dM_swingsOf_105 hl 4 rfl ?_
      refine rCVi [.int v1] [] C hG h (fun h => cM_keepsOf hI h) mvM_keepsOf k_994 ⟨Nat.le_of_ble_eq_true rfl, Nat.le_of_ble_eq_true rfl⟩ ⟨rfl, rfl⟩ (rRecv C hG (hI 78 (by decide) (by decide)) e_78 rfl) rfl hl.1 (Nat.le_of_ble_eq_true rfl) dM_swingsOf_106 ⟨Nat.zero_le _, Nat.zero_le _⟩ rfl (fun H locs x6 z5 h hG => ?_)
      refine rIload_n C dM_swingsOf_109 hl 2 rfl ?_
      refine rIcmpeq C (tgt := 119) h dM_swingsOf_110 (by decide) (fun h => ?_) (fun h => ?_)
      · refine rIload_n C dM_swingsOf_119 hl 1 rfl ?_
        exact wM_swingsOf_120 C hI h hG (lv_sub hl [] rfl)
      · refine rIload_n C dM_swingsOf_113 hl 1 rfl ?_
        refine lv_iconst (v := 1) C.1 C.2.1 dM_swingsOf_114 (by decide) ?_
        refine lv_iadd C.1 C.2.1 dM_swingsOf_115 ?_
        refine lv_goto (tgt := 120) C.1 C.2.1 dM_swingsOf_116 (by decide) ?_
        exact wM_swingsOf_120 C hI h hG (lv_sub hl [] rfl)
    replace h := ifN q75_0 h
    by_cases q75_1 : ga z2 79 v1 = 2
    · replace h := ifP q75_1 h
      refine rSwT C dM_swingsOf_75 2 q75_1 (by decide) (off := 52) (tgt := 127) (by decide) (by decide) ?_
      refine rIload C dM_swingsOf_127 hl 0 rfl ?_
      refine lv_iconst (v := 0) C.1 C.2.1 dM_swingsOf_129 (by decide) ?_
      refine lv_bipush (v := 11) C.1 C.2.1 dM_swingsOf_130 (by decide) ?_
      refine rCSi [.int x4, .int 0, .int 11] [] C hG h (fun h => cM_within hI h) mvM_within k_975 ⟨Nat.le_of_ble_eq_true rfl, Nat.le_of_ble_eq_true rfl⟩ ⟨rfl, rfl⟩ rfl hl.1 (Nat.le_of_ble_eq_true rfl) dM_swingsOf_132 ⟨Nat.zero_le _, Nat.zero_le _⟩ rfl (fun H locs x8 z7 h hG => ?_)
      exact rReti C hG h dM_swingsOf_135
    replace h := ifN q75_1 h
    by_cases q75_2 : ga z2 79 v1 = 3
    · replace h := ifP q75_2 h
      refine rSwT C dM_swingsOf_75 3 q75_2 (by decide) (off := 29) (tgt := 104) (by decide) (by decide) ?_
      refine rAload_n C dM_swingsOf_104 hl 3 rfl ?_
      refine rIload_n C dM_swingsOf_105 hl 4 rfl ?_
      refine rCVi [.int v1] [] C hG h (fun h => cM_keepsOf hI h) mvM_keepsOf k_994 ⟨Nat.le_of_ble_eq_true rfl, Nat.le_of_ble_eq_true rfl⟩ ⟨rfl, rfl⟩ (rRecv C hG (hI 78 (by decide) (by decide)) e_78 rfl) rfl hl.1 (Nat.le_of_ble_eq_true rfl) dM_swingsOf_106 ⟨Nat.zero_le _, Nat.zero_le _⟩ rfl (fun H locs x10 z9 h hG => ?_)
      refine rIload_n C dM_swingsOf_109 hl 2 rfl ?_
      refine rIcmpeq C (tgt := 119) h dM_swingsOf_110 (by decide) (fun h => ?_) (fun h => ?_)
      · refine rIload_n C dM_swingsOf_119 hl 1 rfl ?_
        exact wM_swingsOf_120 C hI h hG (lv_sub hl [] rfl)
      · refine rIload_n C dM_swingsOf_113 hl 1 rfl ?_
        refine lv_iconst (v := 1) C.1 C.2.1 dM_swingsOf_114 (by decide) ?_
        refine lv_iadd C.1 C.2.1 dM_swingsOf_115 ?_
        refine lv_goto (tgt := 120) C.1 C.2.1 dM_swingsOf_116 (by decide) ?_
        exact wM_swingsOf_120 C hI h hG (lv_sub hl [] rfl)
    replace h := ifN q75_2 h
    by_cases q75_3 : ga z2 79 v1 = 4
    · replace h := ifP q75_3 h
      refine rSwT C dM_swingsOf_75 4 q75_3 (by decide) (off := 61) (tgt := 136) (by decide) (by decide) ?_
      refine lv_iconst (v := 2) C.1 C.2.1 dM_swingsOf_136 (by decide) ?_
      refine rIload C dM_swingsOf_137 hl 0 rfl ?_
      refine lv_imul C.1 C.2.1 dM_swingsOf_139 ?_
      refine lv_iconst (v := 0) C.1 C.2.1 dM_swingsOf_140 (by decide) ?_
      refine lv_bipush (v := 11) C.1 C.2.1 dM_swingsOf_141 (by decide) ?_
      refine rCSi [.int (2 * x4), .int 0, .int 11] [] C hG h (fun h => cM_within hI h) mvM_within k_975 ⟨Nat.le_of_ble_eq_true rfl, Nat.le_of_ble_eq_true rfl⟩ ⟨rfl, rfl⟩ rfl hl.1 (Nat.le_of_ble_eq_true rfl) dM_swingsOf_143 ⟨Nat.zero_le _, Nat.zero_le _⟩ rfl (fun H locs x12 z11 h hG => ?_)
      exact rReti C hG h dM_swingsOf_146
    replace h := ifN q75_3 h
    refine rSwD C dM_swingsOf_75 (tgt := 147) (by have q75_0n := ne_toInt (k := 1) q75_0 (by decide); have q75_1n := ne_toInt (k := 2) q75_1 (by decide); have q75_2n := ne_toInt (k := 3) q75_2 (by decide); have q75_3n := ne_toInt (k := 4) q75_3 (by decide); omega) (by decide) ?_
    refine rIload_n C dM_swingsOf_147 hl 1 rfl ?_
    exact rReti C hG h dM_swingsOf_148
  · refine rAload_n C dM_swingsOf_21 hl 1 rfl ?_
    refine rGet C hG (hI 78 (by decide) (by decide)) e_78 fiM_4 (v := .ref (gA G 82)) rfl k_810 dM_swingsOf_22 ?_
    refine lv_iconst (v := 3) C.1 C.2.1 dM_swingsOf_25 (by decide) ?_
    refine rIaldK C hG (hI 82 (by decide) (by decide)) e_82 3 (by decide) (by decide) dM_swingsOf_26 ?_
    refine lv_iconst (v := 5) C.1 C.2.1 dM_swingsOf_27 (by decide) ?_
    refine lv_irem C.1 C.2.1 dM_swingsOf_28 (by decide) ?_
    refine rIfne C (tgt := 36) h dM_swingsOf_29 (by decide) (fun h => ?_) (fun h => ?_)
    · refine rAload_n C dM_swingsOf_36 hl 1 rfl ?_
      refine rIload_n C dM_swingsOf_37 hl 2 rfl ?_
      refine rCVi [.int v1] [] C hG h (fun h => cM_keepsOf hI h) mvM_keepsOf k_994 ⟨Nat.le_of_ble_eq_true rfl, Nat.le_of_ble_eq_true rfl⟩ ⟨rfl, rfl⟩ (rRecv C hG (hI 78 (by decide) (by decide)) e_78 rfl) rfl hl.1 (Nat.le_of_ble_eq_true rfl) dM_swingsOf_38 ⟨Nat.zero_le _, Nat.zero_le _⟩ rfl (fun H locs x14 z13 h hG => ?_)
      refine rIload_n C dM_swingsOf_41 hl 0 rfl ?_
      refine lv_isub C.1 C.2.1 dM_swingsOf_42 ?_
      refine lv_bipush (v := 12) C.1 C.2.1 dM_swingsOf_43 (by decide) ?_
      refine lv_iadd C.1 C.2.1 dM_swingsOf_45 ?_
      refine lv_bipush (v := 12) C.1 C.2.1 dM_swingsOf_46 (by decide) ?_
      refine lv_irem C.1 C.2.1 dM_swingsOf_48 (by decide) ?_
      exact rReti C hG h dM_swingsOf_49
    · refine lv_iconst (v := 0) C.1 C.2.1 dM_swingsOf_32 (by decide) ?_
      refine lv_goto (tgt := 49) C.1 C.2.1 dM_swingsOf_33 (by decide) ?_
      exact rReti C hG h dM_swingsOf_49
theorem dM_areApart_0 : decode bM_areApart 0 = .ok (.iload_n 0, 1) := by decide +kernel
theorem dM_areApart_1 : decode bM_areApart 1 = .ok (.iload_n 1, 1) := by decide +kernel
theorem dM_areApart_2 : decode bM_areApart 2 = .ok (.isub, 1) := by decide +kernel
theorem dM_areApart_3 : decode bM_areApart 3 = .ok (.bipush 6, 2) := by decide +kernel
theorem dM_areApart_5 : decode bM_areApart 5 = .ok (.if_icmp .eq 11, 3) := by decide +kernel
theorem dM_areApart_8 : decode bM_areApart 8 = .ok (.iload_n 1, 1) := by decide +kernel
theorem dM_areApart_9 : decode bM_areApart 9 = .ok (.iload_n 0, 1) := by decide +kernel
theorem dM_areApart_10 : decode bM_areApart 10 = .ok (.isub, 1) := by decide +kernel
theorem dM_areApart_11 : decode bM_areApart 11 = .ok (.bipush 6, 2) := by decide +kernel
theorem dM_areApart_13 : decode bM_areApart 13 = .ok (.if_icmp .ne 7, 3) := by decide +kernel
theorem dM_areApart_16 : decode bM_areApart 16 = .ok (.iconst 1, 1) := by decide +kernel
theorem dM_areApart_17 : decode bM_areApart 17 = .ok (.goto 4, 3) := by decide +kernel
theorem dM_areApart_20 : decode bM_areApart 20 = .ok (.iconst 0, 1) := by decide +kernel
theorem dM_areApart_21 : decode bM_areApart 21 = .ok (.ireturn, 1) := by decide +kernel
theorem wM_areApart_16 {p : Program} {l : Launch} {e : Env} {s : State} {m : MethodId} {args : Array Value} {below : List Frame} {meth : Method} {c : Code} {G : GT} {I : List Nat} (C : CX p s m args meth c NM bM_areApart 2 (some .boolean) G I) (hI : mI I) {fu : Nat} {R1 : Int32} {Z : Sg} {z : Sg} {H : Heap} {locs : List Loc} {ls : Array Slot} (h : pM_areApart_16 fu z = some (R1, Z)) (hG : GW G I z s.heap H locs) (hl : lv_has ls 2 []) : W p l e rmM_areApart s m args below meth c H locs 0 0 (MQ below (Qi G I R1 Z) args s 0 0 (AD G I)) (F0 m 16 ls []) := by
  unfold pM_areApart_16 at h
  refine lv_iconst (v := 1) C.1 C.2.1 dM_areApart_16 (by decide) ?_
  refine lv_goto (tgt := 21) C.1 C.2.1 dM_areApart_17 (by decide) ?_
  exact rRetn C hG (ty := .boolean) rfl rfl h dM_areApart_21
theorem cM_areApart {l : Launch} {G : GT} {I : List Nat} (hI : mI I) {fu : Nat} {v0 : Int32} {v1 : Int32} {z : Sg} {R1 : Int32} {Z : Sg} (h : pM_areApart fu v0 v1 z = some (R1, Z)) : Mt l yM_areApart rmM_areApart bM_areApart 2 (some .boolean) G I z [.int v0, .int v1] (Qi G I R1 Z) := by
  refine entM (by decide +kernel) (Nat.le_of_ble_eq_true rfl) ?_
  intro p e s m below meth c C hG ls hl
  have hl : lv_has ls 2 [(0, .int v0), (1, .int v1)] := hl
  unfold pM_areApart at h
  refine rIload_n C dM_areApart_0 hl 0 rfl ?_
  refine rIload_n C dM_areApart_1 hl 1 rfl ?_
  refine lv_isub C.1 C.2.1 dM_areApart_2 ?_
  refine lv_bipush (v := 6) C.1 C.2.1 dM_areApart_3 (by decide) ?_
  refine rIcmpeq C (tgt := 16) h dM_areApart_5 (by decide) (fun h => ?_) (fun h => ?_)
  · exact wM_areApart_16 C hI h hG (lv_sub hl [] rfl)
  · refine rIload_n C dM_areApart_8 hl 1 rfl ?_
    refine rIload_n C dM_areApart_9 hl 0 rfl ?_
    refine lv_isub C.1 C.2.1 dM_areApart_10 ?_
    refine lv_bipush (v := 6) C.1 C.2.1 dM_areApart_11 (by decide) ?_
    refine rIcmpne C (tgt := 20) h dM_areApart_13 (by decide) (fun h => ?_) (fun h => ?_)
    · refine lv_iconst (v := 0) C.1 C.2.1 dM_areApart_20 (by decide) ?_
      exact rRetn C hG (ty := .boolean) rfl rfl h dM_areApart_21
    · exact wM_areApart_16 C hI h hG (lv_sub hl [] rfl)
theorem dM_doesClash_0 : decode bM_doesClash 0 = .ok (.aload_n 0, 1) := by decide +kernel
theorem dM_doesClash_1 : decode bM_doesClash 1 = .ok (.getfield 16, 3) := by decide +kernel
theorem dM_doesClash_4 : decode bM_doesClash 4 = .ok (.iconst 3, 1) := by decide +kernel
theorem dM_doesClash_5 : decode bM_doesClash 5 = .ok (.iload_n 1, 1) := by decide +kernel
theorem dM_doesClash_6 : decode bM_doesClash 6 = .ok (.imul, 1) := by decide +kernel
theorem dM_doesClash_7 : decode bM_doesClash 7 = .ok (.iconst 1, 1) := by decide +kernel
theorem dM_doesClash_8 : decode bM_doesClash 8 = .ok (.iadd, 1) := by decide +kernel
theorem dM_doesClash_9 : decode bM_doesClash 9 = .ok (.iaload, 1) := by decide +kernel
theorem dM_doesClash_10 : decode bM_doesClash 10 = .ok (.istore_n 2, 1) := by decide +kernel
theorem dM_doesClash_11 : decode bM_doesClash 11 = .ok (.iload_n 2, 1) := by decide +kernel
theorem dM_doesClash_12 : decode bM_doesClash 12 = .ok (.aload_n 0, 1) := by decide +kernel
theorem dM_doesClash_13 : decode bM_doesClash 13 = .ok (.iload_n 1, 1) := by decide +kernel
theorem dM_doesClash_14 : decode bM_doesClash 14 = .ok (.invokevirtual 93, 3) := by decide +kernel
theorem dM_doesClash_17 : decode bM_doesClash 17 = .ok (.invokestatic 96, 3) := by decide +kernel
theorem dM_doesClash_20 : decode bM_doesClash 20 = .ok (.ifCond .ne 15, 3) := by decide +kernel
theorem dM_doesClash_23 : decode bM_doesClash 23 = .ok (.iload_n 2, 1) := by decide +kernel
theorem dM_doesClash_24 : decode bM_doesClash 24 = .ok (.aload_n 0, 1) := by decide +kernel
theorem dM_doesClash_25 : decode bM_doesClash 25 = .ok (.iload_n 1, 1) := by decide +kernel
theorem dM_doesClash_26 : decode bM_doesClash 26 = .ok (.invokevirtual 100, 3) := by decide +kernel
theorem dM_doesClash_29 : decode bM_doesClash 29 = .ok (.invokestatic 96, 3) := by decide +kernel
theorem dM_doesClash_32 : decode bM_doesClash 32 = .ok (.ifCond .eq 7, 3) := by decide +kernel
theorem dM_doesClash_35 : decode bM_doesClash 35 = .ok (.iconst 1, 1) := by decide +kernel
theorem dM_doesClash_36 : decode bM_doesClash 36 = .ok (.goto 4, 3) := by decide +kernel
theorem dM_doesClash_39 : decode bM_doesClash 39 = .ok (.iconst 0, 1) := by decide +kernel
theorem dM_doesClash_40 : decode bM_doesClash 40 = .ok (.ireturn, 1) := by decide +kernel
theorem wM_doesClash_35 {p : Program} {l : Launch} {e : Env} {s : State} {m : MethodId} {args : Array Value} {below : List Frame} {meth : Method} {c : Code} {G : GT} {I : List Nat} (C : CX p s m args meth c NM bM_doesClash 3 (some .boolean) G I) (hI : mI I) {fu : Nat} {R1 : Int32} {Z : Sg} {z : Sg} {H : Heap} {locs : List Loc} {ls : Array Slot} (h : pM_doesClash_35 fu z = some (R1, Z)) (hG : GW G I z s.heap H locs) (hl : lv_has ls 3 []) : W p l e rmM_doesClash s m args below meth c H locs 0 0 (MQ below (Qi G I R1 Z) args s 0 0 (AD G I)) (F0 m 35 ls []) := by
  unfold pM_doesClash_35 at h
  refine lv_iconst (v := 1) C.1 C.2.1 dM_doesClash_35 (by decide) ?_
  refine lv_goto (tgt := 40) C.1 C.2.1 dM_doesClash_36 (by decide) ?_
  exact rRetn C hG (ty := .boolean) rfl rfl h dM_doesClash_40
theorem cM_doesClash {l : Launch} {G : GT} {I : List Nat} (hI : mI I) {fu : Nat} {v1 : Int32} {z : Sg} {R1 : Int32} {Z : Sg} (h : pM_doesClash fu v1 z = some (R1, Z)) : Mt l yM_doesClash rmM_doesClash bM_doesClash 3 (some .boolean) G I z [.ref (gA G 78), .int v1] (Qi G I R1 Z) := by
  refine entM (by decide +kernel) (Nat.le_of_ble_eq_true rfl) ?_
  intro p e s m below meth c C hG ls hl
  have hl : lv_has ls 3 [(0, .ref (gA G 78)), (1, .int v1)] := hl
  unfold pM_doesClash at h
  refine rAload_n C dM_doesClash_0 hl 0 rfl ?_
  refine rGet C hG (hI 78 (by decide) (by decide)) e_78 fiM_3 (v := .ref (gA G 81)) rfl k_809 dM_doesClash_1 ?_
  refine lv_iconst (v := 3) C.1 C.2.1 dM_doesClash_4 (by decide) ?_
  refine rIload_n C dM_doesClash_5 hl 1 rfl ?_
  refine lv_imul C.1 C.2.1 dM_doesClash_6 ?_
  refine lv_iconst (v := 1) C.1 C.2.1 dM_doesClash_7 (by decide) ?_
  refine lv_iadd C.1 C.2.1 dM_doesClash_8 ?_
  refine rIald C hG (hI 81 (by decide) (by decide)) e_81 h dM_doesClash_9 (fun h => ?_)
  refine rIstore_n C dM_doesClash_10 hl h (by decide) [(0, .ref (gA G 78)), (1, .int v1)] rfl (fun x1 ls h hl => ?_)
  refine rIload_n C dM_doesClash_11 hl 0 rfl ?_
  refine rAload_n C dM_doesClash_12 hl 1 rfl ?_
  refine rIload_n C dM_doesClash_13 hl 2 rfl ?_
  refine rCVi [.int v1] [.int x1] C hG h (fun h => cM_leftOf hI h) mvM_leftOf k_956 ⟨Nat.le_of_ble_eq_true rfl, Nat.le_of_ble_eq_true rfl⟩ ⟨rfl, rfl⟩ (rRecv C hG (hI 78 (by decide) (by decide)) e_78 rfl) rfl hl.1 (Nat.le_of_ble_eq_true rfl) dM_doesClash_14 ⟨Nat.zero_le _, Nat.zero_le _⟩ rfl (fun H locs x3 z2 h hG => ?_)
  refine rCSi [.int x1, .int x3] [] C hG h (fun h => cM_areApart hI h) mvM_areApart k_1010 ⟨Nat.le_of_ble_eq_true rfl, Nat.le_of_ble_eq_true rfl⟩ ⟨rfl, rfl⟩ rfl hl.1 (Nat.le_of_ble_eq_true rfl) dM_doesClash_17 ⟨Nat.zero_le _, Nat.zero_le _⟩ rfl (fun H locs x5 z4 h hG => ?_)
  refine rIfne C (tgt := 35) h dM_doesClash_20 (by decide) (fun h => ?_) (fun h => ?_)
  · exact wM_doesClash_35 C hI h hG (lv_sub hl [] rfl)
  · refine rIload_n C dM_doesClash_23 hl 0 rfl ?_
    refine rAload_n C dM_doesClash_24 hl 1 rfl ?_
    refine rIload_n C dM_doesClash_25 hl 2 rfl ?_
    refine rCVi [.int v1] [.int x1] C hG h (fun h => cM_rightOf hI h) mvM_rightOf k_964 ⟨Nat.le_of_ble_eq_true rfl, Nat.le_of_ble_eq_true rfl⟩ ⟨rfl, rfl⟩ (rRecv C hG (hI 78 (by decide) (by decide)) e_78 rfl) rfl hl.1 (Nat.le_of_ble_eq_true rfl) dM_doesClash_26 ⟨Nat.zero_le _, Nat.zero_le _⟩ rfl (fun H locs x7 z6 h hG => ?_)
    refine rCSi [.int x1, .int x7] [] C hG h (fun h => cM_areApart hI h) mvM_areApart k_1010 ⟨Nat.le_of_ble_eq_true rfl, Nat.le_of_ble_eq_true rfl⟩ ⟨rfl, rfl⟩ rfl hl.1 (Nat.le_of_ble_eq_true rfl) dM_doesClash_29 ⟨Nat.zero_le _, Nat.zero_le _⟩ rfl (fun H locs x9 z8 h hG => ?_)
    refine rIfeq C (tgt := 39) h dM_doesClash_32 (by decide) (fun h => ?_) (fun h => ?_)
    · refine lv_iconst (v := 0) C.1 C.2.1 dM_doesClash_39 (by decide) ?_
      exact rRetn C hG (ty := .boolean) rfl rfl h dM_doesClash_40
    · exact wM_doesClash_35 C hI h hG (lv_sub hl [] rfl)
theorem dM_tiresOf_0 : decode bM_tiresOf 0 = .ok (.aload_n 0, 1) := by decide +kernel
theorem dM_tiresOf_1 : decode bM_tiresOf 1 = .ok (.getfield 7, 3) := by decide +kernel
theorem dM_tiresOf_4 : decode bM_tiresOf 4 = .ok (.iload_n 1, 1) := by decide +kernel
theorem dM_tiresOf_5 : decode bM_tiresOf 5 = .ok (.iaload, 1) := by decide +kernel
theorem dM_tiresOf_6 : decode bM_tiresOf 6 = .ok (.iconst 5, 1) := by decide +kernel
theorem dM_tiresOf_7 : decode bM_tiresOf 7 = .ok (.if_icmp .ne 5, 3) := by decide +kernel
theorem dM_tiresOf_10 : decode bM_tiresOf 10 = .ok (.iconst (-1), 1) := by decide +kernel
theorem dM_tiresOf_11 : decode bM_tiresOf 11 = .ok (.ireturn, 1) := by decide +kernel
theorem dM_tiresOf_12 : decode bM_tiresOf 12 = .ok (.aload_n 0, 1) := by decide +kernel
theorem dM_tiresOf_13 : decode bM_tiresOf 13 = .ok (.iconst 1, 1) := by decide +kernel
theorem dM_tiresOf_14 : decode bM_tiresOf 14 = .ok (.iload_n 1, 1) := by decide +kernel
theorem dM_tiresOf_15 : decode bM_tiresOf 15 = .ok (.invokevirtual 189, 3) := by decide +kernel
theorem dM_tiresOf_18 : decode bM_tiresOf 18 = .ok (.istore_n 2, 1) := by decide +kernel
theorem dM_tiresOf_19 : decode bM_tiresOf 19 = .ok (.aload_n 0, 1) := by decide +kernel
theorem dM_tiresOf_20 : decode bM_tiresOf 20 = .ok (.iload_n 1, 1) := by decide +kernel
theorem dM_tiresOf_21 : decode bM_tiresOf 21 = .ok (.invokevirtual 103, 3) := by decide +kernel
theorem dM_tiresOf_24 : decode bM_tiresOf 24 = .ok (.ifCond .eq 9, 3) := by decide +kernel
theorem dM_tiresOf_27 : decode bM_tiresOf 27 = .ok (.iload_n 2, 1) := by decide +kernel
theorem dM_tiresOf_28 : decode bM_tiresOf 28 = .ok (.iconst 5, 1) := by decide +kernel
theorem dM_tiresOf_29 : decode bM_tiresOf 29 = .ok (.iadd, 1) := by decide +kernel
theorem dM_tiresOf_30 : decode bM_tiresOf 30 = .ok (.goto 4, 3) := by decide +kernel
theorem dM_tiresOf_33 : decode bM_tiresOf 33 = .ok (.iload_n 2, 1) := by decide +kernel
theorem dM_tiresOf_34 : decode bM_tiresOf 34 = .ok (.istore_n 3, 1) := by decide +kernel
theorem dM_tiresOf_35 : decode bM_tiresOf 35 = .ok (.aload_n 0, 1) := by decide +kernel
theorem dM_tiresOf_36 : decode bM_tiresOf 36 = .ok (.getfield 7, 3) := by decide +kernel
theorem dM_tiresOf_39 : decode bM_tiresOf 39 = .ok (.iload_n 1, 1) := by decide +kernel
theorem dM_tiresOf_40 : decode bM_tiresOf 40 = .ok (.iaload, 1) := by decide +kernel
theorem dM_tiresOf_41 : decode bM_tiresOf 41 = .ok (.tableswitch 40 2 4 #[27, 31, 27], 27) := by decide +kernel
theorem dM_tiresOf_68 : decode bM_tiresOf 68 = .ok (.iconst 2, 1) := by decide +kernel
theorem dM_tiresOf_69 : decode bM_tiresOf 69 = .ok (.iload_n 3, 1) := by decide +kernel
theorem dM_tiresOf_70 : decode bM_tiresOf 70 = .ok (.imul, 1) := by decide +kernel
theorem dM_tiresOf_71 : decode bM_tiresOf 71 = .ok (.ireturn, 1) := by decide +kernel
theorem dM_tiresOf_72 : decode bM_tiresOf 72 = .ok (.iload_n 3, 1) := by decide +kernel
theorem dM_tiresOf_73 : decode bM_tiresOf 73 = .ok (.aload_n 0, 1) := by decide +kernel
theorem dM_tiresOf_74 : decode bM_tiresOf 74 = .ok (.getfield 13, 3) := by decide +kernel
theorem dM_tiresOf_77 : decode bM_tiresOf 77 = .ok (.iload_n 1, 1) := by decide +kernel
theorem dM_tiresOf_78 : decode bM_tiresOf 78 = .ok (.iaload, 1) := by decide +kernel
theorem dM_tiresOf_79 : decode bM_tiresOf 79 = .ok (.isub, 1) := by decide +kernel
theorem dM_tiresOf_80 : decode bM_tiresOf 80 = .ok (.ireturn, 1) := by decide +kernel
theorem dM_tiresOf_81 : decode bM_tiresOf 81 = .ok (.iload_n 3, 1) := by decide +kernel
theorem dM_tiresOf_82 : decode bM_tiresOf 82 = .ok (.ireturn, 1) := by decide +kernel
theorem wM_tiresOf_34 {p : Program} {l : Launch} {e : Env} {s : State} {m : MethodId} {args : Array Value} {below : List Frame} {meth : Method} {c : Code} {G : GT} {I : List Nat} (C : CX p s m args meth c NM bM_tiresOf 4 (some .int) G I) (hI : mI I) {fu : Nat} {R1 : Int32} {Z : Sg} {v1 : Int32} {t0 : Int32} {z : Sg} {H : Heap} {locs : List Loc} {ls : Array Slot} (h : pM_tiresOf_34 fu v1 t0 z = some (R1, Z)) (hG : GW G I z s.heap H locs) (hl : lv_has ls 4 [(0, .ref (gA G 78)), (1, .int v1)]) : W p l e rmM_tiresOf s m args below meth c H locs 0 0 (MQ below (Qi G I R1 Z) args s 0 0 (AD G I)) (F0 m 34 ls [.int t0]) := by
  unfold pM_tiresOf_34 at h
  refine rIstoreA_n C dM_tiresOf_34 hl (by decide) [(0, .ref (gA G 78)), (1, .int v1)] rfl (fun ls hl => ?_)
  refine rAload_n C dM_tiresOf_35 hl 1 rfl ?_
  refine rGet C hG (hI 78 (by decide) (by decide)) e_78 fiM_1 (v := .ref (gA G 79)) rfl k_807 dM_tiresOf_36 ?_
  refine rIload_n C dM_tiresOf_39 hl 2 rfl ?_
  refine rIald C hG (hI 79 (by decide) (by decide)) e_79 h dM_tiresOf_40 (fun h => ?_)
  by_cases q41_0 : ga z 79 v1 = 2
  · replace h := ifP q41_0 h
    refine rSwT C dM_tiresOf_41 2 q41_0 (by decide) (off := 27) (tgt := 68) (by decide) (by decide) ?_
    refine lv_iconst (v := 2) C.1 C.2.1 dM_tiresOf_68 (by decide) ?_
    refine rIload_n C dM_tiresOf_69 hl 0 rfl ?_
    refine lv_imul C.1 C.2.1 dM_tiresOf_70 ?_
    exact rReti C hG h dM_tiresOf_71
  replace h := ifN q41_0 h
  by_cases q41_1 : ga z 79 v1 = 3
  · replace h := ifP q41_1 h
    refine rSwT C dM_tiresOf_41 3 q41_1 (by decide) (off := 31) (tgt := 72) (by decide) (by decide) ?_
    refine rIload_n C dM_tiresOf_72 hl 0 rfl ?_
    refine rAload_n C dM_tiresOf_73 hl 1 rfl ?_
    refine rGet C hG (hI 78 (by decide) (by decide)) e_78 fiM_2 (v := .ref (gA G 80)) rfl k_808 dM_tiresOf_74 ?_
    refine rIload_n C dM_tiresOf_77 hl 2 rfl ?_
    refine rIald C hG (hI 80 (by decide) (by decide)) e_80 h dM_tiresOf_78 (fun h => ?_)
    refine lv_isub C.1 C.2.1 dM_tiresOf_79 ?_
    exact rReti C hG h dM_tiresOf_80
  replace h := ifN q41_1 h
  by_cases q41_2 : ga z 79 v1 = 4
  · replace h := ifP q41_2 h
    refine rSwT C dM_tiresOf_41 4 q41_2 (by decide) (off := 27) (tgt := 68) (by decide) (by decide) ?_
    refine lv_iconst (v := 2) C.1 C.2.1 dM_tiresOf_68 (by decide) ?_
    refine rIload_n C dM_tiresOf_69 hl 0 rfl ?_
    refine lv_imul C.1 C.2.1 dM_tiresOf_70 ?_
    exact rReti C hG h dM_tiresOf_71
  replace h := ifN q41_2 h
  refine rSwD C dM_tiresOf_41 (tgt := 81) (by have q41_0n := ne_toInt (k := 2) q41_0 (by decide); have q41_1n := ne_toInt (k := 3) q41_1 (by decide); have q41_2n := ne_toInt (k := 4) q41_2 (by decide); omega) (by decide) ?_
  refine rIload_n C dM_tiresOf_81 hl 0 rfl ?_
  exact rReti C hG h dM_tiresOf_82
theorem cM_tiresOf {l : Launch} {G : GT} {I : List Nat} (hI : mI I) {fu : Nat} {v1 : Int32} {z : Sg} {R1 : Int32} {Z : Sg} (h : pM_tiresOf fu v1 z = some (R1, Z)) : Mt l yM_tiresOf rmM_tiresOf bM_tiresOf 4 (some .int) G I z [.ref (gA G 78), .int v1] (Qi G I R1 Z) := by
  refine entM (by decide +kernel) (Nat.le_of_ble_eq_true rfl) ?_
  intro p e s m below meth c C hG ls hl
  have hl : lv_has ls 4 [(0, .ref (gA G 78)), (1, .int v1)] := hl
  unfold pM_tiresOf at h
  refine rAload_n C dM_tiresOf_0 hl 0 rfl ?_
  refine rGet C hG (hI 78 (by decide) (by decide)) e_78 fiM_1 (v := .ref (gA G 79)) rfl k_807 dM_tiresOf_1 ?_
  refine rIload_n C dM_tiresOf_4 hl 1 rfl ?_
  refine rIald C hG (hI 79 (by decide) (by decide)) e_79 h dM_tiresOf_5 (fun h => ?_)
  refine lv_iconst (v := 5) C.1 C.2.1 dM_tiresOf_6 (by decide) ?_
  refine rIcmpne C (tgt := 12) h dM_tiresOf_7 (by decide) (fun h => ?_) (fun h => ?_)
  · refine rAload_n C dM_tiresOf_12 hl 0 rfl ?_
    refine lv_iconst (v := 1) C.1 C.2.1 dM_tiresOf_13 (by decide) ?_
    refine rIload_n C dM_tiresOf_14 hl 1 rfl ?_
    refine rCVi [.int 1, .int v1] [] C hG h (fun h => cM_asksOf hI h) mvM_asksOf k_952 ⟨Nat.le_of_ble_eq_true rfl, Nat.le_of_ble_eq_true rfl⟩ ⟨rfl, rfl⟩ (rRecv C hG (hI 78 (by decide) (by decide)) e_78 rfl) rfl hl.1 (Nat.le_of_ble_eq_true rfl) dM_tiresOf_15 ⟨Nat.zero_le _, Nat.zero_le _⟩ rfl (fun H locs x2 z1 h hG => ?_)
    refine rIstoreA_n C dM_tiresOf_18 hl (by decide) [(0, .ref (gA G 78)), (1, .int v1)] rfl (fun ls hl => ?_)
    refine rAload_n C dM_tiresOf_19 hl 1 rfl ?_
    refine rIload_n C dM_tiresOf_20 hl 2 rfl ?_
    refine rCVi [.int v1] [] C hG h (fun h => cM_doesClash hI h) mvM_doesClash k_1006 ⟨Nat.le_of_ble_eq_true rfl, Nat.le_of_ble_eq_true rfl⟩ ⟨rfl, rfl⟩ (rRecv C hG (hI 78 (by decide) (by decide)) e_78 rfl) rfl hl.1 (Nat.le_of_ble_eq_true rfl) dM_tiresOf_21 ⟨Nat.zero_le _, Nat.zero_le _⟩ rfl (fun H locs x4 z3 h hG => ?_)
    refine rIfeq C (tgt := 33) h dM_tiresOf_24 (by decide) (fun h => ?_) (fun h => ?_)
    · refine rIload_n C dM_tiresOf_33 hl 0 rfl ?_
      exact wM_tiresOf_34 C hI h hG (lv_sub hl [1, 2] rfl)
    · refine rIload_n C dM_tiresOf_27 hl 0 rfl ?_
      refine lv_iconst (v := 5) C.1 C.2.1 dM_tiresOf_28 (by decide) ?_
      refine lv_iadd C.1 C.2.1 dM_tiresOf_29 ?_
      refine lv_goto (tgt := 34) C.1 C.2.1 dM_tiresOf_30 (by decide) ?_
      exact wM_tiresOf_34 C hI h hG (lv_sub hl [1, 2] rfl)
  · refine lv_iconst (v := (-1)) C.1 C.2.1 dM_tiresOf_10 (by decide) ?_
    exact rReti C hG h dM_tiresOf_11
