theorem dM_eRead_0 : decode bM_eRead 0 = .ok (.aload_n 0, 1) := by decide +kernel
theorem dM_eRead_1 : decode bM_eRead 1 = .ok (.iconst 0, 1) := by decide +kernel
theorem dM_eRead_2 : decode bM_eRead 2 = .ok (.putfield 140, 3) := by decide +kernel
theorem dM_eRead_5 : decode bM_eRead 5 = .ok (.aload_n 0, 1) := by decide +kernel
theorem dM_eRead_6 : decode bM_eRead 6 = .ok (.iconst 0, 1) := by decide +kernel
theorem dM_eRead_7 : decode bM_eRead 7 = .ok (.putfield 146, 3) := by decide +kernel
theorem dM_eRead_10 : decode bM_eRead 10 = .ok (.iconst 1, 1) := by decide +kernel
theorem dM_eRead_11 : decode bM_eRead 11 = .ok (.istore_n 1, 1) := by decide +kernel
theorem dM_eRead_12 : decode bM_eRead 12 = .ok (.iconst 1, 1) := by decide +kernel
theorem dM_eRead_13 : decode bM_eRead 13 = .ok (.istore_n 2, 1) := by decide +kernel
theorem dM_eRead_14 : decode bM_eRead 14 = .ok (.aload_n 0, 1) := by decide +kernel
theorem dM_eRead_15 : decode bM_eRead 15 = .ok (.invokevirtual 159, 3) := by decide +kernel
theorem dM_eRead_18 : decode bM_eRead 18 = .ok (.iload_n 1, 1) := by decide +kernel
theorem dM_eRead_19 : decode bM_eRead 19 = .ok (.ifCond .eq 131, 3) := by decide +kernel
theorem dM_eRead_22 : decode bM_eRead 22 = .ok (.aload_n 0, 1) := by decide +kernel
theorem dM_eRead_23 : decode bM_eRead 23 = .ok (.getfield 128, 3) := by decide +kernel
theorem dM_eRead_26 : decode bM_eRead 26 = .ok (.iconst 1, 1) := by decide +kernel
theorem dM_eRead_27 : decode bM_eRead 27 = .ok (.if_icmp .eq 11, 3) := by decide +kernel
theorem dM_eRead_30 : decode bM_eRead 30 = .ok (.aload_n 0, 1) := by decide +kernel
theorem dM_eRead_31 : decode bM_eRead 31 = .ok (.getfield 128, 3) := by decide +kernel
theorem dM_eRead_34 : decode bM_eRead 34 = .ok (.iconst 2, 1) := by decide +kernel
theorem dM_eRead_35 : decode bM_eRead 35 = .ok (.if_icmp .ne 40, 3) := by decide +kernel
theorem dM_eRead_38 : decode bM_eRead 38 = .ok (.aload_n 0, 1) := by decide +kernel
theorem dM_eRead_39 : decode bM_eRead 39 = .ok (.aload_n 0, 1) := by decide +kernel
theorem dM_eRead_40 : decode bM_eRead 40 = .ok (.getfield 128, 3) := by decide +kernel
theorem dM_eRead_43 : decode bM_eRead 43 = .ok (.iconst 1, 1) := by decide +kernel
theorem dM_eRead_44 : decode bM_eRead 44 = .ok (.if_icmp .ne 13, 3) := by decide +kernel
theorem dM_eRead_47 : decode bM_eRead 47 = .ok (.ldc 162, 2) := by decide +kernel
theorem dM_eRead_49 : decode bM_eRead 49 = .ok (.aload_n 0, 1) := by decide +kernel
theorem dM_eRead_50 : decode bM_eRead 50 = .ok (.getfield 131, 3) := by decide +kernel
theorem dM_eRead_53 : decode bM_eRead 53 = .ok (.iadd, 1) := by decide +kernel
theorem dM_eRead_54 : decode bM_eRead 54 = .ok (.goto 7, 3) := by decide +kernel
theorem dM_eRead_57 : decode bM_eRead 57 = .ok (.aload_n 0, 1) := by decide +kernel
theorem dM_eRead_58 : decode bM_eRead 58 = .ok (.getfield 131, 3) := by decide +kernel
theorem dM_eRead_61 : decode bM_eRead 61 = .ok (.invokevirtual 149, 3) := by decide +kernel
theorem dM_eRead_64 : decode bM_eRead 64 = .ok (.aload_n 0, 1) := by decide +kernel
theorem dM_eRead_65 : decode bM_eRead 65 = .ok (.bipush 7, 2) := by decide +kernel
theorem dM_eRead_67 : decode bM_eRead 67 = .ok (.invokevirtual 156, 3) := by decide +kernel
theorem dM_eRead_70 : decode bM_eRead 70 = .ok (.iconst 0, 1) := by decide +kernel
theorem dM_eRead_71 : decode bM_eRead 71 = .ok (.istore_n 1, 1) := by decide +kernel
theorem dM_eRead_72 : decode bM_eRead 72 = .ok (.goto (-58), 3) := by decide +kernel
theorem dM_eRead_75 : decode bM_eRead 75 = .ok (.aload_n 0, 1) := by decide +kernel
theorem dM_eRead_76 : decode bM_eRead 76 = .ok (.getfield 128, 3) := by decide +kernel
theorem dM_eRead_79 : decode bM_eRead 79 = .ok (.bipush 6, 2) := by decide +kernel
theorem dM_eRead_81 : decode bM_eRead 81 = .ok (.if_icmp .ne 18, 3) := by decide +kernel
theorem dM_eRead_84 : decode bM_eRead 84 = .ok (.iload_n 2, 1) := by decide +kernel
theorem dM_eRead_85 : decode bM_eRead 85 = .ok (.ifCond .eq 14, 3) := by decide +kernel
theorem dM_eRead_88 : decode bM_eRead 88 = .ok (.aload_n 0, 1) := by decide +kernel
theorem dM_eRead_89 : decode bM_eRead 89 = .ok (.bipush 13, 2) := by decide +kernel
theorem dM_eRead_91 : decode bM_eRead 91 = .ok (.invokevirtual 163, 3) := by decide +kernel
theorem dM_eRead_94 : decode bM_eRead 94 = .ok (.ifCond .ne (-80), 3) := by decide +kernel
theorem dM_eRead_97 : decode bM_eRead 97 = .ok (.iconst 0, 1) := by decide +kernel
theorem dM_eRead_98 : decode bM_eRead 98 = .ok (.ireturn, 1) := by decide +kernel
theorem dM_eRead_99 : decode bM_eRead 99 = .ok (.aload_n 0, 1) := by decide +kernel
theorem dM_eRead_100 : decode bM_eRead 100 = .ok (.getfield 128, 3) := by decide +kernel
theorem dM_eRead_103 : decode bM_eRead 103 = .ok (.bipush 45, 2) := by decide +kernel
theorem dM_eRead_105 : decode bM_eRead 105 = .ok (.if_icmp .ne 19, 3) := by decide +kernel
theorem dM_eRead_108 : decode bM_eRead 108 = .ok (.aload_n 0, 1) := by decide +kernel
theorem dM_eRead_109 : decode bM_eRead 109 = .ok (.bipush 19, 2) := by decide +kernel
theorem dM_eRead_111 : decode bM_eRead 111 = .ok (.invokevirtual 163, 3) := by decide +kernel
theorem dM_eRead_114 : decode bM_eRead 114 = .ok (.ifCond .ne 5, 3) := by decide +kernel
theorem dM_eRead_117 : decode bM_eRead 117 = .ok (.iconst 0, 1) := by decide +kernel
theorem dM_eRead_118 : decode bM_eRead 118 = .ok (.ireturn, 1) := by decide +kernel
theorem dM_eRead_119 : decode bM_eRead 119 = .ok (.iconst 0, 1) := by decide +kernel
theorem dM_eRead_120 : decode bM_eRead 120 = .ok (.istore_n 2, 1) := by decide +kernel
theorem dM_eRead_121 : decode bM_eRead 121 = .ok (.goto (-107), 3) := by decide +kernel
theorem dM_eRead_124 : decode bM_eRead 124 = .ok (.aload_n 0, 1) := by decide +kernel
theorem dM_eRead_125 : decode bM_eRead 125 = .ok (.getfield 128, 3) := by decide +kernel
theorem dM_eRead_128 : decode bM_eRead 128 = .ok (.bipush 40, 2) := by decide +kernel
theorem dM_eRead_130 : decode bM_eRead 130 = .ok (.if_icmp .ne 18, 3) := by decide +kernel
theorem dM_eRead_133 : decode bM_eRead 133 = .ok (.aload_n 0, 1) := by decide +kernel
theorem dM_eRead_134 : decode bM_eRead 134 = .ok (.iconst 0, 1) := by decide +kernel
theorem dM_eRead_135 : decode bM_eRead 135 = .ok (.invokevirtual 163, 3) := by decide +kernel
theorem dM_eRead_138 : decode bM_eRead 138 = .ok (.ifCond .ne 5, 3) := by decide +kernel
theorem dM_eRead_141 : decode bM_eRead 141 = .ok (.iconst 0, 1) := by decide +kernel
theorem dM_eRead_142 : decode bM_eRead 142 = .ok (.ireturn, 1) := by decide +kernel
theorem dM_eRead_143 : decode bM_eRead 143 = .ok (.iconst 1, 1) := by decide +kernel
theorem dM_eRead_144 : decode bM_eRead 144 = .ok (.istore_n 2, 1) := by decide +kernel
theorem dM_eRead_145 : decode bM_eRead 145 = .ok (.goto (-131), 3) := by decide +kernel
theorem dM_eRead_148 : decode bM_eRead 148 = .ok (.iconst 0, 1) := by decide +kernel
theorem dM_eRead_149 : decode bM_eRead 149 = .ok (.ireturn, 1) := by decide +kernel
theorem dM_eRead_150 : decode bM_eRead 150 = .ok (.aload_n 0, 1) := by decide +kernel
theorem dM_eRead_151 : decode bM_eRead 151 = .ok (.getfield 128, 3) := by decide +kernel
theorem dM_eRead_154 : decode bM_eRead 154 = .ok (.bipush 59, 2) := by decide +kernel
theorem dM_eRead_156 : decode bM_eRead 156 = .ok (.if_icmp .ne 21, 3) := by decide +kernel
theorem dM_eRead_159 : decode bM_eRead 159 = .ok (.aload_n 0, 1) := by decide +kernel
theorem dM_eRead_160 : decode bM_eRead 160 = .ok (.iconst 1, 1) := by decide +kernel
theorem dM_eRead_161 : decode bM_eRead 161 = .ok (.invokevirtual 156, 3) := by decide +kernel
theorem dM_eRead_164 : decode bM_eRead 164 = .ok (.aload_n 0, 1) := by decide +kernel
theorem dM_eRead_165 : decode bM_eRead 165 = .ok (.getfield 140, 3) := by decide +kernel
theorem dM_eRead_168 : decode bM_eRead 168 = .ok (.ifCond .ne 7, 3) := by decide +kernel
theorem dM_eRead_171 : decode bM_eRead 171 = .ok (.iconst 1, 1) := by decide +kernel
theorem dM_eRead_172 : decode bM_eRead 172 = .ok (.goto 4, 3) := by decide +kernel
theorem dM_eRead_175 : decode bM_eRead 175 = .ok (.iconst 0, 1) := by decide +kernel
theorem dM_eRead_176 : decode bM_eRead 176 = .ok (.ireturn, 1) := by decide +kernel
theorem dM_eRead_177 : decode bM_eRead 177 = .ok (.aload_n 0, 1) := by decide +kernel
theorem dM_eRead_178 : decode bM_eRead 178 = .ok (.getfield 128, 3) := by decide +kernel
theorem dM_eRead_181 : decode bM_eRead 181 = .ok (.bipush 41, 2) := by decide +kernel
theorem dM_eRead_183 : decode bM_eRead 183 = .ok (.if_icmp .ne 46, 3) := by decide +kernel
theorem dM_eRead_186 : decode bM_eRead 186 = .ok (.aload_n 0, 1) := by decide +kernel
theorem dM_eRead_187 : decode bM_eRead 187 = .ok (.iconst 1, 1) := by decide +kernel
theorem dM_eRead_188 : decode bM_eRead 188 = .ok (.invokevirtual 156, 3) := by decide +kernel
theorem dM_eRead_191 : decode bM_eRead 191 = .ok (.aload_n 0, 1) := by decide +kernel
theorem dM_eRead_192 : decode bM_eRead 192 = .ok (.getfield 140, 3) := by decide +kernel
theorem dM_eRead_195 : decode bM_eRead 195 = .ok (.ifCond .ne 5, 3) := by decide +kernel
theorem dM_eRead_198 : decode bM_eRead 198 = .ok (.iconst 0, 1) := by decide +kernel
theorem dM_eRead_199 : decode bM_eRead 199 = .ok (.ireturn, 1) := by decide +kernel
theorem dM_eRead_200 : decode bM_eRead 200 = .ok (.aload_n 0, 1) := by decide +kernel
theorem dM_eRead_201 : decode bM_eRead 201 = .ok (.dup, 1) := by decide +kernel
theorem dM_eRead_202 : decode bM_eRead 202 = .ok (.getfield 140, 3) := by decide +kernel
theorem dM_eRead_205 : decode bM_eRead 205 = .ok (.iconst 1, 1) := by decide +kernel
theorem dM_eRead_206 : decode bM_eRead 206 = .ok (.isub, 1) := by decide +kernel
theorem dM_eRead_207 : decode bM_eRead 207 = .ok (.putfield 140, 3) := by decide +kernel
theorem dM_eRead_210 : decode bM_eRead 210 = .ok (.aload_n 0, 1) := by decide +kernel
theorem dM_eRead_211 : decode bM_eRead 211 = .ok (.dup, 1) := by decide +kernel
theorem dM_eRead_212 : decode bM_eRead 212 = .ok (.getfield 146, 3) := by decide +kernel
theorem dM_eRead_215 : decode bM_eRead 215 = .ok (.iconst 1, 1) := by decide +kernel
theorem dM_eRead_216 : decode bM_eRead 216 = .ok (.isub, 1) := by decide +kernel
theorem dM_eRead_217 : decode bM_eRead 217 = .ok (.putfield 146, 3) := by decide +kernel
theorem dM_eRead_220 : decode bM_eRead 220 = .ok (.aload_n 0, 1) := by decide +kernel
theorem dM_eRead_221 : decode bM_eRead 221 = .ok (.bipush 7, 2) := by decide +kernel
theorem dM_eRead_223 : decode bM_eRead 223 = .ok (.invokevirtual 156, 3) := by decide +kernel
theorem dM_eRead_226 : decode bM_eRead 226 = .ok (.goto (-212), 3) := by decide +kernel
theorem dM_eRead_229 : decode bM_eRead 229 = .ok (.aload_n 0, 1) := by decide +kernel
theorem dM_eRead_230 : decode bM_eRead 230 = .ok (.invokevirtual 166, 3) := by decide +kernel
theorem dM_eRead_233 : decode bM_eRead 233 = .ok (.istore_n 3, 1) := by decide +kernel
theorem dM_eRead_234 : decode bM_eRead 234 = .ok (.iload_n 3, 1) := by decide +kernel
theorem dM_eRead_235 : decode bM_eRead 235 = .ok (.iconst (-1), 1) := by decide +kernel
theorem dM_eRead_236 : decode bM_eRead 236 = .ok (.if_icmp .eq 11, 3) := by decide +kernel
theorem dM_eRead_239 : decode bM_eRead 239 = .ok (.aload_n 0, 1) := by decide +kernel
theorem dM_eRead_240 : decode bM_eRead 240 = .ok (.iload_n 3, 1) := by decide +kernel
theorem dM_eRead_241 : decode bM_eRead 241 = .ok (.invokevirtual 169, 3) := by decide +kernel
theorem dM_eRead_244 : decode bM_eRead 244 = .ok (.ifCond .ne 5, 3) := by decide +kernel
theorem dM_eRead_247 : decode bM_eRead 247 = .ok (.iconst 0, 1) := by decide +kernel
theorem dM_eRead_248 : decode bM_eRead 248 = .ok (.ireturn, 1) := by decide +kernel
theorem dM_eRead_249 : decode bM_eRead 249 = .ok (.iconst 1, 1) := by decide +kernel
theorem dM_eRead_250 : decode bM_eRead 250 = .ok (.istore_n 1, 1) := by decide +kernel
theorem dM_eRead_251 : decode bM_eRead 251 = .ok (.iload_n 3, 1) := by decide +kernel
theorem dM_eRead_252 : decode bM_eRead 252 = .ok (.bipush 12, 2) := by decide +kernel
theorem dM_eRead_254 : decode bM_eRead 254 = .ok (.if_icmp .gt 7, 3) := by decide +kernel
theorem dM_eRead_257 : decode bM_eRead 257 = .ok (.iconst 1, 1) := by decide +kernel
theorem dM_eRead_258 : decode bM_eRead 258 = .ok (.goto 4, 3) := by decide +kernel
theorem dM_eRead_261 : decode bM_eRead 261 = .ok (.iconst 0, 1) := by decide +kernel
theorem dM_eRead_262 : decode bM_eRead 262 = .ok (.istore_n 2, 1) := by decide +kernel
theorem dM_eRead_263 : decode bM_eRead 263 = .ok (.goto (-249), 3) := by decide +kernel
theorem wM_eRead_262 {p : Program} {l : Launch} {e : Env} {s : State} {m : MethodId} {args : Array Value} {below : List Frame} {meth : Method} {c : Code} {G : GT} {I : List Nat} (C : CX p s m args meth c NM bM_eRead 4 (some .boolean) G I) (hI : mI I) {fu : Nat} {R1 : Int32} {Z : Sg} {rc14 : Int32 → Int32 → Sg → Option (Int32 × Sg)} (hr14 : ∀ {v1 : Int32} {v2 : Int32} {z : Sg} {H : Heap} {locs : List Loc} {ls : Array Slot}, rc14 v1 v2 z = some (R1, Z) → GW G I z s.heap H locs → lv_has ls 4 [(0, .ref (gA G 78)), (1, .int v1), (2, .int v2)] → W p l e rmM_eRead s m args below meth c H locs 0 0 (MQ below (Qi G I R1 Z) args s 0 0 (AD G I)) (F0 m 14 ls [])) {v1 : Int32} {t0 : Int32} {z : Sg} {H : Heap} {locs : List Loc} {ls : Array Slot} (h : pM_eRead_262 fu rc14 v1 t0 z = some (R1, Z)) (hG : GW G I z s.heap H locs) (hl : lv_has ls 4 [(0, .ref (gA G 78)), (1, .int v1)]) : W p l e rmM_eRead s m args below meth c H locs 0 0 (MQ below (Qi G I R1 Z) args s 0 0 (AD G I)) (F0 m 262 ls [.int t0]) := by
  unfold pM_eRead_262 at h
  refine rIstoreA_n C dM_eRead_262 hl (by decide) [(0, .ref (gA G 78)), (1, .int v1)] rfl (fun ls hl => ?_)
  refine lv_goto (tgt := 14) C.1 C.2.1 dM_eRead_263 (by decide) ?_
  exact hr14 h hG (lv_sub hl [1, 2, 0] rfl)
theorem wM_eRead_61 {p : Program} {l : Launch} {e : Env} {s : State} {m : MethodId} {args : Array Value} {below : List Frame} {meth : Method} {c : Code} {G : GT} {I : List Nat} (C : CX p s m args meth c NM bM_eRead 4 (some .boolean) G I) (hI : mI I) {fu : Nat} {R1 : Int32} {Z : Sg} {rc14 : Int32 → Int32 → Sg → Option (Int32 × Sg)} (hr14 : ∀ {v1 : Int32} {v2 : Int32} {z : Sg} {H : Heap} {locs : List Loc} {ls : Array Slot}, rc14 v1 v2 z = some (R1, Z) → GW G I z s.heap H locs → lv_has ls 4 [(0, .ref (gA G 78)), (1, .int v1), (2, .int v2)] → W p l e rmM_eRead s m args below meth c H locs 0 0 (MQ below (Qi G I R1 Z) args s 0 0 (AD G I)) (F0 m 14 ls [])) {v2 : Int32} {t1 : Int32} {z : Sg} {H : Heap} {locs : List Loc} {ls : Array Slot} (h : pM_eRead_61 fu rc14 v2 t1 z = some (R1, Z)) (hG : GW G I z s.heap H locs) (hl : lv_has ls 4 [(0, .ref (gA G 78)), (2, .int v2)]) : W p l e rmM_eRead s m args below meth c H locs 0 0 (MQ below (Qi G I R1 Z) args s 0 0 (AD G I)) (F0 m 61 ls [.int t1, .ref (gA G 78)]) := by
  unfold pM_eRead_61 at h
  refine rCVv [.int t1] [] C hG h (fun h => cM_puts hI h) mvM_puts k_779 ⟨Nat.le_of_ble_eq_true rfl, Nat.le_of_ble_eq_true rfl⟩ ⟨rfl, rfl⟩ (rRecv C hG (hI 78 (by decide) (by decide)) e_78 rfl) rfl hl.1 (Nat.le_of_ble_eq_true rfl) dM_eRead_61 ⟨Nat.zero_le _, Nat.zero_le _⟩ rfl (fun H locs z19 h hG => ?_)
  refine rAload_n C dM_eRead_64 hl 0 rfl ?_
  refine lv_bipush (v := 7) C.1 C.2.1 dM_eRead_65 (by decide) ?_
  refine rCVv [.int 7] [] C hG h (fun h => cM_unwinds hI h) mvM_unwinds k_783 ⟨Nat.le_of_ble_eq_true rfl, Nat.le_of_ble_eq_true rfl⟩ ⟨rfl, rfl⟩ (rRecv C hG (hI 78 (by decide) (by decide)) e_78 rfl) rfl hl.1 (Nat.le_of_ble_eq_true rfl) dM_eRead_67 ⟨Nat.zero_le _, Nat.zero_le _⟩ rfl (fun H locs z20 h hG => ?_)
  refine lv_iconst (v := 0) C.1 C.2.1 dM_eRead_70 (by decide) ?_
  refine rIstoreA_n C dM_eRead_71 hl (by decide) [(0, .ref (gA G 78)), (2, .int v2)] rfl (fun ls hl => ?_)
  refine lv_goto (tgt := 14) C.1 C.2.1 dM_eRead_72 (by decide) ?_
  exact hr14 h hG (lv_sub hl [1, 0, 2] rfl)
theorem wM_eRead_38 {p : Program} {l : Launch} {e : Env} {s : State} {m : MethodId} {args : Array Value} {below : List Frame} {meth : Method} {c : Code} {G : GT} {I : List Nat} (C : CX p s m args meth c NM bM_eRead 4 (some .boolean) G I) (hI : mI I) {fu : Nat} {R1 : Int32} {Z : Sg} {rc14 : Int32 → Int32 → Sg → Option (Int32 × Sg)} (hr14 : ∀ {v1 : Int32} {v2 : Int32} {z : Sg} {H : Heap} {locs : List Loc} {ls : Array Slot}, rc14 v1 v2 z = some (R1, Z) → GW G I z s.heap H locs → lv_has ls 4 [(0, .ref (gA G 78)), (1, .int v1), (2, .int v2)] → W p l e rmM_eRead s m args below meth c H locs 0 0 (MQ below (Qi G I R1 Z) args s 0 0 (AD G I)) (F0 m 14 ls [])) {v2 : Int32} {z : Sg} {H : Heap} {locs : List Loc} {ls : Array Slot} (h : pM_eRead_38 fu rc14 v2 z = some (R1, Z)) (hG : GW G I z s.heap H locs) (hl : lv_has ls 4 [(0, .ref (gA G 78)), (2, .int v2)]) : W p l e rmM_eRead s m args below meth c H locs 0 0 (MQ below (Qi G I R1 Z) args s 0 0 (AD G I)) (F0 m 38 ls []) := by
  unfold pM_eRead_38 at h
  refine rAload_n C dM_eRead_38 hl 0 rfl ?_
  refine rAload_n C dM_eRead_39 hl 0 rfl ?_
  refine rGet C hG (hI 78 (by decide) (by decide)) e_78 fiM_20 (v := .int (z 78 20)) rfl k_826 dM_eRead_40 ?_
  refine lv_iconst (v := 1) C.1 C.2.1 dM_eRead_43 (by decide) ?_
  refine rIcmpne C (tgt := 57) h dM_eRead_44 (by decide) (fun h => ?_) (fun h => ?_)
  · refine rAload_n C dM_eRead_57 hl 0 rfl ?_
    refine rGet C hG (hI 78 (by decide) (by decide)) e_78 fiM_21 (v := .int (z 78 21)) rfl k_827 dM_eRead_58 ?_
    exact wM_eRead_61 C hI hr14 h hG (lv_sub hl [0, 1] rfl)
  · refine lv_ldc C.1 C.2.1 C.2.2.2.1 (C.2.2.2.2.1 _ k_778) dM_eRead_47 ?_
    refine rAload_n C dM_eRead_49 hl 0 rfl ?_
    refine rGet C hG (hI 78 (by decide) (by decide)) e_78 fiM_21 (v := .int (z 78 21)) rfl k_827 dM_eRead_50 ?_
    refine lv_iadd C.1 C.2.1 dM_eRead_53 ?_
    refine lv_goto (tgt := 61) C.1 C.2.1 dM_eRead_54 (by decide) ?_
    exact wM_eRead_61 C hI hr14 h hG (lv_sub hl [0, 1] rfl)
theorem wM_eRead_99 {p : Program} {l : Launch} {e : Env} {s : State} {m : MethodId} {args : Array Value} {below : List Frame} {meth : Method} {c : Code} {G : GT} {I : List Nat} (C : CX p s m args meth c NM bM_eRead 4 (some .boolean) G I) (hI : mI I) {fu : Nat} {R1 : Int32} {Z : Sg} {rc14 : Int32 → Int32 → Sg → Option (Int32 × Sg)} (hr14 : ∀ {v1 : Int32} {v2 : Int32} {z : Sg} {H : Heap} {locs : List Loc} {ls : Array Slot}, rc14 v1 v2 z = some (R1, Z) → GW G I z s.heap H locs → lv_has ls 4 [(0, .ref (gA G 78)), (1, .int v1), (2, .int v2)] → W p l e rmM_eRead s m args below meth c H locs 0 0 (MQ below (Qi G I R1 Z) args s 0 0 (AD G I)) (F0 m 14 ls [])) {v1 : Int32} {z : Sg} {H : Heap} {locs : List Loc} {ls : Array Slot} (h : pM_eRead_99 fu rc14 v1 z = some (R1, Z)) (hG : GW G I z s.heap H locs) (hl : lv_has ls 4 [(0, .ref (gA G 78)), (1, .int v1)]) : W p l e rmM_eRead s m args below meth c H locs 0 0 (MQ below (Qi G I R1 Z) args s 0 0 (AD G I)) (F0 m 99 ls []) := by
  unfold pM_eRead_99 at h
  refine rAload_n C dM_eRead_99 hl 0 rfl ?_
  refine rGet C hG (hI 78 (by decide) (by decide)) e_78 fiM_20 (v := .int (z 78 20)) rfl k_826 dM_eRead_100 ?_
  refine lv_bipush (v := 45) C.1 C.2.1 dM_eRead_103 (by decide) ?_
  refine rIcmpne C (tgt := 124) h dM_eRead_105 (by decide) (fun h => ?_) (fun h => ?_)
  · refine rAload_n C dM_eRead_124 hl 0 rfl ?_
    refine rGet C hG (hI 78 (by decide) (by decide)) e_78 fiM_20 (v := .int (z 78 20)) rfl k_826 dM_eRead_125 ?_
    refine lv_bipush (v := 40) C.1 C.2.1 dM_eRead_128 (by decide) ?_
    refine rIcmpne C (tgt := 148) h dM_eRead_130 (by decide) (fun h => ?_) (fun h => ?_)
    · refine lv_iconst (v := 0) C.1 C.2.1 dM_eRead_148 (by decide) ?_
      exact rRetn C hG (ty := .boolean) rfl rfl h dM_eRead_149
    · refine rAload_n C dM_eRead_133 hl 0 rfl ?_
      refine lv_iconst (v := 0) C.1 C.2.1 dM_eRead_134 (by decide) ?_
      refine rCVi [.int 0] [] C hG h (fun h => cM_opensOne hI h) mvM_opensOne k_790 ⟨Nat.le_of_ble_eq_true rfl, Nat.le_of_ble_eq_true rfl⟩ ⟨rfl, rfl⟩ (rRecv C hG (hI 78 (by decide) (by decide)) e_78 rfl) rfl hl.1 (Nat.le_of_ble_eq_true rfl) dM_eRead_135 ⟨Nat.zero_le _, Nat.zero_le _⟩ rfl (fun H locs x16 z15 h hG => ?_)
      refine rIfne C (tgt := 143) h dM_eRead_138 (by decide) (fun h => ?_) (fun h => ?_)
      · refine lv_iconst (v := 1) C.1 C.2.1 dM_eRead_143 (by decide) ?_
        refine rIstoreA_n C dM_eRead_144 hl (by decide) [(0, .ref (gA G 78)), (1, .int v1)] rfl (fun ls hl => ?_)
        refine lv_goto (tgt := 14) C.1 C.2.1 dM_eRead_145 (by decide) ?_
        exact hr14 h hG (lv_sub hl [1, 2, 0] rfl)
      · refine lv_iconst (v := 0) C.1 C.2.1 dM_eRead_141 (by decide) ?_
        exact rRetn C hG (ty := .boolean) rfl rfl h dM_eRead_142
  · refine rAload_n C dM_eRead_108 hl 0 rfl ?_
    refine lv_bipush (v := 19) C.1 C.2.1 dM_eRead_109 (by decide) ?_
    refine rCVi [.int 19] [] C hG h (fun h => cM_opensOne hI h) mvM_opensOne k_790 ⟨Nat.le_of_ble_eq_true rfl, Nat.le_of_ble_eq_true rfl⟩ ⟨rfl, rfl⟩ (rRecv C hG (hI 78 (by decide) (by decide)) e_78 rfl) rfl hl.1 (Nat.le_of_ble_eq_true rfl) dM_eRead_111 ⟨Nat.zero_le _, Nat.zero_le _⟩ rfl (fun H locs x18 z17 h hG => ?_)
    refine rIfne C (tgt := 119) h dM_eRead_114 (by decide) (fun h => ?_) (fun h => ?_)
    · refine lv_iconst (v := 0) C.1 C.2.1 dM_eRead_119 (by decide) ?_
      refine rIstoreA_n C dM_eRead_120 hl (by decide) [(0, .ref (gA G 78)), (1, .int v1)] rfl (fun ls hl => ?_)
      refine lv_goto (tgt := 14) C.1 C.2.1 dM_eRead_121 (by decide) ?_
      exact hr14 h hG (lv_sub hl [1, 2, 0] rfl)
    · refine lv_iconst (v := 0) C.1 C.2.1 dM_eRead_117 (by decide) ?_
      exact rRetn C hG (ty := .boolean) rfl rfl h dM_eRead_118
theorem wM_eRead_14 {p : Program} {l : Launch} {e : Env} {s : State} {m : MethodId} {args : Array Value} {below : List Frame} {meth : Method} {c : Code} {G : GT} {I : List Nat} (C : CX p s m args meth c NM bM_eRead 4 (some .boolean) G I) (hI : mI I) {fu : Nat} {R1 : Int32} {Z : Sg} : ∀ (k : Nat) {v1 : Int32} {v2 : Int32} {z : Sg} {H : Heap} {locs : List Loc} {ls : Array Slot}, pM_eRead_14 fu k v1 v2 z = some (R1, Z) → GW G I z s.heap H locs → lv_has ls 4 [(0, .ref (gA G 78)), (1, .int v1), (2, .int v2)] → W p l e rmM_eRead s m args below meth c H locs 0 0 (MQ below (Qi G I R1 Z) args s 0 0 (AD G I)) (F0 m 14 ls []) := by
  intro k
  induction k with
  | zero => intro v1 v2 z H locs ls h hG hl; rw [pM_eRead_14] at h; cases h
  | succ k ih =>
    intro v1 v2 z H locs ls h hG hl
    rw [pM_eRead_14] at h
    refine rAload_n C dM_eRead_14 hl 0 rfl ?_
    refine rCVv [] [] C hG h (fun h => cM_next hI h) mvM_next k_763 ⟨Nat.le_of_ble_eq_true rfl, Nat.le_of_ble_eq_true rfl⟩ ⟨rfl, rfl⟩ (rRecv C hG (hI 78 (by decide) (by decide)) e_78 rfl) rfl hl.1 (Nat.le_of_ble_eq_true rfl) dM_eRead_15 ⟨Nat.zero_le _, Nat.zero_le _⟩ rfl (fun H locs z3 h hG => ?_)
    refine rIload_n C dM_eRead_18 hl 1 rfl ?_
    refine rIfeq C (tgt := 150) h dM_eRead_19 (by decide) (fun h => ?_) (fun h => ?_)
    · refine rAload_n C dM_eRead_150 hl 0 rfl ?_
      refine rGet C hG (hI 78 (by decide) (by decide)) e_78 fiM_20 (v := .int (z3 78 20)) rfl k_826 dM_eRead_151 ?_
      refine lv_bipush (v := 59) C.1 C.2.1 dM_eRead_154 (by decide) ?_
      refine rIcmpne C (tgt := 177) h dM_eRead_156 (by decide) (fun h => ?_) (fun h => ?_)
      · refine rAload_n C dM_eRead_177 hl 0 rfl ?_
        refine rGet C hG (hI 78 (by decide) (by decide)) e_78 fiM_20 (v := .int (z3 78 20)) rfl k_826 dM_eRead_178 ?_
        refine lv_bipush (v := 41) C.1 C.2.1 dM_eRead_181 (by decide) ?_
        refine rIcmpne C (tgt := 229) h dM_eRead_183 (by decide) (fun h => ?_) (fun h => ?_)
        · refine rAload_n C dM_eRead_229 hl 0 rfl ?_
          refine rCVi [] [] C hG h (fun h => cM_signOf hI h) mvM_signOf k_798 ⟨Nat.le_of_ble_eq_true rfl, Nat.le_of_ble_eq_true rfl⟩ ⟨rfl, rfl⟩ (rRecv C hG (hI 78 (by decide) (by decide)) e_78 rfl) rfl hl.1 (Nat.le_of_ble_eq_true rfl) dM_eRead_230 ⟨Nat.zero_le _, Nat.zero_le _⟩ rfl (fun H locs x5 z4 h hG => ?_)
          refine rIstoreA_n C dM_eRead_233 hl (by decide) [(0, .ref (gA G 78)), (1, .int v1), (2, .int v2)] rfl (fun ls hl => ?_)
          refine rIload_n C dM_eRead_234 hl 0 rfl ?_
          refine lv_iconst (v := (-1)) C.1 C.2.1 dM_eRead_235 (by decide) ?_
          refine rIcmpeq C (tgt := 247) h dM_eRead_236 (by decide) (fun h => ?_) (fun h => ?_)
          · refine lv_iconst (v := 0) C.1 C.2.1 dM_eRead_247 (by decide) ?_
            exact rRetn C hG (ty := .boolean) rfl rfl h dM_eRead_248
          · refine rAload_n C dM_eRead_239 hl 1 rfl ?_
            refine rIload_n C dM_eRead_240 hl 0 rfl ?_
            refine rCVi [.int x5] [] C hG h (fun h => cM_between hI h) mvM_between k_802 ⟨Nat.le_of_ble_eq_true rfl, Nat.le_of_ble_eq_true rfl⟩ ⟨rfl, rfl⟩ (rRecv C hG (hI 78 (by decide) (by decide)) e_78 rfl) rfl hl.1 (Nat.le_of_ble_eq_true rfl) dM_eRead_241 ⟨Nat.zero_le _, Nat.zero_le _⟩ rfl (fun H locs x7 z6 h hG => ?_)
            refine rIfne C (tgt := 249) h dM_eRead_244 (by decide) (fun h => ?_) (fun h => ?_)
            · refine lv_iconst (v := 1) C.1 C.2.1 dM_eRead_249 (by decide) ?_
              refine rIstoreA_n C dM_eRead_250 hl (by decide) [(3, .int x5), (0, .ref (gA G 78)), (2, .int v2)] rfl (fun ls hl => ?_)
              refine rIload_n C dM_eRead_251 hl 1 rfl ?_
              refine lv_bipush (v := 12) C.1 C.2.1 dM_eRead_252 (by decide) ?_
              refine rIcmpgt C (tgt := 261) h dM_eRead_254 (by decide) (fun h => ?_) (fun h => ?_)
              · refine lv_iconst (v := 0) C.1 C.2.1 dM_eRead_261 (by decide) ?_
                exact wM_eRead_262 C hI ih h hG (lv_sub hl [2, 0] rfl)
              · refine lv_iconst (v := 1) C.1 C.2.1 dM_eRead_257 (by decide) ?_
                refine lv_goto (tgt := 262) C.1 C.2.1 dM_eRead_258 (by decide) ?_
                exact wM_eRead_262 C hI ih h hG (lv_sub hl [2, 0] rfl)
            · refine lv_iconst (v := 0) C.1 C.2.1 dM_eRead_247 (by decide) ?_
              exact rRetn C hG (ty := .boolean) rfl rfl h dM_eRead_248
        · refine rAload_n C dM_eRead_186 hl 0 rfl ?_
          refine lv_iconst (v := 1) C.1 C.2.1 dM_eRead_187 (by decide) ?_
          refine rCVv [.int 1] [] C hG h (fun h => cM_unwinds hI h) mvM_unwinds k_783 ⟨Nat.le_of_ble_eq_true rfl, Nat.le_of_ble_eq_true rfl⟩ ⟨rfl, rfl⟩ (rRecv C hG (hI 78 (by decide) (by decide)) e_78 rfl) rfl hl.1 (Nat.le_of_ble_eq_true rfl) dM_eRead_188 ⟨Nat.zero_le _, Nat.zero_le _⟩ rfl (fun H locs z8 h hG => ?_)
          refine rAload_n C dM_eRead_191 hl 0 rfl ?_
          refine rGet C hG (hI 78 (by decide) (by decide)) e_78 fiM_24 (v := .int (z8 78 24)) rfl k_830 dM_eRead_192 ?_
          refine rIfne C (tgt := 200) h dM_eRead_195 (by decide) (fun h => ?_) (fun h => ?_)
          · refine rAload_n C dM_eRead_200 hl 0 rfl ?_
            refine lv_dup C.1 C.2.1 dM_eRead_201 rfl ?_
            refine rGet C hG (hI 78 (by decide) (by decide)) e_78 fiM_24 (v := .int (z8 78 24)) rfl k_830 dM_eRead_202 ?_
            refine lv_iconst (v := 1) C.1 C.2.1 dM_eRead_205 (by decide) ?_
            refine lv_isub C.1 C.2.1 dM_eRead_206 ?_
            refine rPut C hG (hI 78 (by decide) (by decide)) e_78 fiM_24 tokM nmM rfl (fpM_24 _) (Nat.le_of_ble_eq_true rfl) rfl rfl k_830 h dM_eRead_207 (fun H locs z9 h hG => ?_)
            refine rAload_n C dM_eRead_210 hl 0 rfl ?_
            refine lv_dup C.1 C.2.1 dM_eRead_211 rfl ?_
            refine rGet C hG (hI 78 (by decide) (by decide)) e_78 fiM_25 (v := .int (z9 78 25)) rfl k_831 dM_eRead_212 ?_
            refine lv_iconst (v := 1) C.1 C.2.1 dM_eRead_215 (by decide) ?_
            refine lv_isub C.1 C.2.1 dM_eRead_216 ?_
            refine rPut C hG (hI 78 (by decide) (by decide)) e_78 fiM_25 tokM nmM rfl (fpM_25 _) (Nat.le_of_ble_eq_true rfl) rfl rfl k_831 h dM_eRead_217 (fun H locs z10 h hG => ?_)
            refine rAload_n C dM_eRead_220 hl 0 rfl ?_
            refine lv_bipush (v := 7) C.1 C.2.1 dM_eRead_221 (by decide) ?_
            refine rCVv [.int 7] [] C hG h (fun h => cM_unwinds hI h) mvM_unwinds k_783 ⟨Nat.le_of_ble_eq_true rfl, Nat.le_of_ble_eq_true rfl⟩ ⟨rfl, rfl⟩ (rRecv C hG (hI 78 (by decide) (by decide)) e_78 rfl) rfl hl.1 (Nat.le_of_ble_eq_true rfl) dM_eRead_223 ⟨Nat.zero_le _, Nat.zero_le _⟩ rfl (fun H locs z11 h hG => ?_)
            refine lv_goto (tgt := 14) C.1 C.2.1 dM_eRead_226 (by decide) ?_
            exact ih h hG (lv_sub hl [0, 1, 2] rfl)
          · refine lv_iconst (v := 0) C.1 C.2.1 dM_eRead_198 (by decide) ?_
            exact rRetn C hG (ty := .boolean) rfl rfl h dM_eRead_199
      · refine rAload_n C dM_eRead_159 hl 0 rfl ?_
        refine lv_iconst (v := 1) C.1 C.2.1 dM_eRead_160 (by decide) ?_
        refine rCVv [.int 1] [] C hG h (fun h => cM_unwinds hI h) mvM_unwinds k_783 ⟨Nat.le_of_ble_eq_true rfl, Nat.le_of_ble_eq_true rfl⟩ ⟨rfl, rfl⟩ (rRecv C hG (hI 78 (by decide) (by decide)) e_78 rfl) rfl hl.1 (Nat.le_of_ble_eq_true rfl) dM_eRead_161 ⟨Nat.zero_le _, Nat.zero_le _⟩ rfl (fun H locs z12 h hG => ?_)
        refine rAload_n C dM_eRead_164 hl 0 rfl ?_
        refine rGet C hG (hI 78 (by decide) (by decide)) e_78 fiM_24 (v := .int (z12 78 24)) rfl k_830 dM_eRead_165 ?_
        refine rIfne C (tgt := 175) h dM_eRead_168 (by decide) (fun h => ?_) (fun h => ?_)
        · refine lv_iconst (v := 0) C.1 C.2.1 dM_eRead_175 (by decide) ?_
          exact rRetn C hG (ty := .boolean) rfl rfl h dM_eRead_176
        · refine lv_iconst (v := 1) C.1 C.2.1 dM_eRead_171 (by decide) ?_
          refine lv_goto (tgt := 176) C.1 C.2.1 dM_eRead_172 (by decide) ?_
          exact rRetn C hG (ty := .boolean) rfl rfl h dM_eRead_176
    · refine rAload_n C dM_eRead_22 hl 0 rfl ?_
      refine rGet C hG (hI 78 (by decide) (by decide)) e_78 fiM_20 (v := .int (z3 78 20)) rfl k_826 dM_eRead_23 ?_
      refine lv_iconst (v := 1) C.1 C.2.1 dM_eRead_26 (by decide) ?_
      refine rIcmpeq C (tgt := 38) h dM_eRead_27 (by decide) (fun h => ?_) (fun h => ?_)
      · exact wM_eRead_38 C hI ih h hG (lv_sub hl [0, 2] rfl)
      · refine rAload_n C dM_eRead_30 hl 0 rfl ?_
        refine rGet C hG (hI 78 (by decide) (by decide)) e_78 fiM_20 (v := .int (z3 78 20)) rfl k_826 dM_eRead_31 ?_
        refine lv_iconst (v := 2) C.1 C.2.1 dM_eRead_34 (by decide) ?_
        refine rIcmpne C (tgt := 75) h dM_eRead_35 (by decide) (fun h => ?_) (fun h => ?_)
        · refine rAload_n C dM_eRead_75 hl 0 rfl ?_
          refine rGet C hG (hI 78 (by decide) (by decide)) e_78 fiM_20 (v := .int (z3 78 20)) rfl k_826 dM_eRead_76 ?_
          refine lv_bipush (v := 6) C.1 C.2.1 dM_eRead_79 (by decide) ?_
          refine rIcmpne C (tgt := 99) h dM_eRead_81 (by decide) (fun h => ?_) (fun h => ?_)
          · exact wM_eRead_99 C hI ih h hG (lv_sub hl [0, 1] rfl)
          · refine rIload_n C dM_eRead_84 hl 2 rfl ?_
            refine rIfeq C (tgt := 99) h dM_eRead_85 (by decide) (fun h => ?_) (fun h => ?_)
            · exact wM_eRead_99 C hI ih h hG (lv_sub hl [0, 1] rfl)
            · refine rAload_n C dM_eRead_88 hl 0 rfl ?_
              refine lv_bipush (v := 13) C.1 C.2.1 dM_eRead_89 (by decide) ?_
              refine rCVi [.int 13] [] C hG h (fun h => cM_opensOne hI h) mvM_opensOne k_790 ⟨Nat.le_of_ble_eq_true rfl, Nat.le_of_ble_eq_true rfl⟩ ⟨rfl, rfl⟩ (rRecv C hG (hI 78 (by decide) (by decide)) e_78 rfl) rfl hl.1 (Nat.le_of_ble_eq_true rfl) dM_eRead_91 ⟨Nat.zero_le _, Nat.zero_le _⟩ rfl (fun H locs x14 z13 h hG => ?_)
              refine rIfne C (tgt := 14) h dM_eRead_94 (by decide) (fun h => ?_) (fun h => ?_)
              · exact ih h hG (lv_sub hl [0, 1, 2] rfl)
              · refine lv_iconst (v := 0) C.1 C.2.1 dM_eRead_97 (by decide) ?_
                exact rRetn C hG (ty := .boolean) rfl rfl h dM_eRead_98
        · exact wM_eRead_38 C hI ih h hG (lv_sub hl [0, 2] rfl)
theorem cM_eRead {l : Launch} {G : GT} {I : List Nat} (hI : mI I) {fu : Nat} {z : Sg} {R1 : Int32} {Z : Sg} (h : pM_eRead fu z = some (R1, Z)) : Mt l yM_eRead rmM_eRead bM_eRead 4 (some .boolean) G I z [.ref (gA G 78)] (Qi G I R1 Z) := by
  refine entM (by decide +kernel) (Nat.le_of_ble_eq_true rfl) ?_
  intro p e s m below meth c C hG ls hl
  have hl : lv_has ls 4 [(0, .ref (gA G 78))] := hl
  unfold pM_eRead at h
  refine rAload_n C dM_eRead_0 hl 0 rfl ?_
  refine lv_iconst (v := 0) C.1 C.2.1 dM_eRead_1 (by decide) ?_
  refine rPut C hG (hI 78 (by decide) (by decide)) e_78 fiM_24 tokM nmM rfl (fpM_24 _) (Nat.le_of_ble_eq_true rfl) rfl rfl k_830 h dM_eRead_2 (fun H locs z1 h hG => ?_)
  refine rAload_n C dM_eRead_5 hl 0 rfl ?_
  refine lv_iconst (v := 0) C.1 C.2.1 dM_eRead_6 (by decide) ?_
  refine rPut C hG (hI 78 (by decide) (by decide)) e_78 fiM_25 tokM nmM rfl (fpM_25 _) (Nat.le_of_ble_eq_true rfl) rfl rfl k_831 h dM_eRead_7 (fun H locs z2 h hG => ?_)
  refine lv_iconst (v := 1) C.1 C.2.1 dM_eRead_10 (by decide) ?_
  refine rIstoreA_n C dM_eRead_11 hl (by decide) [(0, .ref (gA G 78))] rfl (fun ls hl => ?_)
  refine lv_iconst (v := 1) C.1 C.2.1 dM_eRead_12 (by decide) ?_
  refine rIstoreA_n C dM_eRead_13 hl (by decide) [(1, .int 1), (0, .ref (gA G 78))] rfl (fun ls hl => ?_)
  exact wM_eRead_14 C hI _ h hG (lv_sub hl [2, 1, 0] rfl)
theorem dM_text_0 : decode bM_text 0 = .ok (.aload_n 0, 1) := by decide +kernel
theorem dM_text_1 : decode bM_text 1 = .ok (.getfield 113, 3) := by decide +kernel
theorem dM_text_4 : decode bM_text 4 = .ok (.bipush 6, 2) := by decide +kernel
theorem dM_text_6 : decode bM_text 6 = .ok (.if_icmp .ne 6, 3) := by decide +kernel
theorem dM_text_9 : decode bM_text 9 = .ok (.bipush (-4), 2) := by decide +kernel
theorem dM_text_11 : decode bM_text 11 = .ok (.ireturn, 1) := by decide +kernel
theorem dM_text_12 : decode bM_text 12 = .ok (.aload_n 0, 1) := by decide +kernel
theorem dM_text_13 : decode bM_text 13 = .ok (.iconst 0, 1) := by decide +kernel
theorem dM_text_14 : decode bM_text 14 = .ok (.putfield 122, 3) := by decide +kernel
theorem dM_text_17 : decode bM_text 17 = .ok (.aload_n 0, 1) := by decide +kernel
theorem dM_text_18 : decode bM_text 18 = .ok (.iconst 0, 1) := by decide +kernel
theorem dM_text_19 : decode bM_text 19 = .ok (.putfield 137, 3) := by decide +kernel
theorem dM_text_22 : decode bM_text 22 = .ok (.iconst 1, 1) := by decide +kernel
theorem dM_text_23 : decode bM_text 23 = .ok (.istore_n 1, 1) := by decide +kernel
theorem dM_text_24 : decode bM_text 24 = .ok (.iconst 0, 1) := by decide +kernel
theorem dM_text_25 : decode bM_text 25 = .ok (.istore_n 2, 1) := by decide +kernel
theorem dM_text_26 : decode bM_text 26 = .ok (.iload_n 2, 1) := by decide +kernel
theorem dM_text_27 : decode bM_text 27 = .ok (.iconst 3, 1) := by decide +kernel
theorem dM_text_28 : decode bM_text 28 = .ok (.if_icmp .ge 73, 3) := by decide +kernel
theorem dM_text_31 : decode bM_text 31 = .ok (.iload_n 1, 1) := by decide +kernel
theorem dM_text_32 : decode bM_text 32 = .ok (.ifCond .eq 69, 3) := by decide +kernel
theorem dM_text_35 : decode bM_text 35 = .ok (.aload_n 0, 1) := by decide +kernel
theorem dM_text_36 : decode bM_text 36 = .ok (.invokevirtual 159, 3) := by decide +kernel
theorem dM_text_39 : decode bM_text 39 = .ok (.aload_n 0, 1) := by decide +kernel
theorem dM_text_40 : decode bM_text 40 = .ok (.getfield 128, 3) := by decide +kernel
theorem dM_text_43 : decode bM_text 43 = .ok (.iconst 3, 1) := by decide +kernel
theorem dM_text_44 : decode bM_text 44 = .ok (.if_icmp .ne 15, 3) := by decide +kernel
theorem dM_text_47 : decode bM_text 47 = .ok (.aload_n 0, 1) := by decide +kernel
theorem dM_text_48 : decode bM_text 48 = .ok (.getfield 131, 3) := by decide +kernel
theorem dM_text_51 : decode bM_text 51 = .ok (.iload_n 2, 1) := by decide +kernel
theorem dM_text_52 : decode bM_text 52 = .ok (.if_icmp .ne 7, 3) := by decide +kernel
theorem dM_text_55 : decode bM_text 55 = .ok (.iconst 1, 1) := by decide +kernel
theorem dM_text_56 : decode bM_text 56 = .ok (.goto 4, 3) := by decide +kernel
theorem dM_text_59 : decode bM_text 59 = .ok (.iconst 0, 1) := by decide +kernel
theorem dM_text_60 : decode bM_text 60 = .ok (.istore_n 1, 1) := by decide +kernel
theorem dM_text_61 : decode bM_text 61 = .ok (.aload_n 0, 1) := by decide +kernel
theorem dM_text_62 : decode bM_text 62 = .ok (.getfield 28, 3) := by decide +kernel
theorem dM_text_65 : decode bM_text 65 = .ok (.iconst 4, 1) := by decide +kernel
theorem dM_text_66 : decode bM_text 66 = .ok (.aload_n 0, 1) := by decide +kernel
theorem dM_text_67 : decode bM_text 67 = .ok (.getfield 113, 3) := by decide +kernel
theorem dM_text_70 : decode bM_text 70 = .ok (.imul, 1) := by decide +kernel
theorem dM_text_71 : decode bM_text 71 = .ok (.iload_n 2, 1) := by decide +kernel
theorem dM_text_72 : decode bM_text 72 = .ok (.iadd, 1) := by decide +kernel
theorem dM_text_73 : decode bM_text 73 = .ok (.aload_n 0, 1) := by decide +kernel
theorem dM_text_74 : decode bM_text 74 = .ok (.getfield 137, 3) := by decide +kernel
theorem dM_text_77 : decode bM_text 77 = .ok (.iastore, 1) := by decide +kernel
theorem dM_text_78 : decode bM_text 78 = .ok (.iload_n 1, 1) := by decide +kernel
theorem dM_text_79 : decode bM_text 79 = .ok (.ifCond .eq 14, 3) := by decide +kernel
theorem dM_text_82 : decode bM_text 82 = .ok (.aload_n 0, 1) := by decide +kernel
theorem dM_text_83 : decode bM_text 83 = .ok (.invokevirtual 172, 3) := by decide +kernel
theorem dM_text_86 : decode bM_text 86 = .ok (.ifCond .eq 7, 3) := by decide +kernel
theorem dM_text_89 : decode bM_text 89 = .ok (.iconst 1, 1) := by decide +kernel
theorem dM_text_90 : decode bM_text 90 = .ok (.goto 4, 3) := by decide +kernel
theorem dM_text_93 : decode bM_text 93 = .ok (.iconst 0, 1) := by decide +kernel
theorem dM_text_94 : decode bM_text 94 = .ok (.istore_n 1, 1) := by decide +kernel
theorem dM_text_95 : decode bM_text 95 = .ok (.iinc 2 1, 3) := by decide +kernel
theorem dM_text_98 : decode bM_text 98 = .ok (.goto (-72), 3) := by decide +kernel
theorem dM_text_101 : decode bM_text 101 = .ok (.iload_n 1, 1) := by decide +kernel
theorem dM_text_102 : decode bM_text 102 = .ok (.ifCond .eq 20, 3) := by decide +kernel
theorem dM_text_105 : decode bM_text 105 = .ok (.aload_n 0, 1) := by decide +kernel
theorem dM_text_106 : decode bM_text 106 = .ok (.invokevirtual 159, 3) := by decide +kernel
theorem dM_text_109 : decode bM_text 109 = .ok (.aload_n 0, 1) := by decide +kernel
theorem dM_text_110 : decode bM_text 110 = .ok (.getfield 128, 3) := by decide +kernel
theorem dM_text_113 : decode bM_text 113 = .ok (.ifCond .ne 7, 3) := by decide +kernel
theorem dM_text_116 : decode bM_text 116 = .ok (.iconst 1, 1) := by decide +kernel
theorem dM_text_117 : decode bM_text 117 = .ok (.goto 4, 3) := by decide +kernel
theorem dM_text_120 : decode bM_text 120 = .ok (.iconst 0, 1) := by decide +kernel
theorem dM_text_121 : decode bM_text 121 = .ok (.istore_n 1, 1) := by decide +kernel
theorem dM_text_122 : decode bM_text 122 = .ok (.aload_n 0, 1) := by decide +kernel
theorem dM_text_123 : decode bM_text 123 = .ok (.getfield 28, 3) := by decide +kernel
theorem dM_text_126 : decode bM_text 126 = .ok (.iconst 4, 1) := by decide +kernel
theorem dM_text_127 : decode bM_text 127 = .ok (.aload_n 0, 1) := by decide +kernel
theorem dM_text_128 : decode bM_text 128 = .ok (.getfield 113, 3) := by decide +kernel
theorem dM_text_131 : decode bM_text 131 = .ok (.imul, 1) := by decide +kernel
theorem dM_text_132 : decode bM_text 132 = .ok (.iconst 3, 1) := by decide +kernel
theorem dM_text_133 : decode bM_text 133 = .ok (.iadd, 1) := by decide +kernel
theorem dM_text_134 : decode bM_text 134 = .ok (.aload_n 0, 1) := by decide +kernel
theorem dM_text_135 : decode bM_text 135 = .ok (.getfield 137, 3) := by decide +kernel
theorem dM_text_138 : decode bM_text 138 = .ok (.iastore, 1) := by decide +kernel
theorem dM_text_139 : decode bM_text 139 = .ok (.aload_n 0, 1) := by decide +kernel
theorem dM_text_140 : decode bM_text 140 = .ok (.iconst 0, 1) := by decide +kernel
theorem dM_text_141 : decode bM_text 141 = .ok (.putfield 70, 3) := by decide +kernel
theorem dM_text_144 : decode bM_text 144 = .ok (.iload_n 1, 1) := by decide +kernel
theorem dM_text_145 : decode bM_text 145 = .ok (.ifCond .ne 11, 3) := by decide +kernel
theorem dM_text_148 : decode bM_text 148 = .ok (.bipush (-100), 2) := by decide +kernel
theorem dM_text_150 : decode bM_text 150 = .ok (.aload_n 0, 1) := by decide +kernel
theorem dM_text_151 : decode bM_text 151 = .ok (.getfield 125, 3) := by decide +kernel
theorem dM_text_154 : decode bM_text 154 = .ok (.isub, 1) := by decide +kernel
theorem dM_text_155 : decode bM_text 155 = .ok (.ireturn, 1) := by decide +kernel
theorem dM_text_156 : decode bM_text 156 = .ok (.aload_n 0, 1) := by decide +kernel
theorem dM_text_157 : decode bM_text 157 = .ok (.dup, 1) := by decide +kernel
theorem dM_text_158 : decode bM_text 158 = .ok (.getfield 113, 3) := by decide +kernel
theorem dM_text_161 : decode bM_text 161 = .ok (.iconst 1, 1) := by decide +kernel
theorem dM_text_162 : decode bM_text 162 = .ok (.iadd, 1) := by decide +kernel
theorem dM_text_163 : decode bM_text 163 = .ok (.putfield 113, 3) := by decide +kernel
theorem dM_text_166 : decode bM_text 166 = .ok (.aload_n 0, 1) := by decide +kernel
theorem dM_text_167 : decode bM_text 167 = .ok (.getfield 113, 3) := by decide +kernel
theorem dM_text_170 : decode bM_text 170 = .ok (.iconst 1, 1) := by decide +kernel
theorem dM_text_171 : decode bM_text 171 = .ok (.isub, 1) := by decide +kernel
theorem dM_text_172 : decode bM_text 172 = .ok (.ireturn, 1) := by decide +kernel
theorem wM_text_122 {p : Program} {l : Launch} {e : Env} {s : State} {m : MethodId} {args : Array Value} {below : List Frame} {meth : Method} {c : Code} {G : GT} {I : List Nat} (C : CX p s m args meth c NM bM_text 3 (some .int) G I) (hI : mI I) {fu : Nat} {R1 : Int32} {Z : Sg} {v1 : Int32} {z : Sg} {H : Heap} {locs : List Loc} {ls : Array Slot} (h : pM_text_122 fu v1 z = some (R1, Z)) (hG : GW G I z s.heap H locs) (hl : lv_has ls 3 [(0, .ref (gA G 78)), (1, .int v1)]) : W p l e rmM_text s m args below meth c H locs 0 0 (MQ below (Qi G I R1 Z) args s 0 0 (AD G I)) (F0 m 122 ls []) := by
  unfold pM_text_122 at h
  refine rAload_n C dM_text_122 hl 0 rfl ?_
  refine rGet C hG (hI 78 (by decide) (by decide)) e_78 fiM_8 (v := .ref (gA G 85)) rfl k_814 dM_text_123 ?_
  refine lv_iconst (v := 4) C.1 C.2.1 dM_text_126 (by decide) ?_
  refine rAload_n C dM_text_127 hl 0 rfl ?_
  refine rGet C hG (hI 78 (by decide) (by decide)) e_78 fiM_9 (v := .int (z 78 9)) rfl k_815 dM_text_128 ?_
  refine lv_imul C.1 C.2.1 dM_text_131 ?_
  refine lv_iconst (v := 3) C.1 C.2.1 dM_text_132 (by decide) ?_
  refine lv_iadd C.1 C.2.1 dM_text_133 ?_
  refine rAload_n C dM_text_134 hl 0 rfl ?_
  refine rGet C hG (hI 78 (by decide) (by decide)) e_78 fiM_26 (v := .int (z 78 26)) rfl k_832 dM_text_135 ?_
  refine rIast C hG (hI 85 (by decide) (by decide)) e_85 h dM_text_138 (fun H locs z8 h hG => ?_)
  refine rAload_n C dM_text_139 hl 0 rfl ?_
  refine lv_iconst (v := 0) C.1 C.2.1 dM_text_140 (by decide) ?_
  refine rPut C hG (hI 78 (by decide) (by decide)) e_78 fiM_6 tokM nmM rfl (fpM_6 _) (Nat.le_of_ble_eq_true rfl) rfl rfl k_812 h dM_text_141 (fun H locs z9 h hG => ?_)
  refine rIload_n C dM_text_144 hl 1 rfl ?_
  refine rIfne C (tgt := 156) h dM_text_145 (by decide) (fun h => ?_) (fun h => ?_)
  · refine rAload_n C dM_text_156 hl 0 rfl ?_
    refine lv_dup C.1 C.2.1 dM_text_157 rfl ?_
    refine rGet C hG (hI 78 (by decide) (by decide)) e_78 fiM_9 (v := .int (z9 78 9)) rfl k_815 dM_text_158 ?_
    refine lv_iconst (v := 1) C.1 C.2.1 dM_text_161 (by decide) ?_
    refine lv_iadd C.1 C.2.1 dM_text_162 ?_
    refine rPut C hG (hI 78 (by decide) (by decide)) e_78 fiM_9 tokM nmM rfl (fpM_9 _) (Nat.le_of_ble_eq_true rfl) rfl rfl k_815 h dM_text_163 (fun H locs z10 h hG => ?_)
    refine rAload_n C dM_text_166 hl 0 rfl ?_
    refine rGet C hG (hI 78 (by decide) (by decide)) e_78 fiM_9 (v := .int (z10 78 9)) rfl k_815 dM_text_167 ?_
    refine lv_iconst (v := 1) C.1 C.2.1 dM_text_170 (by decide) ?_
    refine lv_isub C.1 C.2.1 dM_text_171 ?_
    exact rReti C hG h dM_text_172
  · refine lv_bipush (v := (-100)) C.1 C.2.1 dM_text_148 (by decide) ?_
    refine rAload_n C dM_text_150 hl 0 rfl ?_
    refine rGet C hG (hI 78 (by decide) (by decide)) e_78 fiM_19 (v := .int (z9 78 19)) rfl k_825 dM_text_151 ?_
    refine lv_isub C.1 C.2.1 dM_text_154 ?_
    exact rReti C hG h dM_text_155
theorem wM_text_121 {p : Program} {l : Launch} {e : Env} {s : State} {m : MethodId} {args : Array Value} {below : List Frame} {meth : Method} {c : Code} {G : GT} {I : List Nat} (C : CX p s m args meth c NM bM_text 3 (some .int) G I) (hI : mI I) {fu : Nat} {R1 : Int32} {Z : Sg} {t0 : Int32} {z : Sg} {H : Heap} {locs : List Loc} {ls : Array Slot} (h : pM_text_121 fu t0 z = some (R1, Z)) (hG : GW G I z s.heap H locs) (hl : lv_has ls 3 [(0, .ref (gA G 78))]) : W p l e rmM_text s m args below meth c H locs 0 0 (MQ below (Qi G I R1 Z) args s 0 0 (AD G I)) (F0 m 121 ls [.int t0]) := by
  unfold pM_text_121 at h
  refine rIstoreA_n C dM_text_121 hl (by decide) [(0, .ref (gA G 78))] rfl (fun ls hl => ?_)
  exact wM_text_122 C hI h hG (lv_sub hl [1, 0] rfl)
theorem wM_text_101 {p : Program} {l : Launch} {e : Env} {s : State} {m : MethodId} {args : Array Value} {below : List Frame} {meth : Method} {c : Code} {G : GT} {I : List Nat} (C : CX p s m args meth c NM bM_text 3 (some .int) G I) (hI : mI I) {fu : Nat} {R1 : Int32} {Z : Sg} {v1 : Int32} {z : Sg} {H : Heap} {locs : List Loc} {ls : Array Slot} (h : pM_text_101 fu v1 z = some (R1, Z)) (hG : GW G I z s.heap H locs) (hl : lv_has ls 3 [(0, .ref (gA G 78)), (1, .int v1)]) : W p l e rmM_text s m args below meth c H locs 0 0 (MQ below (Qi G I R1 Z) args s 0 0 (AD G I)) (F0 m 101 ls []) := by
  unfold pM_text_101 at h
  refine rIload_n C dM_text_101 hl 1 rfl ?_
  refine rIfeq C (tgt := 122) h dM_text_102 (by decide) (fun h => ?_) (fun h => ?_)
  · exact wM_text_122 C hI h hG (lv_sub hl [0, 1] rfl)
  · refine rAload_n C dM_text_105 hl 0 rfl ?_
    refine rCVv [] [] C hG h (fun h => cM_next hI h) mvM_next k_763 ⟨Nat.le_of_ble_eq_true rfl, Nat.le_of_ble_eq_true rfl⟩ ⟨rfl, rfl⟩ (rRecv C hG (hI 78 (by decide) (by decide)) e_78 rfl) rfl hl.1 (Nat.le_of_ble_eq_true rfl) dM_text_106 ⟨Nat.zero_le _, Nat.zero_le _⟩ rfl (fun H locs z4 h hG => ?_)
    refine rAload_n C dM_text_109 hl 0 rfl ?_
    refine rGet C hG (hI 78 (by decide) (by decide)) e_78 fiM_20 (v := .int (z4 78 20)) rfl k_826 dM_text_110 ?_
    refine rIfne C (tgt := 120) h dM_text_113 (by decide) (fun h => ?_) (fun h => ?_)
    · refine lv_iconst (v := 0) C.1 C.2.1 dM_text_120 (by decide) ?_
      exact wM_text_121 C hI h hG (lv_sub hl [0] rfl)
    · refine lv_iconst (v := 1) C.1 C.2.1 dM_text_116 (by decide) ?_
      refine lv_goto (tgt := 121) C.1 C.2.1 dM_text_117 (by decide) ?_
      exact wM_text_121 C hI h hG (lv_sub hl [0] rfl)
theorem wM_text_94 {p : Program} {l : Launch} {e : Env} {s : State} {m : MethodId} {args : Array Value} {below : List Frame} {meth : Method} {c : Code} {G : GT} {I : List Nat} (C : CX p s m args meth c NM bM_text 3 (some .int) G I) (hI : mI I) {fu : Nat} {R1 : Int32} {Z : Sg} {rc26 : Int32 → Int32 → Sg → Option (Int32 × Sg)} (hr26 : ∀ {v1 : Int32} {v2 : Int32} {z : Sg} {H : Heap} {locs : List Loc} {ls : Array Slot}, rc26 v1 v2 z = some (R1, Z) → GW G I z s.heap H locs → lv_has ls 3 [(0, .ref (gA G 78)), (1, .int v1), (2, .int v2)] → W p l e rmM_text s m args below meth c H locs 0 0 (MQ below (Qi G I R1 Z) args s 0 0 (AD G I)) (F0 m 26 ls [])) {v2 : Int32} {t0 : Int32} {z : Sg} {H : Heap} {locs : List Loc} {ls : Array Slot} (h : pM_text_94 fu rc26 v2 t0 z = some (R1, Z)) (hG : GW G I z s.heap H locs) (hl : lv_has ls 3 [(0, .ref (gA G 78)), (2, .int v2)]) : W p l e rmM_text s m args below meth c H locs 0 0 (MQ below (Qi G I R1 Z) args s 0 0 (AD G I)) (F0 m 94 ls [.int t0]) := by
  unfold pM_text_94 at h
  refine rIstoreA_n C dM_text_94 hl (by decide) [(0, .ref (gA G 78)), (2, .int v2)] rfl (fun ls hl => ?_)
  refine rIinc C dM_text_95 hl 2 rfl (d := 1) (by decide) h (by decide) [(1, .int t0), (0, .ref (gA G 78))] rfl (fun x11 ls h hl => ?_)
  refine lv_goto (tgt := 26) C.1 C.2.1 dM_text_98 (by decide) ?_
  exact hr26 h hG (lv_sub hl [2, 1, 0] rfl)
theorem wM_text_93 {p : Program} {l : Launch} {e : Env} {s : State} {m : MethodId} {args : Array Value} {below : List Frame} {meth : Method} {c : Code} {G : GT} {I : List Nat} (C : CX p s m args meth c NM bM_text 3 (some .int) G I) (hI : mI I) {fu : Nat} {R1 : Int32} {Z : Sg} {rc26 : Int32 → Int32 → Sg → Option (Int32 × Sg)} (hr26 : ∀ {v1 : Int32} {v2 : Int32} {z : Sg} {H : Heap} {locs : List Loc} {ls : Array Slot}, rc26 v1 v2 z = some (R1, Z) → GW G I z s.heap H locs → lv_has ls 3 [(0, .ref (gA G 78)), (1, .int v1), (2, .int v2)] → W p l e rmM_text s m args below meth c H locs 0 0 (MQ below (Qi G I R1 Z) args s 0 0 (AD G I)) (F0 m 26 ls [])) {v2 : Int32} {z : Sg} {H : Heap} {locs : List Loc} {ls : Array Slot} (h : pM_text_93 fu rc26 v2 z = some (R1, Z)) (hG : GW G I z s.heap H locs) (hl : lv_has ls 3 [(0, .ref (gA G 78)), (2, .int v2)]) : W p l e rmM_text s m args below meth c H locs 0 0 (MQ below (Qi G I R1 Z) args s 0 0 (AD G I)) (F0 m 93 ls []) := by
  unfold pM_text_93 at h
  refine lv_iconst (v := 0) C.1 C.2.1 dM_text_93 (by decide) ?_
  exact wM_text_94 C hI hr26 h hG (lv_sub hl [0, 1] rfl)
theorem wM_text_60 {p : Program} {l : Launch} {e : Env} {s : State} {m : MethodId} {args : Array Value} {below : List Frame} {meth : Method} {c : Code} {G : GT} {I : List Nat} (C : CX p s m args meth c NM bM_text 3 (some .int) G I) (hI : mI I) {fu : Nat} {R1 : Int32} {Z : Sg} {rc26 : Int32 → Int32 → Sg → Option (Int32 × Sg)} (hr26 : ∀ {v1 : Int32} {v2 : Int32} {z : Sg} {H : Heap} {locs : List Loc} {ls : Array Slot}, rc26 v1 v2 z = some (R1, Z) → GW G I z s.heap H locs → lv_has ls 3 [(0, .ref (gA G 78)), (1, .int v1), (2, .int v2)] → W p l e rmM_text s m args below meth c H locs 0 0 (MQ below (Qi G I R1 Z) args s 0 0 (AD G I)) (F0 m 26 ls [])) {v2 : Int32} {t0 : Int32} {z : Sg} {H : Heap} {locs : List Loc} {ls : Array Slot} (h : pM_text_60 fu rc26 v2 t0 z = some (R1, Z)) (hG : GW G I z s.heap H locs) (hl : lv_has ls 3 [(0, .ref (gA G 78)), (2, .int v2)]) : W p l e rmM_text s m args below meth c H locs 0 0 (MQ below (Qi G I R1 Z) args s 0 0 (AD G I)) (F0 m 60 ls [.int t0]) := by
  unfold pM_text_60 at h
  refine rIstoreA_n C dM_text_60 hl (by decide) [(0, .ref (gA G 78)), (2, .int v2)] rfl (fun ls hl => ?_)
  refine rAload_n C dM_text_61 hl 1 rfl ?_
  refine rGet C hG (hI 78 (by decide) (by decide)) e_78 fiM_8 (v := .ref (gA G 85)) rfl k_814 dM_text_62 ?_
  refine lv_iconst (v := 4) C.1 C.2.1 dM_text_65 (by decide) ?_
  refine rAload_n C dM_text_66 hl 1 rfl ?_
  refine rGet C hG (hI 78 (by decide) (by decide)) e_78 fiM_9 (v := .int (z 78 9)) rfl k_815 dM_text_67 ?_
  refine lv_imul C.1 C.2.1 dM_text_70 ?_
  refine rIload_n C dM_text_71 hl 2 rfl ?_
  refine lv_iadd C.1 C.2.1 dM_text_72 ?_
  refine rAload_n C dM_text_73 hl 1 rfl ?_
  refine rGet C hG (hI 78 (by decide) (by decide)) e_78 fiM_26 (v := .int (z 78 26)) rfl k_832 dM_text_74 ?_
  refine rIast C hG (hI 85 (by decide) (by decide)) e_85 h dM_text_77 (fun H locs z5 h hG => ?_)
  refine rIload_n C dM_text_78 hl 0 rfl ?_
  refine rIfeq C (tgt := 93) h dM_text_79 (by decide) (fun h => ?_) (fun h => ?_)
  · exact wM_text_93 C hI hr26 h hG (lv_sub hl [1, 2] rfl)
  · refine rAload_n C dM_text_82 hl 1 rfl ?_
    refine rCVi [] [] C hG h (fun h => cM_eRead hI h) mvM_eRead k_774 ⟨Nat.le_of_ble_eq_true rfl, Nat.le_of_ble_eq_true rfl⟩ ⟨rfl, rfl⟩ (rRecv C hG (hI 78 (by decide) (by decide)) e_78 rfl) rfl hl.1 (Nat.le_of_ble_eq_true rfl) dM_text_83 ⟨Nat.zero_le _, Nat.zero_le _⟩ rfl (fun H locs x7 z6 h hG => ?_)
    refine rIfeq C (tgt := 93) h dM_text_86 (by decide) (fun h => ?_) (fun h => ?_)
    · exact wM_text_93 C hI hr26 h hG (lv_sub hl [1, 2] rfl)
    · refine lv_iconst (v := 1) C.1 C.2.1 dM_text_89 (by decide) ?_
      refine lv_goto (tgt := 94) C.1 C.2.1 dM_text_90 (by decide) ?_
      exact wM_text_94 C hI hr26 h hG (lv_sub hl [1, 2] rfl)
theorem wM_text_59 {p : Program} {l : Launch} {e : Env} {s : State} {m : MethodId} {args : Array Value} {below : List Frame} {meth : Method} {c : Code} {G : GT} {I : List Nat} (C : CX p s m args meth c NM bM_text 3 (some .int) G I) (hI : mI I) {fu : Nat} {R1 : Int32} {Z : Sg} {rc26 : Int32 → Int32 → Sg → Option (Int32 × Sg)} (hr26 : ∀ {v1 : Int32} {v2 : Int32} {z : Sg} {H : Heap} {locs : List Loc} {ls : Array Slot}, rc26 v1 v2 z = some (R1, Z) → GW G I z s.heap H locs → lv_has ls 3 [(0, .ref (gA G 78)), (1, .int v1), (2, .int v2)] → W p l e rmM_text s m args below meth c H locs 0 0 (MQ below (Qi G I R1 Z) args s 0 0 (AD G I)) (F0 m 26 ls [])) {v2 : Int32} {z : Sg} {H : Heap} {locs : List Loc} {ls : Array Slot} (h : pM_text_59 fu rc26 v2 z = some (R1, Z)) (hG : GW G I z s.heap H locs) (hl : lv_has ls 3 [(0, .ref (gA G 78)), (2, .int v2)]) : W p l e rmM_text s m args below meth c H locs 0 0 (MQ below (Qi G I R1 Z) args s 0 0 (AD G I)) (F0 m 59 ls []) := by
  unfold pM_text_59 at h
  refine lv_iconst (v := 0) C.1 C.2.1 dM_text_59 (by decide) ?_
  exact wM_text_60 C hI hr26 h hG (lv_sub hl [0, 1] rfl)
theorem wM_text_26 {p : Program} {l : Launch} {e : Env} {s : State} {m : MethodId} {args : Array Value} {below : List Frame} {meth : Method} {c : Code} {G : GT} {I : List Nat} (C : CX p s m args meth c NM bM_text 3 (some .int) G I) (hI : mI I) {fu : Nat} {R1 : Int32} {Z : Sg} : ∀ (k : Nat) {v1 : Int32} {v2 : Int32} {z : Sg} {H : Heap} {locs : List Loc} {ls : Array Slot}, pM_text_26 fu k v1 v2 z = some (R1, Z) → GW G I z s.heap H locs → lv_has ls 3 [(0, .ref (gA G 78)), (1, .int v1), (2, .int v2)] → W p l e rmM_text s m args below meth c H locs 0 0 (MQ below (Qi G I R1 Z) args s 0 0 (AD G I)) (F0 m 26 ls []) := by
  intro k
  induction k with
  | zero => intro v1 v2 z H locs ls h hG hl; rw [pM_text_26] at h; cases h
  | succ k ih =>
    intro v1 v2 z H locs ls h hG hl
    rw [pM_text_26] at h
    refine rIload_n C dM_text_26 hl 2 rfl ?_
    refine lv_iconst (v := 3) C.1 C.2.1 dM_text_27 (by decide) ?_
    refine rIcmpge C (tgt := 101) h dM_text_28 (by decide) (fun h => ?_) (fun h => ?_)
    · exact wM_text_101 C hI h hG (lv_sub hl [0, 1] rfl)
    · refine rIload_n C dM_text_31 hl 1 rfl ?_
      refine rIfeq C (tgt := 101) h dM_text_32 (by decide) (fun h => ?_) (fun h => ?_)
      · exact wM_text_101 C hI h hG (lv_sub hl [0, 1] rfl)
      · refine rAload_n C dM_text_35 hl 0 rfl ?_
        refine rCVv [] [] C hG h (fun h => cM_next hI h) mvM_next k_763 ⟨Nat.le_of_ble_eq_true rfl, Nat.le_of_ble_eq_true rfl⟩ ⟨rfl, rfl⟩ (rRecv C hG (hI 78 (by decide) (by decide)) e_78 rfl) rfl hl.1 (Nat.le_of_ble_eq_true rfl) dM_text_36 ⟨Nat.zero_le _, Nat.zero_le _⟩ rfl (fun H locs z3 h hG => ?_)
        refine rAload_n C dM_text_39 hl 0 rfl ?_
        refine rGet C hG (hI 78 (by decide) (by decide)) e_78 fiM_20 (v := .int (z3 78 20)) rfl k_826 dM_text_40 ?_
        refine lv_iconst (v := 3) C.1 C.2.1 dM_text_43 (by decide) ?_
        refine rIcmpne C (tgt := 59) h dM_text_44 (by decide) (fun h => ?_) (fun h => ?_)
        · exact wM_text_59 C hI ih h hG (lv_sub hl [0, 2] rfl)
        · refine rAload_n C dM_text_47 hl 0 rfl ?_
          refine rGet C hG (hI 78 (by decide) (by decide)) e_78 fiM_21 (v := .int (z3 78 21)) rfl k_827 dM_text_48 ?_
          refine rIload_n C dM_text_51 hl 2 rfl ?_
          refine rIcmpne C (tgt := 59) h dM_text_52 (by decide) (fun h => ?_) (fun h => ?_)
          · exact wM_text_59 C hI ih h hG (lv_sub hl [0, 2] rfl)
          · refine lv_iconst (v := 1) C.1 C.2.1 dM_text_55 (by decide) ?_
            refine lv_goto (tgt := 60) C.1 C.2.1 dM_text_56 (by decide) ?_
            exact wM_text_60 C hI ih h hG (lv_sub hl [0, 2] rfl)
theorem cM_text {l : Launch} {G : GT} {I : List Nat} (hI : mI I) {fu : Nat} {z : Sg} {R1 : Int32} {Z : Sg} (h : pM_text fu z = some (R1, Z)) : Mt l yM_text rmM_text bM_text 3 (some .int) G I z [.ref (gA G 78)] (Qi G I R1 Z) := by
  refine entM (by decide +kernel) (Nat.le_of_ble_eq_true rfl) ?_
  intro p e s m below meth c C hG ls hl
  have hl : lv_has ls 3 [(0, .ref (gA G 78))] := hl
  unfold pM_text at h
  refine rAload_n C dM_text_0 hl 0 rfl ?_
  refine rGet C hG (hI 78 (by decide) (by decide)) e_78 fiM_9 (v := .int (z 78 9)) rfl k_815 dM_text_1 ?_
  refine lv_bipush (v := 6) C.1 C.2.1 dM_text_4 (by decide) ?_
  refine rIcmpne C (tgt := 12) h dM_text_6 (by decide) (fun h => ?_) (fun h => ?_)
  · refine rAload_n C dM_text_12 hl 0 rfl ?_
    refine lv_iconst (v := 0) C.1 C.2.1 dM_text_13 (by decide) ?_
    refine rPut C hG (hI 78 (by decide) (by decide)) e_78 fiM_18 tokM nmM rfl (fpM_18 _) (Nat.le_of_ble_eq_true rfl) rfl rfl k_824 h dM_text_14 (fun H locs z1 h hG => ?_)
    refine rAload_n C dM_text_17 hl 0 rfl ?_
    refine lv_iconst (v := 0) C.1 C.2.1 dM_text_18 (by decide) ?_
    refine rPut C hG (hI 78 (by decide) (by decide)) e_78 fiM_26 tokM nmM rfl (fpM_26 _) (Nat.le_of_ble_eq_true rfl) rfl rfl k_832 h dM_text_19 (fun H locs z2 h hG => ?_)
    refine lv_iconst (v := 1) C.1 C.2.1 dM_text_22 (by decide) ?_
    refine rIstoreA_n C dM_text_23 hl (by decide) [(0, .ref (gA G 78))] rfl (fun ls hl => ?_)
    refine lv_iconst (v := 0) C.1 C.2.1 dM_text_24 (by decide) ?_
    refine rIstoreA_n C dM_text_25 hl (by decide) [(1, .int 1), (0, .ref (gA G 78))] rfl (fun ls hl => ?_)
    exact wM_text_26 C hI _ h hG (lv_sub hl [2, 1, 0] rfl)
  · refine lv_bipush (v := (-4)) C.1 C.2.1 dM_text_9 (by decide) ?_
    exact rReti C hG h dM_text_11
theorem dM_inStep_0 : decode bM_inStep 0 = .ok (.iconst 0, 1) := by decide +kernel
theorem dM_inStep_1 : decode bM_inStep 1 = .ok (.istore_n 1, 1) := by decide +kernel
theorem dM_inStep_2 : decode bM_inStep 2 = .ok (.iconst 0, 1) := by decide +kernel
theorem dM_inStep_3 : decode bM_inStep 3 = .ok (.istore_n 2, 1) := by decide +kernel
theorem dM_inStep_4 : decode bM_inStep 4 = .ok (.iload_n 2, 1) := by decide +kernel
theorem dM_inStep_5 : decode bM_inStep 5 = .ok (.aload_n 0, 1) := by decide +kernel
theorem dM_inStep_6 : decode bM_inStep 6 = .ok (.getfield 78, 3) := by decide +kernel
theorem dM_inStep_9 : decode bM_inStep 9 = .ok (.if_icmp .ge 38, 3) := by decide +kernel
theorem dM_inStep_12 : decode bM_inStep 12 = .ok (.iload_n 1, 1) := by decide +kernel
theorem dM_inStep_13 : decode bM_inStep 13 = .ok (.aload_n 0, 1) := by decide +kernel
theorem dM_inStep_14 : decode bM_inStep 14 = .ok (.getfield 16, 3) := by decide +kernel
theorem dM_inStep_17 : decode bM_inStep 17 = .ok (.iconst 3, 1) := by decide +kernel
theorem dM_inStep_18 : decode bM_inStep 18 = .ok (.iload_n 2, 1) := by decide +kernel
theorem dM_inStep_19 : decode bM_inStep 19 = .ok (.imul, 1) := by decide +kernel
theorem dM_inStep_20 : decode bM_inStep 20 = .ok (.iconst 1, 1) := by decide +kernel
theorem dM_inStep_21 : decode bM_inStep 21 = .ok (.iadd, 1) := by decide +kernel
theorem dM_inStep_22 : decode bM_inStep 22 = .ok (.iaload, 1) := by decide +kernel
theorem dM_inStep_23 : decode bM_inStep 23 = .ok (.aload_n 0, 1) := by decide +kernel
theorem dM_inStep_24 : decode bM_inStep 24 = .ok (.getfield 19, 3) := by decide +kernel
theorem dM_inStep_27 : decode bM_inStep 27 = .ok (.iconst 1, 1) := by decide +kernel
theorem dM_inStep_28 : decode bM_inStep 28 = .ok (.iaload, 1) := by decide +kernel
theorem dM_inStep_29 : decode bM_inStep 29 = .ok (.if_icmp .ne 9, 3) := by decide +kernel
theorem dM_inStep_32 : decode bM_inStep 32 = .ok (.iconst 1, 1) := by decide +kernel
theorem dM_inStep_33 : decode bM_inStep 33 = .ok (.iload_n 2, 1) := by decide +kernel
theorem dM_inStep_34 : decode bM_inStep 34 = .ok (.ishl, 1) := by decide +kernel
theorem dM_inStep_35 : decode bM_inStep 35 = .ok (.goto 4, 3) := by decide +kernel
theorem dM_inStep_38 : decode bM_inStep 38 = .ok (.iconst 0, 1) := by decide +kernel
theorem dM_inStep_39 : decode bM_inStep 39 = .ok (.ior, 1) := by decide +kernel
theorem dM_inStep_40 : decode bM_inStep 40 = .ok (.istore_n 1, 1) := by decide +kernel
theorem dM_inStep_41 : decode bM_inStep 41 = .ok (.iinc 2 1, 3) := by decide +kernel
theorem dM_inStep_44 : decode bM_inStep 44 = .ok (.goto (-40), 3) := by decide +kernel
theorem dM_inStep_47 : decode bM_inStep 47 = .ok (.iload_n 1, 1) := by decide +kernel
theorem dM_inStep_48 : decode bM_inStep 48 = .ok (.ireturn, 1) := by decide +kernel
theorem wM_inStep_39 {p : Program} {l : Launch} {e : Env} {s : State} {m : MethodId} {args : Array Value} {below : List Frame} {meth : Method} {c : Code} {G : GT} {I : List Nat} (C : CX p s m args meth c NM bM_inStep 3 (some .int) G I) (hI : mI I) {fu : Nat} {R1 : Int32} {Z : Sg} {rc4 : Int32 → Int32 → Sg → Option (Int32 × Sg)} (hr4 : ∀ {v1 : Int32} {v2 : Int32} {z : Sg} {H : Heap} {locs : List Loc} {ls : Array Slot}, rc4 v1 v2 z = some (R1, Z) → GW G I z s.heap H locs → lv_has ls 3 [(0, .ref (gA G 78)), (1, .int v1), (2, .int v2)] → W p l e rmM_inStep s m args below meth c H locs 0 0 (MQ below (Qi G I R1 Z) args s 0 0 (AD G I)) (F0 m 4 ls [])) {v2 : Int32} {t0 : Int32} {t1 : Int32} {z : Sg} {H : Heap} {locs : List Loc} {ls : Array Slot} (h : pM_inStep_39 fu rc4 v2 t0 t1 z = some (R1, Z)) (hG : GW G I z s.heap H locs) (hl : lv_has ls 3 [(0, .ref (gA G 78)), (2, .int v2)]) : W p l e rmM_inStep s m args below meth c H locs 0 0 (MQ below (Qi G I R1 Z) args s 0 0 (AD G I)) (F0 m 39 ls [.int t1, .int t0]) := by
  unfold pM_inStep_39 at h
  refine lv_ior C.1 C.2.1 dM_inStep_39 ?_
  refine rIstore_n C dM_inStep_40 hl h (by decide) [(0, .ref (gA G 78)), (2, .int v2)] rfl (fun x1 ls h hl => ?_)
  refine rIinc C dM_inStep_41 hl 2 rfl (d := 1) (by decide) h (by decide) [(1, .int x1), (0, .ref (gA G 78))] rfl (fun x2 ls h hl => ?_)
  refine lv_goto (tgt := 4) C.1 C.2.1 dM_inStep_44 (by decide) ?_
  exact hr4 h hG (lv_sub hl [2, 1, 0] rfl)
theorem wM_inStep_4 {p : Program} {l : Launch} {e : Env} {s : State} {m : MethodId} {args : Array Value} {below : List Frame} {meth : Method} {c : Code} {G : GT} {I : List Nat} (C : CX p s m args meth c NM bM_inStep 3 (some .int) G I) (hI : mI I) {fu : Nat} {R1 : Int32} {Z : Sg} : ∀ (k : Nat) {v1 : Int32} {v2 : Int32} {z : Sg} {H : Heap} {locs : List Loc} {ls : Array Slot}, pM_inStep_4 fu k v1 v2 z = some (R1, Z) → GW G I z s.heap H locs → lv_has ls 3 [(0, .ref (gA G 78)), (1, .int v1), (2, .int v2)] → W p l e rmM_inStep s m args below meth c H locs 0 0 (MQ below (Qi G I R1 Z) args s 0 0 (AD G I)) (F0 m 4 ls []) := by
  intro k
  induction k with
  | zero => intro v1 v2 z H locs ls h hG hl; rw [pM_inStep_4] at h; cases h
  | succ k ih =>
    intro v1 v2 z H locs ls h hG hl
    rw [pM_inStep_4] at h
    refine rIload_n C dM_inStep_4 hl 2 rfl ?_
    refine rAload_n C dM_inStep_5 hl 0 rfl ?_
    refine rGet C hG (hI 78 (by decide) (by decide)) e_78 fiM_0 (v := .int (z 78 0)) rfl k_806 dM_inStep_6 ?_
    refine rIcmpge C (tgt := 47) h dM_inStep_9 (by decide) (fun h => ?_) (fun h => ?_)
    · refine rIload_n C dM_inStep_47 hl 1 rfl ?_
      exact rReti C hG h dM_inStep_48
    · refine rIload_n C dM_inStep_12 hl 1 rfl ?_
      refine rAload_n C dM_inStep_13 hl 0 rfl ?_
      refine rGet C hG (hI 78 (by decide) (by decide)) e_78 fiM_3 (v := .ref (gA G 81)) rfl k_809 dM_inStep_14 ?_
      refine lv_iconst (v := 3) C.1 C.2.1 dM_inStep_17 (by decide) ?_
      refine rIload_n C dM_inStep_18 hl 2 rfl ?_
      refine lv_imul C.1 C.2.1 dM_inStep_19 ?_
      refine lv_iconst (v := 1) C.1 C.2.1 dM_inStep_20 (by decide) ?_
      refine lv_iadd C.1 C.2.1 dM_inStep_21 ?_
      refine rIald C hG (hI 81 (by decide) (by decide)) e_81 h dM_inStep_22 (fun h => ?_)
      refine rAload_n C dM_inStep_23 hl 0 rfl ?_
      refine rGet C hG (hI 78 (by decide) (by decide)) e_78 fiM_4 (v := .ref (gA G 82)) rfl k_810 dM_inStep_24 ?_
      refine lv_iconst (v := 1) C.1 C.2.1 dM_inStep_27 (by decide) ?_
      refine rIaldK C hG (hI 82 (by decide) (by decide)) e_82 1 (by decide) (by decide) dM_inStep_28 ?_
      refine rIcmpne C (tgt := 38) h dM_inStep_29 (by decide) (fun h => ?_) (fun h => ?_)
      · refine lv_iconst (v := 0) C.1 C.2.1 dM_inStep_38 (by decide) ?_
        exact wM_inStep_39 C hI ih h hG (lv_sub hl [0, 2] rfl)
      · refine lv_iconst (v := 1) C.1 C.2.1 dM_inStep_32 (by decide) ?_
        refine rIload_n C dM_inStep_33 hl 2 rfl ?_
        refine lv_ishl C.1 C.2.1 dM_inStep_34 ?_
        refine lv_goto (tgt := 39) C.1 C.2.1 dM_inStep_35 (by decide) ?_
        exact wM_inStep_39 C hI ih h hG (lv_sub hl [0, 2] rfl)
theorem cM_inStep {l : Launch} {G : GT} {I : List Nat} (hI : mI I) {fu : Nat} {z : Sg} {R1 : Int32} {Z : Sg} (h : pM_inStep fu z = some (R1, Z)) : Mt l yM_inStep rmM_inStep bM_inStep 3 (some .int) G I z [.ref (gA G 78)] (Qi G I R1 Z) := by
  refine entM (by decide +kernel) (Nat.le_of_ble_eq_true rfl) ?_
  intro p e s m below meth c C hG ls hl
  have hl : lv_has ls 3 [(0, .ref (gA G 78))] := hl
  unfold pM_inStep at h
  refine lv_iconst (v := 0) C.1 C.2.1 dM_inStep_0 (by decide) ?_
  refine rIstoreA_n C dM_inStep_1 hl (by decide) [(0, .ref (gA G 78))] rfl (fun ls hl => ?_)
  refine lv_iconst (v := 0) C.1 C.2.1 dM_inStep_2 (by decide) ?_
  refine rIstoreA_n C dM_inStep_3 hl (by decide) [(1, .int 0), (0, .ref (gA G 78))] rfl (fun ls hl => ?_)
  exact wM_inStep_4 C hI _ h hG (lv_sub hl [2, 1, 0] rfl)
theorem dM_ones_0 : decode bM_ones 0 = .ok (.iconst 0, 1) := by decide +kernel
theorem dM_ones_1 : decode bM_ones 1 = .ok (.istore_n 1, 1) := by decide +kernel
theorem dM_ones_2 : decode bM_ones 2 = .ok (.iconst 0, 1) := by decide +kernel
theorem dM_ones_3 : decode bM_ones 3 = .ok (.istore_n 2, 1) := by decide +kernel
theorem dM_ones_4 : decode bM_ones 4 = .ok (.iload_n 2, 1) := by decide +kernel
theorem dM_ones_5 : decode bM_ones 5 = .ok (.bipush 6, 2) := by decide +kernel
theorem dM_ones_7 : decode bM_ones 7 = .ok (.if_icmp .ge 17, 3) := by decide +kernel
theorem dM_ones_10 : decode bM_ones 10 = .ok (.iload_n 1, 1) := by decide +kernel
theorem dM_ones_11 : decode bM_ones 11 = .ok (.iload_n 0, 1) := by decide +kernel
theorem dM_ones_12 : decode bM_ones 12 = .ok (.iload_n 2, 1) := by decide +kernel
theorem dM_ones_13 : decode bM_ones 13 = .ok (.ishr, 1) := by decide +kernel
theorem dM_ones_14 : decode bM_ones 14 = .ok (.iconst 1, 1) := by decide +kernel
theorem dM_ones_15 : decode bM_ones 15 = .ok (.iand, 1) := by decide +kernel
theorem dM_ones_16 : decode bM_ones 16 = .ok (.iadd, 1) := by decide +kernel
theorem dM_ones_17 : decode bM_ones 17 = .ok (.istore_n 1, 1) := by decide +kernel
theorem dM_ones_18 : decode bM_ones 18 = .ok (.iinc 2 1, 3) := by decide +kernel
theorem dM_ones_21 : decode bM_ones 21 = .ok (.goto (-17), 3) := by decide +kernel
theorem dM_ones_24 : decode bM_ones 24 = .ok (.iload_n 1, 1) := by decide +kernel
theorem dM_ones_25 : decode bM_ones 25 = .ok (.ireturn, 1) := by decide +kernel
theorem wM_ones_4 {p : Program} {l : Launch} {e : Env} {s : State} {m : MethodId} {args : Array Value} {below : List Frame} {meth : Method} {c : Code} {G : GT} {I : List Nat} (C : CX p s m args meth c NM bM_ones 3 (some .int) G I) (hI : mI I) {fu : Nat} {R1 : Int32} {Z : Sg} : ∀ (k : Nat) {v0 : Int32} {v1 : Int32} {v2 : Int32} {z : Sg} {H : Heap} {locs : List Loc} {ls : Array Slot}, pM_ones_4 fu k v0 v1 v2 z = some (R1, Z) → GW G I z s.heap H locs → lv_has ls 3 [(0, .int v0), (1, .int v1), (2, .int v2)] → W p l e rmM_ones s m args below meth c H locs 0 0 (MQ below (Qi G I R1 Z) args s 0 0 (AD G I)) (F0 m 4 ls []) := by
  intro k
  induction k with
  | zero => intro v0 v1 v2 z H locs ls h hG hl; rw [pM_ones_4] at h; cases h
  | succ k ih =>
    intro v0 v1 v2 z H locs ls h hG hl
    rw [pM_ones_4] at h
    refine rIload_n C dM_ones_4 hl 2 rfl ?_
    refine lv_bipush (v := 6) C.1 C.2.1 dM_ones_5 (by decide) ?_
    refine rIcmpge C (tgt := 24) h dM_ones_7 (by decide) (fun h => ?_) (fun h => ?_)
    · refine rIload_n C dM_ones_24 hl 1 rfl ?_
      exact rReti C hG h dM_ones_25
    · refine rIload_n C dM_ones_10 hl 1 rfl ?_
      refine rIload_n C dM_ones_11 hl 0 rfl ?_
      refine rIload_n C dM_ones_12 hl 2 rfl ?_
      refine lv_ishr C.1 C.2.1 dM_ones_13 ?_
      refine lv_iconst (v := 1) C.1 C.2.1 dM_ones_14 (by decide) ?_
      refine lv_iand C.1 C.2.1 dM_ones_15 ?_
      refine lv_iadd C.1 C.2.1 dM_ones_16 ?_
      refine rIstore_n C dM_ones_17 hl h (by decide) [(0, .int v0), (2, .int v2)] rfl (fun x1 ls h hl => ?_)
      refine rIinc C dM_ones_18 hl 2 rfl (d := 1) (by decide) h (by decide) [(1, .int x1), (0, .int v0)] rfl (fun x2 ls h hl => ?_)
      refine lv_goto (tgt := 4) C.1 C.2.1 dM_ones_21 (by decide) ?_
      exact ih h hG (lv_sub hl [2, 1, 0] rfl)
theorem cM_ones {l : Launch} {G : GT} {I : List Nat} (hI : mI I) {fu : Nat} {v0 : Int32} {z : Sg} {R1 : Int32} {Z : Sg} (h : pM_ones fu v0 z = some (R1, Z)) : Mt l yM_ones rmM_ones bM_ones 3 (some .int) G I z [.int v0] (Qi G I R1 Z) := by
  refine entM (by decide +kernel) (Nat.le_of_ble_eq_true rfl) ?_
  intro p e s m below meth c C hG ls hl
  have hl : lv_has ls 3 [(0, .int v0)] := hl
  unfold pM_ones at h
  refine lv_iconst (v := 0) C.1 C.2.1 dM_ones_0 (by decide) ?_
  refine rIstoreA_n C dM_ones_1 hl (by decide) [(0, .int v0)] rfl (fun ls hl => ?_)
  refine lv_iconst (v := 0) C.1 C.2.1 dM_ones_2 (by decide) ?_
  refine rIstoreA_n C dM_ones_3 hl (by decide) [(1, .int 0), (0, .int v0)] rfl (fun ls hl => ?_)
  exact wM_ones_4 C hI _ h hG (lv_sub hl [2, 1, 0] rfl)
theorem dM_count_0 : decode bM_count 0 = .ok (.iload_n 1, 1) := by decide +kernel
theorem dM_count_1 : decode bM_count 1 = .ok (.tableswitch 63 0 4 #[35, 40, 48, 53, 58], 35) := by decide +kernel
theorem dM_count_36 : decode bM_count 36 = .ok (.aload_n 0, 1) := by decide +kernel
theorem dM_count_37 : decode bM_count 37 = .ok (.getfield 78, 3) := by decide +kernel
theorem dM_count_40 : decode bM_count 40 = .ok (.ireturn, 1) := by decide +kernel
theorem dM_count_41 : decode bM_count 41 = .ok (.aload_n 0, 1) := by decide +kernel
theorem dM_count_42 : decode bM_count 42 = .ok (.invokevirtual 107, 3) := by decide +kernel
theorem dM_count_45 : decode bM_count 45 = .ok (.invokestatic 110, 3) := by decide +kernel
theorem dM_count_48 : decode bM_count 48 = .ok (.ireturn, 1) := by decide +kernel
theorem dM_count_49 : decode bM_count 49 = .ok (.aload_n 0, 1) := by decide +kernel
theorem dM_count_50 : decode bM_count 50 = .ok (.getfield 113, 3) := by decide +kernel
theorem dM_count_53 : decode bM_count 53 = .ok (.ireturn, 1) := by decide +kernel
theorem dM_count_54 : decode bM_count 54 = .ok (.aload_n 0, 1) := by decide +kernel
theorem dM_count_55 : decode bM_count 55 = .ok (.getfield 116, 3) := by decide +kernel
theorem dM_count_58 : decode bM_count 58 = .ok (.ireturn, 1) := by decide +kernel
theorem dM_count_59 : decode bM_count 59 = .ok (.aload_n 0, 1) := by decide +kernel
theorem dM_count_60 : decode bM_count 60 = .ok (.getfield 70, 3) := by decide +kernel
theorem dM_count_63 : decode bM_count 63 = .ok (.ireturn, 1) := by decide +kernel
theorem dM_count_64 : decode bM_count 64 = .ok (.bipush (-2), 2) := by decide +kernel
theorem dM_count_66 : decode bM_count 66 = .ok (.ireturn, 1) := by decide +kernel
theorem cM_count {l : Launch} {G : GT} {I : List Nat} (hI : mI I) {fu : Nat} {v1 : Int32} {z : Sg} {R1 : Int32} {Z : Sg} (h : pM_count fu v1 z = some (R1, Z)) : Mt l yM_count rmM_count bM_count 2 (some .int) G I z [.ref (gA G 78), .int v1] (Qi G I R1 Z) := by
  refine entM (by decide +kernel) (Nat.le_of_ble_eq_true rfl) ?_
  intro p e s m below meth c C hG ls hl
  have hl : lv_has ls 2 [(0, .ref (gA G 78)), (1, .int v1)] := hl
  unfold pM_count at h
  refine rIload_n C dM_count_0 hl 1 rfl ?_
  by_cases q1_0 : v1 = 0
  · replace h := ifP q1_0 h
    refine rSwT C dM_count_1 0 q1_0 (by decide) (off := 35) (tgt := 36) (by decide) (by decide) ?_
    refine rAload_n C dM_count_36 hl 0 rfl ?_
    refine rGet C hG (hI 78 (by decide) (by decide)) e_78 fiM_0 (v := .int (z 78 0)) rfl k_806 dM_count_37 ?_
    exact rReti C hG h dM_count_40
  replace h := ifN q1_0 h
  by_cases q1_1 : v1 = 1
  · replace h := ifP q1_1 h
    refine rSwT C dM_count_1 1 q1_1 (by decide) (off := 40) (tgt := 41) (by decide) (by decide) ?_
    refine rAload_n C dM_count_41 hl 0 rfl ?_
    refine rCVi [] [] C hG h (fun h => cM_inStep hI h) mvM_inStep k_913 ⟨Nat.le_of_ble_eq_true rfl, Nat.le_of_ble_eq_true rfl⟩ ⟨rfl, rfl⟩ (rRecv C hG (hI 78 (by decide) (by decide)) e_78 rfl) rfl hl.1 (Nat.le_of_ble_eq_true rfl) dM_count_42 ⟨Nat.zero_le _, Nat.zero_le _⟩ rfl (fun H locs x2 z1 h hG => ?_)
    refine rCSi [.int x2] [] C hG h (fun h => cM_ones hI h) mvM_ones k_917 ⟨Nat.le_of_ble_eq_true rfl, Nat.le_of_ble_eq_true rfl⟩ ⟨rfl, rfl⟩ rfl hl.1 (Nat.le_of_ble_eq_true rfl) dM_count_45 ⟨Nat.zero_le _, Nat.zero_le _⟩ rfl (fun H locs x4 z3 h hG => ?_)
    exact rReti C hG h dM_count_48
  replace h := ifN q1_1 h
  by_cases q1_2 : v1 = 2
  · replace h := ifP q1_2 h
    refine rSwT C dM_count_1 2 q1_2 (by decide) (off := 48) (tgt := 49) (by decide) (by decide) ?_
    refine rAload_n C dM_count_49 hl 0 rfl ?_
    refine rGet C hG (hI 78 (by decide) (by decide)) e_78 fiM_9 (v := .int (z 78 9)) rfl k_815 dM_count_50 ?_
    exact rReti C hG h dM_count_53
  replace h := ifN q1_2 h
  by_cases q1_3 : v1 = 3
  · replace h := ifP q1_3 h
    refine rSwT C dM_count_1 3 q1_3 (by decide) (off := 53) (tgt := 54) (by decide) (by decide) ?_
    refine rAload_n C dM_count_54 hl 0 rfl ?_
    refine rGet C hG (hI 78 (by decide) (by decide)) e_78 fiM_10 (v := .int (z 78 10)) rfl k_816 dM_count_55 ?_
    exact rReti C hG h dM_count_58
  replace h := ifN q1_3 h
  by_cases q1_4 : v1 = 4
  · replace h := ifP q1_4 h
    refine rSwT C dM_count_1 4 q1_4 (by decide) (off := 58) (tgt := 59) (by decide) (by decide) ?_
    refine rAload_n C dM_count_59 hl 0 rfl ?_
    refine rGet C hG (hI 78 (by decide) (by decide)) e_78 fiM_6 (v := .int (z 78 6)) rfl k_812 dM_count_60 ?_
    exact rReti C hG h dM_count_63
  replace h := ifN q1_4 h
  refine rSwD C dM_count_1 (tgt := 64) (by have q1_0n := ne_toInt (k := 0) q1_0 (by decide); have q1_1n := ne_toInt (k := 1) q1_1 (by decide); have q1_2n := ne_toInt (k := 2) q1_2 (by decide); have q1_3n := ne_toInt (k := 3) q1_3 (by decide); have q1_4n := ne_toInt (k := 4) q1_4 (by decide); omega) (by decide) ?_
  refine lv_bipush (v := (-2)) C.1 C.2.1 dM_count_64 (by decide) ?_
  exact rReti C hG h dM_count_66
theorem dM_whoAt_0 : decode bM_whoAt 0 = .ok (.iconst 0, 1) := by decide +kernel
theorem dM_whoAt_1 : decode bM_whoAt 1 = .ok (.istore_n 2, 1) := by decide +kernel
theorem dM_whoAt_2 : decode bM_whoAt 2 = .ok (.iload_n 2, 1) := by decide +kernel
theorem dM_whoAt_3 : decode bM_whoAt 3 = .ok (.aload_n 0, 1) := by decide +kernel
theorem dM_whoAt_4 : decode bM_whoAt 4 = .ok (.getfield 78, 3) := by decide +kernel
theorem dM_whoAt_7 : decode bM_whoAt 7 = .ok (.if_icmp .ge 23, 3) := by decide +kernel
theorem dM_whoAt_10 : decode bM_whoAt 10 = .ok (.aload_n 0, 1) := by decide +kernel
theorem dM_whoAt_11 : decode bM_whoAt 11 = .ok (.getfield 16, 3) := by decide +kernel
theorem dM_whoAt_14 : decode bM_whoAt 14 = .ok (.iconst 3, 1) := by decide +kernel
theorem dM_whoAt_15 : decode bM_whoAt 15 = .ok (.iload_n 2, 1) := by decide +kernel
theorem dM_whoAt_16 : decode bM_whoAt 16 = .ok (.imul, 1) := by decide +kernel
theorem dM_whoAt_17 : decode bM_whoAt 17 = .ok (.iaload, 1) := by decide +kernel
theorem dM_whoAt_18 : decode bM_whoAt 18 = .ok (.iload_n 1, 1) := by decide +kernel
theorem dM_whoAt_19 : decode bM_whoAt 19 = .ok (.if_icmp .ne 5, 3) := by decide +kernel
theorem dM_whoAt_22 : decode bM_whoAt 22 = .ok (.iload_n 2, 1) := by decide +kernel
theorem dM_whoAt_23 : decode bM_whoAt 23 = .ok (.ireturn, 1) := by decide +kernel
theorem dM_whoAt_24 : decode bM_whoAt 24 = .ok (.iinc 2 1, 3) := by decide +kernel
theorem dM_whoAt_27 : decode bM_whoAt 27 = .ok (.goto (-25), 3) := by decide +kernel
theorem dM_whoAt_30 : decode bM_whoAt 30 = .ok (.iconst (-1), 1) := by decide +kernel
theorem dM_whoAt_31 : decode bM_whoAt 31 = .ok (.ireturn, 1) := by decide +kernel
theorem wM_whoAt_2 {p : Program} {l : Launch} {e : Env} {s : State} {m : MethodId} {args : Array Value} {below : List Frame} {meth : Method} {c : Code} {G : GT} {I : List Nat} (C : CX p s m args meth c NM bM_whoAt 3 (some .int) G I) (hI : mI I) {fu : Nat} {R1 : Int32} {Z : Sg} : ∀ (k : Nat) {v1 : Int32} {v2 : Int32} {z : Sg} {H : Heap} {locs : List Loc} {ls : Array Slot}, pM_whoAt_2 fu k v1 v2 z = some (R1, Z) → GW G I z s.heap H locs → lv_has ls 3 [(0, .ref (gA G 78)), (1, .int v1), (2, .int v2)] → W p l e rmM_whoAt s m args below meth c H locs 0 0 (MQ below (Qi G I R1 Z) args s 0 0 (AD G I)) (F0 m 2 ls []) := by
  intro k
  induction k with
  | zero => intro v1 v2 z H locs ls h hG hl; rw [pM_whoAt_2] at h; cases h
  | succ k ih =>
    intro v1 v2 z H locs ls h hG hl
    rw [pM_whoAt_2] at h
    refine rIload_n C dM_whoAt_2 hl 2 rfl ?_
    refine rAload_n C dM_whoAt_3 hl 0 rfl ?_
    refine rGet C hG (hI 78 (by decide) (by decide)) e_78 fiM_0 (v := .int (z 78 0)) rfl k_806 dM_whoAt_4 ?_
    refine rIcmpge C (tgt := 30) h dM_whoAt_7 (by decide) (fun h => ?_) (fun h => ?_)
    · refine lv_iconst (v := (-1)) C.1 C.2.1 dM_whoAt_30 (by decide) ?_
      exact rReti C hG h dM_whoAt_31
    · refine rAload_n C dM_whoAt_10 hl 0 rfl ?_
      refine rGet C hG (hI 78 (by decide) (by decide)) e_78 fiM_3 (v := .ref (gA G 81)) rfl k_809 dM_whoAt_11 ?_
      refine lv_iconst (v := 3) C.1 C.2.1 dM_whoAt_14 (by decide) ?_
      refine rIload_n C dM_whoAt_15 hl 2 rfl ?_
      refine lv_imul C.1 C.2.1 dM_whoAt_16 ?_
      refine rIald C hG (hI 81 (by decide) (by decide)) e_81 h dM_whoAt_17 (fun h => ?_)
      refine rIload_n C dM_whoAt_18 hl 1 rfl ?_
      refine rIcmpne C (tgt := 24) h dM_whoAt_19 (by decide) (fun h => ?_) (fun h => ?_)
      · refine rIinc C dM_whoAt_24 hl 2 rfl (d := 1) (by decide) h (by decide) [(0, .ref (gA G 78)), (1, .int v1)] rfl (fun x1 ls h hl => ?_)
        refine lv_goto (tgt := 2) C.1 C.2.1 dM_whoAt_27 (by decide) ?_
        exact ih h hG (lv_sub hl [1, 2, 0] rfl)
      · refine rIload_n C dM_whoAt_22 hl 2 rfl ?_
        exact rReti C hG h dM_whoAt_23
theorem cM_whoAt {l : Launch} {G : GT} {I : List Nat} (hI : mI I) {fu : Nat} {v1 : Int32} {z : Sg} {R1 : Int32} {Z : Sg} (h : pM_whoAt fu v1 z = some (R1, Z)) : Mt l yM_whoAt rmM_whoAt bM_whoAt 3 (some .int) G I z [.ref (gA G 78), .int v1] (Qi G I R1 Z) := by
  refine entM (by decide +kernel) (Nat.le_of_ble_eq_true rfl) ?_
  intro p e s m below meth c C hG ls hl
  have hl : lv_has ls 3 [(0, .ref (gA G 78)), (1, .int v1)] := hl
  unfold pM_whoAt at h
  refine lv_iconst (v := 0) C.1 C.2.1 dM_whoAt_0 (by decide) ?_
  refine rIstoreA_n C dM_whoAt_1 hl (by decide) [(0, .ref (gA G 78)), (1, .int v1)] rfl (fun ls hl => ?_)
  exact wM_whoAt_2 C hI _ h hG (lv_sub hl [1, 2, 0] rfl)
theorem dM_sets_0 : decode bM_sets 0 = .ok (.iload_n 1, 1) := by decide +kernel
theorem dM_sets_1 : decode bM_sets 1 = .ok (.iconst 0, 1) := by decide +kernel
theorem dM_sets_2 : decode bM_sets 2 = .ok (.iconst 4, 1) := by decide +kernel
theorem dM_sets_3 : decode bM_sets 3 = .ok (.invokestatic 81, 3) := by decide +kernel
theorem dM_sets_6 : decode bM_sets 6 = .ok (.ifCond .ne 6, 3) := by decide +kernel
theorem dM_sets_9 : decode bM_sets 9 = .ok (.bipush (-2), 2) := by decide +kernel
theorem dM_sets_11 : decode bM_sets 11 = .ok (.ireturn, 1) := by decide +kernel
theorem dM_sets_12 : decode bM_sets 12 = .ok (.iload_n 1, 1) := by decide +kernel
theorem dM_sets_13 : decode bM_sets 13 = .ok (.ifCond .ne 8, 3) := by decide +kernel
theorem dM_sets_16 : decode bM_sets 16 = .ok (.bipush 9, 2) := by decide +kernel
theorem dM_sets_18 : decode bM_sets 18 = .ok (.goto 27, 3) := by decide +kernel
theorem dM_sets_21 : decode bM_sets 21 = .ok (.iload_n 1, 1) := by decide +kernel
theorem dM_sets_22 : decode bM_sets 22 = .ok (.iconst 3, 1) := by decide +kernel
theorem dM_sets_23 : decode bM_sets 23 = .ok (.if_icmp .ge 8, 3) := by decide +kernel
theorem dM_sets_26 : decode bM_sets 26 = .ok (.bipush 11, 2) := by decide +kernel
theorem dM_sets_28 : decode bM_sets 28 = .ok (.goto 17, 3) := by decide +kernel
theorem dM_sets_31 : decode bM_sets 31 = .ok (.iload_n 1, 1) := by decide +kernel
theorem dM_sets_32 : decode bM_sets 32 = .ok (.iconst 3, 1) := by decide +kernel
theorem dM_sets_33 : decode bM_sets 33 = .ok (.if_icmp .ne 9, 3) := by decide +kernel
theorem dM_sets_36 : decode bM_sets 36 = .ok (.sipush 999, 3) := by decide +kernel
theorem dM_sets_39 : decode bM_sets 39 = .ok (.goto 6, 3) := by decide +kernel
theorem dM_sets_42 : decode bM_sets 42 = .ok (.sipush 9999, 3) := by decide +kernel
theorem dM_sets_45 : decode bM_sets 45 = .ok (.istore_n 3, 1) := by decide +kernel
theorem dM_sets_46 : decode bM_sets 46 = .ok (.iload_n 2, 1) := by decide +kernel
theorem dM_sets_47 : decode bM_sets 47 = .ok (.iconst 0, 1) := by decide +kernel
theorem dM_sets_48 : decode bM_sets 48 = .ok (.iload_n 3, 1) := by decide +kernel
theorem dM_sets_49 : decode bM_sets 49 = .ok (.invokestatic 81, 3) := by decide +kernel
theorem dM_sets_52 : decode bM_sets 52 = .ok (.ifCond .eq 16, 3) := by decide +kernel
theorem dM_sets_55 : decode bM_sets 55 = .ok (.iload_n 1, 1) := by decide +kernel
theorem dM_sets_56 : decode bM_sets 56 = .ok (.ifCond .ne 15, 3) := by decide +kernel
theorem dM_sets_59 : decode bM_sets 59 = .ok (.aload_n 0, 1) := by decide +kernel
theorem dM_sets_60 : decode bM_sets 60 = .ok (.iload_n 2, 1) := by decide +kernel
theorem dM_sets_61 : decode bM_sets 61 = .ok (.invokevirtual 85, 3) := by decide +kernel
theorem dM_sets_64 : decode bM_sets 64 = .ok (.iconst (-1), 1) := by decide +kernel
theorem dM_sets_65 : decode bM_sets 65 = .ok (.if_icmp .eq 6, 3) := by decide +kernel
theorem dM_sets_68 : decode bM_sets 68 = .ok (.bipush (-2), 2) := by decide +kernel
theorem dM_sets_70 : decode bM_sets 70 = .ok (.ireturn, 1) := by decide +kernel
theorem dM_sets_71 : decode bM_sets 71 = .ok (.aload_n 0, 1) := by decide +kernel
theorem dM_sets_72 : decode bM_sets 72 = .ok (.getfield 19, 3) := by decide +kernel
theorem dM_sets_75 : decode bM_sets 75 = .ok (.iload_n 1, 1) := by decide +kernel
theorem dM_sets_76 : decode bM_sets 76 = .ok (.iaload, 1) := by decide +kernel
theorem dM_sets_77 : decode bM_sets 77 = .ok (.istore 4, 2) := by decide +kernel
theorem dM_sets_79 : decode bM_sets 79 = .ok (.aload_n 0, 1) := by decide +kernel
theorem dM_sets_80 : decode bM_sets 80 = .ok (.getfield 19, 3) := by decide +kernel
theorem dM_sets_83 : decode bM_sets 83 = .ok (.iload_n 1, 1) := by decide +kernel
theorem dM_sets_84 : decode bM_sets 84 = .ok (.iload_n 2, 1) := by decide +kernel
theorem dM_sets_85 : decode bM_sets 85 = .ok (.iastore, 1) := by decide +kernel
theorem dM_sets_86 : decode bM_sets 86 = .ok (.iload 4, 2) := by decide +kernel
theorem dM_sets_88 : decode bM_sets 88 = .ok (.ireturn, 1) := by decide +kernel
theorem wM_sets_71 {p : Program} {l : Launch} {e : Env} {s : State} {m : MethodId} {args : Array Value} {below : List Frame} {meth : Method} {c : Code} {G : GT} {I : List Nat} (C : CX p s m args meth c NM bM_sets 5 (some .int) G I) (hI : mI I) {fu : Nat} {R1 : Int32} {Z : Sg} {v1 : Int32} {v2 : Int32} {z : Sg} {H : Heap} {locs : List Loc} {ls : Array Slot} (h : pM_sets_71 fu v1 v2 z = some (R1, Z)) (hG : GW G I z s.heap H locs) (hl : lv_has ls 5 [(0, .ref (gA G 78)), (1, .int v1), (2, .int v2)]) : W p l e rmM_sets s m args below meth c H locs 0 0 (MQ below (Qi G I R1 Z) args s 0 0 (AD G I)) (F0 m 71 ls []) := by
  unfold pM_sets_71 at h
  refine rAload_n C dM_sets_71 hl 0 rfl ?_
  refine rGet C hG (hI 78 (by decide) (by decide)) e_78 fiM_4 (v := .ref (gA G 82)) rfl k_810 dM_sets_72 ?_
  refine rIload_n C dM_sets_75 hl 1 rfl ?_
  refine rIald C hG (hI 82 (by decide) (by decide)) e_82 h dM_sets_76 (fun h => ?_)
  refine rIstore C dM_sets_77 hl h (by decide) [(0, .ref (gA G 78)), (1, .int v1), (2, .int v2)] rfl (fun x7 ls h hl => ?_)
  refine rAload_n C dM_sets_79 hl 1 rfl ?_
  refine rGet C hG (hI 78 (by decide) (by decide)) e_78 fiM_4 (v := .ref (gA G 82)) rfl k_810 dM_sets_80 ?_
  refine rIload_n C dM_sets_83 hl 2 rfl ?_
  refine rIload_n C dM_sets_84 hl 3 rfl ?_
  refine rIast C hG (hI 82 (by decide) (by decide)) e_82 h dM_sets_85 (fun H locs z8 h hG => ?_)
  refine rIload C dM_sets_86 hl 0 rfl ?_
  exact rReti C hG h dM_sets_88
theorem wM_sets_45 {p : Program} {l : Launch} {e : Env} {s : State} {m : MethodId} {args : Array Value} {below : List Frame} {meth : Method} {c : Code} {G : GT} {I : List Nat} (C : CX p s m args meth c NM bM_sets 5 (some .int) G I) (hI : mI I) {fu : Nat} {R1 : Int32} {Z : Sg} {v1 : Int32} {v2 : Int32} {t0 : Int32} {z : Sg} {H : Heap} {locs : List Loc} {ls : Array Slot} (h : pM_sets_45 fu v1 v2 t0 z = some (R1, Z)) (hG : GW G I z s.heap H locs) (hl : lv_has ls 5 [(0, .ref (gA G 78)), (1, .int v1), (2, .int v2)]) : W p l e rmM_sets s m args below meth c H locs 0 0 (MQ below (Qi G I R1 Z) args s 0 0 (AD G I)) (F0 m 45 ls [.int t0]) := by
  unfold pM_sets_45 at h
  refine rIstoreA_n C dM_sets_45 hl (by decide) [(0, .ref (gA G 78)), (1, .int v1), (2, .int v2)] rfl (fun ls hl => ?_)
  refine rIload_n C dM_sets_46 hl 3 rfl ?_
  refine lv_iconst (v := 0) C.1 C.2.1 dM_sets_47 (by decide) ?_
  refine rIload_n C dM_sets_48 hl 0 rfl ?_
  refine rCSi [.int v2, .int 0, .int t0] [] C hG h (fun h => cM_in hI h) mvM_in k_767 ⟨Nat.le_of_ble_eq_true rfl, Nat.le_of_ble_eq_true rfl⟩ ⟨rfl, rfl⟩ rfl hl.1 (Nat.le_of_ble_eq_true rfl) dM_sets_49 ⟨Nat.zero_le _, Nat.zero_le _⟩ rfl (fun H locs x4 z3 h hG => ?_)
  refine rIfeq C (tgt := 68) h dM_sets_52 (by decide) (fun h => ?_) (fun h => ?_)
  · refine lv_bipush (v := (-2)) C.1 C.2.1 dM_sets_68 (by decide) ?_
    exact rReti C hG h dM_sets_70
  · refine rIload_n C dM_sets_55 hl 2 rfl ?_
    refine rIfne C (tgt := 71) h dM_sets_56 (by decide) (fun h => ?_) (fun h => ?_)
    · exact wM_sets_71 C hI h hG (lv_sub hl [1, 2, 3] rfl)
    · refine rAload_n C dM_sets_59 hl 1 rfl ?_
      refine rIload_n C dM_sets_60 hl 3 rfl ?_
      refine rCVi [.int v2] [] C hG h (fun h => cM_whoAt hI h) mvM_whoAt k_924 ⟨Nat.le_of_ble_eq_true rfl, Nat.le_of_ble_eq_true rfl⟩ ⟨rfl, rfl⟩ (rRecv C hG (hI 78 (by decide) (by decide)) e_78 rfl) rfl hl.1 (Nat.le_of_ble_eq_true rfl) dM_sets_61 ⟨Nat.zero_le _, Nat.zero_le _⟩ rfl (fun H locs x6 z5 h hG => ?_)
      refine lv_iconst (v := (-1)) C.1 C.2.1 dM_sets_64 (by decide) ?_
      refine rIcmpeq C (tgt := 71) h dM_sets_65 (by decide) (fun h => ?_) (fun h => ?_)
      · exact wM_sets_71 C hI h hG (lv_sub hl [1, 2, 3] rfl)
      · refine lv_bipush (v := (-2)) C.1 C.2.1 dM_sets_68 (by decide) ?_
        exact rReti C hG h dM_sets_70
theorem cM_sets {l : Launch} {G : GT} {I : List Nat} (hI : mI I) {fu : Nat} {v1 : Int32} {v2 : Int32} {z : Sg} {R1 : Int32} {Z : Sg} (h : pM_sets fu v1 v2 z = some (R1, Z)) : Mt l yM_sets rmM_sets bM_sets 5 (some .int) G I z [.ref (gA G 78), .int v1, .int v2] (Qi G I R1 Z) := by
  refine entM (by decide +kernel) (Nat.le_of_ble_eq_true rfl) ?_
  intro p e s m below meth c C hG ls hl
  have hl : lv_has ls 5 [(0, .ref (gA G 78)), (1, .int v1), (2, .int v2)] := hl
  unfold pM_sets at h
  refine rIload_n C dM_sets_0 hl 1 rfl ?_
  refine lv_iconst (v := 0) C.1 C.2.1 dM_sets_1 (by decide) ?_
  refine lv_iconst (v := 4) C.1 C.2.1 dM_sets_2 (by decide) ?_
  refine rCSi [.int v1, .int 0, .int 4] [] C hG h (fun h => cM_in hI h) mvM_in k_767 ⟨Nat.le_of_ble_eq_true rfl, Nat.le_of_ble_eq_true rfl⟩ ⟨rfl, rfl⟩ rfl hl.1 (Nat.le_of_ble_eq_true rfl) dM_sets_3 ⟨Nat.zero_le _, Nat.zero_le _⟩ rfl (fun H locs x2 z1 h hG => ?_)
  refine rIfne C (tgt := 12) h dM_sets_6 (by decide) (fun h => ?_) (fun h => ?_)
  · refine rIload_n C dM_sets_12 hl 1 rfl ?_
    refine rIfne C (tgt := 21) h dM_sets_13 (by decide) (fun h => ?_) (fun h => ?_)
    · refine rIload_n C dM_sets_21 hl 1 rfl ?_
      refine lv_iconst (v := 3) C.1 C.2.1 dM_sets_22 (by decide) ?_
      refine rIcmpge C (tgt := 31) h dM_sets_23 (by decide) (fun h => ?_) (fun h => ?_)
      · refine rIload_n C dM_sets_31 hl 1 rfl ?_
        refine lv_iconst (v := 3) C.1 C.2.1 dM_sets_32 (by decide) ?_
        refine rIcmpne C (tgt := 42) h dM_sets_33 (by decide) (fun h => ?_) (fun h => ?_)
        · refine lv_sipush (v := 9999) C.1 C.2.1 dM_sets_42 (by decide) ?_
          exact wM_sets_45 C hI h hG (lv_sub hl [0, 1, 2] rfl)
        · refine lv_sipush (v := 999) C.1 C.2.1 dM_sets_36 (by decide) ?_
          refine lv_goto (tgt := 45) C.1 C.2.1 dM_sets_39 (by decide) ?_
          exact wM_sets_45 C hI h hG (lv_sub hl [0, 1, 2] rfl)
      · refine lv_bipush (v := 11) C.1 C.2.1 dM_sets_26 (by decide) ?_
        refine lv_goto (tgt := 45) C.1 C.2.1 dM_sets_28 (by decide) ?_
        exact wM_sets_45 C hI h hG (lv_sub hl [0, 1, 2] rfl)
    · refine lv_bipush (v := 9) C.1 C.2.1 dM_sets_16 (by decide) ?_
      refine lv_goto (tgt := 45) C.1 C.2.1 dM_sets_18 (by decide) ?_
      exact wM_sets_45 C hI h hG (lv_sub hl [0, 1, 2] rfl)
  · refine lv_bipush (v := (-2)) C.1 C.2.1 dM_sets_9 (by decide) ?_
    exact rReti C hG h dM_sets_11
theorem dM_row_0 : decode bM_row 0 = .ok (.iload_n 1, 1) := by decide +kernel
theorem dM_row_1 : decode bM_row 1 = .ok (.iconst 0, 1) := by decide +kernel
theorem dM_row_2 : decode bM_row 2 = .ok (.iconst 4, 1) := by decide +kernel
theorem dM_row_3 : decode bM_row 3 = .ok (.invokestatic 81, 3) := by decide +kernel
theorem dM_row_6 : decode bM_row 6 = .ok (.ifCond .eq 12, 3) := by decide +kernel
theorem dM_row_9 : decode bM_row 9 = .ok (.aload_n 0, 1) := by decide +kernel
theorem dM_row_10 : decode bM_row 10 = .ok (.getfield 19, 3) := by decide +kernel
theorem dM_row_13 : decode bM_row 13 = .ok (.iload_n 1, 1) := by decide +kernel
theorem dM_row_14 : decode bM_row 14 = .ok (.iaload, 1) := by decide +kernel
theorem dM_row_15 : decode bM_row 15 = .ok (.goto 5, 3) := by decide +kernel
theorem dM_row_18 : decode bM_row 18 = .ok (.bipush (-2), 2) := by decide +kernel
theorem dM_row_20 : decode bM_row 20 = .ok (.ireturn, 1) := by decide +kernel
theorem cM_row {l : Launch} {G : GT} {I : List Nat} (hI : mI I) {fu : Nat} {v1 : Int32} {z : Sg} {R1 : Int32} {Z : Sg} (h : pM_row fu v1 z = some (R1, Z)) : Mt l yM_row rmM_row bM_row 2 (some .int) G I z [.ref (gA G 78), .int v1] (Qi G I R1 Z) := by
  refine entM (by decide +kernel) (Nat.le_of_ble_eq_true rfl) ?_
  intro p e s m below meth c C hG ls hl
  have hl : lv_has ls 2 [(0, .ref (gA G 78)), (1, .int v1)] := hl
  unfold pM_row at h
  refine rIload_n C dM_row_0 hl 1 rfl ?_
  refine lv_iconst (v := 0) C.1 C.2.1 dM_row_1 (by decide) ?_
  refine lv_iconst (v := 4) C.1 C.2.1 dM_row_2 (by decide) ?_
  refine rCSi [.int v1, .int 0, .int 4] [] C hG h (fun h => cM_in hI h) mvM_in k_767 ⟨Nat.le_of_ble_eq_true rfl, Nat.le_of_ble_eq_true rfl⟩ ⟨rfl, rfl⟩ rfl hl.1 (Nat.le_of_ble_eq_true rfl) dM_row_3 ⟨Nat.zero_le _, Nat.zero_le _⟩ rfl (fun H locs x2 z1 h hG => ?_)
  refine rIfeq C (tgt := 18) h dM_row_6 (by decide) (fun h => ?_) (fun h => ?_)
  · refine lv_bipush (v := (-2)) C.1 C.2.1 dM_row_18 (by decide) ?_
    exact rReti C hG h dM_row_20
  · refine rAload_n C dM_row_9 hl 0 rfl ?_
    refine rGet C hG (hI 78 (by decide) (by decide)) e_78 fiM_4 (v := .ref (gA G 82)) rfl k_810 dM_row_10 ?_
    refine rIload_n C dM_row_13 hl 1 rfl ?_
    refine rIald C hG (hI 82 (by decide) (by decide)) e_82 h dM_row_14 (fun h => ?_)
    refine lv_goto (tgt := 20) C.1 C.2.1 dM_row_15 (by decide) ?_
    exact rReti C hG h dM_row_20
theorem dM_isByte_0 : decode bM_isByte 0 = .ok (.iload_n 0, 1) := by decide +kernel
theorem dM_isByte_1 : decode bM_isByte 1 = .ok (.iconst 0, 1) := by decide +kernel
theorem dM_isByte_2 : decode bM_isByte 2 = .ok (.sipush 255, 3) := by decide +kernel
theorem dM_isByte_5 : decode bM_isByte 5 = .ok (.invokestatic 81, 3) := by decide +kernel
theorem dM_isByte_8 : decode bM_isByte 8 = .ok (.ireturn, 1) := by decide +kernel
theorem cM_isByte {l : Launch} {G : GT} {I : List Nat} (hI : mI I) {fu : Nat} {v0 : Int32} {z : Sg} {R1 : Int32} {Z : Sg} (h : pM_isByte fu v0 z = some (R1, Z)) : Mt l yM_isByte rmM_isByte bM_isByte 1 (some .boolean) G I z [.int v0] (Qi G I R1 Z) := by
  refine entM (by decide +kernel) (Nat.le_of_ble_eq_true rfl) ?_
  intro p e s m below meth c C hG ls hl
  have hl : lv_has ls 1 [(0, .int v0)] := hl
  unfold pM_isByte at h
  refine rIload_n C dM_isByte_0 hl 0 rfl ?_
  refine lv_iconst (v := 0) C.1 C.2.1 dM_isByte_1 (by decide) ?_
  refine lv_sipush (v := 255) C.1 C.2.1 dM_isByte_2 (by decide) ?_
  refine rCSi [.int v0, .int 0, .int 255] [] C hG h (fun h => cM_in hI h) mvM_in k_767 ⟨Nat.le_of_ble_eq_true rfl, Nat.le_of_ble_eq_true rfl⟩ ⟨rfl, rfl⟩ rfl hl.1 (Nat.le_of_ble_eq_true rfl) dM_isByte_5 ⟨Nat.zero_le _, Nat.zero_le _⟩ rfl (fun H locs x2 z1 h hG => ?_)
  exact rRetn C hG (ty := .boolean) rfl (isB_nar (chk_some h).1) (chk_some h).2 dM_isByte_8
theorem dM_feed_0 : decode bM_feed 0 = .ok (.iload_n 1, 1) := by decide +kernel
theorem dM_feed_1 : decode bM_feed 1 = .ok (.iconst 1, 1) := by decide +kernel
theorem dM_feed_2 : decode bM_feed 2 = .ok (.iconst 5, 1) := by decide +kernel
theorem dM_feed_3 : decode bM_feed 3 = .ok (.invokestatic 81, 3) := by decide +kernel
theorem dM_feed_6 : decode bM_feed 6 = .ok (.ifCond .eq 41, 3) := by decide +kernel
theorem dM_feed_9 : decode bM_feed 9 = .ok (.iload_n 2, 1) := by decide +kernel
theorem dM_feed_10 : decode bM_feed 10 = .ok (.invokestatic 119, 3) := by decide +kernel
theorem dM_feed_13 : decode bM_feed 13 = .ok (.ifCond .eq 34, 3) := by decide +kernel
theorem dM_feed_16 : decode bM_feed 16 = .ok (.iload_n 3, 1) := by decide +kernel
theorem dM_feed_17 : decode bM_feed 17 = .ok (.invokestatic 119, 3) := by decide +kernel
theorem dM_feed_20 : decode bM_feed 20 = .ok (.ifCond .eq 27, 3) := by decide +kernel
theorem dM_feed_23 : decode bM_feed 23 = .ok (.iload 4, 2) := by decide +kernel
theorem dM_feed_25 : decode bM_feed 25 = .ok (.invokestatic 119, 3) := by decide +kernel
theorem dM_feed_28 : decode bM_feed 28 = .ok (.ifCond .eq 19, 3) := by decide +kernel
theorem dM_feed_31 : decode bM_feed 31 = .ok (.iload 5, 2) := by decide +kernel
theorem dM_feed_33 : decode bM_feed 33 = .ok (.invokestatic 119, 3) := by decide +kernel
theorem dM_feed_36 : decode bM_feed 36 = .ok (.ifCond .eq 11, 3) := by decide +kernel
theorem dM_feed_39 : decode bM_feed 39 = .ok (.iload 6, 2) := by decide +kernel
theorem dM_feed_41 : decode bM_feed 41 = .ok (.invokestatic 119, 3) := by decide +kernel
theorem dM_feed_44 : decode bM_feed 44 = .ok (.ifCond .ne 6, 3) := by decide +kernel
theorem dM_feed_47 : decode bM_feed 47 = .ok (.bipush (-2), 2) := by decide +kernel
theorem dM_feed_49 : decode bM_feed 49 = .ok (.ireturn, 1) := by decide +kernel
theorem dM_feed_50 : decode bM_feed 50 = .ok (.aload_n 0, 1) := by decide +kernel
theorem dM_feed_51 : decode bM_feed 51 = .ok (.getfield 70, 3) := by decide +kernel
theorem dM_feed_54 : decode bM_feed 54 = .ok (.iload_n 1, 1) := by decide +kernel
theorem dM_feed_55 : decode bM_feed 55 = .ok (.iadd, 1) := by decide +kernel
theorem dM_feed_56 : decode bM_feed 56 = .ok (.sipush 160, 3) := by decide +kernel
theorem dM_feed_59 : decode bM_feed 59 = .ok (.if_icmp .le 6, 3) := by decide +kernel
theorem dM_feed_62 : decode bM_feed 62 = .ok (.bipush (-4), 2) := by decide +kernel
theorem dM_feed_64 : decode bM_feed 64 = .ok (.ireturn, 1) := by decide +kernel
theorem dM_feed_65 : decode bM_feed 65 = .ok (.iconst 0, 1) := by decide +kernel
theorem dM_feed_66 : decode bM_feed 66 = .ok (.istore 7, 2) := by decide +kernel
theorem dM_feed_68 : decode bM_feed 68 = .ok (.iload 7, 2) := by decide +kernel
theorem dM_feed_70 : decode bM_feed 70 = .ok (.iload_n 1, 1) := by decide +kernel
theorem dM_feed_71 : decode bM_feed 71 = .ok (.if_icmp .ge 71, 3) := by decide +kernel
theorem dM_feed_74 : decode bM_feed 74 = .ok (.aload_n 0, 1) := by decide +kernel
theorem dM_feed_75 : decode bM_feed 75 = .ok (.getfield 22, 3) := by decide +kernel
theorem dM_feed_78 : decode bM_feed 78 = .ok (.aload_n 0, 1) := by decide +kernel
theorem dM_feed_79 : decode bM_feed 79 = .ok (.getfield 70, 3) := by decide +kernel
theorem dM_feed_82 : decode bM_feed 82 = .ok (.iload 7, 2) := by decide +kernel
theorem dM_feed_84 : decode bM_feed 84 = .ok (.ifCond .ne 7, 3) := by decide +kernel
theorem dM_feed_87 : decode bM_feed 87 = .ok (.iload_n 2, 1) := by decide +kernel
theorem dM_feed_88 : decode bM_feed 88 = .ok (.goto 37, 3) := by decide +kernel
theorem dM_feed_91 : decode bM_feed 91 = .ok (.iload 7, 2) := by decide +kernel
theorem dM_feed_93 : decode bM_feed 93 = .ok (.iconst 1, 1) := by decide +kernel
theorem dM_feed_94 : decode bM_feed 94 = .ok (.if_icmp .ne 7, 3) := by decide +kernel
theorem dM_feed_97 : decode bM_feed 97 = .ok (.iload_n 3, 1) := by decide +kernel
theorem dM_feed_98 : decode bM_feed 98 = .ok (.goto 27, 3) := by decide +kernel
theorem dM_feed_101 : decode bM_feed 101 = .ok (.iload 7, 2) := by decide +kernel
theorem dM_feed_103 : decode bM_feed 103 = .ok (.iconst 2, 1) := by decide +kernel
theorem dM_feed_104 : decode bM_feed 104 = .ok (.if_icmp .ne 8, 3) := by decide +kernel
theorem dM_feed_107 : decode bM_feed 107 = .ok (.iload 4, 2) := by decide +kernel
theorem dM_feed_109 : decode bM_feed 109 = .ok (.goto 16, 3) := by decide +kernel
theorem dM_feed_112 : decode bM_feed 112 = .ok (.iload 7, 2) := by decide +kernel
theorem dM_feed_114 : decode bM_feed 114 = .ok (.iconst 3, 1) := by decide +kernel
theorem dM_feed_115 : decode bM_feed 115 = .ok (.if_icmp .ne 8, 3) := by decide +kernel
theorem dM_feed_118 : decode bM_feed 118 = .ok (.iload 5, 2) := by decide +kernel
theorem dM_feed_120 : decode bM_feed 120 = .ok (.goto 5, 3) := by decide +kernel
theorem dM_feed_123 : decode bM_feed 123 = .ok (.iload 6, 2) := by decide +kernel
theorem dM_feed_125 : decode bM_feed 125 = .ok (.iastore, 1) := by decide +kernel
theorem dM_feed_126 : decode bM_feed 126 = .ok (.aload_n 0, 1) := by decide +kernel
theorem dM_feed_127 : decode bM_feed 127 = .ok (.dup, 1) := by decide +kernel
theorem dM_feed_128 : decode bM_feed 128 = .ok (.getfield 70, 3) := by decide +kernel
theorem dM_feed_131 : decode bM_feed 131 = .ok (.iconst 1, 1) := by decide +kernel
theorem dM_feed_132 : decode bM_feed 132 = .ok (.iadd, 1) := by decide +kernel
theorem dM_feed_133 : decode bM_feed 133 = .ok (.putfield 70, 3) := by decide +kernel
theorem dM_feed_136 : decode bM_feed 136 = .ok (.iinc 7 1, 3) := by decide +kernel
theorem dM_feed_139 : decode bM_feed 139 = .ok (.goto (-71), 3) := by decide +kernel
theorem dM_feed_142 : decode bM_feed 142 = .ok (.aload_n 0, 1) := by decide +kernel
theorem dM_feed_143 : decode bM_feed 143 = .ok (.getfield 70, 3) := by decide +kernel
theorem dM_feed_146 : decode bM_feed 146 = .ok (.ireturn, 1) := by decide +kernel
theorem wM_feed_125 {p : Program} {l : Launch} {e : Env} {s : State} {m : MethodId} {args : Array Value} {below : List Frame} {meth : Method} {c : Code} {G : GT} {I : List Nat} (C : CX p s m args meth c NM bM_feed 8 (some .int) G I) (hI : mI I) {fu : Nat} {R1 : Int32} {Z : Sg} {rc68 : Int32 → Int32 → Int32 → Int32 → Int32 → Int32 → Int32 → Sg → Option (Int32 × Sg)} (hr68 : ∀ {v1 : Int32} {v2 : Int32} {v3 : Int32} {v4 : Int32} {v5 : Int32} {v6 : Int32} {v7 : Int32} {z : Sg} {H : Heap} {locs : List Loc} {ls : Array Slot}, rc68 v1 v2 v3 v4 v5 v6 v7 z = some (R1, Z) → GW G I z s.heap H locs → lv_has ls 8 [(0, .ref (gA G 78)), (1, .int v1), (2, .int v2), (3, .int v3), (4, .int v4), (5, .int v5), (6, .int v6), (7, .int v7)] → W p l e rmM_feed s m args below meth c H locs 0 0 (MQ below (Qi G I R1 Z) args s 0 0 (AD G I)) (F0 m 68 ls [])) {v1 : Int32} {v2 : Int32} {v3 : Int32} {v4 : Int32} {v5 : Int32} {v6 : Int32} {v7 : Int32} {t1 : Int32} {t2 : Int32} {z : Sg} {H : Heap} {locs : List Loc} {ls : Array Slot} (h : pM_feed_125 fu rc68 v1 v2 v3 v4 v5 v6 v7 t1 t2 z = some (R1, Z)) (hG : GW G I z s.heap H locs) (hl : lv_has ls 8 [(0, .ref (gA G 78)), (1, .int v1), (2, .int v2), (3, .int v3), (4, .int v4), (5, .int v5), (6, .int v6), (7, .int v7)]) : W p l e rmM_feed s m args below meth c H locs 0 0 (MQ below (Qi G I R1 Z) args s 0 0 (AD G I)) (F0 m 125 ls [.int t2, .int t1, .ref (gA G 83)]) := by
  unfold pM_feed_125 at h
  refine rIast C hG (hI 83 (by decide) (by decide)) e_83 h dM_feed_125 (fun H locs z13 h hG => ?_)
  refine rAload_n C dM_feed_126 hl 0 rfl ?_
  refine lv_dup C.1 C.2.1 dM_feed_127 rfl ?_
  refine rGet C hG (hI 78 (by decide) (by decide)) e_78 fiM_6 (v := .int (z13 78 6)) rfl k_812 dM_feed_128 ?_
  refine lv_iconst (v := 1) C.1 C.2.1 dM_feed_131 (by decide) ?_
  refine lv_iadd C.1 C.2.1 dM_feed_132 ?_
  refine rPut C hG (hI 78 (by decide) (by decide)) e_78 fiM_6 tokM nmM rfl (fpM_6 _) (Nat.le_of_ble_eq_true rfl) rfl rfl k_812 h dM_feed_133 (fun H locs z14 h hG => ?_)
  refine rIinc C dM_feed_136 hl 7 rfl (d := 1) (by decide) h (by decide) [(0, .ref (gA G 78)), (1, .int v1), (2, .int v2), (3, .int v3), (4, .int v4), (5, .int v5), (6, .int v6)] rfl (fun x15 ls h hl => ?_)
  refine lv_goto (tgt := 68) C.1 C.2.1 dM_feed_139 (by decide) ?_
  exact hr68 h hG (lv_sub hl [1, 2, 3, 4, 5, 6, 7, 0] rfl)
theorem wM_feed_68 {p : Program} {l : Launch} {e : Env} {s : State} {m : MethodId} {args : Array Value} {below : List Frame} {meth : Method} {c : Code} {G : GT} {I : List Nat} (C : CX p s m args meth c NM bM_feed 8 (some .int) G I) (hI : mI I) {fu : Nat} {R1 : Int32} {Z : Sg} : ∀ (k : Nat) {v1 : Int32} {v2 : Int32} {v3 : Int32} {v4 : Int32} {v5 : Int32} {v6 : Int32} {v7 : Int32} {z : Sg} {H : Heap} {locs : List Loc} {ls : Array Slot}, pM_feed_68 fu k v1 v2 v3 v4 v5 v6 v7 z = some (R1, Z) → GW G I z s.heap H locs → lv_has ls 8 [(0, .ref (gA G 78)), (1, .int v1), (2, .int v2), (3, .int v3), (4, .int v4), (5, .int v5), (6, .int v6), (7, .int v7)] → W p l e rmM_feed s m args below meth c H locs 0 0 (MQ below (Qi G I R1 Z) args s 0 0 (AD G I)) (F0 m 68 ls []) := by
  intro k
  induction k with
  | zero => intro v1 v2 v3 v4 v5 v6 v7 z H locs ls h hG hl; rw [pM_feed_68] at h; cases h
  | succ k ih =>
    intro v1 v2 v3 v4 v5 v6 v7 z H locs ls h hG hl
    rw [pM_feed_68] at h
    refine rIload C dM_feed_68 hl 7 rfl ?_
    refine rIload_n C dM_feed_70 hl 1 rfl ?_
    refine rIcmpge C (tgt := 142) h dM_feed_71 (by decide) (fun h => ?_) (fun h => ?_)
    · refine rAload_n C dM_feed_142 hl 0 rfl ?_
      refine rGet C hG (hI 78 (by decide) (by decide)) e_78 fiM_6 (v := .int (z 78 6)) rfl k_812 dM_feed_143 ?_
      exact rReti C hG h dM_feed_146
    · refine rAload_n C dM_feed_74 hl 0 rfl ?_
      refine rGet C hG (hI 78 (by decide) (by decide)) e_78 fiM_5 (v := .ref (gA G 83)) rfl k_811 dM_feed_75 ?_
      refine rAload_n C dM_feed_78 hl 0 rfl ?_
      refine rGet C hG (hI 78 (by decide) (by decide)) e_78 fiM_6 (v := .int (z 78 6)) rfl k_812 dM_feed_79 ?_
      refine rIload C dM_feed_82 hl 7 rfl ?_
      refine rIfne C (tgt := 91) h dM_feed_84 (by decide) (fun h => ?_) (fun h => ?_)
      · refine rIload C dM_feed_91 hl 7 rfl ?_
        refine lv_iconst (v := 1) C.1 C.2.1 dM_feed_93 (by decide) ?_
        refine rIcmpne C (tgt := 101) h dM_feed_94 (by decide) (fun h => ?_) (fun h => ?_)
        · refine rIload C dM_feed_101 hl 7 rfl ?_
          refine lv_iconst (v := 2) C.1 C.2.1 dM_feed_103 (by decide) ?_
          refine rIcmpne C (tgt := 112) h dM_feed_104 (by decide) (fun h => ?_) (fun h => ?_)
          · refine rIload C dM_feed_112 hl 7 rfl ?_
            refine lv_iconst (v := 3) C.1 C.2.1 dM_feed_114 (by decide) ?_
            refine rIcmpne C (tgt := 123) h dM_feed_115 (by decide) (fun h => ?_) (fun h => ?_)
            · refine rIload C dM_feed_123 hl 6 rfl ?_
              exact wM_feed_125 C hI ih h hG (lv_sub hl [0, 1, 2, 3, 4, 5, 6, 7] rfl)
            · refine rIload C dM_feed_118 hl 5 rfl ?_
              refine lv_goto (tgt := 125) C.1 C.2.1 dM_feed_120 (by decide) ?_
              exact wM_feed_125 C hI ih h hG (lv_sub hl [0, 1, 2, 3, 4, 5, 6, 7] rfl)
          · refine rIload C dM_feed_107 hl 4 rfl ?_
            refine lv_goto (tgt := 125) C.1 C.2.1 dM_feed_109 (by decide) ?_
            exact wM_feed_125 C hI ih h hG (lv_sub hl [0, 1, 2, 3, 4, 5, 6, 7] rfl)
        · refine rIload_n C dM_feed_97 hl 3 rfl ?_
          refine lv_goto (tgt := 125) C.1 C.2.1 dM_feed_98 (by decide) ?_
          exact wM_feed_125 C hI ih h hG (lv_sub hl [0, 1, 2, 3, 4, 5, 6, 7] rfl)
      · refine rIload_n C dM_feed_87 hl 2 rfl ?_
        refine lv_goto (tgt := 125) C.1 C.2.1 dM_feed_88 (by decide) ?_
        exact wM_feed_125 C hI ih h hG (lv_sub hl [0, 1, 2, 3, 4, 5, 6, 7] rfl)
theorem cM_feed {l : Launch} {G : GT} {I : List Nat} (hI : mI I) {fu : Nat} {v1 : Int32} {v2 : Int32} {v3 : Int32} {v4 : Int32} {v5 : Int32} {v6 : Int32} {z : Sg} {R1 : Int32} {Z : Sg} (h : pM_feed fu v1 v2 v3 v4 v5 v6 z = some (R1, Z)) : Mt l yM_feed rmM_feed bM_feed 8 (some .int) G I z [.ref (gA G 78), .int v1, .int v2, .int v3, .int v4, .int v5, .int v6] (Qi G I R1 Z) := by
  refine entM (by decide +kernel) (Nat.le_of_ble_eq_true rfl) ?_
  intro p e s m below meth c C hG ls hl
  have hl : lv_has ls 8 [(0, .ref (gA G 78)), (1, .int v1), (2, .int v2), (3, .int v3), (4, .int v4), (5, .int v5), (6, .int v6)] := hl
  unfold pM_feed at h
  refine rIload_n C dM_feed_0 hl 1 rfl ?_
  refine lv_iconst (v := 1) C.1 C.2.1 dM_feed_1 (by decide) ?_
  refine lv_iconst (v := 5) C.1 C.2.1 dM_feed_2 (by decide) ?_
  refine rCSi [.int v1, .int 1, .int 5] [] C hG h (fun h => cM_in hI h) mvM_in k_767 ⟨Nat.le_of_ble_eq_true rfl, Nat.le_of_ble_eq_true rfl⟩ ⟨rfl, rfl⟩ rfl hl.1 (Nat.le_of_ble_eq_true rfl) dM_feed_3 ⟨Nat.zero_le _, Nat.zero_le _⟩ rfl (fun H locs x2 z1 h hG => ?_)
  refine rIfeq C (tgt := 47) h dM_feed_6 (by decide) (fun h => ?_) (fun h => ?_)
  · refine lv_bipush (v := (-2)) C.1 C.2.1 dM_feed_47 (by decide) ?_
    exact rReti C hG h dM_feed_49
  · refine rIload_n C dM_feed_9 hl 2 rfl ?_
    refine rCSi [.int v2] [] C hG h (fun h => cM_isByte hI h) mvM_isByte k_936 ⟨Nat.le_of_ble_eq_true rfl, Nat.le_of_ble_eq_true rfl⟩ ⟨rfl, rfl⟩ rfl hl.1 (Nat.le_of_ble_eq_true rfl) dM_feed_10 ⟨Nat.zero_le _, Nat.zero_le _⟩ rfl (fun H locs x4 z3 h hG => ?_)
    refine rIfeq C (tgt := 47) h dM_feed_13 (by decide) (fun h => ?_) (fun h => ?_)
    · refine lv_bipush (v := (-2)) C.1 C.2.1 dM_feed_47 (by decide) ?_
      exact rReti C hG h dM_feed_49
    · refine rIload_n C dM_feed_16 hl 3 rfl ?_
      refine rCSi [.int v3] [] C hG h (fun h => cM_isByte hI h) mvM_isByte k_936 ⟨Nat.le_of_ble_eq_true rfl, Nat.le_of_ble_eq_true rfl⟩ ⟨rfl, rfl⟩ rfl hl.1 (Nat.le_of_ble_eq_true rfl) dM_feed_17 ⟨Nat.zero_le _, Nat.zero_le _⟩ rfl (fun H locs x6 z5 h hG => ?_)
      refine rIfeq C (tgt := 47) h dM_feed_20 (by decide) (fun h => ?_) (fun h => ?_)
      · refine lv_bipush (v := (-2)) C.1 C.2.1 dM_feed_47 (by decide) ?_
        exact rReti C hG h dM_feed_49
      · refine rIload C dM_feed_23 hl 4 rfl ?_
        refine rCSi [.int v4] [] C hG h (fun h => cM_isByte hI h) mvM_isByte k_936 ⟨Nat.le_of_ble_eq_true rfl, Nat.le_of_ble_eq_true rfl⟩ ⟨rfl, rfl⟩ rfl hl.1 (Nat.le_of_ble_eq_true rfl) dM_feed_25 ⟨Nat.zero_le _, Nat.zero_le _⟩ rfl (fun H locs x8 z7 h hG => ?_)
        refine rIfeq C (tgt := 47) h dM_feed_28 (by decide) (fun h => ?_) (fun h => ?_)
        · refine lv_bipush (v := (-2)) C.1 C.2.1 dM_feed_47 (by decide) ?_
          exact rReti C hG h dM_feed_49
        · refine rIload C dM_feed_31 hl 5 rfl ?_
          refine rCSi [.int v5] [] C hG h (fun h => cM_isByte hI h) mvM_isByte k_936 ⟨Nat.le_of_ble_eq_true rfl, Nat.le_of_ble_eq_true rfl⟩ ⟨rfl, rfl⟩ rfl hl.1 (Nat.le_of_ble_eq_true rfl) dM_feed_33 ⟨Nat.zero_le _, Nat.zero_le _⟩ rfl (fun H locs x10 z9 h hG => ?_)
          refine rIfeq C (tgt := 47) h dM_feed_36 (by decide) (fun h => ?_) (fun h => ?_)
          · refine lv_bipush (v := (-2)) C.1 C.2.1 dM_feed_47 (by decide) ?_
            exact rReti C hG h dM_feed_49
          · refine rIload C dM_feed_39 hl 6 rfl ?_
            refine rCSi [.int v6] [] C hG h (fun h => cM_isByte hI h) mvM_isByte k_936 ⟨Nat.le_of_ble_eq_true rfl, Nat.le_of_ble_eq_true rfl⟩ ⟨rfl, rfl⟩ rfl hl.1 (Nat.le_of_ble_eq_true rfl) dM_feed_41 ⟨Nat.zero_le _, Nat.zero_le _⟩ rfl (fun H locs x12 z11 h hG => ?_)
            refine rIfne C (tgt := 50) h dM_feed_44 (by decide) (fun h => ?_) (fun h => ?_)
            · refine rAload_n C dM_feed_50 hl 0 rfl ?_
              refine rGet C hG (hI 78 (by decide) (by decide)) e_78 fiM_6 (v := .int (z11 78 6)) rfl k_812 dM_feed_51 ?_
              refine rIload_n C dM_feed_54 hl 1 rfl ?_
              refine lv_iadd C.1 C.2.1 dM_feed_55 ?_
              refine lv_sipush (v := 160) C.1 C.2.1 dM_feed_56 (by decide) ?_
              refine rIcmple C (tgt := 65) h dM_feed_59 (by decide) (fun h => ?_) (fun h => ?_)
              · refine lv_iconst (v := 0) C.1 C.2.1 dM_feed_65 (by decide) ?_
                refine rIstoreA C dM_feed_66 hl (by decide) [(0, .ref (gA G 78)), (1, .int v1), (2, .int v2), (3, .int v3), (4, .int v4), (5, .int v5), (6, .int v6)] rfl (fun ls hl => ?_)
                exact wM_feed_68 C hI _ h hG (lv_sub hl [1, 2, 3, 4, 5, 6, 7, 0] rfl)
              · refine lv_bipush (v := (-4)) C.1 C.2.1 dM_feed_62 (by decide) ?_
                exact rReti C hG h dM_feed_64
            · refine lv_bipush (v := (-2)) C.1 C.2.1 dM_feed_47 (by decide) ?_
              exact rReti C hG h dM_feed_49
theorem dM_force_0 : decode bM_force 0 = .ok (.iload_n 1, 1) := by decide +kernel
theorem dM_force_1 : decode bM_force 1 = .ok (.iconst 0, 1) := by decide +kernel
theorem dM_force_2 : decode bM_force 2 = .ok (.aload_n 0, 1) := by decide +kernel
theorem dM_force_3 : decode bM_force 3 = .ok (.getfield 113, 3) := by decide +kernel
theorem dM_force_6 : decode bM_force 6 = .ok (.iconst 1, 1) := by decide +kernel
theorem dM_force_7 : decode bM_force 7 = .ok (.isub, 1) := by decide +kernel
theorem dM_force_8 : decode bM_force 8 = .ok (.invokestatic 81, 3) := by decide +kernel
theorem dM_force_11 : decode bM_force 11 = .ok (.ifCond .ne 6, 3) := by decide +kernel
theorem dM_force_14 : decode bM_force 14 = .ok (.bipush (-2), 2) := by decide +kernel
theorem dM_force_16 : decode bM_force 16 = .ok (.ireturn, 1) := by decide +kernel
theorem dM_force_17 : decode bM_force 17 = .ok (.aload_n 0, 1) := by decide +kernel
theorem dM_force_18 : decode bM_force 18 = .ok (.getfield 116, 3) := by decide +kernel
theorem dM_force_21 : decode bM_force 21 = .ok (.istore_n 2, 1) := by decide +kernel
theorem dM_force_22 : decode bM_force 22 = .ok (.aload_n 0, 1) := by decide +kernel
theorem dM_force_23 : decode bM_force 23 = .ok (.iload_n 1, 1) := by decide +kernel
theorem dM_force_24 : decode bM_force 24 = .ok (.putfield 116, 3) := by decide +kernel
theorem dM_force_27 : decode bM_force 27 = .ok (.iload_n 2, 1) := by decide +kernel
theorem dM_force_28 : decode bM_force 28 = .ok (.ireturn, 1) := by decide +kernel
theorem cM_force {l : Launch} {G : GT} {I : List Nat} (hI : mI I) {fu : Nat} {v1 : Int32} {z : Sg} {R1 : Int32} {Z : Sg} (h : pM_force fu v1 z = some (R1, Z)) : Mt l yM_force rmM_force bM_force 3 (some .int) G I z [.ref (gA G 78), .int v1] (Qi G I R1 Z) := by
  refine entM (by decide +kernel) (Nat.le_of_ble_eq_true rfl) ?_
  intro p e s m below meth c C hG ls hl
  have hl : lv_has ls 3 [(0, .ref (gA G 78)), (1, .int v1)] := hl
  unfold pM_force at h
  refine rIload_n C dM_force_0 hl 1 rfl ?_
  refine lv_iconst (v := 0) C.1 C.2.1 dM_force_1 (by decide) ?_
  refine rAload_n C dM_force_2 hl 0 rfl ?_
  refine rGet C hG (hI 78 (by decide) (by decide)) e_78 fiM_9 (v := .int (z 78 9)) rfl k_815 dM_force_3 ?_
  refine lv_iconst (v := 1) C.1 C.2.1 dM_force_6 (by decide) ?_
  refine lv_isub C.1 C.2.1 dM_force_7 ?_
  refine rCSi [.int v1, .int 0, .int ((z 78 9) - 1)] [] C hG h (fun h => cM_in hI h) mvM_in k_767 ⟨Nat.le_of_ble_eq_true rfl, Nat.le_of_ble_eq_true rfl⟩ ⟨rfl, rfl⟩ rfl hl.1 (Nat.le_of_ble_eq_true rfl) dM_force_8 ⟨Nat.zero_le _, Nat.zero_le _⟩ rfl (fun H locs x2 z1 h hG => ?_)
  refine rIfne C (tgt := 17) h dM_force_11 (by decide) (fun h => ?_) (fun h => ?_)
  · refine rAload_n C dM_force_17 hl 0 rfl ?_
    refine rGet C hG (hI 78 (by decide) (by decide)) e_78 fiM_10 (v := .int (z1 78 10)) rfl k_816 dM_force_18 ?_
    refine rIstore_n C dM_force_21 hl h (by decide) [(0, .ref (gA G 78)), (1, .int v1)] rfl (fun x3 ls h hl => ?_)
    refine rAload_n C dM_force_22 hl 1 rfl ?_
    refine rIload_n C dM_force_23 hl 2 rfl ?_
    refine rPut C hG (hI 78 (by decide) (by decide)) e_78 fiM_10 tokM nmM rfl (fpM_10 _) (Nat.le_of_ble_eq_true rfl) rfl rfl k_816 h dM_force_24 (fun H locs z4 h hG => ?_)
    refine rIload_n C dM_force_27 hl 0 rfl ?_
    exact rReti C hG h dM_force_28
  · refine lv_bipush (v := (-2)) C.1 C.2.1 dM_force_14 (by decide) ?_
    exact rReti C hG h dM_force_16
theorem dM_isOne_0 : decode bM_isOne 0 = .ok (.iload_n 1, 1) := by decide +kernel
theorem dM_isOne_1 : decode bM_isOne 1 = .ok (.iconst 0, 1) := by decide +kernel
theorem dM_isOne_2 : decode bM_isOne 2 = .ok (.aload_n 0, 1) := by decide +kernel
theorem dM_isOne_3 : decode bM_isOne 3 = .ok (.getfield 78, 3) := by decide +kernel
theorem dM_isOne_6 : decode bM_isOne 6 = .ok (.iconst 1, 1) := by decide +kernel
theorem dM_isOne_7 : decode bM_isOne 7 = .ok (.isub, 1) := by decide +kernel
theorem dM_isOne_8 : decode bM_isOne 8 = .ok (.invokestatic 81, 3) := by decide +kernel
theorem dM_isOne_11 : decode bM_isOne 11 = .ok (.ireturn, 1) := by decide +kernel
theorem cM_isOne {l : Launch} {G : GT} {I : List Nat} (hI : mI I) {fu : Nat} {v1 : Int32} {z : Sg} {R1 : Int32} {Z : Sg} (h : pM_isOne fu v1 z = some (R1, Z)) : Mt l yM_isOne rmM_isOne bM_isOne 2 (some .boolean) G I z [.ref (gA G 78), .int v1] (Qi G I R1 Z) := by
  refine entM (by decide +kernel) (Nat.le_of_ble_eq_true rfl) ?_
  intro p e s m below meth c C hG ls hl
  have hl : lv_has ls 2 [(0, .ref (gA G 78)), (1, .int v1)] := hl
  unfold pM_isOne at h
  refine rIload_n C dM_isOne_0 hl 1 rfl ?_
  refine lv_iconst (v := 0) C.1 C.2.1 dM_isOne_1 (by decide) ?_
  refine rAload_n C dM_isOne_2 hl 0 rfl ?_
  refine rGet C hG (hI 78 (by decide) (by decide)) e_78 fiM_0 (v := .int (z 78 0)) rfl k_806 dM_isOne_3 ?_
  refine lv_iconst (v := 1) C.1 C.2.1 dM_isOne_6 (by decide) ?_
  refine lv_isub C.1 C.2.1 dM_isOne_7 ?_
  refine rCSi [.int v1, .int 0, .int ((z 78 0) - 1)] [] C hG h (fun h => cM_in hI h) mvM_in k_767 ⟨Nat.le_of_ble_eq_true rfl, Nat.le_of_ble_eq_true rfl⟩ ⟨rfl, rfl⟩ rfl hl.1 (Nat.le_of_ble_eq_true rfl) dM_isOne_8 ⟨Nat.zero_le _, Nat.zero_le _⟩ rfl (fun H locs x2 z1 h hG => ?_)
  exact rRetn C hG (ty := .boolean) rfl (isB_nar (chk_some h).1) (chk_some h).2 dM_isOne_11
theorem dM_besideOf_0 : decode bM_besideOf 0 = .ok (.iload_n 2, 1) := by decide +kernel
theorem dM_besideOf_1 : decode bM_besideOf 1 = .ok (.aload_n 0, 1) := by decide +kernel
theorem dM_besideOf_2 : decode bM_besideOf 2 = .ok (.getfield 19, 3) := by decide +kernel
theorem dM_besideOf_5 : decode bM_besideOf 5 = .ok (.iconst 0, 1) := by decide +kernel
theorem dM_besideOf_6 : decode bM_besideOf 6 = .ok (.iaload, 1) := by decide +kernel
theorem dM_besideOf_7 : decode bM_besideOf 7 = .ok (.if_icmp .ne 10, 3) := by decide +kernel
theorem dM_besideOf_10 : decode bM_besideOf 10 = .ok (.aload_n 0, 1) := by decide +kernel
theorem dM_besideOf_11 : decode bM_besideOf 11 = .ok (.getfield 19, 3) := by decide +kernel
theorem dM_besideOf_14 : decode bM_besideOf 14 = .ok (.iconst 1, 1) := by decide +kernel
theorem dM_besideOf_15 : decode bM_besideOf 15 = .ok (.iaload, 1) := by decide +kernel
theorem dM_besideOf_16 : decode bM_besideOf 16 = .ok (.ireturn, 1) := by decide +kernel
theorem dM_besideOf_17 : decode bM_besideOf 17 = .ok (.aload_n 0, 1) := by decide +kernel
theorem dM_besideOf_18 : decode bM_besideOf 18 = .ok (.iload_n 2, 1) := by decide +kernel
theorem dM_besideOf_19 : decode bM_besideOf 19 = .ok (.invokevirtual 85, 3) := by decide +kernel
theorem dM_besideOf_22 : decode bM_besideOf 22 = .ok (.istore_n 3, 1) := by decide +kernel
theorem dM_besideOf_23 : decode bM_besideOf 23 = .ok (.iload_n 3, 1) := by decide +kernel
theorem dM_besideOf_24 : decode bM_besideOf 24 = .ok (.iconst (-1), 1) := by decide +kernel
theorem dM_besideOf_25 : decode bM_besideOf 25 = .ok (.if_icmp .ne 16, 3) := by decide +kernel
theorem dM_besideOf_28 : decode bM_besideOf 28 = .ok (.aload_n 0, 1) := by decide +kernel
theorem dM_besideOf_29 : decode bM_besideOf 29 = .ok (.getfield 16, 3) := by decide +kernel
theorem dM_besideOf_32 : decode bM_besideOf 32 = .ok (.iconst 3, 1) := by decide +kernel
theorem dM_besideOf_33 : decode bM_besideOf 33 = .ok (.iload_n 1, 1) := by decide +kernel
theorem dM_besideOf_34 : decode bM_besideOf 34 = .ok (.imul, 1) := by decide +kernel
theorem dM_besideOf_35 : decode bM_besideOf 35 = .ok (.iconst 1, 1) := by decide +kernel
theorem dM_besideOf_36 : decode bM_besideOf 36 = .ok (.iadd, 1) := by decide +kernel
theorem dM_besideOf_37 : decode bM_besideOf 37 = .ok (.iaload, 1) := by decide +kernel
theorem dM_besideOf_38 : decode bM_besideOf 38 = .ok (.goto 13, 3) := by decide +kernel
theorem dM_besideOf_41 : decode bM_besideOf 41 = .ok (.aload_n 0, 1) := by decide +kernel
theorem dM_besideOf_42 : decode bM_besideOf 42 = .ok (.getfield 16, 3) := by decide +kernel
theorem dM_besideOf_45 : decode bM_besideOf 45 = .ok (.iconst 3, 1) := by decide +kernel
theorem dM_besideOf_46 : decode bM_besideOf 46 = .ok (.iload_n 3, 1) := by decide +kernel
theorem dM_besideOf_47 : decode bM_besideOf 47 = .ok (.imul, 1) := by decide +kernel
theorem dM_besideOf_48 : decode bM_besideOf 48 = .ok (.iconst 1, 1) := by decide +kernel
theorem dM_besideOf_49 : decode bM_besideOf 49 = .ok (.iadd, 1) := by decide +kernel
theorem dM_besideOf_50 : decode bM_besideOf 50 = .ok (.iaload, 1) := by decide +kernel
theorem dM_besideOf_51 : decode bM_besideOf 51 = .ok (.ireturn, 1) := by decide +kernel
theorem cM_besideOf {l : Launch} {G : GT} {I : List Nat} (hI : mI I) {fu : Nat} {v1 : Int32} {v2 : Int32} {z : Sg} {R1 : Int32} {Z : Sg} (h : pM_besideOf fu v1 v2 z = some (R1, Z)) : Mt l yM_besideOf rmM_besideOf bM_besideOf 4 (some .int) G I z [.ref (gA G 78), .int v1, .int v2] (Qi G I R1 Z) := by
  refine entM (by decide +kernel) (Nat.le_of_ble_eq_true rfl) ?_
  intro p e s m below meth c C hG ls hl
  have hl : lv_has ls 4 [(0, .ref (gA G 78)), (1, .int v1), (2, .int v2)] := hl
  unfold pM_besideOf at h
  refine rIload_n C dM_besideOf_0 hl 2 rfl ?_
  refine rAload_n C dM_besideOf_1 hl 0 rfl ?_
  refine rGet C hG (hI 78 (by decide) (by decide)) e_78 fiM_4 (v := .ref (gA G 82)) rfl k_810 dM_besideOf_2 ?_
  refine lv_iconst (v := 0) C.1 C.2.1 dM_besideOf_5 (by decide) ?_
  refine rIaldK C hG (hI 82 (by decide) (by decide)) e_82 0 (by decide) (by decide) dM_besideOf_6 ?_
  refine rIcmpne C (tgt := 17) h dM_besideOf_7 (by decide) (fun h => ?_) (fun h => ?_)
  · refine rAload_n C dM_besideOf_17 hl 0 rfl ?_
    refine rIload_n C dM_besideOf_18 hl 2 rfl ?_
    refine rCVi [.int v2] [] C hG h (fun h => cM_whoAt hI h) mvM_whoAt k_924 ⟨Nat.le_of_ble_eq_true rfl, Nat.le_of_ble_eq_true rfl⟩ ⟨rfl, rfl⟩ (rRecv C hG (hI 78 (by decide) (by decide)) e_78 rfl) rfl hl.1 (Nat.le_of_ble_eq_true rfl) dM_besideOf_19 ⟨Nat.zero_le _, Nat.zero_le _⟩ rfl (fun H locs x2 z1 h hG => ?_)
    refine rIstoreA_n C dM_besideOf_22 hl (by decide) [(0, .ref (gA G 78)), (1, .int v1), (2, .int v2)] rfl (fun ls hl => ?_)
    refine rIload_n C dM_besideOf_23 hl 0 rfl ?_
    refine lv_iconst (v := (-1)) C.1 C.2.1 dM_besideOf_24 (by decide) ?_
    refine rIcmpne C (tgt := 41) h dM_besideOf_25 (by decide) (fun h => ?_) (fun h => ?_)
    · refine rAload_n C dM_besideOf_41 hl 1 rfl ?_
      refine rGet C hG (hI 78 (by decide) (by decide)) e_78 fiM_3 (v := .ref (gA G 81)) rfl k_809 dM_besideOf_42 ?_
      refine lv_iconst (v := 3) C.1 C.2.1 dM_besideOf_45 (by decide) ?_
      refine rIload_n C dM_besideOf_46 hl 0 rfl ?_
      refine lv_imul C.1 C.2.1 dM_besideOf_47 ?_
      refine lv_iconst (v := 1) C.1 C.2.1 dM_besideOf_48 (by decide) ?_
      refine lv_iadd C.1 C.2.1 dM_besideOf_49 ?_
      refine rIald C hG (hI 81 (by decide) (by decide)) e_81 h dM_besideOf_50 (fun h => ?_)
      exact rReti C hG h dM_besideOf_51
    · refine rAload_n C dM_besideOf_28 hl 1 rfl ?_
      refine rGet C hG (hI 78 (by decide) (by decide)) e_78 fiM_3 (v := .ref (gA G 81)) rfl k_809 dM_besideOf_29 ?_
      refine lv_iconst (v := 3) C.1 C.2.1 dM_besideOf_32 (by decide) ?_
      refine rIload_n C dM_besideOf_33 hl 2 rfl ?_
      refine lv_imul C.1 C.2.1 dM_besideOf_34 ?_
      refine lv_iconst (v := 1) C.1 C.2.1 dM_besideOf_35 (by decide) ?_
      refine lv_iadd C.1 C.2.1 dM_besideOf_36 ?_
      refine rIald C hG (hI 81 (by decide) (by decide)) e_81 h dM_besideOf_37 (fun h => ?_)
      refine lv_goto (tgt := 51) C.1 C.2.1 dM_besideOf_38 (by decide) ?_
      exact rReti C hG h dM_besideOf_51
  · refine rAload_n C dM_besideOf_10 hl 0 rfl ?_
    refine rGet C hG (hI 78 (by decide) (by decide)) e_78 fiM_4 (v := .ref (gA G 82)) rfl k_810 dM_besideOf_11 ?_
    refine lv_iconst (v := 1) C.1 C.2.1 dM_besideOf_14 (by decide) ?_
    refine rIaldK C hG (hI 82 (by decide) (by decide)) e_82 1 (by decide) (by decide) dM_besideOf_15 ?_
    exact rReti C hG h dM_besideOf_16
theorem dM_leftOf_0 : decode bM_leftOf 0 = .ok (.aload_n 0, 1) := by decide +kernel
theorem dM_leftOf_1 : decode bM_leftOf 1 = .ok (.iload_n 1, 1) := by decide +kernel
theorem dM_leftOf_2 : decode bM_leftOf 2 = .ok (.aload_n 0, 1) := by decide +kernel
theorem dM_leftOf_3 : decode bM_leftOf 3 = .ok (.getfield 16, 3) := by decide +kernel
theorem dM_leftOf_6 : decode bM_leftOf 6 = .ok (.iconst 3, 1) := by decide +kernel
theorem dM_leftOf_7 : decode bM_leftOf 7 = .ok (.iload_n 1, 1) := by decide +kernel
theorem dM_leftOf_8 : decode bM_leftOf 8 = .ok (.imul, 1) := by decide +kernel
theorem dM_leftOf_9 : decode bM_leftOf 9 = .ok (.iaload, 1) := by decide +kernel
theorem dM_leftOf_10 : decode bM_leftOf 10 = .ok (.iconst 1, 1) := by decide +kernel
theorem dM_leftOf_11 : decode bM_leftOf 11 = .ok (.isub, 1) := by decide +kernel
theorem dM_leftOf_12 : decode bM_leftOf 12 = .ok (.invokevirtual 89, 3) := by decide +kernel
theorem dM_leftOf_15 : decode bM_leftOf 15 = .ok (.ireturn, 1) := by decide +kernel
theorem cM_leftOf {l : Launch} {G : GT} {I : List Nat} (hI : mI I) {fu : Nat} {v1 : Int32} {z : Sg} {R1 : Int32} {Z : Sg} (h : pM_leftOf fu v1 z = some (R1, Z)) : Mt l yM_leftOf rmM_leftOf bM_leftOf 2 (some .int) G I z [.ref (gA G 78), .int v1] (Qi G I R1 Z) := by
  refine entM (by decide +kernel) (Nat.le_of_ble_eq_true rfl) ?_
  intro p e s m below meth c C hG ls hl
  have hl : lv_has ls 2 [(0, .ref (gA G 78)), (1, .int v1)] := hl
  unfold pM_leftOf at h
  refine rAload_n C dM_leftOf_0 hl 0 rfl ?_
  refine rIload_n C dM_leftOf_1 hl 1 rfl ?_
  refine rAload_n C dM_leftOf_2 hl 0 rfl ?_
  refine rGet C hG (hI 78 (by decide) (by decide)) e_78 fiM_3 (v := .ref (gA G 81)) rfl k_809 dM_leftOf_3 ?_
  refine lv_iconst (v := 3) C.1 C.2.1 dM_leftOf_6 (by decide) ?_
  refine rIload_n C dM_leftOf_7 hl 1 rfl ?_
  refine lv_imul C.1 C.2.1 dM_leftOf_8 ?_
  refine rIald C hG (hI 81 (by decide) (by decide)) e_81 h dM_leftOf_9 (fun h => ?_)
  refine lv_iconst (v := 1) C.1 C.2.1 dM_leftOf_10 (by decide) ?_
  refine lv_isub C.1 C.2.1 dM_leftOf_11 ?_
  refine rCVi [.int v1, .int ((ga z 81 (3 * v1)) - 1)] [] C hG h (fun h => cM_besideOf hI h) mvM_besideOf k_960 ⟨Nat.le_of_ble_eq_true rfl, Nat.le_of_ble_eq_true rfl⟩ ⟨rfl, rfl⟩ (rRecv C hG (hI 78 (by decide) (by decide)) e_78 rfl) rfl hl.1 (Nat.le_of_ble_eq_true rfl) dM_leftOf_12 ⟨Nat.zero_le _, Nat.zero_le _⟩ rfl (fun H locs x2 z1 h hG => ?_)
  exact rReti C hG h dM_leftOf_15
theorem dM_rightOf_0 : decode bM_rightOf 0 = .ok (.aload_n 0, 1) := by decide +kernel
theorem dM_rightOf_1 : decode bM_rightOf 1 = .ok (.iload_n 1, 1) := by decide +kernel
theorem dM_rightOf_2 : decode bM_rightOf 2 = .ok (.aload_n 0, 1) := by decide +kernel
theorem dM_rightOf_3 : decode bM_rightOf 3 = .ok (.getfield 16, 3) := by decide +kernel
theorem dM_rightOf_6 : decode bM_rightOf 6 = .ok (.iconst 3, 1) := by decide +kernel
theorem dM_rightOf_7 : decode bM_rightOf 7 = .ok (.iload_n 1, 1) := by decide +kernel
theorem dM_rightOf_8 : decode bM_rightOf 8 = .ok (.imul, 1) := by decide +kernel
theorem dM_rightOf_9 : decode bM_rightOf 9 = .ok (.iaload, 1) := by decide +kernel
theorem dM_rightOf_10 : decode bM_rightOf 10 = .ok (.iconst 1, 1) := by decide +kernel
theorem dM_rightOf_11 : decode bM_rightOf 11 = .ok (.iadd, 1) := by decide +kernel
theorem dM_rightOf_12 : decode bM_rightOf 12 = .ok (.invokevirtual 89, 3) := by decide +kernel
theorem dM_rightOf_15 : decode bM_rightOf 15 = .ok (.ireturn, 1) := by decide +kernel
theorem cM_rightOf {l : Launch} {G : GT} {I : List Nat} (hI : mI I) {fu : Nat} {v1 : Int32} {z : Sg} {R1 : Int32} {Z : Sg} (h : pM_rightOf fu v1 z = some (R1, Z)) : Mt l yM_rightOf rmM_rightOf bM_rightOf 2 (some .int) G I z [.ref (gA G 78), .int v1] (Qi G I R1 Z) := by
  refine entM (by decide +kernel) (Nat.le_of_ble_eq_true rfl) ?_
  intro p e s m below meth c C hG ls hl
  have hl : lv_has ls 2 [(0, .ref (gA G 78)), (1, .int v1)] := hl
  unfold pM_rightOf at h
  refine rAload_n C dM_rightOf_0 hl 0 rfl ?_
  refine rIload_n C dM_rightOf_1 hl 1 rfl ?_
  refine rAload_n C dM_rightOf_2 hl 0 rfl ?_
  refine rGet C hG (hI 78 (by decide) (by decide)) e_78 fiM_3 (v := .ref (gA G 81)) rfl k_809 dM_rightOf_3 ?_
  refine lv_iconst (v := 3) C.1 C.2.1 dM_rightOf_6 (by decide) ?_
  refine rIload_n C dM_rightOf_7 hl 1 rfl ?_
  refine lv_imul C.1 C.2.1 dM_rightOf_8 ?_
  refine rIald C hG (hI 81 (by decide) (by decide)) e_81 h dM_rightOf_9 (fun h => ?_)
  refine lv_iconst (v := 1) C.1 C.2.1 dM_rightOf_10 (by decide) ?_
  refine lv_iadd C.1 C.2.1 dM_rightOf_11 ?_
  refine rCVi [.int v1, .int ((ga z 81 (3 * v1)) + 1)] [] C hG h (fun h => cM_besideOf hI h) mvM_besideOf k_960 ⟨Nat.le_of_ble_eq_true rfl, Nat.le_of_ble_eq_true rfl⟩ ⟨rfl, rfl⟩ (rRecv C hG (hI 78 (by decide) (by decide)) e_78 rfl) rfl hl.1 (Nat.le_of_ble_eq_true rfl) dM_rightOf_12 ⟨Nat.zero_le _, Nat.zero_le _⟩ rfl (fun H locs x2 z1 h hG => ?_)
  exact rReti C hG h dM_rightOf_15
theorem dM_two_0 : decode bM_two 0 = .ok (.iload_n 0, 1) := by decide +kernel
theorem dM_two_1 : decode bM_two 1 = .ok (.tableswitch 101 11 17 #[43, 57, 101, 71, 82, 93, 97], 43) := by decide +kernel
theorem dM_two_44 : decode bM_two 44 = .ok (.iload_n 1, 1) := by decide +kernel
theorem dM_two_45 : decode bM_two 45 = .ok (.ifCond .ne 7, 3) := by decide +kernel
theorem dM_two_48 : decode bM_two 48 = .ok (.iload_n 2, 1) := by decide +kernel
theorem dM_two_49 : decode bM_two 49 = .ok (.ifCond .eq 7, 3) := by decide +kernel
theorem dM_two_52 : decode bM_two 52 = .ok (.iconst 1, 1) := by decide +kernel
theorem dM_two_53 : decode bM_two 53 = .ok (.goto 4, 3) := by decide +kernel
theorem dM_two_56 : decode bM_two 56 = .ok (.iconst 0, 1) := by decide +kernel
theorem dM_two_57 : decode bM_two 57 = .ok (.ireturn, 1) := by decide +kernel
theorem dM_two_58 : decode bM_two 58 = .ok (.iload_n 1, 1) := by decide +kernel
theorem dM_two_59 : decode bM_two 59 = .ok (.ifCond .eq 11, 3) := by decide +kernel
theorem dM_two_62 : decode bM_two 62 = .ok (.iload_n 2, 1) := by decide +kernel
theorem dM_two_63 : decode bM_two 63 = .ok (.ifCond .eq 7, 3) := by decide +kernel
theorem dM_two_66 : decode bM_two 66 = .ok (.iconst 1, 1) := by decide +kernel
theorem dM_two_67 : decode bM_two 67 = .ok (.goto 4, 3) := by decide +kernel
theorem dM_two_70 : decode bM_two 70 = .ok (.iconst 0, 1) := by decide +kernel
theorem dM_two_71 : decode bM_two 71 = .ok (.ireturn, 1) := by decide +kernel
theorem dM_two_72 : decode bM_two 72 = .ok (.iload_n 1, 1) := by decide +kernel
theorem dM_two_73 : decode bM_two 73 = .ok (.iload_n 2, 1) := by decide +kernel
theorem dM_two_74 : decode bM_two 74 = .ok (.if_icmp .ge 7, 3) := by decide +kernel
theorem dM_two_77 : decode bM_two 77 = .ok (.iconst 1, 1) := by decide +kernel
theorem dM_two_78 : decode bM_two 78 = .ok (.goto 4, 3) := by decide +kernel
theorem dM_two_81 : decode bM_two 81 = .ok (.iconst 0, 1) := by decide +kernel
theorem dM_two_82 : decode bM_two 82 = .ok (.ireturn, 1) := by decide +kernel
theorem dM_two_83 : decode bM_two 83 = .ok (.iload_n 1, 1) := by decide +kernel
theorem dM_two_84 : decode bM_two 84 = .ok (.iload_n 2, 1) := by decide +kernel
theorem dM_two_85 : decode bM_two 85 = .ok (.if_icmp .ne 7, 3) := by decide +kernel
theorem dM_two_88 : decode bM_two 88 = .ok (.iconst 1, 1) := by decide +kernel
theorem dM_two_89 : decode bM_two 89 = .ok (.goto 4, 3) := by decide +kernel
theorem dM_two_92 : decode bM_two 92 = .ok (.iconst 0, 1) := by decide +kernel
theorem dM_two_93 : decode bM_two 93 = .ok (.ireturn, 1) := by decide +kernel
theorem dM_two_94 : decode bM_two 94 = .ok (.iload_n 1, 1) := by decide +kernel
theorem dM_two_95 : decode bM_two 95 = .ok (.iload_n 2, 1) := by decide +kernel
theorem dM_two_96 : decode bM_two 96 = .ok (.iadd, 1) := by decide +kernel
theorem dM_two_97 : decode bM_two 97 = .ok (.ireturn, 1) := by decide +kernel
theorem dM_two_98 : decode bM_two 98 = .ok (.iload_n 1, 1) := by decide +kernel
theorem dM_two_99 : decode bM_two 99 = .ok (.iload_n 2, 1) := by decide +kernel
theorem dM_two_100 : decode bM_two 100 = .ok (.isub, 1) := by decide +kernel
theorem dM_two_101 : decode bM_two 101 = .ok (.ireturn, 1) := by decide +kernel
theorem dM_two_102 : decode bM_two 102 = .ok (.iload_n 1, 1) := by decide +kernel
theorem dM_two_103 : decode bM_two 103 = .ok (.iload_n 2, 1) := by decide +kernel
theorem dM_two_104 : decode bM_two 104 = .ok (.imul, 1) := by decide +kernel
theorem dM_two_105 : decode bM_two 105 = .ok (.ireturn, 1) := by decide +kernel
theorem wM_two_52 {p : Program} {l : Launch} {e : Env} {s : State} {m : MethodId} {args : Array Value} {below : List Frame} {meth : Method} {c : Code} {G : GT} {I : List Nat} (C : CX p s m args meth c NM bM_two 3 (some .int) G I) (hI : mI I) {fu : Nat} {R1 : Int32} {Z : Sg} {z : Sg} {H : Heap} {locs : List Loc} {ls : Array Slot} (h : pM_two_52 fu z = some (R1, Z)) (hG : GW G I z s.heap H locs) (hl : lv_has ls 3 []) : W p l e rmM_two s m args below meth c H locs 0 0 (MQ below (Qi G I R1 Z) args s 0 0 (AD G I)) (F0 m 52 ls []) := by
  unfold pM_two_52 at h
  refine lv_iconst (v := 1) C.1 C.2.1 dM_two_52 (by decide) ?_
  refine lv_goto (tgt := 57) C.1 C.2.1 dM_two_53 (by decide) ?_
  exact rReti C hG h dM_two_57
theorem cM_two {l : Launch} {G : GT} {I : List Nat} (hI : mI I) {fu : Nat} {v0 : Int32} {v1 : Int32} {v2 : Int32} {z : Sg} {R1 : Int32} {Z : Sg} (h : pM_two fu v0 v1 v2 z = some (R1, Z)) : Mt l yM_two rmM_two bM_two 3 (some .int) G I z [.int v0, .int v1, .int v2] (Qi G I R1 Z) := by
  refine entM (by decide +kernel) (Nat.le_of_ble_eq_true rfl) ?_
  intro p e s m below meth c C hG ls hl
  have hl : lv_has ls 3 [(0, .int v0), (1, .int v1), (2, .int v2)] := hl
  unfold pM_two at h
  refine rIload_n C dM_two_0 hl 0 rfl ?_
  by_cases q1_0 : v0 = 11
  · replace h := ifP q1_0 h
    refine rSwT C dM_two_1 11 q1_0 (by decide) (off := 43) (tgt := 44) (by decide) (by decide) ?_
    refine rIload_n C dM_two_44 hl 1 rfl ?_
    refine rIfne C (tgt := 52) h dM_two_45 (by decide) (fun h => ?_) (fun h => ?_)
    · exact wM_two_52 C hI h hG (lv_sub hl [] rfl)
    · refine rIload_n C dM_two_48 hl 2 rfl ?_
      refine rIfeq C (tgt := 56) h dM_two_49 (by decide) (fun h => ?_) (fun h => ?_)
      · refine lv_iconst (v := 0) C.1 C.2.1 dM_two_56 (by decide) ?_
        exact rReti C hG h dM_two_57
      · exact wM_two_52 C hI h hG (lv_sub hl [] rfl)
  replace h := ifN q1_0 h
  by_cases q1_1 : v0 = 12
  · replace h := ifP q1_1 h
    refine rSwT C dM_two_1 12 q1_1 (by decide) (off := 57) (tgt := 58) (by decide) (by decide) ?_
    refine rIload_n C dM_two_58 hl 1 rfl ?_
    refine rIfeq C (tgt := 70) h dM_two_59 (by decide) (fun h => ?_) (fun h => ?_)
    · refine lv_iconst (v := 0) C.1 C.2.1 dM_two_70 (by decide) ?_
      exact rReti C hG h dM_two_71
    · refine rIload_n C dM_two_62 hl 2 rfl ?_
      refine rIfeq C (tgt := 70) h dM_two_63 (by decide) (fun h => ?_) (fun h => ?_)
      · refine lv_iconst (v := 0) C.1 C.2.1 dM_two_70 (by decide) ?_
        exact rReti C hG h dM_two_71
      · refine lv_iconst (v := 1) C.1 C.2.1 dM_two_66 (by decide) ?_
        refine lv_goto (tgt := 71) C.1 C.2.1 dM_two_67 (by decide) ?_
        exact rReti C hG h dM_two_71
  replace h := ifN q1_1 h
  by_cases q1_2 : v0 = 13
  · replace h := ifP q1_2 h
    refine rSwT C dM_two_1 13 q1_2 (by decide) (off := 101) (tgt := 102) (by decide) (by decide) ?_
    refine rIload_n C dM_two_102 hl 1 rfl ?_
    refine rIload_n C dM_two_103 hl 2 rfl ?_
    refine lv_imul C.1 C.2.1 dM_two_104 ?_
    exact rReti C hG h dM_two_105
  replace h := ifN q1_2 h
  by_cases q1_3 : v0 = 14
  · replace h := ifP q1_3 h
    refine rSwT C dM_two_1 14 q1_3 (by decide) (off := 71) (tgt := 72) (by decide) (by decide) ?_
    refine rIload_n C dM_two_72 hl 1 rfl ?_
    refine rIload_n C dM_two_73 hl 2 rfl ?_
    refine rIcmpge C (tgt := 81) h dM_two_74 (by decide) (fun h => ?_) (fun h => ?_)
    · refine lv_iconst (v := 0) C.1 C.2.1 dM_two_81 (by decide) ?_
      exact rReti C hG h dM_two_82
    · refine lv_iconst (v := 1) C.1 C.2.1 dM_two_77 (by decide) ?_
      refine lv_goto (tgt := 82) C.1 C.2.1 dM_two_78 (by decide) ?_
      exact rReti C hG h dM_two_82
  replace h := ifN q1_3 h
  by_cases q1_4 : v0 = 15
  · replace h := ifP q1_4 h
    refine rSwT C dM_two_1 15 q1_4 (by decide) (off := 82) (tgt := 83) (by decide) (by decide) ?_
    refine rIload_n C dM_two_83 hl 1 rfl ?_
    refine rIload_n C dM_two_84 hl 2 rfl ?_
    refine rIcmpne C (tgt := 92) h dM_two_85 (by decide) (fun h => ?_) (fun h => ?_)
    · refine lv_iconst (v := 0) C.1 C.2.1 dM_two_92 (by decide) ?_
      exact rReti C hG h dM_two_93
    · refine lv_iconst (v := 1) C.1 C.2.1 dM_two_88 (by decide) ?_
      refine lv_goto (tgt := 93) C.1 C.2.1 dM_two_89 (by decide) ?_
      exact rReti C hG h dM_two_93
  replace h := ifN q1_4 h
  by_cases q1_5 : v0 = 16
  · replace h := ifP q1_5 h
    refine rSwT C dM_two_1 16 q1_5 (by decide) (off := 93) (tgt := 94) (by decide) (by decide) ?_
    refine rIload_n C dM_two_94 hl 1 rfl ?_
    refine rIload_n C dM_two_95 hl 2 rfl ?_
    refine lv_iadd C.1 C.2.1 dM_two_96 ?_
    exact rReti C hG h dM_two_97
  replace h := ifN q1_5 h
  by_cases q1_6 : v0 = 17
  · replace h := ifP q1_6 h
    refine rSwT C dM_two_1 17 q1_6 (by decide) (off := 97) (tgt := 98) (by decide) (by decide) ?_
    refine rIload_n C dM_two_98 hl 1 rfl ?_
    refine rIload_n C dM_two_99 hl 2 rfl ?_
    refine lv_isub C.1 C.2.1 dM_two_100 ?_
    exact rReti C hG h dM_two_101
  replace h := ifN q1_6 h
  refine rSwD C dM_two_1 (tgt := 102) (by have q1_0n := ne_toInt (k := 11) q1_0 (by decide); have q1_1n := ne_toInt (k := 12) q1_1 (by decide); have q1_2n := ne_toInt (k := 13) q1_2 (by decide); have q1_3n := ne_toInt (k := 14) q1_3 (by decide); have q1_4n := ne_toInt (k := 15) q1_4 (by decide); have q1_5n := ne_toInt (k := 16) q1_5 (by decide); have q1_6n := ne_toInt (k := 17) q1_6 (by decide); omega) (by decide) ?_
  refine rIload_n C dM_two_102 hl 1 rfl ?_
  refine rIload_n C dM_two_103 hl 2 rfl ?_
  refine lv_imul C.1 C.2.1 dM_two_104 ?_
  exact rReti C hG h dM_two_105
