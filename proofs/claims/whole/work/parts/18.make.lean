def yL_init : MethodName := ⟨NL, "<init>", "()V"⟩
abbrev bL_init : ByteArray := prog_3_method_1_code
def yB_init : MethodName := ⟨NB, "<init>", "()V"⟩
abbrev bB_init : ByteArray := prog_2_method_1_code
def yO_init : MethodName := ⟨NO, "<init>", "()V"⟩
abbrev bO_init : ByteArray := prog_4_method_1_code
def yH_init : MethodName := ⟨NH, "<init>", "()V"⟩
abbrev bH_init : ByteArray := prog_7_method_1_code
def yR_init : MethodName := ⟨NR, "<init>", "([LScythesKeepStep$Law;)V"⟩
abbrev bR_init : ByteArray := prog_6_method_1_code
def yD_init : MethodName := ⟨ND, "<init>", "()V"⟩
abbrev bD_init : ByteArray := prog_5_method_1_code
def yS_init : MethodName := ⟨NS, "<init>", "()V"⟩
abbrev bS_init : ByteArray := prog_1_method_1_code
def yM_init : MethodName := ⟨NM, "<init>", "()V"⟩
abbrev bM_init : ByteArray := prog_9_method_1_code
theorem k_co_L : Cond.code yL_init bL_init 1 none ∈ WG := wg_1 39 (by rfl) rfl
theorem k_in_L : Cond.instanceMethod yL_init ∈ WG := wg_1 38 (by rfl) rfl
theorem k_ini_L : Cond.initialized NL ∈ WG := wg_1 3 (by rfl) rfl
theorem k_ins_L : Cond.instantiable NL 4 ∈ WG := wg_1 36 (by rfl) rfl
theorem k_co_B : Cond.code yB_init bB_init 1 none ∈ WG := wg_1 86 (by rfl) rfl
theorem k_in_B : Cond.instanceMethod yB_init ∈ WG := wg_1 85 (by rfl) rfl
theorem k_ini_B : Cond.initialized NB ∈ WG := wg_1 4 (by rfl) rfl
theorem k_ins_B : Cond.instantiable NB 2 ∈ WG := wg_1 83 (by rfl) rfl
theorem k_co_O : Cond.code yO_init bO_init 1 none ∈ WG := wg_1 99 (by rfl) rfl
theorem k_in_O : Cond.instanceMethod yO_init ∈ WG := wg_1 98 (by rfl) rfl
theorem k_ini_O : Cond.initialized NO ∈ WG := wg_1 5 (by rfl) rfl
theorem k_ins_O : Cond.instantiable NO 3 ∈ WG := wg_1 96 (by rfl) rfl
theorem k_co_H : Cond.code yH_init bH_init 1 none ∈ WG := wg_1 115 (by rfl) rfl
theorem k_in_H : Cond.instanceMethod yH_init ∈ WG := wg_1 114 (by rfl) rfl
theorem k_ini_H : Cond.initialized NH ∈ WG := wg_1 6 (by rfl) rfl
theorem k_ins_H : Cond.instantiable NH 3 ∈ WG := wg_1 112 (by rfl) rfl
theorem k_co_R : Cond.code yR_init bR_init 2 none ∈ WG := wg_1 134 (by rfl) rfl
theorem k_in_R : Cond.instanceMethod yR_init ∈ WG := wg_1 133 (by rfl) rfl
theorem k_ini_R : Cond.initialized NR ∈ WG := wg_1 7 (by rfl) rfl
theorem k_ins_R : Cond.instantiable NR 9 ∈ WG := wg_1 131 (by rfl) rfl
theorem k_co_D : Cond.code yD_init bD_init 1 none ∈ WG := wg_1 33 (by rfl) rfl
theorem k_in_D : Cond.instanceMethod yD_init ∈ WG := wg_1 32 (by rfl) rfl
theorem k_ini_D : Cond.initialized ND ∈ WG := wg_1 2 (by rfl) rfl
theorem k_ins_D : Cond.instantiable ND 8 ∈ WG := wg_1 30 (by rfl) rfl
theorem k_co_S : Cond.code yS_init bS_init 2 none ∈ WG := wg_1 21 (by rfl) rfl
theorem k_in_S : Cond.instanceMethod yS_init ∈ WG := wg_1 20 (by rfl) rfl
theorem k_ini_S : Cond.initialized NS ∈ WG := wg_1 1 (by rfl) rfl
theorem k_ins_S : Cond.instantiable NS 10 ∈ WG := wg_1 18 (by rfl) rfl
theorem k_co_M : Cond.code yM_init bM_init 2 none ∈ WG := wg_4 37 (by rfl) rfl
theorem k_in_M : Cond.instanceMethod yM_init ∈ WG := wg_4 36 (by rfl) rfl
theorem k_ini_M : Cond.initialized NM ∈ WG := wg_1 15 (by rfl) rfl
theorem k_ins_M : Cond.instantiable NM 34 ∈ WG := wg_4 34 (by rfl) rfl
theorem k_arr : Cond.arrayClass .int ∈ WG := wg_1 54 (by rfl) rfl
theorem k_oi : Cond.instanceMethod Lib.objectInit ∈ WG := wg_1 23 (by rfl) rfl
theorem k_oc : Cond.code Lib.objectInit ⟨#[0xb1]⟩ 1 none ∈ WG := wg_1 24 (by rfl) rfl
theorem k_mo_L : Cond.methodLink NL 3 Lib.objectInit ∈ WG := wg_1 40 (by rfl) rfl
theorem k_mo_B : Cond.methodLink NB 3 Lib.objectInit ∈ WG := wg_1 87 (by rfl) rfl
theorem k_mo_O : Cond.methodLink NO 3 Lib.objectInit ∈ WG := wg_1 100 (by rfl) rfl
theorem k_mo_H : Cond.methodLink NH 3 Lib.objectInit ∈ WG := wg_1 116 (by rfl) rfl
theorem k_mo_R : Cond.methodLink NR 3 Lib.objectInit ∈ WG := wg_1 135 (by rfl) rfl
theorem k_cl_R_15 : Cond.classLink NR 15 "[[I" ∈ WG := wg_1 136 (by rfl) rfl
theorem k_mo_D : Cond.methodLink ND 3 Lib.objectInit ∈ WG := wg_1 34 (by rfl) rfl
theorem k_cl_D_9 : Cond.classLink ND 9 NL ∈ WG := wg_1 35 (by rfl) rfl
theorem k_mo_S : Cond.methodLink NS 1 Lib.objectInit ∈ WG := wg_1 22 (by rfl) rfl
theorem k_cl_S_9 : Cond.classLink NS 9 NL ∈ WG := wg_1 25 (by rfl) rfl
theorem k_cl_S_15 : Cond.classLink NS 15 NH ∈ WG := wg_1 27 (by rfl) rfl
theorem k_cl_S_21 : Cond.classLink NS 21 ND ∈ WG := wg_1 29 (by rfl) rfl
theorem k_cl_S_28 : Cond.classLink NS 28 NB ∈ WG := wg_1 82 (by rfl) rfl
theorem k_cl_S_35 : Cond.classLink NS 35 NO ∈ WG := wg_1 95 (by rfl) rfl
theorem k_cl_S_44 : Cond.classLink NS 44 NR ∈ WG := wg_1 130 (by rfl) rfl
theorem k_mo_M : Cond.methodLink NM 1 Lib.objectInit ∈ WG := wg_4 38 (by rfl) rfl
theorem k_132 : Cond.methodLink NS 46 yR_init ∈ WG := wg_1 132 (by rfl) rfl
theorem k_823 : Cond.fieldLink NM 46 (TM 17).1 (TM 17).2.1 (TM 17).2.2.1 ∈ WG := wg_4 103 (by rfl) rfl
abbrev rmL_init : Room := { frames := 1, cells := 3, slots := 323, locals := 40 }
theorem dL_init_0 : decode bL_init 0 = .ok (.aload_n 0, 1) := by decide +kernel
theorem dL_init_1 : decode bL_init 1 = .ok (.invokespecial 3, 3) := by decide +kernel
theorem dL_init_4 : decode bL_init 4 = .ok (.aload_n 0, 1) := by decide +kernel
theorem dL_init_5 : decode bL_init 5 = .ok (.sipush 160, 3) := by decide +kernel
theorem dL_init_8 : decode bL_init 8 = .ok (.newarray .int, 2) := by decide +kernel
theorem dL_init_10 : decode bL_init 10 = .ok (.putfield 9, 3) := by decide +kernel
theorem dL_init_13 : decode bL_init 13 = .ok (.aload_n 0, 1) := by decide +kernel
theorem dL_init_14 : decode bL_init 14 = .ok (.iconst 3, 1) := by decide +kernel
theorem dL_init_15 : decode bL_init 15 = .ok (.newarray .int, 2) := by decide +kernel
theorem dL_init_17 : decode bL_init 17 = .ok (.putfield 15, 3) := by decide +kernel
theorem dL_init_20 : decode bL_init 20 = .ok (.aload_n 0, 1) := by decide +kernel
theorem dL_init_21 : decode bL_init 21 = .ok (.sipush 160, 3) := by decide +kernel
theorem dL_init_24 : decode bL_init 24 = .ok (.newarray .int, 2) := by decide +kernel
theorem dL_init_26 : decode bL_init 26 = .ok (.putfield 18, 3) := by decide +kernel
theorem dL_init_29 : decode bL_init 29 = .ok (.return_, 1) := by decide +kernel
def oL (G : GT) (h0 : Nat) (u : Nat × Nat × Nat) : va_W := [(h0, .inr (1, [.ref u.1, .ref u.2.1, .ref u.2.2, .int 0])), (u.1, eI G 160 zf0), (u.2.1, eI G 3 zf0), (u.2.2, eI G 160 zf0)]
set_option maxRecDepth 20000 in
theorem cL_init (l : Launch) (G : GT) (h0 sz : Nat) : Mk l yL_init rmL_init bL_init 1 G [(h0, .inr (1, [.null, .null, .null, .int 0]))] sz [.ref h0] (oL G h0) := by
  refine entK (by decide +kernel) (Nat.le_of_ble_eq_true rfl) rfl ?_
  intro p e s m below meth c hz C hA hG ls hl
  generalize hAe : va_A [(h0, .inr (1, [.null, .null, .null, .int 0]))] sz = A at hA hG ⊢
  have hl : lv_has ls 1 [(0, .ref h0)] := hl
  refine lv_aload_n C.1 C.2.1 dL_init_0 rfl (lv_at hl 0 rfl) ?_
  refine kObj C k_mo_L k_oi k_oc hl.1 dL_init_1 (Nat.le_of_ble_eq_true rfl) (Nat.le_of_ble_eq_true rfl) ?_
  refine lv_aload_n C.1 C.2.1 dL_init_4 rfl (lv_at hl 0 rfl) ?_
  refine lv_sipush (v := 160) C.1 C.2.1 dL_init_5 (by decide) ?_
  refine kNewI C hA hG k_arr (N := 160) (by decide) (by decide) (Nat.le_of_ble_eq_true rfl) ⟨Nat.le_of_ble_eq_true rfl, Nat.le_of_ble_eq_true rfl⟩ dL_init_8 (fun q1 H hG => ?_)
  have hG : CW G [(h0, .inr (1, [.null, .null, .null, .int 0])), (q1, eI G 160 zf0)] A s.heap H _ := hG
  refine kPutF C hG 0 rfl fiL_0 tokL nmL rfl rfl rfl rfl (Nat.le_of_ble_eq_true rfl) k_41 dL_init_10 [(h0, .inr (1, [.ref q1, .null, .null, .int 0])), (q1, eI G 160 zf0)] rfl (fun H locs hG => ?_)
  refine lv_aload_n C.1 C.2.1 dL_init_13 rfl (lv_at hl 0 rfl) ?_
  refine lv_iconst (v := 3) C.1 C.2.1 dL_init_14 (by decide) ?_
  refine kNewI C hA hG k_arr (N := 3) (by decide) (by decide) (Nat.le_of_ble_eq_true rfl) ⟨Nat.le_of_ble_eq_true rfl, Nat.le_of_ble_eq_true rfl⟩ dL_init_15 (fun q2 H hG => ?_)
  have hG : CW G [(h0, .inr (1, [.ref q1, .null, .null, .int 0])), (q1, eI G 160 zf0), (q2, eI G 3 zf0)] A s.heap H _ := hG
  refine kPutF C hG 0 rfl fiL_1 tokL nmL rfl rfl rfl rfl (Nat.le_of_ble_eq_true rfl) k_42 dL_init_17 [(h0, .inr (1, [.ref q1, .ref q2, .null, .int 0])), (q1, eI G 160 zf0), (q2, eI G 3 zf0)] rfl (fun H locs hG => ?_)
  refine lv_aload_n C.1 C.2.1 dL_init_20 rfl (lv_at hl 0 rfl) ?_
  refine lv_sipush (v := 160) C.1 C.2.1 dL_init_21 (by decide) ?_
  refine kNewI C hA hG k_arr (N := 160) (by decide) (by decide) (Nat.le_of_ble_eq_true rfl) ⟨Nat.le_of_ble_eq_true rfl, Nat.le_of_ble_eq_true rfl⟩ dL_init_24 (fun q3 H hG => ?_)
  have hG : CW G [(h0, .inr (1, [.ref q1, .ref q2, .null, .int 0])), (q1, eI G 160 zf0), (q2, eI G 3 zf0), (q3, eI G 160 zf0)] A s.heap H _ := hG
  refine kPutF C hG 0 rfl fiL_2 tokL nmL rfl rfl rfl rfl (Nat.le_of_ble_eq_true rfl) k_43 dL_init_26 [(h0, .inr (1, [.ref q1, .ref q2, .ref q3, .int 0])), (q1, eI G 160 zf0), (q2, eI G 3 zf0), (q3, eI G 160 zf0)] rfl (fun H locs hG => ?_)
  subst hAe
  exact kRet C hG (q1, q2, q3) rfl dL_init_29
abbrev rmB_init : Room := { frames := 1, cells := 0, slots := 0, locals := 40 }
theorem dB_init_0 : decode bB_init 0 = .ok (.aload_n 0, 1) := by decide +kernel
theorem dB_init_1 : decode bB_init 1 = .ok (.invokespecial 3, 3) := by decide +kernel
theorem dB_init_4 : decode bB_init 4 = .ok (.return_, 1) := by decide +kernel
def oB (G : GT) (h0 : Nat) (u : Unit) : va_W := [(h0, .inr (0, [.int 0, .int 0]))]
set_option maxRecDepth 20000 in
theorem cB_init (l : Launch) (G : GT) (h0 sz : Nat) : Mk l yB_init rmB_init bB_init 1 G [(h0, .inr (0, [.int 0, .int 0]))] sz [.ref h0] (oB G h0) := by
  refine entK (by decide +kernel) (Nat.le_of_ble_eq_true rfl) rfl ?_
  intro p e s m below meth c hz C hA hG ls hl
  generalize hAe : va_A [(h0, .inr (0, [.int 0, .int 0]))] sz = A at hA hG ⊢
  have hl : lv_has ls 1 [(0, .ref h0)] := hl
  refine lv_aload_n C.1 C.2.1 dB_init_0 rfl (lv_at hl 0 rfl) ?_
  refine kObj C k_mo_B k_oi k_oc hl.1 dB_init_1 (Nat.le_of_ble_eq_true rfl) (Nat.le_of_ble_eq_true rfl) ?_
  subst hAe
  exact kRet C hG () rfl dB_init_4
abbrev rmO_init : Room := { frames := 1, cells := 2, slots := 12, locals := 40 }
theorem dO_init_0 : decode bO_init 0 = .ok (.aload_n 0, 1) := by decide +kernel
theorem dO_init_1 : decode bO_init 1 = .ok (.invokespecial 3, 3) := by decide +kernel
theorem dO_init_4 : decode bO_init 4 = .ok (.aload_n 0, 1) := by decide +kernel
theorem dO_init_5 : decode bO_init 5 = .ok (.bipush 6, 2) := by decide +kernel
theorem dO_init_7 : decode bO_init 7 = .ok (.newarray .int, 2) := by decide +kernel
theorem dO_init_9 : decode bO_init 9 = .ok (.putfield 9, 3) := by decide +kernel
theorem dO_init_12 : decode bO_init 12 = .ok (.aload_n 0, 1) := by decide +kernel
theorem dO_init_13 : decode bO_init 13 = .ok (.bipush 6, 2) := by decide +kernel
theorem dO_init_15 : decode bO_init 15 = .ok (.newarray .int, 2) := by decide +kernel
theorem dO_init_17 : decode bO_init 17 = .ok (.putfield 15, 3) := by decide +kernel
theorem dO_init_20 : decode bO_init 20 = .ok (.return_, 1) := by decide +kernel
def oO (G : GT) (h0 : Nat) (u : Nat × Nat) : va_W := [(h0, .inr (2, [.ref u.1, .ref u.2, .int 0])), (u.1, eI G 6 zf0), (u.2, eI G 6 zf0)]
set_option maxRecDepth 20000 in
theorem cO_init (l : Launch) (G : GT) (h0 sz : Nat) : Mk l yO_init rmO_init bO_init 1 G [(h0, .inr (2, [.null, .null, .int 0]))] sz [.ref h0] (oO G h0) := by
  refine entK (by decide +kernel) (Nat.le_of_ble_eq_true rfl) rfl ?_
  intro p e s m below meth c hz C hA hG ls hl
  generalize hAe : va_A [(h0, .inr (2, [.null, .null, .int 0]))] sz = A at hA hG ⊢
  have hl : lv_has ls 1 [(0, .ref h0)] := hl
  refine lv_aload_n C.1 C.2.1 dO_init_0 rfl (lv_at hl 0 rfl) ?_
  refine kObj C k_mo_O k_oi k_oc hl.1 dO_init_1 (Nat.le_of_ble_eq_true rfl) (Nat.le_of_ble_eq_true rfl) ?_
  refine lv_aload_n C.1 C.2.1 dO_init_4 rfl (lv_at hl 0 rfl) ?_
  refine lv_bipush (v := 6) C.1 C.2.1 dO_init_5 (by decide) ?_
  refine kNewI C hA hG k_arr (N := 6) (by decide) (by decide) (Nat.le_of_ble_eq_true rfl) ⟨Nat.le_of_ble_eq_true rfl, Nat.le_of_ble_eq_true rfl⟩ dO_init_7 (fun q1 H hG => ?_)
  have hG : CW G [(h0, .inr (2, [.null, .null, .int 0])), (q1, eI G 6 zf0)] A s.heap H _ := hG
  refine kPutF C hG 0 rfl fiO_0 tokO nmO rfl rfl rfl rfl (Nat.le_of_ble_eq_true rfl) k_101 dO_init_9 [(h0, .inr (2, [.ref q1, .null, .int 0])), (q1, eI G 6 zf0)] rfl (fun H locs hG => ?_)
  refine lv_aload_n C.1 C.2.1 dO_init_12 rfl (lv_at hl 0 rfl) ?_
  refine lv_bipush (v := 6) C.1 C.2.1 dO_init_13 (by decide) ?_
  refine kNewI C hA hG k_arr (N := 6) (by decide) (by decide) (Nat.le_of_ble_eq_true rfl) ⟨Nat.le_of_ble_eq_true rfl, Nat.le_of_ble_eq_true rfl⟩ dO_init_15 (fun q2 H hG => ?_)
  have hG : CW G [(h0, .inr (2, [.ref q1, .null, .int 0])), (q1, eI G 6 zf0), (q2, eI G 6 zf0)] A s.heap H _ := hG
  refine kPutF C hG 0 rfl fiO_1 tokO nmO rfl rfl rfl rfl (Nat.le_of_ble_eq_true rfl) k_102 dO_init_17 [(h0, .inr (2, [.ref q1, .ref q2, .int 0])), (q1, eI G 6 zf0), (q2, eI G 6 zf0)] rfl (fun H locs hG => ?_)
  subst hAe
  exact kRet C hG (q1, q2) rfl dO_init_20
abbrev rmH_init : Room := { frames := 1, cells := 1, slots := 40, locals := 40 }
theorem dH_init_0 : decode bH_init 0 = .ok (.aload_n 0, 1) := by decide +kernel
theorem dH_init_1 : decode bH_init 1 = .ok (.invokespecial 3, 3) := by decide +kernel
theorem dH_init_4 : decode bH_init 4 = .ok (.aload_n 0, 1) := by decide +kernel
theorem dH_init_5 : decode bH_init 5 = .ok (.bipush 40, 2) := by decide +kernel
theorem dH_init_7 : decode bH_init 7 = .ok (.newarray .int, 2) := by decide +kernel
theorem dH_init_9 : decode bH_init 9 = .ok (.putfield 9, 3) := by decide +kernel
theorem dH_init_12 : decode bH_init 12 = .ok (.aload_n 0, 1) := by decide +kernel
theorem dH_init_13 : decode bH_init 13 = .ok (.iconst (-1), 1) := by decide +kernel
theorem dH_init_14 : decode bH_init 14 = .ok (.putfield 15, 3) := by decide +kernel
theorem dH_init_17 : decode bH_init 17 = .ok (.return_, 1) := by decide +kernel
def oH (G : GT) (h0 : Nat) (u : Nat) : va_W := [(h0, .inr (5, [.ref u, .int (-1), .int 0])), (u, eI G 40 zf0)]
set_option maxRecDepth 20000 in
theorem cH_init (l : Launch) (G : GT) (h0 sz : Nat) : Mk l yH_init rmH_init bH_init 1 G [(h0, .inr (5, [.null, .int 0, .int 0]))] sz [.ref h0] (oH G h0) := by
  refine entK (by decide +kernel) (Nat.le_of_ble_eq_true rfl) rfl ?_
  intro p e s m below meth c hz C hA hG ls hl
  generalize hAe : va_A [(h0, .inr (5, [.null, .int 0, .int 0]))] sz = A at hA hG ⊢
  have hl : lv_has ls 1 [(0, .ref h0)] := hl
  refine lv_aload_n C.1 C.2.1 dH_init_0 rfl (lv_at hl 0 rfl) ?_
  refine kObj C k_mo_H k_oi k_oc hl.1 dH_init_1 (Nat.le_of_ble_eq_true rfl) (Nat.le_of_ble_eq_true rfl) ?_
  refine lv_aload_n C.1 C.2.1 dH_init_4 rfl (lv_at hl 0 rfl) ?_
  refine lv_bipush (v := 40) C.1 C.2.1 dH_init_5 (by decide) ?_
  refine kNewI C hA hG k_arr (N := 40) (by decide) (by decide) (Nat.le_of_ble_eq_true rfl) ⟨Nat.le_of_ble_eq_true rfl, Nat.le_of_ble_eq_true rfl⟩ dH_init_7 (fun q1 H hG => ?_)
  have hG : CW G [(h0, .inr (5, [.null, .int 0, .int 0])), (q1, eI G 40 zf0)] A s.heap H _ := hG
  refine kPutF C hG 0 rfl fiH_0 tokH nmH rfl rfl rfl rfl (Nat.le_of_ble_eq_true rfl) k_117 dH_init_9 [(h0, .inr (5, [.ref q1, .int 0, .int 0])), (q1, eI G 40 zf0)] rfl (fun H locs hG => ?_)
  refine lv_aload_n C.1 C.2.1 dH_init_12 rfl (lv_at hl 0 rfl) ?_
  refine lv_iconst (v := (-1)) C.1 C.2.1 dH_init_13 (by decide) ?_
  refine kPut C hG 0 rfl fiH_1 tokH nmH rfl rfl rfl (Nat.le_of_ble_eq_true rfl) k_119 dH_init_14 [(h0, .inr (5, [.ref q1, .int (-1), .int 0])), (q1, eI G 40 zf0)] rfl (fun H locs hG => ?_)
  subst hAe
  exact kRet C hG (q1) rfl dH_init_17
abbrev rmR_init : Room := { frames := 1, cells := 10, slots := 58, locals := 40 }
theorem dR_init_0 : decode bR_init 0 = .ok (.aload_n 0, 1) := by decide +kernel
theorem dR_init_1 : decode bR_init 1 = .ok (.invokespecial 3, 3) := by decide +kernel
theorem dR_init_4 : decode bR_init 4 = .ok (.aload_n 0, 1) := by decide +kernel
theorem dR_init_5 : decode bR_init 5 = .ok (.iconst 5, 1) := by decide +kernel
theorem dR_init_6 : decode bR_init 6 = .ok (.newarray .int, 2) := by decide +kernel
theorem dR_init_8 : decode bR_init 8 = .ok (.dup, 1) := by decide +kernel
theorem dR_init_9 : decode bR_init 9 = .ok (.iconst 0, 1) := by decide +kernel
theorem dR_init_10 : decode bR_init 10 = .ok (.iconst 2, 1) := by decide +kernel
theorem dR_init_11 : decode bR_init 11 = .ok (.iastore, 1) := by decide +kernel
theorem dR_init_12 : decode bR_init 12 = .ok (.dup, 1) := by decide +kernel
theorem dR_init_13 : decode bR_init 13 = .ok (.iconst 1, 1) := by decide +kernel
theorem dR_init_14 : decode bR_init 14 = .ok (.iconst 0, 1) := by decide +kernel
theorem dR_init_15 : decode bR_init 15 = .ok (.iastore, 1) := by decide +kernel
theorem dR_init_16 : decode bR_init 16 = .ok (.dup, 1) := by decide +kernel
theorem dR_init_17 : decode bR_init 17 = .ok (.iconst 2, 1) := by decide +kernel
theorem dR_init_18 : decode bR_init 18 = .ok (.iconst 3, 1) := by decide +kernel
theorem dR_init_19 : decode bR_init 19 = .ok (.iastore, 1) := by decide +kernel
theorem dR_init_20 : decode bR_init 20 = .ok (.dup, 1) := by decide +kernel
theorem dR_init_21 : decode bR_init 21 = .ok (.iconst 3, 1) := by decide +kernel
theorem dR_init_22 : decode bR_init 22 = .ok (.iconst 0, 1) := by decide +kernel
theorem dR_init_23 : decode bR_init 23 = .ok (.iastore, 1) := by decide +kernel
theorem dR_init_24 : decode bR_init 24 = .ok (.dup, 1) := by decide +kernel
theorem dR_init_25 : decode bR_init 25 = .ok (.iconst 4, 1) := by decide +kernel
theorem dR_init_26 : decode bR_init 26 = .ok (.iconst 0, 1) := by decide +kernel
theorem dR_init_27 : decode bR_init 27 = .ok (.iastore, 1) := by decide +kernel
theorem dR_init_28 : decode bR_init 28 = .ok (.putfield 9, 3) := by decide +kernel
theorem dR_init_31 : decode bR_init 31 = .ok (.aload_n 0, 1) := by decide +kernel
theorem dR_init_32 : decode bR_init 32 = .ok (.iconst 5, 1) := by decide +kernel
theorem dR_init_33 : decode bR_init 33 = .ok (.bipush 6, 2) := by decide +kernel
theorem dR_init_35 : decode bR_init 35 = .ok (.multianewarray 15 2, 4) := by decide +kernel
theorem dR_init_39 : decode bR_init 39 = .ok (.putfield 17, 3) := by decide +kernel
theorem dR_init_42 : decode bR_init 42 = .ok (.aload_n 0, 1) := by decide +kernel
theorem dR_init_43 : decode bR_init 43 = .ok (.bipush 6, 2) := by decide +kernel
theorem dR_init_45 : decode bR_init 45 = .ok (.newarray .int, 2) := by decide +kernel
theorem dR_init_47 : decode bR_init 47 = .ok (.putfield 20, 3) := by decide +kernel
theorem dR_init_50 : decode bR_init 50 = .ok (.aload_n 0, 1) := by decide +kernel
theorem dR_init_51 : decode bR_init 51 = .ok (.bipush 6, 2) := by decide +kernel
theorem dR_init_53 : decode bR_init 53 = .ok (.newarray .int, 2) := by decide +kernel
theorem dR_init_55 : decode bR_init 55 = .ok (.putfield 23, 3) := by decide +kernel
theorem dR_init_58 : decode bR_init 58 = .ok (.aload_n 0, 1) := by decide +kernel
theorem dR_init_59 : decode bR_init 59 = .ok (.bipush 6, 2) := by decide +kernel
theorem dR_init_61 : decode bR_init 61 = .ok (.newarray .int, 2) := by decide +kernel
theorem dR_init_63 : decode bR_init 63 = .ok (.putfield 26, 3) := by decide +kernel
theorem dR_init_66 : decode bR_init 66 = .ok (.aload_n 0, 1) := by decide +kernel
theorem dR_init_67 : decode bR_init 67 = .ok (.aload_n 1, 1) := by decide +kernel
theorem dR_init_68 : decode bR_init 68 = .ok (.putfield 29, 3) := by decide +kernel
theorem dR_init_71 : decode bR_init 71 = .ok (.return_, 1) := by decide +kernel
def oR (G : GT) (h0 : Nat) (t0 : Nat) (u : Nat × Nat × Nat × Nat × Nat × Nat × Nat × Nat × Nat × Nat) : va_W := [(h0, .inr (4, [.ref t0, .ref u.1, .ref u.2.1, .int 0, .int 0, .ref u.2.2.2.2.2.2.2.1, .int 0, .ref u.2.2.2.2.2.2.2.2.1, .ref u.2.2.2.2.2.2.2.2.2])), (u.1, eI G 5 (upd (upd (upd (upd (upd zf0 0 2) 1 0) 2 3) 3 0) 4 0)), (u.2.1, eQ (gF G) 5 (fun i => ([u.2.2.1, u.2.2.2.1, u.2.2.2.2.1, u.2.2.2.2.2.1, u.2.2.2.2.2.2.1] : List Nat)[i]?)), (u.2.2.1, eI G 6 zf0), (u.2.2.2.1, eI G 6 zf0), (u.2.2.2.2.1, eI G 6 zf0), (u.2.2.2.2.2.1, eI G 6 zf0), (u.2.2.2.2.2.2.1, eI G 6 zf0), (u.2.2.2.2.2.2.2.1, eI G 6 zf0), (u.2.2.2.2.2.2.2.2.1, eI G 6 zf0), (u.2.2.2.2.2.2.2.2.2, eI G 6 zf0)]
set_option maxRecDepth 20000 in
theorem cR_init (l : Launch) (G : GT) (h0 sz : Nat) (t0 : Nat) : Mk l yR_init rmR_init bR_init 2 G [(h0, .inr (4, [.null, .null, .null, .int 0, .int 0, .null, .int 0, .null, .null]))] sz [.ref h0, .ref t0] (oR G h0 t0) := by
  refine entK (by decide +kernel) (Nat.le_of_ble_eq_true rfl) rfl ?_
  intro p e s m below meth c hz C hA hG ls hl
  generalize hAe : va_A [(h0, .inr (4, [.null, .null, .null, .int 0, .int 0, .null, .int 0, .null, .null]))] sz = A at hA hG ⊢
  have hl : lv_has ls 2 [(0, .ref h0), (1, .ref t0)] := hl
  refine lv_aload_n C.1 C.2.1 dR_init_0 rfl (lv_at hl 0 rfl) ?_
  refine kObj C k_mo_R k_oi k_oc hl.1 dR_init_1 (Nat.le_of_ble_eq_true rfl) (Nat.le_of_ble_eq_true rfl) ?_
  refine lv_aload_n C.1 C.2.1 dR_init_4 rfl (lv_at hl 0 rfl) ?_
  refine lv_iconst (v := 5) C.1 C.2.1 dR_init_5 (by decide) ?_
  refine kNewI C hA hG k_arr (N := 5) (by decide) (by decide) (Nat.le_of_ble_eq_true rfl) ⟨Nat.le_of_ble_eq_true rfl, Nat.le_of_ble_eq_true rfl⟩ dR_init_6 (fun q1 H hG => ?_)
  have hG : CW G [(h0, .inr (4, [.null, .null, .null, .int 0, .int 0, .null, .int 0, .null, .null])), (q1, eI G 5 zf0)] A s.heap H _ := hG
  refine lv_dup C.1 C.2.1 dR_init_8 rfl ?_
  refine lv_iconst (v := 0) C.1 C.2.1 dR_init_9 (by decide) ?_
  refine lv_iconst (v := 2) C.1 C.2.1 dR_init_10 (by decide) ?_
  refine kIast C hG 1 rfl 0 (by decide) (by decide) dR_init_11 [(h0, .inr (4, [.null, .null, .null, .int 0, .int 0, .null, .int 0, .null, .null])), (q1, eI G 5 (upd zf0 0 2))] rfl (fun H locs hG => ?_)
  refine lv_dup C.1 C.2.1 dR_init_12 rfl ?_
  refine lv_iconst (v := 1) C.1 C.2.1 dR_init_13 (by decide) ?_
  refine lv_iconst (v := 0) C.1 C.2.1 dR_init_14 (by decide) ?_
  refine kIast C hG 1 rfl 1 (by decide) (by decide) dR_init_15 [(h0, .inr (4, [.null, .null, .null, .int 0, .int 0, .null, .int 0, .null, .null])), (q1, eI G 5 (upd (upd zf0 0 2) 1 0))] rfl (fun H locs hG => ?_)
  refine lv_dup C.1 C.2.1 dR_init_16 rfl ?_
  refine lv_iconst (v := 2) C.1 C.2.1 dR_init_17 (by decide) ?_
  refine lv_iconst (v := 3) C.1 C.2.1 dR_init_18 (by decide) ?_
  refine kIast C hG 1 rfl 2 (by decide) (by decide) dR_init_19 [(h0, .inr (4, [.null, .null, .null, .int 0, .int 0, .null, .int 0, .null, .null])), (q1, eI G 5 (upd (upd (upd zf0 0 2) 1 0) 2 3))] rfl (fun H locs hG => ?_)
  refine lv_dup C.1 C.2.1 dR_init_20 rfl ?_
  refine lv_iconst (v := 3) C.1 C.2.1 dR_init_21 (by decide) ?_
  refine lv_iconst (v := 0) C.1 C.2.1 dR_init_22 (by decide) ?_
  refine kIast C hG 1 rfl 3 (by decide) (by decide) dR_init_23 [(h0, .inr (4, [.null, .null, .null, .int 0, .int 0, .null, .int 0, .null, .null])), (q1, eI G 5 (upd (upd (upd (upd zf0 0 2) 1 0) 2 3) 3 0))] rfl (fun H locs hG => ?_)
  refine lv_dup C.1 C.2.1 dR_init_24 rfl ?_
  refine lv_iconst (v := 4) C.1 C.2.1 dR_init_25 (by decide) ?_
  refine lv_iconst (v := 0) C.1 C.2.1 dR_init_26 (by decide) ?_
  refine kIast C hG 1 rfl 4 (by decide) (by decide) dR_init_27 [(h0, .inr (4, [.null, .null, .null, .int 0, .int 0, .null, .int 0, .null, .null])), (q1, eI G 5 (upd (upd (upd (upd (upd zf0 0 2) 1 0) 2 3) 3 0) 4 0))] rfl (fun H locs hG => ?_)
  refine kPutF C hG 0 rfl fiR_1 tokR nmR rfl rfl rfl rfl (Nat.le_of_ble_eq_true rfl) k_139 dR_init_28 [(h0, .inr (4, [.null, .ref q1, .null, .int 0, .int 0, .null, .int 0, .null, .null])), (q1, eI G 5 (upd (upd (upd (upd (upd zf0 0 2) 1 0) 2 3) 3 0) 4 0))] rfl (fun H locs hG => ?_)
  refine lv_aload_n C.1 C.2.1 dR_init_31 rfl (lv_at hl 0 rfl) ?_
  refine lv_iconst (v := 5) C.1 C.2.1 dR_init_32 (by decide) ?_
  refine lv_bipush (v := 6) C.1 C.2.1 dR_init_33 (by decide) ?_
  refine kMna C hA hG k_cl_R_15 k_arr ⟨Nat.le_of_ble_eq_true rfl, Nat.le_of_ble_eq_true rfl⟩ dR_init_35 (fun q2 q3 q4 q5 q6 q7 H hG => ?_)
  have hG : CW G [(h0, .inr (4, [.null, .ref q1, .null, .int 0, .int 0, .null, .int 0, .null, .null])), (q1, eI G 5 (upd (upd (upd (upd (upd zf0 0 2) 1 0) 2 3) 3 0) 4 0)), (q2, eQ (gF G) 5 (fun i => ([q3, q4, q5, q6, q7] : List Nat)[i]?)), (q3, eI G 6 zf0), (q4, eI G 6 zf0), (q5, eI G 6 zf0), (q6, eI G 6 zf0), (q7, eI G 6 zf0)] A s.heap H _ := hG
  refine kPutF C hG 0 rfl fiR_2 tokR nmR rfl rfl rfl rfl (Nat.le_of_ble_eq_true rfl) k_141 dR_init_39 [(h0, .inr (4, [.null, .ref q1, .ref q2, .int 0, .int 0, .null, .int 0, .null, .null])), (q1, eI G 5 (upd (upd (upd (upd (upd zf0 0 2) 1 0) 2 3) 3 0) 4 0)), (q2, eQ (gF G) 5 (fun i => ([q3, q4, q5, q6, q7] : List Nat)[i]?)), (q3, eI G 6 zf0), (q4, eI G 6 zf0), (q5, eI G 6 zf0), (q6, eI G 6 zf0), (q7, eI G 6 zf0)] rfl (fun H locs hG => ?_)
  refine lv_aload_n C.1 C.2.1 dR_init_42 rfl (lv_at hl 0 rfl) ?_
  refine lv_bipush (v := 6) C.1 C.2.1 dR_init_43 (by decide) ?_
  refine kNewI C hA hG k_arr (N := 6) (by decide) (by decide) (Nat.le_of_ble_eq_true rfl) ⟨Nat.le_of_ble_eq_true rfl, Nat.le_of_ble_eq_true rfl⟩ dR_init_45 (fun q8 H hG => ?_)
  have hG : CW G [(h0, .inr (4, [.null, .ref q1, .ref q2, .int 0, .int 0, .null, .int 0, .null, .null])), (q1, eI G 5 (upd (upd (upd (upd (upd zf0 0 2) 1 0) 2 3) 3 0) 4 0)), (q2, eQ (gF G) 5 (fun i => ([q3, q4, q5, q6, q7] : List Nat)[i]?)), (q3, eI G 6 zf0), (q4, eI G 6 zf0), (q5, eI G 6 zf0), (q6, eI G 6 zf0), (q7, eI G 6 zf0), (q8, eI G 6 zf0)] A s.heap H _ := hG
  refine kPutF C hG 0 rfl fiR_5 tokR nmR rfl rfl rfl rfl (Nat.le_of_ble_eq_true rfl) k_148 dR_init_47 [(h0, .inr (4, [.null, .ref q1, .ref q2, .int 0, .int 0, .ref q8, .int 0, .null, .null])), (q1, eI G 5 (upd (upd (upd (upd (upd zf0 0 2) 1 0) 2 3) 3 0) 4 0)), (q2, eQ (gF G) 5 (fun i => ([q3, q4, q5, q6, q7] : List Nat)[i]?)), (q3, eI G 6 zf0), (q4, eI G 6 zf0), (q5, eI G 6 zf0), (q6, eI G 6 zf0), (q7, eI G 6 zf0), (q8, eI G 6 zf0)] rfl (fun H locs hG => ?_)
  refine lv_aload_n C.1 C.2.1 dR_init_50 rfl (lv_at hl 0 rfl) ?_
  refine lv_bipush (v := 6) C.1 C.2.1 dR_init_51 (by decide) ?_
  refine kNewI C hA hG k_arr (N := 6) (by decide) (by decide) (Nat.le_of_ble_eq_true rfl) ⟨Nat.le_of_ble_eq_true rfl, Nat.le_of_ble_eq_true rfl⟩ dR_init_53 (fun q9 H hG => ?_)
  have hG : CW G [(h0, .inr (4, [.null, .ref q1, .ref q2, .int 0, .int 0, .ref q8, .int 0, .null, .null])), (q1, eI G 5 (upd (upd (upd (upd (upd zf0 0 2) 1 0) 2 3) 3 0) 4 0)), (q2, eQ (gF G) 5 (fun i => ([q3, q4, q5, q6, q7] : List Nat)[i]?)), (q3, eI G 6 zf0), (q4, eI G 6 zf0), (q5, eI G 6 zf0), (q6, eI G 6 zf0), (q7, eI G 6 zf0), (q8, eI G 6 zf0), (q9, eI G 6 zf0)] A s.heap H _ := hG
  refine kPutF C hG 0 rfl fiR_7 tokR nmR rfl rfl rfl rfl (Nat.le_of_ble_eq_true rfl) k_151 dR_init_55 [(h0, .inr (4, [.null, .ref q1, .ref q2, .int 0, .int 0, .ref q8, .int 0, .ref q9, .null])), (q1, eI G 5 (upd (upd (upd (upd (upd zf0 0 2) 1 0) 2 3) 3 0) 4 0)), (q2, eQ (gF G) 5 (fun i => ([q3, q4, q5, q6, q7] : List Nat)[i]?)), (q3, eI G 6 zf0), (q4, eI G 6 zf0), (q5, eI G 6 zf0), (q6, eI G 6 zf0), (q7, eI G 6 zf0), (q8, eI G 6 zf0), (q9, eI G 6 zf0)] rfl (fun H locs hG => ?_)
  refine lv_aload_n C.1 C.2.1 dR_init_58 rfl (lv_at hl 0 rfl) ?_
  refine lv_bipush (v := 6) C.1 C.2.1 dR_init_59 (by decide) ?_
  refine kNewI C hA hG k_arr (N := 6) (by decide) (by decide) (Nat.le_of_ble_eq_true rfl) ⟨Nat.le_of_ble_eq_true rfl, Nat.le_of_ble_eq_true rfl⟩ dR_init_61 (fun q10 H hG => ?_)
  have hG : CW G [(h0, .inr (4, [.null, .ref q1, .ref q2, .int 0, .int 0, .ref q8, .int 0, .ref q9, .null])), (q1, eI G 5 (upd (upd (upd (upd (upd zf0 0 2) 1 0) 2 3) 3 0) 4 0)), (q2, eQ (gF G) 5 (fun i => ([q3, q4, q5, q6, q7] : List Nat)[i]?)), (q3, eI G 6 zf0), (q4, eI G 6 zf0), (q5, eI G 6 zf0), (q6, eI G 6 zf0), (q7, eI G 6 zf0), (q8, eI G 6 zf0), (q9, eI G 6 zf0), (q10, eI G 6 zf0)] A s.heap H _ := hG
  refine kPutF C hG 0 rfl fiR_8 tokR nmR rfl rfl rfl rfl (Nat.le_of_ble_eq_true rfl) k_152 dR_init_63 [(h0, .inr (4, [.null, .ref q1, .ref q2, .int 0, .int 0, .ref q8, .int 0, .ref q9, .ref q10])), (q1, eI G 5 (upd (upd (upd (upd (upd zf0 0 2) 1 0) 2 3) 3 0) 4 0)), (q2, eQ (gF G) 5 (fun i => ([q3, q4, q5, q6, q7] : List Nat)[i]?)), (q3, eI G 6 zf0), (q4, eI G 6 zf0), (q5, eI G 6 zf0), (q6, eI G 6 zf0), (q7, eI G 6 zf0), (q8, eI G 6 zf0), (q9, eI G 6 zf0), (q10, eI G 6 zf0)] rfl (fun H locs hG => ?_)
  refine lv_aload_n C.1 C.2.1 dR_init_66 rfl (lv_at hl 0 rfl) ?_
  refine lv_aload_n C.1 C.2.1 dR_init_67 rfl (lv_at hl 1 rfl) ?_
  refine kPutF C hG 0 rfl fiR_0 tokR nmR rfl rfl rfl rfl (Nat.le_of_ble_eq_true rfl) k_138 dR_init_68 [(h0, .inr (4, [.ref t0, .ref q1, .ref q2, .int 0, .int 0, .ref q8, .int 0, .ref q9, .ref q10])), (q1, eI G 5 (upd (upd (upd (upd (upd zf0 0 2) 1 0) 2 3) 3 0) 4 0)), (q2, eQ (gF G) 5 (fun i => ([q3, q4, q5, q6, q7] : List Nat)[i]?)), (q3, eI G 6 zf0), (q4, eI G 6 zf0), (q5, eI G 6 zf0), (q6, eI G 6 zf0), (q7, eI G 6 zf0), (q8, eI G 6 zf0), (q9, eI G 6 zf0), (q10, eI G 6 zf0)] rfl (fun H locs hG => ?_)
  subst hAe
  exact kRet C hG (q1, q2, q3, q4, q5, q6, q7, q8, q9, q10) rfl dR_init_71
abbrev rmD_init : Room := { frames := 2, cells := 5, slots := 487, locals := 60 }
theorem dD_init_0 : decode bD_init 0 = .ok (.aload_n 0, 1) := by decide +kernel
theorem dD_init_1 : decode bD_init 1 = .ok (.invokespecial 3, 3) := by decide +kernel
theorem dD_init_4 : decode bD_init 4 = .ok (.aload_n 0, 1) := by decide +kernel
theorem dD_init_5 : decode bD_init 5 = .ok (.new 9, 3) := by decide +kernel
theorem dD_init_8 : decode bD_init 8 = .ok (.dup, 1) := by decide +kernel
theorem dD_init_9 : decode bD_init 9 = .ok (.invokespecial 11, 3) := by decide +kernel
theorem dD_init_12 : decode bD_init 12 = .ok (.putfield 12, 3) := by decide +kernel
theorem dD_init_15 : decode bD_init 15 = .ok (.aload_n 0, 1) := by decide +kernel
theorem dD_init_16 : decode bD_init 16 = .ok (.sipush 160, 3) := by decide +kernel
theorem dD_init_19 : decode bD_init 19 = .ok (.newarray .int, 2) := by decide +kernel
theorem dD_init_21 : decode bD_init 21 = .ok (.putfield 18, 3) := by decide +kernel
theorem dD_init_24 : decode bD_init 24 = .ok (.return_, 1) := by decide +kernel
def oD (G : GT) (h0 : Nat) (u : Nat × Nat × Nat × Nat × Nat) : va_W := [(h0, .inr (3, [.ref u.1, .int 0, .ref u.2.2.2.2, .int 0, .int 0, .int 0, .int 0, .int 0])), (u.1, .inr (1, [.ref u.2.1, .ref u.2.2.1, .ref u.2.2.2.1, .int 0])), (u.2.1, eI G 160 zf0), (u.2.2.1, eI G 3 zf0), (u.2.2.2.1, eI G 160 zf0), (u.2.2.2.2, eI G 160 zf0)]
set_option maxRecDepth 20000 in
theorem cD_init (l : Launch) (G : GT) (h0 sz : Nat) : Mk l yD_init rmD_init bD_init 1 G [(h0, .inr (3, [.null, .int 0, .null, .int 0, .int 0, .int 0, .int 0, .int 0]))] sz [.ref h0] (oD G h0) := by
  refine entK (by decide +kernel) (Nat.le_of_ble_eq_true rfl) rfl ?_
  intro p e s m below meth c hz C hA hG ls hl
  generalize hAe : va_A [(h0, .inr (3, [.null, .int 0, .null, .int 0, .int 0, .int 0, .int 0, .int 0]))] sz = A at hA hG ⊢
  have hl : lv_has ls 1 [(0, .ref h0)] := hl
  refine lv_aload_n C.1 C.2.1 dD_init_0 rfl (lv_at hl 0 rfl) ?_
  refine kObj C k_mo_D k_oi k_oc hl.1 dD_init_1 (Nat.le_of_ble_eq_true rfl) (Nat.le_of_ble_eq_true rfl) ?_
  refine lv_aload_n C.1 C.2.1 dD_init_4 rfl (lv_at hl 0 rfl) ?_
  refine kNew C hA hG (ci := 1) rfl inL tokL k_cl_D_9 k_ins_L k_ini_L [.null, .null, .null, .int 0] (fun j hj => by rcases (show j = 0 ∨ j = 1 ∨ j = 2 ∨ j = 3 by omega) with rfl | rfl | rfl | rfl <;> rfl) ⟨Nat.le_of_ble_eq_true rfl, Nat.le_of_ble_eq_true rfl⟩ dD_init_5 (fun q1 H hG => ?_)
  have hG : CW G [(h0, .inr (3, [.null, .int 0, .null, .int 0, .int 0, .int 0, .int 0, .int 0])), (q1, .inr (1, [.null, .null, .null, .int 0]))] A s.heap H _ := hG
  refine lv_dup C.1 C.2.1 dD_init_8 rfl ?_
  refine kCallN [] [.ref q1, .ref h0] C hA hG [1] [0] (cL_init l G q1 H.size) k_co_L k_ini_L k_in_L rfl ⟨by decide, by decide, by decide +kernel⟩ C.2.2.2.2.2.2.2.1.2.1.2.1 ⟨Nat.le_of_ble_eq_true rfl, Nat.le_of_ble_eq_true rfl⟩ rfl hl.1 (Nat.le_of_ble_eq_true rfl) dD_init_9 ⟨Nat.le_of_ble_eq_true rfl, Nat.le_of_ble_eq_true rfl⟩ rfl [(h0, .inr (3, [.null, .int 0, .null, .int 0, .int 0, .int 0, .int 0, .int 0]))] rfl rfl rfl rfl (by decide) rfl (fun u H locs hG => ?_)
  obtain ⟨q2, q3, q4⟩ := u
  have hG : CW G [(h0, .inr (3, [.null, .int 0, .null, .int 0, .int 0, .int 0, .int 0, .int 0])), (q1, .inr (1, [.ref q2, .ref q3, .ref q4, .int 0])), (q2, eI G 160 zf0), (q3, eI G 3 zf0), (q4, eI G 160 zf0)] A s.heap H _ := hG
  refine kPutF C hG 0 rfl fiD_0 tokD nmD rfl rfl rfl rfl (Nat.le_of_ble_eq_true rfl) k_55 dD_init_12 [(h0, .inr (3, [.ref q1, .int 0, .null, .int 0, .int 0, .int 0, .int 0, .int 0])), (q1, .inr (1, [.ref q2, .ref q3, .ref q4, .int 0])), (q2, eI G 160 zf0), (q3, eI G 3 zf0), (q4, eI G 160 zf0)] rfl (fun H locs hG => ?_)
  refine lv_aload_n C.1 C.2.1 dD_init_15 rfl (lv_at hl 0 rfl) ?_
  refine lv_sipush (v := 160) C.1 C.2.1 dD_init_16 (by decide) ?_
  refine kNewI C hA hG k_arr (N := 160) (by decide) (by decide) (Nat.le_of_ble_eq_true rfl) ⟨Nat.le_of_ble_eq_true rfl, Nat.le_of_ble_eq_true rfl⟩ dD_init_19 (fun q5 H hG => ?_)
  have hG : CW G [(h0, .inr (3, [.ref q1, .int 0, .null, .int 0, .int 0, .int 0, .int 0, .int 0])), (q1, .inr (1, [.ref q2, .ref q3, .ref q4, .int 0])), (q2, eI G 160 zf0), (q3, eI G 3 zf0), (q4, eI G 160 zf0), (q5, eI G 160 zf0)] A s.heap H _ := hG
  refine kPutF C hG 0 rfl fiD_2 tokD nmD rfl rfl rfl rfl (Nat.le_of_ble_eq_true rfl) k_59 dD_init_21 [(h0, .inr (3, [.ref q1, .int 0, .ref q5, .int 0, .int 0, .int 0, .int 0, .int 0])), (q1, .inr (1, [.ref q2, .ref q3, .ref q4, .int 0])), (q2, eI G 160 zf0), (q3, eI G 3 zf0), (q4, eI G 160 zf0), (q5, eI G 160 zf0)] rfl (fun H locs hG => ?_)
  subst hAe
  exact kRet C hG (q1, q2, q3, q4, q5) rfl dD_init_24
