section
-- ===== PART A: goes FIRST, ahead of the names: the tables' words, and 'selects' of the private methods out of them =====
/-- a private method of a class that the tables say can be made, by its rows of tables_1 -/
def lw_okq (q : MethodName × Nat) : Prop := (q.1.cls ≠ "java/lang/invoke/MethodHandle" ∧ q.1.cls ≠ "java/lang/invoke/VarHandle") ∧ Cond.instantiable q.1.cls q.2 ∈ tables_1 ∧ Cond.privateMethod q.1 ∈ tables_1 ∧ Cond.instanceMethod q.1 ∈ tables_1
theorem lw_p0 : lw_okq (⟨"ScythesKeepStep$Reader", "advance", "()V"⟩, 8) := ⟨⟨by decide +kernel, by decide +kernel⟩, List.mem_of_getElem? (i := 30) (by decide +kernel), List.mem_of_getElem? (i := 234) (by decide +kernel), List.mem_of_getElem? (i := 235) (by decide +kernel)⟩
theorem lw_p1 : lw_okq (⟨"ScythesKeepStep$Reader", "advanceWord", "()V"⟩, 8) := ⟨⟨by decide +kernel, by decide +kernel⟩, List.mem_of_getElem? (i := 30) (by decide +kernel), List.mem_of_getElem? (i := 241) (by decide +kernel), List.mem_of_getElem? (i := 242) (by decide +kernel)⟩
theorem lw_p2 : lw_okq (⟨"ScythesKeepStep$Reader", "isWordAt", "(II)Z"⟩, 8) := ⟨⟨by decide +kernel, by decide +kernel⟩, List.mem_of_getElem? (i := 30) (by decide +kernel), List.mem_of_getElem? (i := 248) (by decide +kernel), List.mem_of_getElem? (i := 249) (by decide +kernel)⟩
theorem lw_p3 : lw_okq (⟨"ScythesKeepStep$Reader", "advanceNumber", "()V"⟩, 8) := ⟨⟨by decide +kernel, by decide +kernel⟩, List.mem_of_getElem? (i := 30) (by decide +kernel), List.mem_of_getElem? (i := 255) (by decide +kernel), List.mem_of_getElem? (i := 256) (by decide +kernel)⟩
theorem lw_p4 : lw_okq (⟨"ScythesKeepStep$Reader", "expect", "(I)V"⟩, 8) := ⟨⟨by decide +kernel, by decide +kernel⟩, List.mem_of_getElem? (i := 30) (by decide +kernel), List.mem_of_getElem? (i := 319) (by decide +kernel), List.mem_of_getElem? (i := 320) (by decide +kernel)⟩
theorem lw_p5 : lw_okq (⟨"ScythesKeepStep$Reader", "fail", "()V"⟩, 8) := ⟨⟨by decide +kernel, by decide +kernel⟩, List.mem_of_getElem? (i := 30) (by decide +kernel), List.mem_of_getElem? (i := 323) (by decide +kernel), List.mem_of_getElem? (i := 324) (by decide +kernel)⟩
theorem lw_p6 : lw_okq (⟨"ScythesKeepStep$Reader", "readEither", "(I)V"⟩, 8) := ⟨⟨by decide +kernel, by decide +kernel⟩, List.mem_of_getElem? (i := 30) (by decide +kernel), List.mem_of_getElem? (i := 327) (by decide +kernel), List.mem_of_getElem? (i := 328) (by decide +kernel)⟩
theorem lw_p7 : lw_okq (⟨"ScythesKeepStep$Reader", "readBoth", "(I)V"⟩, 8) := ⟨⟨by decide +kernel, by decide +kernel⟩, List.mem_of_getElem? (i := 30) (by decide +kernel), List.mem_of_getElem? (i := 331) (by decide +kernel), List.mem_of_getElem? (i := 332) (by decide +kernel)⟩
theorem lw_p8 : lw_okq (⟨"ScythesKeepStep$Reader", "readNot", "(I)V"⟩, 8) := ⟨⟨by decide +kernel, by decide +kernel⟩, List.mem_of_getElem? (i := 30) (by decide +kernel), List.mem_of_getElem? (i := 335) (by decide +kernel), List.mem_of_getElem? (i := 336) (by decide +kernel)⟩
theorem lw_p9 : lw_okq (⟨"ScythesKeepStep$Reader", "opens", "(I)Z"⟩, 8) := ⟨⟨by decide +kernel, by decide +kernel⟩, List.mem_of_getElem? (i := 30) (by decide +kernel), List.mem_of_getElem? (i := 339) (by decide +kernel), List.mem_of_getElem? (i := 340) (by decide +kernel)⟩
theorem lw_p10 : lw_okq (⟨"ScythesKeepStep$Reader", "readSum", "(I)V"⟩, 8) := ⟨⟨by decide +kernel, by decide +kernel⟩, List.mem_of_getElem? (i := 30) (by decide +kernel), List.mem_of_getElem? (i := 347) (by decide +kernel), List.mem_of_getElem? (i := 348) (by decide +kernel)⟩
theorem lw_p11 : lw_okq (⟨"ScythesKeepStep$Reader", "readTerm", "(I)V"⟩, 8) := ⟨⟨by decide +kernel, by decide +kernel⟩, List.mem_of_getElem? (i := 30) (by decide +kernel), List.mem_of_getElem? (i := 351) (by decide +kernel), List.mem_of_getElem? (i := 352) (by decide +kernel)⟩
theorem lw_p12 : lw_okq (⟨"ScythesKeepStep$Reader", "readOne", "(I)V"⟩, 8) := ⟨⟨by decide +kernel, by decide +kernel⟩, List.mem_of_getElem? (i := 30) (by decide +kernel), List.mem_of_getElem? (i := 355) (by decide +kernel), List.mem_of_getElem? (i := 356) (by decide +kernel)⟩
theorem lw_p13 : lw_okq (⟨"ScythesKeepStep$Row", "seenAt", "(I)I"⟩, 9) := ⟨⟨by decide +kernel, by decide +kernel⟩, List.mem_of_getElem? (i := 131) (by decide +kernel), List.mem_of_getElem? (i := 461) (by decide +kernel), List.mem_of_getElem? (i := 462) (by decide +kernel)⟩
theorem lw_p14 : lw_okq (⟨"ScythesKeepStep", "comes", "(II)I"⟩, 10) := ⟨⟨by decide +kernel, by decide +kernel⟩, List.mem_of_getElem? (i := 18) (by decide +kernel), List.mem_of_getElem? (i := 479) (by decide +kernel), List.mem_of_getElem? (i := 480) (by decide +kernel)⟩
theorem lw_p15 : lw_okq (⟨"ScythesKeepStep", "happens", "(I)Z"⟩, 10) := ⟨⟨by decide +kernel, by decide +kernel⟩, List.mem_of_getElem? (i := 18) (by decide +kernel), List.mem_of_getElem? (i := 571) (by decide +kernel), List.mem_of_getElem? (i := 572) (by decide +kernel)⟩
def lw_privs_1 : List (MethodName × Nat) := [(⟨"ScythesKeepStep$Reader", "advance", "()V"⟩, 8), (⟨"ScythesKeepStep$Reader", "advanceWord", "()V"⟩, 8), (⟨"ScythesKeepStep$Reader", "isWordAt", "(II)Z"⟩, 8), (⟨"ScythesKeepStep$Reader", "advanceNumber", "()V"⟩, 8), (⟨"ScythesKeepStep$Reader", "expect", "(I)V"⟩, 8), (⟨"ScythesKeepStep$Reader", "fail", "()V"⟩, 8), (⟨"ScythesKeepStep$Reader", "readEither", "(I)V"⟩, 8), (⟨"ScythesKeepStep$Reader", "readBoth", "(I)V"⟩, 8), (⟨"ScythesKeepStep$Reader", "readNot", "(I)V"⟩, 8), (⟨"ScythesKeepStep$Reader", "opens", "(I)Z"⟩, 8), (⟨"ScythesKeepStep$Reader", "readSum", "(I)V"⟩, 8), (⟨"ScythesKeepStep$Reader", "readTerm", "(I)V"⟩, 8), (⟨"ScythesKeepStep$Reader", "readOne", "(I)V"⟩, 8), (⟨"ScythesKeepStep$Row", "seenAt", "(I)I"⟩, 9), (⟨"ScythesKeepStep", "comes", "(II)I"⟩, 10), (⟨"ScythesKeepStep", "happens", "(I)Z"⟩, 10)]
theorem lw_r1 : ∀ q ∈ lw_privs_1, lw_okq q := List.forall_mem_cons.mpr ⟨lw_p0, List.forall_mem_cons.mpr ⟨lw_p1, List.forall_mem_cons.mpr ⟨lw_p2, List.forall_mem_cons.mpr ⟨lw_p3, List.forall_mem_cons.mpr ⟨lw_p4, List.forall_mem_cons.mpr ⟨lw_p5, List.forall_mem_cons.mpr ⟨lw_p6, List.forall_mem_cons.mpr ⟨lw_p7, List.forall_mem_cons.mpr ⟨lw_p8, List.forall_mem_cons.mpr ⟨lw_p9, List.forall_mem_cons.mpr ⟨lw_p10, List.forall_mem_cons.mpr ⟨lw_p11, List.forall_mem_cons.mpr ⟨lw_p12, List.forall_mem_cons.mpr ⟨lw_p13, List.forall_mem_cons.mpr ⟨lw_p14, List.forall_mem_cons.mpr ⟨lw_p15, fun _ h => absurd h List.not_mem_nil⟩⟩⟩⟩⟩⟩⟩⟩⟩⟩⟩⟩⟩⟩⟩⟩
theorem lw_p16 : lw_okq (⟨"ScythesKeepStep$Orders", "swap", "(II)V"⟩, 3) := ⟨⟨by decide +kernel, by decide +kernel⟩, List.mem_of_getElem? (i := 96) (by decide +kernel), List.mem_of_getElem? (i := 628) (by decide +kernel), List.mem_of_getElem? (i := 629) (by decide +kernel)⟩
theorem lw_p17 : lw_okq (⟨"ScythesKeepStep", "refusalOfOne", "(II)I"⟩, 10) := ⟨⟨by decide +kernel, by decide +kernel⟩, List.mem_of_getElem? (i := 18) (by decide +kernel), List.mem_of_getElem? (i := 644) (by decide +kernel), List.mem_of_getElem? (i := 645) (by decide +kernel)⟩
theorem lw_p18 : lw_okq (⟨"ScythesKeepStep", "refusalOfTold", "(I)I"⟩, 10) := ⟨⟨by decide +kernel, by decide +kernel⟩, List.mem_of_getElem? (i := 18) (by decide +kernel), List.mem_of_getElem? (i := 648) (by decide +kernel), List.mem_of_getElem? (i := 649) (by decide +kernel)⟩
theorem lw_p19 : lw_okq (⟨"ScythesKeepStep", "firstOtherwise", "(II)I"⟩, 10) := ⟨⟨by decide +kernel, by decide +kernel⟩, List.mem_of_getElem? (i := 18) (by decide +kernel), List.mem_of_getElem? (i := 656) (by decide +kernel), List.mem_of_getElem? (i := 657) (by decide +kernel)⟩
theorem lw_p20 : lw_okq (⟨"ScythesKeepStep", "bitsOfFact", "(IIII)I"⟩, 10) := ⟨⟨by decide +kernel, by decide +kernel⟩, List.mem_of_getElem? (i := 18) (by decide +kernel), List.mem_of_getElem? (i := 664) (by decide +kernel), List.mem_of_getElem? (i := 665) (by decide +kernel)⟩
theorem lw_p21 : lw_okq (⟨"ScythesKeepStep", "bitsOfMark", "(III)I"⟩, 10) := ⟨⟨by decide +kernel, by decide +kernel⟩, List.mem_of_getElem? (i := 18) (by decide +kernel), List.mem_of_getElem? (i := 672) (by decide +kernel), List.mem_of_getElem? (i := 673) (by decide +kernel)⟩
theorem lw_p22 : lw_okq (⟨"ScythesKeepStepModel", "next", "()V"⟩, 34) := ⟨⟨by decide +kernel, by decide +kernel⟩, List.mem_of_getElem? (i := 754) (by decide +kernel), List.mem_of_getElem? (i := 764) (by decide +kernel), List.mem_of_getElem? (i := 765) (by decide +kernel)⟩
theorem lw_p23 : lw_okq (⟨"ScythesKeepStepModel", "wordFrom", "(II)I"⟩, 34) := ⟨⟨by decide +kernel, by decide +kernel⟩, List.mem_of_getElem? (i := 754) (by decide +kernel), List.mem_of_getElem? (i := 771) (by decide +kernel), List.mem_of_getElem? (i := 772) (by decide +kernel)⟩
theorem lw_p24 : lw_okq (⟨"ScythesKeepStepModel", "eRead", "()Z"⟩, 34) := ⟨⟨by decide +kernel, by decide +kernel⟩, List.mem_of_getElem? (i := 754) (by decide +kernel), List.mem_of_getElem? (i := 775) (by decide +kernel), List.mem_of_getElem? (i := 776) (by decide +kernel)⟩
theorem lw_p25 : lw_okq (⟨"ScythesKeepStepModel", "puts", "(I)V"⟩, 34) := ⟨⟨by decide +kernel, by decide +kernel⟩, List.mem_of_getElem? (i := 754) (by decide +kernel), List.mem_of_getElem? (i := 780) (by decide +kernel), List.mem_of_getElem? (i := 781) (by decide +kernel)⟩
theorem lw_p26 : lw_okq (⟨"ScythesKeepStepModel", "unwinds", "(I)V"⟩, 34) := ⟨⟨by decide +kernel, by decide +kernel⟩, List.mem_of_getElem? (i := 754) (by decide +kernel), List.mem_of_getElem? (i := 784) (by decide +kernel), List.mem_of_getElem? (i := 785) (by decide +kernel)⟩
theorem lw_p27 : lw_okq (⟨"ScythesKeepStepModel", "opensOne", "(I)Z"⟩, 34) := ⟨⟨by decide +kernel, by decide +kernel⟩, List.mem_of_getElem? (i := 754) (by decide +kernel), List.mem_of_getElem? (i := 791) (by decide +kernel), List.mem_of_getElem? (i := 792) (by decide +kernel)⟩
theorem lw_p28 : lw_okq (⟨"ScythesKeepStepModel", "holds", "(I)V"⟩, 34) := ⟨⟨by decide +kernel, by decide +kernel⟩, List.mem_of_getElem? (i := 754) (by decide +kernel), List.mem_of_getElem? (i := 795) (by decide +kernel), List.mem_of_getElem? (i := 796) (by decide +kernel)⟩
theorem lw_p29 : lw_okq (⟨"ScythesKeepStepModel", "signOf", "()I"⟩, 34) := ⟨⟨by decide +kernel, by decide +kernel⟩, List.mem_of_getElem? (i := 754) (by decide +kernel), List.mem_of_getElem? (i := 799) (by decide +kernel), List.mem_of_getElem? (i := 800) (by decide +kernel)⟩
theorem lw_p30 : lw_okq (⟨"ScythesKeepStepModel", "between", "(I)Z"⟩, 34) := ⟨⟨by decide +kernel, by decide +kernel⟩, List.mem_of_getElem? (i := 754) (by decide +kernel), List.mem_of_getElem? (i := 803) (by decide +kernel), List.mem_of_getElem? (i := 804) (by decide +kernel)⟩
theorem lw_p31 : lw_okq (⟨"ScythesKeepStepModel", "inStep", "()I"⟩, 34) := ⟨⟨by decide +kernel, by decide +kernel⟩, List.mem_of_getElem? (i := 754) (by decide +kernel), List.mem_of_getElem? (i := 914) (by decide +kernel), List.mem_of_getElem? (i := 915) (by decide +kernel)⟩
def lw_privs_2 : List (MethodName × Nat) := [(⟨"ScythesKeepStep$Orders", "swap", "(II)V"⟩, 3), (⟨"ScythesKeepStep", "refusalOfOne", "(II)I"⟩, 10), (⟨"ScythesKeepStep", "refusalOfTold", "(I)I"⟩, 10), (⟨"ScythesKeepStep", "firstOtherwise", "(II)I"⟩, 10), (⟨"ScythesKeepStep", "bitsOfFact", "(IIII)I"⟩, 10), (⟨"ScythesKeepStep", "bitsOfMark", "(III)I"⟩, 10), (⟨"ScythesKeepStepModel", "next", "()V"⟩, 34), (⟨"ScythesKeepStepModel", "wordFrom", "(II)I"⟩, 34), (⟨"ScythesKeepStepModel", "eRead", "()Z"⟩, 34), (⟨"ScythesKeepStepModel", "puts", "(I)V"⟩, 34), (⟨"ScythesKeepStepModel", "unwinds", "(I)V"⟩, 34), (⟨"ScythesKeepStepModel", "opensOne", "(I)Z"⟩, 34), (⟨"ScythesKeepStepModel", "holds", "(I)V"⟩, 34), (⟨"ScythesKeepStepModel", "signOf", "()I"⟩, 34), (⟨"ScythesKeepStepModel", "between", "(I)Z"⟩, 34), (⟨"ScythesKeepStepModel", "inStep", "()I"⟩, 34)]
theorem lw_r2 : ∀ q ∈ lw_privs_2, lw_okq q := List.forall_mem_cons.mpr ⟨lw_p16, List.forall_mem_cons.mpr ⟨lw_p17, List.forall_mem_cons.mpr ⟨lw_p18, List.forall_mem_cons.mpr ⟨lw_p19, List.forall_mem_cons.mpr ⟨lw_p20, List.forall_mem_cons.mpr ⟨lw_p21, List.forall_mem_cons.mpr ⟨lw_p22, List.forall_mem_cons.mpr ⟨lw_p23, List.forall_mem_cons.mpr ⟨lw_p24, List.forall_mem_cons.mpr ⟨lw_p25, List.forall_mem_cons.mpr ⟨lw_p26, List.forall_mem_cons.mpr ⟨lw_p27, List.forall_mem_cons.mpr ⟨lw_p28, List.forall_mem_cons.mpr ⟨lw_p29, List.forall_mem_cons.mpr ⟨lw_p30, List.forall_mem_cons.mpr ⟨lw_p31, fun _ h => absurd h List.not_mem_nil⟩⟩⟩⟩⟩⟩⟩⟩⟩⟩⟩⟩⟩⟩⟩⟩
theorem lw_p32 : lw_okq (⟨"ScythesKeepStepModel", "whoAt", "(I)I"⟩, 34) := ⟨⟨by decide +kernel, by decide +kernel⟩, List.mem_of_getElem? (i := 754) (by decide +kernel), List.mem_of_getElem? (i := 925) (by decide +kernel), List.mem_of_getElem? (i := 926) (by decide +kernel)⟩
theorem lw_p33 : lw_okq (⟨"ScythesKeepStepModel", "isOne", "(I)Z"⟩, 34) := ⟨⟨by decide +kernel, by decide +kernel⟩, List.mem_of_getElem? (i := 754) (by decide +kernel), List.mem_of_getElem? (i := 949) (by decide +kernel), List.mem_of_getElem? (i := 950) (by decide +kernel)⟩
theorem lw_p34 : lw_okq (⟨"ScythesKeepStepModel", "asksOf", "(II)I"⟩, 34) := ⟨⟨by decide +kernel, by decide +kernel⟩, List.mem_of_getElem? (i := 754) (by decide +kernel), List.mem_of_getElem? (i := 953) (by decide +kernel), List.mem_of_getElem? (i := 954) (by decide +kernel)⟩
theorem lw_p35 : lw_okq (⟨"ScythesKeepStepModel", "leftOf", "(I)I"⟩, 34) := ⟨⟨by decide +kernel, by decide +kernel⟩, List.mem_of_getElem? (i := 754) (by decide +kernel), List.mem_of_getElem? (i := 957) (by decide +kernel), List.mem_of_getElem? (i := 958) (by decide +kernel)⟩
theorem lw_p36 : lw_okq (⟨"ScythesKeepStepModel", "besideOf", "(II)I"⟩, 34) := ⟨⟨by decide +kernel, by decide +kernel⟩, List.mem_of_getElem? (i := 754) (by decide +kernel), List.mem_of_getElem? (i := 961) (by decide +kernel), List.mem_of_getElem? (i := 962) (by decide +kernel)⟩
theorem lw_p37 : lw_okq (⟨"ScythesKeepStepModel", "rightOf", "(I)I"⟩, 34) := ⟨⟨by decide +kernel, by decide +kernel⟩, List.mem_of_getElem? (i := 754) (by decide +kernel), List.mem_of_getElem? (i := 965) (by decide +kernel), List.mem_of_getElem? (i := 966) (by decide +kernel)⟩
theorem lw_p38 : lw_okq (⟨"ScythesKeepStepModel", "says", "(I)I"⟩, 34) := ⟨⟨by decide +kernel, by decide +kernel⟩, List.mem_of_getElem? (i := 754) (by decide +kernel), List.mem_of_getElem? (i := 969) (by decide +kernel), List.mem_of_getElem? (i := 970) (by decide +kernel)⟩
theorem lw_p39 : lw_okq (⟨"ScythesKeepStepModel", "isFree", "(I)Z"⟩, 34) := ⟨⟨by decide +kernel, by decide +kernel⟩, List.mem_of_getElem? (i := 754) (by decide +kernel), List.mem_of_getElem? (i := 983) (by decide +kernel), List.mem_of_getElem? (i := 984) (by decide +kernel)⟩
theorem lw_p40 : lw_okq (⟨"ScythesKeepStepModel", "keepsOf", "(I)I"⟩, 34) := ⟨⟨by decide +kernel, by decide +kernel⟩, List.mem_of_getElem? (i := 754) (by decide +kernel), List.mem_of_getElem? (i := 995) (by decide +kernel), List.mem_of_getElem? (i := 996) (by decide +kernel)⟩
theorem lw_p41 : lw_okq (⟨"ScythesKeepStepModel", "swingsOf", "(I)I"⟩, 34) := ⟨⟨by decide +kernel, by decide +kernel⟩, List.mem_of_getElem? (i := 754) (by decide +kernel), List.mem_of_getElem? (i := 999) (by decide +kernel), List.mem_of_getElem? (i := 1000) (by decide +kernel)⟩
theorem lw_p42 : lw_okq (⟨"ScythesKeepStepModel", "tiresOf", "(I)I"⟩, 34) := ⟨⟨by decide +kernel, by decide +kernel⟩, List.mem_of_getElem? (i := 754) (by decide +kernel), List.mem_of_getElem? (i := 1003) (by decide +kernel), List.mem_of_getElem? (i := 1004) (by decide +kernel)⟩
theorem lw_p43 : lw_okq (⟨"ScythesKeepStepModel", "doesClash", "(I)Z"⟩, 34) := ⟨⟨by decide +kernel, by decide +kernel⟩, List.mem_of_getElem? (i := 754) (by decide +kernel), List.mem_of_getElem? (i := 1007) (by decide +kernel), List.mem_of_getElem? (i := 1008) (by decide +kernel)⟩
theorem lw_p44 : lw_okq (⟨"ScythesKeepStepModel", "strokeOf", "()I"⟩, 34) := ⟨⟨by decide +kernel, by decide +kernel⟩, List.mem_of_getElem? (i := 754) (by decide +kernel), List.mem_of_getElem? (i := 1018) (by decide +kernel), List.mem_of_getElem? (i := 1019) (by decide +kernel)⟩
theorem lw_p45 : lw_okq (⟨"ScythesKeepStepModel", "keeps", "()V"⟩, 34) := ⟨⟨by decide +kernel, by decide +kernel⟩, List.mem_of_getElem? (i := 754) (by decide +kernel), List.mem_of_getElem? (i := 1026) (by decide +kernel), List.mem_of_getElem? (i := 1027) (by decide +kernel)⟩
theorem lw_p46 : lw_okq (⟨"ScythesKeepStepModel", "goes", "(I)I"⟩, 34) := ⟨⟨by decide +kernel, by decide +kernel⟩, List.mem_of_getElem? (i := 754) (by decide +kernel), List.mem_of_getElem? (i := 1030) (by decide +kernel), List.mem_of_getElem? (i := 1031) (by decide +kernel)⟩
theorem lw_p47 : lw_okq (⟨"ScythesKeepStepModel", "toldBehind", "(I)I"⟩, 34) := ⟨⟨by decide +kernel, by decide +kernel⟩, List.mem_of_getElem? (i := 754) (by decide +kernel), List.mem_of_getElem? (i := 1034) (by decide +kernel), List.mem_of_getElem? (i := 1035) (by decide +kernel)⟩
def lw_privs_3 : List (MethodName × Nat) := [(⟨"ScythesKeepStepModel", "whoAt", "(I)I"⟩, 34), (⟨"ScythesKeepStepModel", "isOne", "(I)Z"⟩, 34), (⟨"ScythesKeepStepModel", "asksOf", "(II)I"⟩, 34), (⟨"ScythesKeepStepModel", "leftOf", "(I)I"⟩, 34), (⟨"ScythesKeepStepModel", "besideOf", "(II)I"⟩, 34), (⟨"ScythesKeepStepModel", "rightOf", "(I)I"⟩, 34), (⟨"ScythesKeepStepModel", "says", "(I)I"⟩, 34), (⟨"ScythesKeepStepModel", "isFree", "(I)Z"⟩, 34), (⟨"ScythesKeepStepModel", "keepsOf", "(I)I"⟩, 34), (⟨"ScythesKeepStepModel", "swingsOf", "(I)I"⟩, 34), (⟨"ScythesKeepStepModel", "tiresOf", "(I)I"⟩, 34), (⟨"ScythesKeepStepModel", "doesClash", "(I)Z"⟩, 34), (⟨"ScythesKeepStepModel", "strokeOf", "()I"⟩, 34), (⟨"ScythesKeepStepModel", "keeps", "()V"⟩, 34), (⟨"ScythesKeepStepModel", "goes", "(I)I"⟩, 34), (⟨"ScythesKeepStepModel", "toldBehind", "(I)I"⟩, 34)]
theorem lw_r3 : ∀ q ∈ lw_privs_3, lw_okq q := List.forall_mem_cons.mpr ⟨lw_p32, List.forall_mem_cons.mpr ⟨lw_p33, List.forall_mem_cons.mpr ⟨lw_p34, List.forall_mem_cons.mpr ⟨lw_p35, List.forall_mem_cons.mpr ⟨lw_p36, List.forall_mem_cons.mpr ⟨lw_p37, List.forall_mem_cons.mpr ⟨lw_p38, List.forall_mem_cons.mpr ⟨lw_p39, List.forall_mem_cons.mpr ⟨lw_p40, List.forall_mem_cons.mpr ⟨lw_p41, List.forall_mem_cons.mpr ⟨lw_p42, List.forall_mem_cons.mpr ⟨lw_p43, List.forall_mem_cons.mpr ⟨lw_p44, List.forall_mem_cons.mpr ⟨lw_p45, List.forall_mem_cons.mpr ⟨lw_p46, List.forall_mem_cons.mpr ⟨lw_p47, fun _ h => absurd h List.not_mem_nil⟩⟩⟩⟩⟩⟩⟩⟩⟩⟩⟩⟩⟩⟩⟩⟩
theorem lw_p48 : lw_okq (⟨"ScythesKeepStepModel", "clashing", "()I"⟩, 34) := ⟨⟨by decide +kernel, by decide +kernel⟩, List.mem_of_getElem? (i := 754) (by decide +kernel), List.mem_of_getElem? (i := 1038) (by decide +kernel), List.mem_of_getElem? (i := 1039) (by decide +kernel)⟩
theorem lw_p49 : lw_okq (⟨"ScythesKeepStepModel", "lays", "()V"⟩, 34) := ⟨⟨by decide +kernel, by decide +kernel⟩, List.mem_of_getElem? (i := 754) (by decide +kernel), List.mem_of_getElem? (i := 1042) (by decide +kernel), List.mem_of_getElem? (i := 1043) (by decide +kernel)⟩
theorem lw_p50 : lw_okq (⟨"ScythesKeepStepModel", "isNow", "(I)Z"⟩, 34) := ⟨⟨by decide +kernel, by decide +kernel⟩, List.mem_of_getElem? (i := 754) (by decide +kernel), List.mem_of_getElem? (i := 1050) (by decide +kernel), List.mem_of_getElem? (i := 1051) (by decide +kernel)⟩
theorem lw_p51 : lw_okq (⟨"ScythesKeepStepModel", "cutNow", "(I)I"⟩, 34) := ⟨⟨by decide +kernel, by decide +kernel⟩, List.mem_of_getElem? (i := 754) (by decide +kernel), List.mem_of_getElem? (i := 1062) (by decide +kernel), List.mem_of_getElem? (i := 1063) (by decide +kernel)⟩
theorem lw_p52 : lw_okq (⟨"ScythesKeepStepModel", "tellsTaken", "()V"⟩, 34) := ⟨⟨by decide +kernel, by decide +kernel⟩, List.mem_of_getElem? (i := 754) (by decide +kernel), List.mem_of_getElem? (i := 1078) (by decide +kernel), List.mem_of_getElem? (i := 1079) (by decide +kernel)⟩
theorem lw_p53 : lw_okq (⟨"ScythesKeepStepModel", "orders", "(I)Z"⟩, 34) := ⟨⟨by decide +kernel, by decide +kernel⟩, List.mem_of_getElem? (i := 754) (by decide +kernel), List.mem_of_getElem? (i := 1082) (by decide +kernel), List.mem_of_getElem? (i := 1083) (by decide +kernel)⟩
theorem lw_p54 : lw_okq (⟨"ScythesKeepStepModel", "toldWrong", "(II)I"⟩, 34) := ⟨⟨by decide +kernel, by decide +kernel⟩, List.mem_of_getElem? (i := 754) (by decide +kernel), List.mem_of_getElem? (i := 1098) (by decide +kernel), List.mem_of_getElem? (i := 1099) (by decide +kernel)⟩
theorem lw_p55 : lw_okq (⟨"ScythesKeepStepModel", "sheetWrong", "(I)I"⟩, 34) := ⟨⟨by decide +kernel, by decide +kernel⟩, List.mem_of_getElem? (i := 754) (by decide +kernel), List.mem_of_getElem? (i := 1102) (by decide +kernel), List.mem_of_getElem? (i := 1103) (by decide +kernel)⟩
theorem lw_p56 : lw_okq (⟨"ScythesKeepStepModel", "unlike", "(II)I"⟩, 34) := ⟨⟨by decide +kernel, by decide +kernel⟩, List.mem_of_getElem? (i := 754) (by decide +kernel), List.mem_of_getElem? (i := 1106) (by decide +kernel), List.mem_of_getElem? (i := 1107) (by decide +kernel)⟩
theorem lw_p57 : lw_okq (⟨"ScythesKeepStepModel", "placesBy", "(II)I"⟩, 34) := ⟨⟨by decide +kernel, by decide +kernel⟩, List.mem_of_getElem? (i := 754) (by decide +kernel), List.mem_of_getElem? (i := 1118) (by decide +kernel), List.mem_of_getElem? (i := 1119) (by decide +kernel)⟩
theorem lw_p58 : lw_okq (⟨"ScythesKeepStepModel", "swingsBy", "(II)I"⟩, 34) := ⟨⟨by decide +kernel, by decide +kernel⟩, List.mem_of_getElem? (i := 754) (by decide +kernel), List.mem_of_getElem? (i := 1122) (by decide +kernel), List.mem_of_getElem? (i := 1123) (by decide +kernel)⟩
theorem lw_p59 : lw_okq (⟨"ScythesKeepStepModel", "rowBy", "(III)I"⟩, 34) := ⟨⟨by decide +kernel, by decide +kernel⟩, List.mem_of_getElem? (i := 754) (by decide +kernel), List.mem_of_getElem? (i := 1126) (by decide +kernel), List.mem_of_getElem? (i := 1127) (by decide +kernel)⟩
theorem lw_p60 : lw_okq (⟨"ScythesKeepStepModel", "gusts", "(I)I"⟩, 34) := ⟨⟨by decide +kernel, by decide +kernel⟩, List.mem_of_getElem? (i := 754) (by decide +kernel), List.mem_of_getElem? (i := 1151) (by decide +kernel), List.mem_of_getElem? (i := 1152) (by decide +kernel)⟩
def lw_privs_4 : List (MethodName × Nat) := [(⟨"ScythesKeepStepModel", "clashing", "()I"⟩, 34), (⟨"ScythesKeepStepModel", "lays", "()V"⟩, 34), (⟨"ScythesKeepStepModel", "isNow", "(I)Z"⟩, 34), (⟨"ScythesKeepStepModel", "cutNow", "(I)I"⟩, 34), (⟨"ScythesKeepStepModel", "tellsTaken", "()V"⟩, 34), (⟨"ScythesKeepStepModel", "orders", "(I)Z"⟩, 34), (⟨"ScythesKeepStepModel", "toldWrong", "(II)I"⟩, 34), (⟨"ScythesKeepStepModel", "sheetWrong", "(I)I"⟩, 34), (⟨"ScythesKeepStepModel", "unlike", "(II)I"⟩, 34), (⟨"ScythesKeepStepModel", "placesBy", "(II)I"⟩, 34), (⟨"ScythesKeepStepModel", "swingsBy", "(II)I"⟩, 34), (⟨"ScythesKeepStepModel", "rowBy", "(III)I"⟩, 34), (⟨"ScythesKeepStepModel", "gusts", "(I)I"⟩, 34)]
theorem lw_r4 : ∀ q ∈ lw_privs_4, lw_okq q := List.forall_mem_cons.mpr ⟨lw_p48, List.forall_mem_cons.mpr ⟨lw_p49, List.forall_mem_cons.mpr ⟨lw_p50, List.forall_mem_cons.mpr ⟨lw_p51, List.forall_mem_cons.mpr ⟨lw_p52, List.forall_mem_cons.mpr ⟨lw_p53, List.forall_mem_cons.mpr ⟨lw_p54, List.forall_mem_cons.mpr ⟨lw_p55, List.forall_mem_cons.mpr ⟨lw_p56, List.forall_mem_cons.mpr ⟨lw_p57, List.forall_mem_cons.mpr ⟨lw_p58, List.forall_mem_cons.mpr ⟨lw_p59, List.forall_mem_cons.mpr ⟨lw_p60, fun _ h => absurd h List.not_mem_nil⟩⟩⟩⟩⟩⟩⟩⟩⟩⟩⟩⟩⟩
def lw_privs : List (MethodName × Nat) := lw_privs_1 ++ (lw_privs_2 ++ (lw_privs_3 ++ (lw_privs_4)))
def lw_tbl : List Cond := k2_sels lw_privs ++ tables_1
theorem lw_privs_ok : ∀ q ∈ lw_privs, lw_okq q := by
  show ∀ q ∈ lw_privs_1 ++ (lw_privs_2 ++ (lw_privs_3 ++ (lw_privs_4))), lw_okq q
  exact List.forall_mem_append.mpr ⟨lw_r1, List.forall_mem_append.mpr ⟨lw_r2, List.forall_mem_append.mpr ⟨lw_r3, lw_r4⟩⟩⟩
-- ===== end of PART A; then your names; then what follows =====
end
section
def NS : String := "ScythesKeepStep"
def NB : String := "ScythesKeepStep$Best"
def NL : String := "ScythesKeepStep$Law"
def NO : String := "ScythesKeepStep$Orders"
def ND : String := "ScythesKeepStep$Reader"
def NR : String := "ScythesKeepStep$Row"
def NH : String := "ScythesKeepStep$Sheet"
def NM : String := "ScythesKeepStepModel"
def NJS : String := "java/lang/String"
def NJL : String := "java/lang/StringLatin1"
def NJU : String := "java/lang/StringUTF16"
def NJM : String := "java/lang/Math"
def NJI : String := "java/lang/Integer"
def NJC : String := "java/lang/Character"
def NJP : String := "jdk/internal/util/Preconditions"
def NJY : String := "java/lang/System"
def NJO : String := "java/lang/Object"
def R_law : String := "ScythesKeepStepLaw"
def TB : u_T := fun k => match k with
  | 0 => ("ScythesKeepStep$Best", "which", "I", false)
  | _ => ("ScythesKeepStep$Best", "most", "I", false)
def tyB : Nat → FieldType := fun k => match k with
  | 0 => .int
  | _ => .int
theorem tokB : ∀ k, k < 2 → parseFieldDescriptor (TB k).2.2.1 = some (tyB k) := by decide +kernel
theorem nmB : ∀ a, a < 2 → ∀ b, b < 2 → a ≠ b → (TB a).2.1 ≠ (TB b).2.1 := by decide +kernel
def TL : u_T := fun k => match k with
  | 0 => ("ScythesKeepStep$Law", "codes", "[I", true)
  | 1 => ("ScythesKeepStep$Law", "ends", "[I", true)
  | 2 => ("ScythesKeepStep$Law", "stack", "[I", true)
  | _ => ("ScythesKeepStep$Law", "size", "I", false)
def tyL : Nat → FieldType := fun k => match k with
  | 0 => .array .int
  | 1 => .array .int
  | 2 => .array .int
  | _ => .int
theorem tokL : ∀ k, k < 4 → parseFieldDescriptor (TL k).2.2.1 = some (tyL k) := by decide +kernel
theorem nmL : ∀ a, a < 4 → ∀ b, b < 4 → a ≠ b → (TL a).2.1 ≠ (TL b).2.1 := by decide +kernel
def TO : u_T := fun k => match k with
  | 0 => ("ScythesKeepStep$Orders", "places", "[I", true)
  | 1 => ("ScythesKeepStep$Orders", "whoStands", "[I", true)
  | _ => ("ScythesKeepStep$Orders", "size", "I", false)
def tyO : Nat → FieldType := fun k => match k with
  | 0 => .array .int
  | 1 => .array .int
  | _ => .int
theorem tokO : ∀ k, k < 3 → parseFieldDescriptor (TO k).2.2.1 = some (tyO k) := by decide +kernel
theorem nmO : ∀ a, a < 3 → ∀ b, b < 3 → a ≠ b → (TO a).2.1 ≠ (TO b).2.1 := by decide +kernel
def TD : u_T := fun k => match k with
  | 0 => ("ScythesKeepStep$Reader", "draft", "LScythesKeepStep$Law;", true)
  | 1 => ("ScythesKeepStep$Reader", "size", "I", false)
  | 2 => ("ScythesKeepStep$Reader", "bytes", "[I", true)
  | 3 => ("ScythesKeepStep$Reader", "at", "I", false)
  | 4 => ("ScythesKeepStep$Reader", "kind", "I", false)
  | 5 => ("ScythesKeepStep$Reader", "place", "I", false)
  | 6 => ("ScythesKeepStep$Reader", "number", "I", false)
  | _ => ("ScythesKeepStep$Reader", "fault", "I", false)
def tyD : Nat → FieldType := fun k => match k with
  | 0 => .object "ScythesKeepStep$Law"
  | 1 => .int
  | 2 => .array .int
  | 3 => .int
  | 4 => .int
  | 5 => .int
  | 6 => .int
  | _ => .int
theorem tokD : ∀ k, k < 8 → parseFieldDescriptor (TD k).2.2.1 = some (tyD k) := by decide +kernel
theorem nmD : ∀ a, a < 8 → ∀ b, b < 8 → a ≠ b → (TD a).2.1 ≠ (TD b).2.1 := by decide +kernel
def TR : u_T := fun k => match k with
  | 0 => ("ScythesKeepStep$Row", "texts", "[LScythesKeepStep$Law;", true)
  | 1 => ("ScythesKeepStep$Row", "marks", "[I", true)
  | 2 => ("ScythesKeepStep$Row", "facts", "[[I", true)
  | 3 => ("ScythesKeepStep$Row", "mowers", "I", false)
  | 4 => ("ScythesKeepStep$Row", "law", "I", false)
  | 5 => ("ScythesKeepStep$Row", "names", "[I", true)
  | 6 => ("ScythesKeepStep$Row", "who", "I", false)
  | 7 => ("ScythesKeepStep$Row", "far", "[I", true)
  | _ => ("ScythesKeepStep$Row", "tiring", "[I", true)
def tyR : Nat → FieldType := fun k => match k with
  | 0 => .array (.object "ScythesKeepStep$Law")
  | 1 => .array .int
  | 2 => .array (.array .int)
  | 3 => .int
  | 4 => .int
  | 5 => .array .int
  | 6 => .int
  | 7 => .array .int
  | _ => .array .int
theorem tokR : ∀ k, k < 9 → parseFieldDescriptor (TR k).2.2.1 = some (tyR k) := by decide +kernel
theorem nmR : ∀ a, a < 9 → ∀ b, b < 9 → a ≠ b → (TR a).2.1 ≠ (TR b).2.1 := by decide +kernel
def TH : u_T := fun k => match k with
  | 0 => ("ScythesKeepStep$Sheet", "numbers", "[I", true)
  | 1 => ("ScythesKeepStep$Sheet", "sort", "I", false)
  | _ => ("ScythesKeepStep$Sheet", "size", "I", false)
def tyH : Nat → FieldType := fun k => match k with
  | 0 => .array .int
  | 1 => .int
  | _ => .int
theorem tokH : ∀ k, k < 3 → parseFieldDescriptor (TH k).2.2.1 = some (tyH k) := by decide +kernel
theorem nmH : ∀ a, a < 3 → ∀ b, b < 3 → a ≠ b → (TH a).2.1 ≠ (TH b).2.1 := by decide +kernel
def TS : u_T := fun k => match k with
  | 0 => ("ScythesKeepStep", "texts", "[LScythesKeepStep$Law;", true)
  | 1 => ("ScythesKeepStep", "sheets", "[LScythesKeepStep$Sheet;", true)
  | 2 => ("ScythesKeepStep", "reader", "LScythesKeepStep$Reader;", true)
  | 3 => ("ScythesKeepStep", "best", "LScythesKeepStep$Best;", true)
  | 4 => ("ScythesKeepStep", "orders", "LScythesKeepStep$Orders;", true)
  | 5 => ("ScythesKeepStep", "now", "LScythesKeepStep$Row;", true)
  | 6 => ("ScythesKeepStep", "thought", "LScythesKeepStep$Row;", true)
  | 7 => ("ScythesKeepStep", "kept", "LScythesKeepStep$Row;", true)
  | 8 => ("ScythesKeepStep", "textCount", "I", false)
  | _ => ("ScythesKeepStep", "imageKept", "Z", false)
def tyS : Nat → FieldType := fun k => match k with
  | 0 => .array (.object "ScythesKeepStep$Law")
  | 1 => .array (.object "ScythesKeepStep$Sheet")
  | 2 => .object "ScythesKeepStep$Reader"
  | 3 => .object "ScythesKeepStep$Best"
  | 4 => .object "ScythesKeepStep$Orders"
  | 5 => .object "ScythesKeepStep$Row"
  | 6 => .object "ScythesKeepStep$Row"
  | 7 => .object "ScythesKeepStep$Row"
  | 8 => .int
  | _ => .boolean
theorem tokS : ∀ k, k < 10 → parseFieldDescriptor (TS k).2.2.1 = some (tyS k) := by decide +kernel
theorem nmS : ∀ a, a < 10 → ∀ b, b < 10 → a ≠ b → (TS a).2.1 ≠ (TS b).2.1 := by decide +kernel
def TM : u_T := fun k => match k with
  | 0 => ("ScythesKeepStepModel", "mowers", "I", false)
  | 1 => ("ScythesKeepStepModel", "kind", "[I", true)
  | 2 => ("ScythesKeepStepModel", "moreOf", "[I", true)
  | 3 => ("ScythesKeepStepModel", "rows", "[I", true)
  | 4 => ("ScythesKeepStepModel", "row0", "[I", true)
  | 5 => ("ScythesKeepStepModel", "tape", "[I", true)
  | 6 => ("ScythesKeepStepModel", "taped", "I", false)
  | 7 => ("ScythesKeepStepModel", "codes", "[I", true)
  | 8 => ("ScythesKeepStepModel", "starts", "[I", true)
  | 9 => ("ScythesKeepStepModel", "texts", "I", false)
  | 10 => ("ScythesKeepStepModel", "rule", "I", false)
  | 11 => ("ScythesKeepStepModel", "hasImage", "Z", false)
  | 12 => ("ScythesKeepStepModel", "imageRows", "[I", true)
  | 13 => ("ScythesKeepStepModel", "imageHeld", "[I", true)
  | 14 => ("ScythesKeepStepModel", "sheetSort", "[I", true)
  | 15 => ("ScythesKeepStepModel", "sheetSize", "[I", true)
  | 16 => ("ScythesKeepStepModel", "cells", "[I", true)
  | 17 => ("ScythesKeepStepModel", "law", "[I", true)
  | 18 => ("ScythesKeepStepModel", "at", "I", false)
  | 19 => ("ScythesKeepStepModel", "begun", "I", false)
  | 20 => ("ScythesKeepStepModel", "token", "I", false)
  | 21 => ("ScythesKeepStepModel", "value", "I", false)
  | 22 => ("ScythesKeepStepModel", "words", "[I", true)
  | 23 => ("ScythesKeepStepModel", "held", "[I", true)
  | 24 => ("ScythesKeepStepModel", "heldMany", "I", false)
  | 25 => ("ScythesKeepStepModel", "opens", "I", false)
  | 26 => ("ScythesKeepStepModel", "out", "I", false)
  | 27 => ("ScythesKeepStepModel", "stack", "[I", true)
  | 28 => ("ScythesKeepStepModel", "named", "[I", true)
  | 29 => ("ScythesKeepStepModel", "ahead", "[I", true)
  | 30 => ("ScythesKeepStepModel", "kept", "[I", true)
  | 31 => ("ScythesKeepStepModel", "takens", "[I", true)
  | 32 => ("ScythesKeepStepModel", "orderDigits", "I", false)
  | _ => ("ScythesKeepStepModel", "stepThen", "I", false)
def tyM : Nat → FieldType := fun k => match k with
  | 0 => .int
  | 1 => .array .int
  | 2 => .array .int
  | 3 => .array .int
  | 4 => .array .int
  | 5 => .array .int
  | 6 => .int
  | 7 => .array .int
  | 8 => .array .int
  | 9 => .int
  | 10 => .int
  | 11 => .boolean
  | 12 => .array .int
  | 13 => .array .int
  | 14 => .array .int
  | 15 => .array .int
  | 16 => .array .int
  | 17 => .array .int
  | 18 => .int
  | 19 => .int
  | 20 => .int
  | 21 => .int
  | 22 => .array .int
  | 23 => .array .int
  | 24 => .int
  | 25 => .int
  | 26 => .int
  | 27 => .array .int
  | 28 => .array .int
  | 29 => .array .int
  | 30 => .array .int
  | 31 => .array .int
  | 32 => .int
  | _ => .int
theorem tokM : ∀ k, k < 34 → parseFieldDescriptor (TM k).2.2.1 = some (tyM k) := by decide +kernel
theorem nmM : ∀ a, a < 34 → ∀ b, b < 34 → a ≠ b → (TM a).2.1 ≠ (TM b).2.1 := by decide +kernel
abbrev clsG : List vw_C := [(NB, TB, 2), (NL, TL, 4), (NO, TO, 3), (ND, TD, 8), (NR, TR, 9), (NH, TH, 3), (NS, TS, 10), (NM, TM, 34)]
/-- a row of each cell's ints: fields by their places, or what the array holds -/
abbrev Sg : Type := Nat → Nat → Int32
/-- what a world has beside the ints: the classes' numbers and slots; the arrays' classes; the cells' addresses; the two static tables; the string constants and their bytes -/
abbrev GT : Type := va_G × (ClassId × ClassId × ClassId × ClassId) × (Nat → Nat) × (Nat × Nat) × (Nat → Nat) × (Nat → Nat)
def gD (G : GT) : va_G := G.1
def gI (G : GT) : ClassId := G.2.1.1
def gL (G : GT) : ClassId := G.2.1.2.1
def gH (G : GT) : ClassId := G.2.1.2.2.1
def gF (G : GT) : ClassId := G.2.1.2.2.2
def gA (G : GT) : Nat → Nat := G.2.2.1
def gM (G : GT) : Nat := G.2.2.2.1.1
def gK (G : GT) : Nat := G.2.2.2.1.2
def gS (G : GT) : Nat → Nat := G.2.2.2.2.1
def gV (G : GT) : Nat → Nat := G.2.2.2.2.2
def tysG (G : GT) : List (ClassId × FieldType) := [(gI G, .int), (gL G, .object NL), (gH G, .object NH), (gF G, .array .int)]
abbrev eI (G : GT) (n : Nat) (g : Nat → Int32) : va_E := .inl (gI G, n, .inl g)
abbrev eQ (c : ClassId) (n : Nat) (f : Nat → Option Nat) : va_E := .inl (c, n, .inr (.inr (.inr (.inr f))))
def fsB (G : GT) (g : Nat → Int32) : List Value := [.int (g 0), .int (g 1)]
def fsL (G : GT) (b : Nat) (g : Nat → Int32) : List Value := [.ref (gA G (b + 1)), .ref (gA G (b + 2)), .ref (gA G (b + 3)), .int (g 3)]
def fsO (G : GT) (g : Nat → Int32) : List Value := [.ref (gA G 7), .ref (gA G 8), .int (g 2)]
def fsD (G : GT) (g : Nat → Int32) : List Value := [.ref (gA G 66), .int (g 1), .ref (gA G 4), .int (g 3), .int (g 4), .int (g 5), .int (g 6), .int (g 7)]
def fsR (G : GT) (b : Nat) (g : Nat → Int32) : List Value := [.ref (gA G 1), .ref (gA G (b + 1)), .ref (gA G (b + 2)), .int (g 3), .int (g 4), .ref (gA G (b + 8)), .int (g 6), .ref (gA G (b + 9)), .ref (gA G (b + 10))]
def fsH (G : GT) (b : Nat) (g : Nat → Int32) : List Value := [.ref (gA G (b + 1)), .int (g 1), .int (g 2)]
def fsS (G : GT) (g : Nat → Int32) : List Value := [.ref (gA G 1), .ref (gA G 2), .ref (gA G 3), .ref (gA G 5), .ref (gA G 6), .ref (gA G 9), .ref (gA G 20), .ref (gA G 31), .int (g 8), .int (g 9)]
def fsM (G : GT) (g : Nat → Int32) : List Value := [.int (g 0), .ref (gA G 79), .ref (gA G 80), .ref (gA G 81), .ref (gA G 82), .ref (gA G 83), .int (g 6), .ref (gA G 84), .ref (gA G 85), .int (g 9), .int (g 10), .int (g 11), .ref (gA G 86), .ref (gA G 87), .ref (gA G 88), .ref (gA G 89), .ref (gA G 90), .ref (gA G 91), .int (g 18), .int (g 19), .int (g 20), .int (g 21), .ref (gA G 92), .ref (gA G 93), .int (g 24), .int (g 25), .int (g 26), .ref (gA G 94), .ref (gA G 95), .ref (gA G 96), .ref (gA G 97), .ref (gA G 98), .int (g 32), .int (g 33)]
/-- the layout: what each cell is, over its ints -/
def eL (G : GT) (g : Nat → Int32) : List va_E := [.inr (6, fsS G g), eQ (gL G) 6 (fun j => some (gA G (42 + 4 * j))), eQ (gH G) 4 (fun j => some (gA G (70 + 2 * j))), .inr (3, fsD G g), eI G 160 g, .inr (0, fsB G g), .inr (2, fsO G g), eI G 6 g, eI G 6 g, .inr (4, fsR G 9 g), eI G 5 g, eQ (gF G) 5 (fun j => some (gA G (12 + j))), eI G 6 g, eI G 6 g, eI G 6 g, eI G 6 g, eI G 6 g, eI G 6 g, eI G 6 g, eI G 6 g, .inr (4, fsR G 20 g), eI G 5 g, eQ (gF G) 5 (fun j => some (gA G (23 + j))), eI G 6 g, eI G 6 g, eI G 6 g, eI G 6 g, eI G 6 g, eI G 6 g, eI G 6 g, eI G 6 g, .inr (4, fsR G 31 g), eI G 5 g, eQ (gF G) 5 (fun j => some (gA G (34 + j))), eI G 6 g, eI G 6 g, eI G 6 g, eI G 6 g, eI G 6 g, eI G 6 g, eI G 6 g, eI G 6 g, .inr (1, fsL G 42 g), eI G 160 g, eI G 3 g, eI G 160 g, .inr (1, fsL G 46 g), eI G 160 g, eI G 3 g, eI G 160 g, .inr (1, fsL G 50 g), eI G 160 g, eI G 3 g, eI G 160 g, .inr (1, fsL G 54 g), eI G 160 g, eI G 3 g, eI G 160 g, .inr (1, fsL G 58 g), eI G 160 g, eI G 3 g, eI G 160 g, .inr (1, fsL G 62 g), eI G 160 g, eI G 3 g, eI G 160 g, .inr (1, fsL G 66 g), eI G 160 g, eI G 3 g, eI G 160 g, .inr (5, fsH G 70 g), eI G 40 g, .inr (5, fsH G 72 g), eI G 40 g, .inr (5, fsH G 74 g), eI G 40 g, .inr (5, fsH G 76 g), eI G 40 g, .inr (7, fsM G g), eI G 6 g, eI G 6 g, eI G 18 g, eI G 5 g, eI G 160 g, eI G 1200 g, eI G 24 g, eI G 23 g, eI G 2 g, eI G 4 g, eI G 4 g, eI G 160 g, eI G 50 g, eI G 96 g, eI G 200 g, eI G 200 g, eI G 6 g, eI G 12 g, eI G 23 g, eI G 6 g]
def eW (G : GT) (c : Nat) (g : Nat → Int32) : va_E := (eL G g).getD c (eI G 0 g)
def wsI (G : GT) (I : List Nat) (z : Sg) : va_W := I.map (fun c => (gA G c, eW G c (z c)))
def AD (G : GT) (I : List Nat) : Nat → Prop := fun q => ∃ c, c ∈ I ∧ q = gA G c
def ur (z : Sg) (c : Nat) (g : Nat → Int32) : Sg := fun a => if a = c then g else z a
def u2 (z : Sg) (c j : Nat) (v : Int32) : Sg := ur z c (upd (z c) j v)
def ga (z : Sg) (c : Nat) (i : Int32) : Int32 := z c i.toNatClampNeg
def sa (z : Sg) (c : Nat) (i v : Int32) : Sg := u2 z c i.toNatClampNeg v
def isRow (r : Nat) : Prop := r = 9 ∨ r = 20 ∨ r = 31
def isLaw (b : Nat) : Prop := b = 42 ∨ b = 46 ∨ b = 50 ∨ b = 54 ∨ b = 58 ∨ b = 62 ∨ b = 66
def isSheet (b : Nat) : Prop := b = 70 ∨ b = 72 ∨ b = 74 ∨ b = 76
def cI (I : List Nat) : Prop := ∀ c, c < 78 → c ∈ I
def mI (I : List Nat) : Prop := ∀ c, 78 ≤ c → c < 99 → c ∈ I
theorem isRow.lt {r : Nat} (h : isRow r) {k : Nat} (hk : k ≤ 10) : r + k < 78 := by rcases h with rfl | rfl | rfl <;> omega
theorem isLaw.lt {r : Nat} (h : isLaw r) {k : Nat} (hk : k ≤ 3) : r + k < 78 := by rcases h with rfl | rfl | rfl | rfl | rfl | rfl | rfl <;> omega
theorem isSheet.lt {r : Nat} (h : isSheet r) {k : Nat} (hk : k ≤ 1) : r + k < 78 := by rcases h with rfl | rfl | rfl | rfl <;> omega
theorem isRow.lt0 {r : Nat} (h : isRow r) : r < 78 := h.lt (k := 0) (Nat.zero_le _)
theorem isLaw.lt0 {r : Nat} (h : isLaw r) : r < 78 := h.lt (k := 0) (Nat.zero_le _)
theorem isSheet.lt0 {r : Nat} (h : isSheet r) : r < 78 := h.lt (k := 0) (Nat.zero_le _)
/-- an index within 6: the six texts -/
theorem isLaw.of {i : Int32} (h : vp_in i 6) : isLaw (42 + 4 * i.toNatClampNeg) := by
  have : i.toNatClampNeg < 6 := Nat.not_le.mp fun q => h (Or.inr q)
  unfold isLaw; omega
theorem isSheet.of {i : Int32} (h : vp_in i 4) : isSheet (70 + 2 * i.toNatClampNeg) := by
  have : i.toNatClampNeg < 4 := Nat.not_le.mp fun q => h (Or.inr q)
  unfold isSheet; omega
theorem isRow.fact {r : Nat} (h : isRow r) {i : Int32} (hi : vp_in i 5) : r + 3 + i.toNatClampNeg < 78 := by
  have : i.toNatClampNeg < 5 := Nat.not_le.mp fun q => hi (Or.inr q)
  rcases h with rfl | rfl | rfl <;> omega

theorem e_0 {G : GT} : ∀ g, eW G 0 g = .inr (6, fsS G g) := fun _ => rfl
theorem e_1 {G : GT} : ∀ g, eW G 1 g = eQ (gL G) 6 (fun j => some (gA G (42 + 4 * j))) := fun _ => rfl
theorem e_2 {G : GT} : ∀ g, eW G 2 g = eQ (gH G) 4 (fun j => some (gA G (70 + 2 * j))) := fun _ => rfl
theorem e_3 {G : GT} : ∀ g, eW G 3 g = .inr (3, fsD G g) := fun _ => rfl
theorem e_4 {G : GT} : ∀ g, eW G 4 g = eI G 160 g := fun _ => rfl
theorem e_5 {G : GT} : ∀ g, eW G 5 g = .inr (0, fsB G g) := fun _ => rfl
theorem e_6 {G : GT} : ∀ g, eW G 6 g = .inr (2, fsO G g) := fun _ => rfl
theorem e_7 {G : GT} : ∀ g, eW G 7 g = eI G 6 g := fun _ => rfl
theorem e_8 {G : GT} : ∀ g, eW G 8 g = eI G 6 g := fun _ => rfl
theorem e_9 {G : GT} : ∀ g, eW G 9 g = .inr (4, fsR G 9 g) := fun _ => rfl
theorem e_10 {G : GT} : ∀ g, eW G 10 g = eI G 5 g := fun _ => rfl
theorem e_11 {G : GT} : ∀ g, eW G 11 g = eQ (gF G) 5 (fun j => some (gA G (12 + j))) := fun _ => rfl
theorem e_12 {G : GT} : ∀ g, eW G 12 g = eI G 6 g := fun _ => rfl
theorem e_13 {G : GT} : ∀ g, eW G 13 g = eI G 6 g := fun _ => rfl
theorem e_14 {G : GT} : ∀ g, eW G 14 g = eI G 6 g := fun _ => rfl
theorem e_15 {G : GT} : ∀ g, eW G 15 g = eI G 6 g := fun _ => rfl
theorem e_16 {G : GT} : ∀ g, eW G 16 g = eI G 6 g := fun _ => rfl
theorem e_17 {G : GT} : ∀ g, eW G 17 g = eI G 6 g := fun _ => rfl
theorem e_18 {G : GT} : ∀ g, eW G 18 g = eI G 6 g := fun _ => rfl
theorem e_19 {G : GT} : ∀ g, eW G 19 g = eI G 6 g := fun _ => rfl
theorem e_20 {G : GT} : ∀ g, eW G 20 g = .inr (4, fsR G 20 g) := fun _ => rfl
theorem e_21 {G : GT} : ∀ g, eW G 21 g = eI G 5 g := fun _ => rfl
theorem e_22 {G : GT} : ∀ g, eW G 22 g = eQ (gF G) 5 (fun j => some (gA G (23 + j))) := fun _ => rfl
theorem e_23 {G : GT} : ∀ g, eW G 23 g = eI G 6 g := fun _ => rfl
theorem e_24 {G : GT} : ∀ g, eW G 24 g = eI G 6 g := fun _ => rfl
theorem e_25 {G : GT} : ∀ g, eW G 25 g = eI G 6 g := fun _ => rfl
theorem e_26 {G : GT} : ∀ g, eW G 26 g = eI G 6 g := fun _ => rfl
theorem e_27 {G : GT} : ∀ g, eW G 27 g = eI G 6 g := fun _ => rfl
theorem e_28 {G : GT} : ∀ g, eW G 28 g = eI G 6 g := fun _ => rfl
theorem e_29 {G : GT} : ∀ g, eW G 29 g = eI G 6 g := fun _ => rfl
theorem e_30 {G : GT} : ∀ g, eW G 30 g = eI G 6 g := fun _ => rfl
theorem e_31 {G : GT} : ∀ g, eW G 31 g = .inr (4, fsR G 31 g) := fun _ => rfl
theorem e_32 {G : GT} : ∀ g, eW G 32 g = eI G 5 g := fun _ => rfl
theorem e_33 {G : GT} : ∀ g, eW G 33 g = eQ (gF G) 5 (fun j => some (gA G (34 + j))) := fun _ => rfl
theorem e_34 {G : GT} : ∀ g, eW G 34 g = eI G 6 g := fun _ => rfl
theorem e_35 {G : GT} : ∀ g, eW G 35 g = eI G 6 g := fun _ => rfl
theorem e_36 {G : GT} : ∀ g, eW G 36 g = eI G 6 g := fun _ => rfl
theorem e_37 {G : GT} : ∀ g, eW G 37 g = eI G 6 g := fun _ => rfl
theorem e_38 {G : GT} : ∀ g, eW G 38 g = eI G 6 g := fun _ => rfl
theorem e_39 {G : GT} : ∀ g, eW G 39 g = eI G 6 g := fun _ => rfl
theorem e_40 {G : GT} : ∀ g, eW G 40 g = eI G 6 g := fun _ => rfl
theorem e_41 {G : GT} : ∀ g, eW G 41 g = eI G 6 g := fun _ => rfl
theorem e_42 {G : GT} : ∀ g, eW G 42 g = .inr (1, fsL G 42 g) := fun _ => rfl
theorem e_43 {G : GT} : ∀ g, eW G 43 g = eI G 160 g := fun _ => rfl
theorem e_44 {G : GT} : ∀ g, eW G 44 g = eI G 3 g := fun _ => rfl
theorem e_45 {G : GT} : ∀ g, eW G 45 g = eI G 160 g := fun _ => rfl
theorem e_46 {G : GT} : ∀ g, eW G 46 g = .inr (1, fsL G 46 g) := fun _ => rfl
theorem e_47 {G : GT} : ∀ g, eW G 47 g = eI G 160 g := fun _ => rfl
theorem e_48 {G : GT} : ∀ g, eW G 48 g = eI G 3 g := fun _ => rfl
theorem e_49 {G : GT} : ∀ g, eW G 49 g = eI G 160 g := fun _ => rfl
theorem e_50 {G : GT} : ∀ g, eW G 50 g = .inr (1, fsL G 50 g) := fun _ => rfl
theorem e_51 {G : GT} : ∀ g, eW G 51 g = eI G 160 g := fun _ => rfl
theorem e_52 {G : GT} : ∀ g, eW G 52 g = eI G 3 g := fun _ => rfl
theorem e_53 {G : GT} : ∀ g, eW G 53 g = eI G 160 g := fun _ => rfl
theorem e_54 {G : GT} : ∀ g, eW G 54 g = .inr (1, fsL G 54 g) := fun _ => rfl
theorem e_55 {G : GT} : ∀ g, eW G 55 g = eI G 160 g := fun _ => rfl
theorem e_56 {G : GT} : ∀ g, eW G 56 g = eI G 3 g := fun _ => rfl
theorem e_57 {G : GT} : ∀ g, eW G 57 g = eI G 160 g := fun _ => rfl
theorem e_58 {G : GT} : ∀ g, eW G 58 g = .inr (1, fsL G 58 g) := fun _ => rfl
theorem e_59 {G : GT} : ∀ g, eW G 59 g = eI G 160 g := fun _ => rfl
theorem e_60 {G : GT} : ∀ g, eW G 60 g = eI G 3 g := fun _ => rfl
theorem e_61 {G : GT} : ∀ g, eW G 61 g = eI G 160 g := fun _ => rfl
theorem e_62 {G : GT} : ∀ g, eW G 62 g = .inr (1, fsL G 62 g) := fun _ => rfl
theorem e_63 {G : GT} : ∀ g, eW G 63 g = eI G 160 g := fun _ => rfl
theorem e_64 {G : GT} : ∀ g, eW G 64 g = eI G 3 g := fun _ => rfl
theorem e_65 {G : GT} : ∀ g, eW G 65 g = eI G 160 g := fun _ => rfl
theorem e_66 {G : GT} : ∀ g, eW G 66 g = .inr (1, fsL G 66 g) := fun _ => rfl
theorem e_67 {G : GT} : ∀ g, eW G 67 g = eI G 160 g := fun _ => rfl
theorem e_68 {G : GT} : ∀ g, eW G 68 g = eI G 3 g := fun _ => rfl
theorem e_69 {G : GT} : ∀ g, eW G 69 g = eI G 160 g := fun _ => rfl
theorem e_70 {G : GT} : ∀ g, eW G 70 g = .inr (5, fsH G 70 g) := fun _ => rfl
theorem e_71 {G : GT} : ∀ g, eW G 71 g = eI G 40 g := fun _ => rfl
theorem e_72 {G : GT} : ∀ g, eW G 72 g = .inr (5, fsH G 72 g) := fun _ => rfl
theorem e_73 {G : GT} : ∀ g, eW G 73 g = eI G 40 g := fun _ => rfl
theorem e_74 {G : GT} : ∀ g, eW G 74 g = .inr (5, fsH G 74 g) := fun _ => rfl
theorem e_75 {G : GT} : ∀ g, eW G 75 g = eI G 40 g := fun _ => rfl
theorem e_76 {G : GT} : ∀ g, eW G 76 g = .inr (5, fsH G 76 g) := fun _ => rfl
theorem e_77 {G : GT} : ∀ g, eW G 77 g = eI G 40 g := fun _ => rfl
theorem e_78 {G : GT} : ∀ g, eW G 78 g = .inr (7, fsM G g) := fun _ => rfl
theorem e_79 {G : GT} : ∀ g, eW G 79 g = eI G 6 g := fun _ => rfl
theorem e_80 {G : GT} : ∀ g, eW G 80 g = eI G 6 g := fun _ => rfl
theorem e_81 {G : GT} : ∀ g, eW G 81 g = eI G 18 g := fun _ => rfl
theorem e_82 {G : GT} : ∀ g, eW G 82 g = eI G 5 g := fun _ => rfl
theorem e_83 {G : GT} : ∀ g, eW G 83 g = eI G 160 g := fun _ => rfl
theorem e_84 {G : GT} : ∀ g, eW G 84 g = eI G 1200 g := fun _ => rfl
theorem e_85 {G : GT} : ∀ g, eW G 85 g = eI G 24 g := fun _ => rfl
theorem e_86 {G : GT} : ∀ g, eW G 86 g = eI G 23 g := fun _ => rfl
theorem e_87 {G : GT} : ∀ g, eW G 87 g = eI G 2 g := fun _ => rfl
theorem e_88 {G : GT} : ∀ g, eW G 88 g = eI G 4 g := fun _ => rfl
theorem e_89 {G : GT} : ∀ g, eW G 89 g = eI G 4 g := fun _ => rfl
theorem e_90 {G : GT} : ∀ g, eW G 90 g = eI G 160 g := fun _ => rfl
theorem e_91 {G : GT} : ∀ g, eW G 91 g = eI G 50 g := fun _ => rfl
theorem e_92 {G : GT} : ∀ g, eW G 92 g = eI G 96 g := fun _ => rfl
theorem e_93 {G : GT} : ∀ g, eW G 93 g = eI G 200 g := fun _ => rfl
theorem e_94 {G : GT} : ∀ g, eW G 94 g = eI G 200 g := fun _ => rfl
theorem e_95 {G : GT} : ∀ g, eW G 95 g = eI G 6 g := fun _ => rfl
theorem e_96 {G : GT} : ∀ g, eW G 96 g = eI G 12 g := fun _ => rfl
theorem e_97 {G : GT} : ∀ g, eW G 97 g = eI G 23 g := fun _ => rfl
theorem e_98 {G : GT} : ∀ g, eW G 98 g = eI G 6 g := fun _ => rfl
theorem eR_0 {G : GT} {r : Nat} (h : isRow r) : ∀ g, eW G r g = .inr (4, fsR G r g) := by rcases h with rfl | rfl | rfl <;> exact fun _ => rfl
theorem eR_1 {G : GT} {r : Nat} (h : isRow r) : ∀ g, eW G (r + 1) g = eI G 5 g := by rcases h with rfl | rfl | rfl <;> exact fun _ => rfl
theorem eR_2 {G : GT} {r : Nat} (h : isRow r) : ∀ g, eW G (r + 2) g = eQ (gF G) 5 (fun j => some (gA G (r + 3 + j))) := by rcases h with rfl | rfl | rfl <;> exact fun _ => rfl
theorem eR_3 {G : GT} {r : Nat} (h : isRow r) : ∀ g, eW G (r + 3) g = eI G 6 g := by rcases h with rfl | rfl | rfl <;> exact fun _ => rfl
theorem eR_4 {G : GT} {r : Nat} (h : isRow r) : ∀ g, eW G (r + 4) g = eI G 6 g := by rcases h with rfl | rfl | rfl <;> exact fun _ => rfl
theorem eR_5 {G : GT} {r : Nat} (h : isRow r) : ∀ g, eW G (r + 5) g = eI G 6 g := by rcases h with rfl | rfl | rfl <;> exact fun _ => rfl
theorem eR_6 {G : GT} {r : Nat} (h : isRow r) : ∀ g, eW G (r + 6) g = eI G 6 g := by rcases h with rfl | rfl | rfl <;> exact fun _ => rfl
theorem eR_7 {G : GT} {r : Nat} (h : isRow r) : ∀ g, eW G (r + 7) g = eI G 6 g := by rcases h with rfl | rfl | rfl <;> exact fun _ => rfl
theorem eR_8 {G : GT} {r : Nat} (h : isRow r) : ∀ g, eW G (r + 8) g = eI G 6 g := by rcases h with rfl | rfl | rfl <;> exact fun _ => rfl
theorem eR_9 {G : GT} {r : Nat} (h : isRow r) : ∀ g, eW G (r + 9) g = eI G 6 g := by rcases h with rfl | rfl | rfl <;> exact fun _ => rfl
theorem eR_10 {G : GT} {r : Nat} (h : isRow r) : ∀ g, eW G (r + 10) g = eI G 6 g := by rcases h with rfl | rfl | rfl <;> exact fun _ => rfl
theorem eL_0 {G : GT} {b : Nat} (h : isLaw b) : ∀ g, eW G b g = .inr (1, fsL G b g) := by rcases h with rfl | rfl | rfl | rfl | rfl | rfl | rfl <;> exact fun _ => rfl
theorem eL_1 {G : GT} {b : Nat} (h : isLaw b) : ∀ g, eW G (b + 1) g = eI G 160 g := by rcases h with rfl | rfl | rfl | rfl | rfl | rfl | rfl <;> exact fun _ => rfl
theorem eL_2 {G : GT} {b : Nat} (h : isLaw b) : ∀ g, eW G (b + 2) g = eI G 3 g := by rcases h with rfl | rfl | rfl | rfl | rfl | rfl | rfl <;> exact fun _ => rfl
theorem eL_3 {G : GT} {b : Nat} (h : isLaw b) : ∀ g, eW G (b + 3) g = eI G 160 g := by rcases h with rfl | rfl | rfl | rfl | rfl | rfl | rfl <;> exact fun _ => rfl
theorem eH_0 {G : GT} {b : Nat} (h : isSheet b) : ∀ g, eW G b g = .inr (5, fsH G b g) := by rcases h with rfl | rfl | rfl | rfl <;> exact fun _ => rfl
theorem eH_1 {G : GT} {b : Nat} (h : isSheet b) : ∀ g, eW G (b + 1) g = eI G 40 g := by rcases h with rfl | rfl | rfl | rfl <;> exact fun _ => rfl
theorem eR_fact {G : GT} {r : Nat} (h : isRow r) {i : Int32} (hi : vp_in i 5) : ∀ g, eW G (r + 3 + i.toNatClampNeg) g = eI G 6 g := by
  have h5 : i.toNatClampNeg < 5 := Nat.not_le.mp fun q => hi (Or.inr q)
  generalize i.toNatClampNeg = j at h5 ⊢
  rcases (show j = 0 ∨ j = 1 ∨ j = 2 ∨ j = 3 ∨ j = 4 by omega) with rfl | rfl | rfl | rfl | rfl
  · exact eR_3 h
  · exact eR_4 h
  · exact eR_5 h
  · exact eR_6 h
  · exact eR_7 h
end
section
/-! the words that every method has, the world, and a row an instruction over it -/
def WG : List Cond := lw_tbl.filter goodWord
theorem wg_t {w : Cond} (i : Nat) (h : tables_1[i]? = some w) (g : goodWord w = true) : w ∈ WG :=
  List.mem_filter.mpr ⟨List.mem_append_right _ (List.mem_of_getElem? h), g⟩
theorem wg_s {y : MethodName} {n : Nat} (h : (y, n) ∈ lw_privs) : Cond.selects y.cls y y ∈ WG :=
  List.mem_filter.mpr ⟨List.mem_append_left _ (List.mem_map.mpr ⟨(y, n), h, rfl⟩), rfl⟩
theorem wg_good {w : Cond} (h : w ∈ WG) : (w.onTables && w.keeps) = true ∨ ∃ ty, w = .arrayClass ty := good_of_word (List.mem_filter.mp h).2
theorem wg_hts {args : Array Value} {s : State} (h : ∀ w ∈ lw_tbl, w.before args s = true) : ∀ w ∈ WG, w.before args s = true := fun w hw => h w (List.mem_filter.mp hw).1
abbrev wsF (y : MethodName) (b : ByteArray) (n : Nat) (r : Option FieldType) : List Cond := .code y b n r :: WG
/-! the world's positions -/
section WS
variable {G : GT} {I : List Nat} {z : Sg} {A : Nat → Prop} {c q : Nat}
theorem ws_pos (hc : c ∈ I) : ∃ q : Nat, I[q]? = some c := List.mem_iff_getElem?.mp hc
theorem ws_get (hq : I[q]? = some c) : (wsI G I z)[q]? = some (gA G c, eW G c (z c)) := by
  unfold wsI
  rw [List.getElem?_map, hq]
  rfl
theorem ws_set (hD : va_D A (wsI G I z)) (hq : I[q]? = some c) (g : Nat → Int32) : (wsI G I z).set q (gA G c, eW G c g) = wsI G I (ur z c g) := by
  have hl : q < (wsI G I z).length := (List.getElem?_eq_some_iff.mp (ws_get (G := G) (z := z) hq)).1
  apply List.ext_getElem?
  intro k
  by_cases hk : k = q
  · subst hk
    rw [List.getElem?_set_self hl, ws_get hq]
    simp [ur]
  · rw [List.getElem?_set_ne (Ne.symm hk)]
    cases hj : I[k]? with
    | none => unfold wsI; rw [List.getElem?_map, List.getElem?_map, hj]; rfl
    | some c' =>
      have hne : c' ≠ c := fun e => hk (hD.1 k q _ _ (ws_get hj) (ws_get hq) (by rw [e]))
      rw [ws_get hj, ws_get hj]
      simp [ur, hne]
theorem AD_at (hc : c ∈ I) : AD G I (gA G c) := ⟨c, hc, rfl⟩
end WS
/-- what stays all the time: the tables' facts, the nest mates, the static tables, the string constants -/
def tabM : Nat → Value := fun j => .int (([9, 11, 11, 999, 9999] : List Int32).getD j 0)
def tabK : Nat → Value := fun j => .int (([-1, 0, 0, 1, 2, 0] : List Int32).getD j 0)
def jsLen : List Nat := [51, 63, 8]
def jsByt : List (List Int32) := [[115, 119, 105, 110, 103, 115, 32, 51, 32, 43, 32, 40, 98, 101, 97, 116, 32, 61, 32, 115, 119, 105, 110, 103, 41, 32, 59, 32, 116, 105, 114, 101, 115, 32, 49, 32, 59, 32, 107, 101, 101, 112, 115, 32, 98, 101, 97, 116, 32, 59, 32],
  [115, 119, 105, 110, 103, 115, 32, 116, 105, 114, 101, 115, 32, 107, 101, 101, 112, 115, 32, 111, 114, 32, 97, 110, 100, 32, 110, 111, 116, 32, 98, 101, 97, 116, 32, 115, 119, 105, 110, 103, 32, 108, 101, 102, 116, 32, 114, 105, 103, 104, 116, 32, 116, 105, 114, 101, 100, 32, 109, 111, 114, 101, 32],
  [40, 41, 59, 43, 45, 42, 60, 61]]
abbrev txF : String := "swings 3 + (beat = swing) ; tires 1 ; keeps beat ; "
abbrev txW : String := "swings tires keeps or and not beat swing left right tired more "
abbrev txS : String := "();+-*<="
def KB (G : GT) (A : Nat → Prop) (U : State) : Prop :=
  va_K (gD G) clsG (tysG G) U ∧
  (va_Nw (.methodLinkNest NR 46 ⟨NS, "within", "(II)Z"⟩ NS) U ∧ va_Nw (.methodLinkNest NR 94 ⟨NS, "isA", "(II)Z"⟩ NS) U) ∧
  (va_Z NS "MARK_MOST" "[I" (.ref (gM G)) A U U.heap ∧ va_T .int (gM G) 5 tabM A U U.heap) ∧
  (va_Z NS "KIND_ABOVE" "[I" (.ref (gK G)) A U U.heap ∧ va_T .int (gK G) 6 tabK A U U.heap) ∧
  (va_Z NJS "COMPACT_STRINGS" "Z" (.int 1) A U U.heap ∧ va_Zq NJP "SIOOBE_FORMATTER" "Ljava/util/function/BiFunction;" A U U.heap) ∧
  vk_S 3 jsLen jsByt (gS G) (gV G) A U U.heap ∧
  vk_R NS 59 txF (gS G 0) U ∧ vk_R ND 102 txW (gS G 1) U ∧ vk_R ND 94 txS (gS G 2) U
/-- the same facts at another state: the tables alike, the heap changed within A alone -/
theorem KB.step {G : GT} {A : Nat → Prop} {s U : State} {H : Heap} {locs : List Loc} (h : KB G A s) (hS : va_S A s.heap H locs) (hW : s.WarmedH U.vm) (hU : U.heap = H) : KB G A U := by
  obtain ⟨h1, ⟨h2, h3⟩, ⟨h4, h5⟩, ⟨h6, h7⟩, ⟨h8, h9⟩, h10, h11, h12, h13⟩ := h
  have q := hS.2.1
  rw [← hU] at q
  exact ⟨va_K.moved hW.alike h1, ⟨va_Nw.warmM hW h2, va_Nw.warmM hW h3⟩, ⟨(va_Z.moved hW.alike h4).kept q, (va_T.moved hW.alike h5).kept q⟩, ⟨(va_Z.moved hW.alike h6).kept q, (va_T.moved hW.alike h7).kept q⟩,
    ⟨(va_Z.moved hW.alike h8).kept q, (va_Zq.moved hW.alike h9).kept q⟩, (vk_S.moved hW.alike h10).kept q, vk_R.warm hW h11, vk_R.warm hW h12, vk_R.warm hW h13⟩
theorem KB.calling {G : GT} {A : Nat → Prop} {U : State} {g : JFrame} {mk : MethodId} {a : Array Value} (h : KB G A U) : KB G A (U.calling g mk a) := by
  obtain ⟨h1, ⟨h2, h3⟩, ⟨h4, h5⟩, ⟨h6, h7⟩, ⟨h8, h9⟩, h10, h11, h12, h13⟩ := h
  have r := Vm.Alike.refl U.vm
  exact ⟨va_K.moved (U := U.calling g mk a) r h1, ⟨va_Nw.same (U := U.calling g mk a) rfl rfl h2, va_Nw.same (U := U.calling g mk a) rfl rfl h3⟩,
    ⟨va_Z.moved (U := U.calling g mk a) r h4, va_T.moved (U := U.calling g mk a) r h5⟩, ⟨va_Z.moved (U := U.calling g mk a) r h6, va_T.moved (U := U.calling g mk a) r h7⟩,
    ⟨va_Z.moved (U := U.calling g mk a) r h8, va_Zq.moved (U := U.calling g mk a) r h9⟩, vk_S.moved (U := U.calling g mk a) r h10, vk_R.same (U := U.calling g mk a) rfl h11, vk_R.same (U := U.calling g mk a) rfl h12, vk_R.same (U := U.calling g mk a) rfl h13⟩
/-- a method's start: the facts, the cells with the ints z -/
def PB (G : GT) (I : List Nat) (z : Sg) (U : State) : Prop := KB G (AD G I) U ∧ va_P (gD G) clsG (wsI G I z) U.heap ∧ va_D (AD G I) (wsI G I z)
theorem PB.blind {G : GT} {I : List Nat} {z : Sg} (av : List Value) : FrameBlind (va_Pc av (PB G I z)) := fun _ _ _ _ h => ⟨h.1, h.2.1.calling, h.2.2.1, h.2.2.2⟩
/-- a method's way: the world now, against the start's heap -/
def GW (G : GT) (I : List Nat) (z : Sg) (H0 H : Heap) (locs : List Loc) : Prop := va_P (gD G) clsG (wsI G I z) H ∧ va_D (AD G I) (wsI G I z) ∧ va_S (AD G I) H0 H locs
/-- contracts: the ints' new row is Z, the answer R -/
def Qi (G : GT) (I : List Nat) (R : Int32) (Z : Sg) : Array Value → State → Outcome → State → Prop := va_Qi (fun (r : Int32) (_ : Unit) => r = R) (fun _ t => PB G I Z t) (AD G I)
def Ql (G : GT) (I : List Nat) (R : Int64) (Z : Sg) : Array Value → State → Outcome → State → Prop := va_Ql (fun (r : Int64) (_ : Unit) => r = R) (fun _ t => PB G I Z t) (AD G I)
def Qv (G : GT) (I : List Nat) (Z : Sg) : Array Value → State → Outcome → State → Prop := va_Qv (fun (_ : Unit) => True) (fun _ t => PB G I Z t) (AD G I)
abbrev Mt (l : Launch) (y : MethodName) (rm : Room) (b : ByteArray) (n : Nat) (ret : Option FieldType) (G : GT) (I : List Nat) (z : Sg) (av : List Value) (Q : Array Value → State → Outcome → State → Prop) : Prop := Met l y (wsF y b n ret) rm (va_Pc av (PB G I z)) Q 0 0 (AD G I)
/-- what a frame of a method has all along -/
def CX (p : Program) (s : State) (m : MethodId) (args : Array Value) (meth : Method) (c : Code) (own : String) (cc : ByteArray) (nL : Nat) (ret : Option FieldType) (G : GT) (I : List Nat) : Prop :=
  p.tables.exec = Jvm.exec ∧ c.code = cc ∧ c.maxLocals = nL ∧ s.vm.findClass own = some m.cls ∧ (∀ w ∈ WG, w.before args s = true) ∧ meth.sig.returnType = ret ∧ meth.locks = false ∧ KB G (AD G I) s
/-! the words of the pure functions -/
def chk {α : Type} (b : Bool) (k : Option α) : Option α := if b then k else none
def inb (i : Int32) (n : Nat) : Bool := !(decide (i < 0) || decide (n ≤ i.toNatClampNeg))
theorem inb_in {i : Int32} {n : Nat} (h : inb i n = true) : vp_in i n := by
  intro q
  rcases q with q | q <;> simp [inb, q] at h
theorem inb_of {i : Int32} {n : Nat} (h : vp_in i n) : inb i n = true := by
  unfold vp_in at h
  have h1 : ¬ i < 0 := fun q => h (Or.inl q)
  have h2 : ¬ n ≤ i.toNatClampNeg := fun q => h (Or.inr q)
  simp [inb, h1, h2]
def letm {α β : Type} (x : α) (k : α → β) : β := k x
def bnd {α β : Type} (p : Option (α × Sg)) (k : α → Sg → Option β) : Option β := match p with
  | none => none
  | some q => k q.1 q.2
def bndv {β : Type} (p : Option Sg) (k : Sg → Option β) : Option β := match p with
  | none => none
  | some q => k q
theorem chk_some {α : Type} {b : Bool} {k : Option α} {r : α} (h : chk b k = some r) : b = true ∧ k = some r := by
  cases b
  · cases h
  · exact ⟨rfl, h⟩
theorem bnd_some {α β : Type} {p : Option (α × Sg)} {k : α → Sg → Option β} {r : β} (h : bnd p k = some r) : ∃ x z, p = some (x, z) ∧ k x z = some r := by
  cases p with
  | none => cases h
  | some q => exact ⟨q.1, q.2, rfl, h⟩
theorem bndv_some {β : Type} {p : Option Sg} {k : Sg → Option β} {r : β} (h : bndv p k = some r) : ∃ z, p = some z ∧ k z = some r := by
  cases p with
  | none => cases h
  | some q => exact ⟨q, rfl, h⟩
/-- a field of a class: its place in the classes' list, its own place, the class's words -/
def FI (ci k : Nat) (C : String) (T : u_T) (N : Nat) : Prop := clsG[ci]? = some (C, T, N) ∧ (∀ w ∈ u_ws C T N, w ∈ WG) ∧ k < N
end
section
section RW1
variable {p : Program} {l : Launch} {e : Env} {R : Room} {s : State} {m : MethodId} {args : Array Value} {below : List Frame} {meth : Method} {c : Code} {H : Heap} {locs : List Loc} {cells slots : Nat} {Q : State → Prop}
variable {own : String} {cc : ByteArray} {nL : Nat} {ret : Option FieldType} {G : GT} {I : List Nat} {z : Sg} {pc : Nat} {ls : Array Slot} {rest : List Value} {α : Type} {rs : α}
/-! locals, numbers, branches: the kit's rows under CX -/
theorem rAload_n (C : CX p s m args meth c own cc nL ret G I) {k : Fin 4} (hdg : decode cc pc = .ok (.aload_n k, 1)) {lv : List (Nat × Value)} (hl : lv_has ls nL lv) (j : Nat) {x : Nat} (hj : lv[j]? = some ((k : Nat), .ref x)) (kk : W p l e R s m args below meth c H locs cells slots Q (F0 m (pc + 1) ls (.ref x :: rest))) : W p l e R s m args below meth c H locs cells slots Q (F0 m pc ls rest) := lv_aload_n C.1 C.2.1 hdg rfl (lv_at hl j hj) kk
theorem rAload (C : CX p s m args meth c own cc nL ret G I) {k : Nat} (hdg : decode cc pc = .ok (.aload k, 2)) {lv : List (Nat × Value)} (hl : lv_has ls nL lv) (j : Nat) {x : Nat} (hj : lv[j]? = some (k, .ref x)) (kk : W p l e R s m args below meth c H locs cells slots Q (F0 m (pc + 2) ls (.ref x :: rest))) : W p l e R s m args below meth c H locs cells slots Q (F0 m pc ls rest) := lv_aload C.1 C.2.1 hdg (lv_at hl j hj) kk
theorem rIload_n (C : CX p s m args meth c own cc nL ret G I) {k : Fin 4} (hdg : decode cc pc = .ok (.iload_n k, 1)) {lv : List (Nat × Value)} (hl : lv_has ls nL lv) (j : Nat) {x : Int32} (hj : lv[j]? = some ((k : Nat), .int x)) (kk : W p l e R s m args below meth c H locs cells slots Q (F0 m (pc + 1) ls (.int x :: rest))) : W p l e R s m args below meth c H locs cells slots Q (F0 m pc ls rest) := lv_iload_n C.1 C.2.1 hdg rfl (lv_at hl j hj) kk
theorem rIload (C : CX p s m args meth c own cc nL ret G I) {k : Nat} (hdg : decode cc pc = .ok (.iload k, 2)) {lv : List (Nat × Value)} (hl : lv_has ls nL lv) (j : Nat) {x : Int32} (hj : lv[j]? = some (k, .int x)) (kk : W p l e R s m args below meth c H locs cells slots Q (F0 m (pc + 2) ls (.int x :: rest))) : W p l e R s m args below meth c H locs cells slots Q (F0 m pc ls rest) := lv_iload C.1 C.2.1 hdg (lv_at hl j hj) kk
theorem rLload_n (C : CX p s m args meth c own cc nL ret G I) {k : Fin 4} (hdg : decode cc pc = .ok (.lload_n k, 1)) {lv : List (Nat × Value)} (hl : lv_has ls nL lv) (j : Nat) {x : Int64} (hj : lv[j]? = some ((k : Nat), .long x)) (kk : W p l e R s m args below meth c H locs cells slots Q (F0 m (pc + 1) ls (.long x :: rest))) : W p l e R s m args below meth c H locs cells slots Q (F0 m pc ls rest) := lv_lload_n C.1 C.2.1 hdg rfl (lv_at hl j hj) kk
theorem rLload (C : CX p s m args meth c own cc nL ret G I) {k : Nat} (hdg : decode cc pc = .ok (.lload k, 2)) {lv : List (Nat × Value)} (hl : lv_has ls nL lv) (j : Nat) {x : Int64} (hj : lv[j]? = some (k, .long x)) (kk : W p l e R s m args below meth c H locs cells slots Q (F0 m (pc + 2) ls (.long x :: rest))) : W p l e R s m args below meth c H locs cells slots Q (F0 m pc ls rest) := lv_lload C.1 C.2.1 hdg (lv_at hl j hj) kk
/-! stores: the value gets a name, in the pure function too -/
theorem rIstore_n (C : CX p s m args meth c own cc nL ret G I) {k : Fin 4} {x : Int32} (hdg : decode cc pc = .ok (.istore_n k, 1)) {lv : List (Nat × Value)} (hl : lv_has ls nL lv) {K : Int32 → Option α} (h : letm x K = some rs) (hn : (k : Nat) < nL) (f : List (Nat × Value)) (hf : lv.filter (fun q => !(q.1 == (k : Nat)) && !(q.1 + 1 == (k : Nat) && q.2.category == 2)) = f)
    (kk : ∀ (y : Int32) (ls1 : Array Slot), K y = some rs → lv_has ls1 nL (((k : Nat), .int y) :: f) → W p l e R s m args below meth c H locs cells slots Q (F0 m (pc + 1) ls1 rest)) : W p l e R s m args below meth c H locs cells slots Q (F0 m pc ls (.int x :: rest)) := lv_istore_n C.1 C.2.1 hdg rfl hl hn (by rw [hf]) (fun ls1 hl1 => kk x ls1 h hl1)
theorem rIstore (C : CX p s m args meth c own cc nL ret G I) {k : Nat} {x : Int32} (hdg : decode cc pc = .ok (.istore k, 2)) {lv : List (Nat × Value)} (hl : lv_has ls nL lv) {K : Int32 → Option α} (h : letm x K = some rs) (hn : k < nL) (f : List (Nat × Value)) (hf : lv.filter (fun q => !(q.1 == k) && !(q.1 + 1 == k && q.2.category == 2)) = f)
    (kk : ∀ (y : Int32) (ls1 : Array Slot), K y = some rs → lv_has ls1 nL ((k, .int y) :: f) → W p l e R s m args below meth c H locs cells slots Q (F0 m (pc + 2) ls1 rest)) : W p l e R s m args below meth c H locs cells slots Q (F0 m pc ls (.int x :: rest)) := lv_istore C.1 C.2.1 hdg hl hn (by rw [hf]) (fun ls1 hl1 => kk x ls1 h hl1)
/-! the same where the value is a name or a number already -/
theorem rIstoreA_n (C : CX p s m args meth c own cc nL ret G I) {k : Fin 4} {x : Int32} (hdg : decode cc pc = .ok (.istore_n k, 1)) {lv : List (Nat × Value)} (hl : lv_has ls nL lv) (hn : (k : Nat) < nL) (f : List (Nat × Value)) (hf : lv.filter (fun q => !(q.1 == (k : Nat)) && !(q.1 + 1 == (k : Nat) && q.2.category == 2)) = f)
    (kk : ∀ (ls1 : Array Slot), lv_has ls1 nL (((k : Nat), .int x) :: f) → W p l e R s m args below meth c H locs cells slots Q (F0 m (pc + 1) ls1 rest)) : W p l e R s m args below meth c H locs cells slots Q (F0 m pc ls (.int x :: rest)) := lv_istore_n C.1 C.2.1 hdg rfl hl hn (by rw [hf]) kk
theorem rIstoreA (C : CX p s m args meth c own cc nL ret G I) {k : Nat} {x : Int32} (hdg : decode cc pc = .ok (.istore k, 2)) {lv : List (Nat × Value)} (hl : lv_has ls nL lv) (hn : k < nL) (f : List (Nat × Value)) (hf : lv.filter (fun q => !(q.1 == k) && !(q.1 + 1 == k && q.2.category == 2)) = f)
    (kk : ∀ (ls1 : Array Slot), lv_has ls1 nL ((k, .int x) :: f) → W p l e R s m args below meth c H locs cells slots Q (F0 m (pc + 2) ls1 rest)) : W p l e R s m args below meth c H locs cells slots Q (F0 m pc ls (.int x :: rest)) := lv_istore C.1 C.2.1 hdg hl hn (by rw [hf]) kk
theorem rAstore_n (C : CX p s m args meth c own cc nL ret G I) {k : Fin 4} {x : Nat} (hdg : decode cc pc = .ok (.astore_n k, 1)) {lv : List (Nat × Value)} (hl : lv_has ls nL lv) (hn : (k : Nat) < nL) (f : List (Nat × Value)) (hf : lv.filter (fun q => !(q.1 == (k : Nat)) && !(q.1 + 1 == (k : Nat) && q.2.category == 2)) = f)
    (kk : ∀ (ls1 : Array Slot), lv_has ls1 nL (((k : Nat), .ref x) :: f) → W p l e R s m args below meth c H locs cells slots Q (F0 m (pc + 1) ls1 rest)) : W p l e R s m args below meth c H locs cells slots Q (F0 m pc ls (.ref x :: rest)) := lv_astore_n C.1 C.2.1 hdg rfl hl hn (by rw [hf]) kk
theorem rAstore (C : CX p s m args meth c own cc nL ret G I) {k : Nat} {x : Nat} (hdg : decode cc pc = .ok (.astore k, 2)) {lv : List (Nat × Value)} (hl : lv_has ls nL lv) (hn : k < nL) (f : List (Nat × Value)) (hf : lv.filter (fun q => !(q.1 == k) && !(q.1 + 1 == k && q.2.category == 2)) = f)
    (kk : ∀ (ls1 : Array Slot), lv_has ls1 nL ((k, .ref x) :: f) → W p l e R s m args below meth c H locs cells slots Q (F0 m (pc + 2) ls1 rest)) : W p l e R s m args below meth c H locs cells slots Q (F0 m pc ls (.ref x :: rest)) := lv_astore C.1 C.2.1 hdg hl hn (by rw [hf]) kk
theorem rLstore_n (C : CX p s m args meth c own cc nL ret G I) {k : Fin 4} {x : Int64} (hdg : decode cc pc = .ok (.lstore_n k, 1)) {lv : List (Nat × Value)} (hl : lv_has ls nL lv) {K : Int64 → Option α} (h : letm x K = some rs) (hn : (k : Nat) + 1 < nL) (f : List (Nat × Value)) (hf : lv.filter (fun q => !(q.1 == (k : Nat)) && (!(q.1 == (k : Nat) + 1) && !(q.1 + 1 == (k : Nat) && q.2.category == 2))) = f)
    (kk : ∀ (y : Int64) (ls1 : Array Slot), K y = some rs → lv_has ls1 nL (((k : Nat), .long y) :: f) → W p l e R s m args below meth c H locs cells slots Q (F0 m (pc + 1) ls1 rest)) : W p l e R s m args below meth c H locs cells slots Q (F0 m pc ls (.long x :: rest)) := lv_lstore_n C.1 C.2.1 hdg rfl hl hn (by rw [hf]) (fun ls1 hl1 => kk x ls1 h hl1)
theorem rLstore (C : CX p s m args meth c own cc nL ret G I) {k : Nat} {x : Int64} (hdg : decode cc pc = .ok (.lstore k, 2)) {lv : List (Nat × Value)} (hl : lv_has ls nL lv) {K : Int64 → Option α} (h : letm x K = some rs) (hn : k + 1 < nL) (f : List (Nat × Value)) (hf : lv.filter (fun q => !(q.1 == k) && (!(q.1 == k + 1) && !(q.1 + 1 == k && q.2.category == 2))) = f)
    (kk : ∀ (y : Int64) (ls1 : Array Slot), K y = some rs → lv_has ls1 nL ((k, .long y) :: f) → W p l e R s m args below meth c H locs cells slots Q (F0 m (pc + 2) ls1 rest)) : W p l e R s m args below meth c H locs cells slots Q (F0 m pc ls (.long x :: rest)) := lv_lstore C.1 C.2.1 hdg hl hn (by rw [hf]) (fun ls1 hl1 => kk x ls1 h hl1)
theorem rIinc (C : CX p s m args meth c own cc nL ret G I) {k : Nat} {n : Int} {x : Int32} (hdg : decode cc pc = .ok (.iinc k n, 3)) {lv : List (Nat × Value)} (hl : lv_has ls nL lv) (j : Nat) (hj : lv[j]? = some (k, .int x)) {d : Int32} (hd : Int32.ofInt n = d) {K : Int32 → Option α} (h : letm (x + d) K = some rs) (hn : k < nL) (f : List (Nat × Value)) (hf : lv.filter (fun q => !(q.1 == k) && !(q.1 + 1 == k && q.2.category == 2)) = f)
    (kk : ∀ (y : Int32) (ls1 : Array Slot), K y = some rs → lv_has ls1 nL ((k, .int y) :: f) → W p l e R s m args below meth c H locs cells slots Q (F0 m (pc + 3) ls1 rest)) : W p l e R s m args below meth c H locs cells slots Q (F0 m pc ls rest) := lv_iinc C.1 C.2.1 hdg hl hj (by rw [hd]) hn (by rw [hf]) (fun ls1 hl1 => kk (x + d) ls1 h hl1)
/-! branches: the pure function's own -/
theorem rIf {cnd : Prop} [Decidable cnd] {A B : Option α} {W1 W2 : Prop} (h : (if cnd then A else B) = some rs) (kt : A = some rs → W1) (kf : B = some rs → W2) : (cnd → W1) ∧ (¬ cnd → W2) := ⟨fun q => kt (by rw [if_pos q] at h; exact h), fun q => kf (by rw [if_neg q] at h; exact h)⟩
theorem rIfeq (C : CX p s m args meth c own cc nL ret G I) {x : Int32} {off : Int} {tgt : Nat} {A B : Option α} (h : (if x = 0 then A else B) = some rs) (hdg : decode cc pc = .ok (.ifCond .eq off, 3)) (ht : (pc : Int) + off = (tgt : Int)) (kt : A = some rs → W p l e R s m args below meth c H locs cells slots Q (F0 m tgt ls rest)) (kf : B = some rs → W p l e R s m args below meth c H locs cells slots Q (F0 m (pc + 3) ls rest)) : W p l e R s m args below meth c H locs cells slots Q (F0 m pc ls (.int x :: rest)) := lv_if_eq C.1 C.2.1 hdg ht (rIf h kt kf).1 (rIf h kt kf).2
theorem rIfne (C : CX p s m args meth c own cc nL ret G I) {x : Int32} {off : Int} {tgt : Nat} {A B : Option α} (h : (if x = 0 then B else A) = some rs) (hdg : decode cc pc = .ok (.ifCond .ne off, 3)) (ht : (pc : Int) + off = (tgt : Int)) (kt : A = some rs → W p l e R s m args below meth c H locs cells slots Q (F0 m tgt ls rest)) (kf : B = some rs → W p l e R s m args below meth c H locs cells slots Q (F0 m (pc + 3) ls rest)) : W p l e R s m args below meth c H locs cells slots Q (F0 m pc ls (.int x :: rest)) := lv_if_ne C.1 C.2.1 hdg ht (fun q => (rIf h kf kt).2 q) (rIf h kf kt).1
theorem rIflt (C : CX p s m args meth c own cc nL ret G I) {x : Int32} {off : Int} {tgt : Nat} {A B : Option α} (h : (if x < 0 then A else B) = some rs) (hdg : decode cc pc = .ok (.ifCond .lt off, 3)) (ht : (pc : Int) + off = (tgt : Int)) (kt : A = some rs → W p l e R s m args below meth c H locs cells slots Q (F0 m tgt ls rest)) (kf : B = some rs → W p l e R s m args below meth c H locs cells slots Q (F0 m (pc + 3) ls rest)) : W p l e R s m args below meth c H locs cells slots Q (F0 m pc ls (.int x :: rest)) := lv_if_lt C.1 C.2.1 hdg ht (rIf h kt kf).1 (rIf h kt kf).2
theorem rIfge (C : CX p s m args meth c own cc nL ret G I) {x : Int32} {off : Int} {tgt : Nat} {A B : Option α} (h : (if 0 ≤ x then A else B) = some rs) (hdg : decode cc pc = .ok (.ifCond .ge off, 3)) (ht : (pc : Int) + off = (tgt : Int)) (kt : A = some rs → W p l e R s m args below meth c H locs cells slots Q (F0 m tgt ls rest)) (kf : B = some rs → W p l e R s m args below meth c H locs cells slots Q (F0 m (pc + 3) ls rest)) : W p l e R s m args below meth c H locs cells slots Q (F0 m pc ls (.int x :: rest)) := lv_if_ge C.1 C.2.1 hdg ht (rIf h kt kf).1 (rIf h kt kf).2
theorem rIfgt (C : CX p s m args meth c own cc nL ret G I) {x : Int32} {off : Int} {tgt : Nat} {A B : Option α} (h : (if 0 < x then A else B) = some rs) (hdg : decode cc pc = .ok (.ifCond .gt off, 3)) (ht : (pc : Int) + off = (tgt : Int)) (kt : A = some rs → W p l e R s m args below meth c H locs cells slots Q (F0 m tgt ls rest)) (kf : B = some rs → W p l e R s m args below meth c H locs cells slots Q (F0 m (pc + 3) ls rest)) : W p l e R s m args below meth c H locs cells slots Q (F0 m pc ls (.int x :: rest)) := lv_if_gt C.1 C.2.1 hdg ht (rIf h kt kf).1 (rIf h kt kf).2
theorem rIfle (C : CX p s m args meth c own cc nL ret G I) {x : Int32} {off : Int} {tgt : Nat} {A B : Option α} (h : (if x ≤ 0 then A else B) = some rs) (hdg : decode cc pc = .ok (.ifCond .le off, 3)) (ht : (pc : Int) + off = (tgt : Int)) (kt : A = some rs → W p l e R s m args below meth c H locs cells slots Q (F0 m tgt ls rest)) (kf : B = some rs → W p l e R s m args below meth c H locs cells slots Q (F0 m (pc + 3) ls rest)) : W p l e R s m args below meth c H locs cells slots Q (F0 m pc ls (.int x :: rest)) := lv_if_le C.1 C.2.1 hdg ht (rIf h kt kf).1 (rIf h kt kf).2
theorem rIcmpeq (C : CX p s m args meth c own cc nL ret G I) {x y : Int32} {off : Int} {tgt : Nat} {A B : Option α} (h : (if x = y then A else B) = some rs) (hdg : decode cc pc = .ok (.if_icmp .eq off, 3)) (ht : (pc : Int) + off = (tgt : Int)) (kt : A = some rs → W p l e R s m args below meth c H locs cells slots Q (F0 m tgt ls rest)) (kf : B = some rs → W p l e R s m args below meth c H locs cells slots Q (F0 m (pc + 3) ls rest)) : W p l e R s m args below meth c H locs cells slots Q (F0 m pc ls (.int y :: .int x :: rest)) := lv_icmp_eq C.1 C.2.1 hdg ht (rIf h kt kf).1 (rIf h kt kf).2
theorem rIcmpne (C : CX p s m args meth c own cc nL ret G I) {x y : Int32} {off : Int} {tgt : Nat} {A B : Option α} (h : (if x = y then B else A) = some rs) (hdg : decode cc pc = .ok (.if_icmp .ne off, 3)) (ht : (pc : Int) + off = (tgt : Int)) (kt : A = some rs → W p l e R s m args below meth c H locs cells slots Q (F0 m tgt ls rest)) (kf : B = some rs → W p l e R s m args below meth c H locs cells slots Q (F0 m (pc + 3) ls rest)) : W p l e R s m args below meth c H locs cells slots Q (F0 m pc ls (.int y :: .int x :: rest)) := lv_icmp_ne C.1 C.2.1 hdg ht (fun q => (rIf h kf kt).2 q) (rIf h kf kt).1
theorem rIcmplt (C : CX p s m args meth c own cc nL ret G I) {x y : Int32} {off : Int} {tgt : Nat} {A B : Option α} (h : (if x < y then A else B) = some rs) (hdg : decode cc pc = .ok (.if_icmp .lt off, 3)) (ht : (pc : Int) + off = (tgt : Int)) (kt : A = some rs → W p l e R s m args below meth c H locs cells slots Q (F0 m tgt ls rest)) (kf : B = some rs → W p l e R s m args below meth c H locs cells slots Q (F0 m (pc + 3) ls rest)) : W p l e R s m args below meth c H locs cells slots Q (F0 m pc ls (.int y :: .int x :: rest)) := lv_icmp_lt C.1 C.2.1 hdg ht (rIf h kt kf).1 (rIf h kt kf).2
theorem rIcmpge (C : CX p s m args meth c own cc nL ret G I) {x y : Int32} {off : Int} {tgt : Nat} {A B : Option α} (h : (if y ≤ x then A else B) = some rs) (hdg : decode cc pc = .ok (.if_icmp .ge off, 3)) (ht : (pc : Int) + off = (tgt : Int)) (kt : A = some rs → W p l e R s m args below meth c H locs cells slots Q (F0 m tgt ls rest)) (kf : B = some rs → W p l e R s m args below meth c H locs cells slots Q (F0 m (pc + 3) ls rest)) : W p l e R s m args below meth c H locs cells slots Q (F0 m pc ls (.int y :: .int x :: rest)) := lv_icmp_ge C.1 C.2.1 hdg ht (rIf h kt kf).1 (rIf h kt kf).2
theorem rIcmpgt (C : CX p s m args meth c own cc nL ret G I) {x y : Int32} {off : Int} {tgt : Nat} {A B : Option α} (h : (if y < x then A else B) = some rs) (hdg : decode cc pc = .ok (.if_icmp .gt off, 3)) (ht : (pc : Int) + off = (tgt : Int)) (kt : A = some rs → W p l e R s m args below meth c H locs cells slots Q (F0 m tgt ls rest)) (kf : B = some rs → W p l e R s m args below meth c H locs cells slots Q (F0 m (pc + 3) ls rest)) : W p l e R s m args below meth c H locs cells slots Q (F0 m pc ls (.int y :: .int x :: rest)) := lv_icmp_gt C.1 C.2.1 hdg ht (rIf h kt kf).1 (rIf h kt kf).2
theorem rIcmple (C : CX p s m args meth c own cc nL ret G I) {x y : Int32} {off : Int} {tgt : Nat} {A B : Option α} (h : (if x ≤ y then A else B) = some rs) (hdg : decode cc pc = .ok (.if_icmp .le off, 3)) (ht : (pc : Int) + off = (tgt : Int)) (kt : A = some rs → W p l e R s m args below meth c H locs cells slots Q (F0 m tgt ls rest)) (kf : B = some rs → W p l e R s m args below meth c H locs cells slots Q (F0 m (pc + 3) ls rest)) : W p l e R s m args below meth c H locs cells slots Q (F0 m pc ls (.int y :: .int x :: rest)) := lv_icmp_le C.1 C.2.1 hdg ht (rIf h kt kf).1 (rIf h kt kf).2
/-! quotients -/
theorem rIdiv (C : CX p s m args meth c own cc nL ret G I) {x y : Int32} {K : Option α} (h : chk (!decide (y = 0)) K = some rs) (hdg : decode cc pc = .ok (.idiv, 1)) (kk : K = some rs → W p l e R s m args below meth c H locs cells slots Q (F0 m (pc + 1) ls (.int (x / y) :: rest))) : W p l e R s m args below meth c H locs cells slots Q (F0 m pc ls (.int y :: .int x :: rest)) := lv_idiv C.1 C.2.1 hdg (by have := (chk_some h).1; simpa using this) (kk (chk_some h).2)
theorem rIrem (C : CX p s m args meth c own cc nL ret G I) {x y : Int32} {K : Option α} (h : chk (!decide (y = 0)) K = some rs) (hdg : decode cc pc = .ok (.irem, 1)) (kk : K = some rs → W p l e R s m args below meth c H locs cells slots Q (F0 m (pc + 1) ls (.int (x - x / y * y) :: rest))) : W p l e R s m args below meth c H locs cells slots Q (F0 m pc ls (.int y :: .int x :: rest)) := lv_irem C.1 C.2.1 hdg (by have := (chk_some h).1; simpa using this) (kk (chk_some h).2)
theorem rLdiv (C : CX p s m args meth c own cc nL ret G I) {x y : Int64} {K : Option α} (h : chk (!decide (y = 0)) K = some rs) (hdg : decode cc pc = .ok (.ldiv, 1)) (kk : K = some rs → W p l e R s m args below meth c H locs cells slots Q (F0 m (pc + 1) ls (.long (x / y) :: rest))) : W p l e R s m args below meth c H locs cells slots Q (F0 m pc ls (.long y :: .long x :: rest)) := lv_ldiv C.1 C.2.1 hdg (by have := (chk_some h).1; simpa using this) (kk (chk_some h).2)
theorem rLrem (C : CX p s m args meth c own cc nL ret G I) {x y : Int64} {K : Option α} (h : chk (!decide (y = 0)) K = some rs) (hdg : decode cc pc = .ok (.lrem, 1)) (kk : K = some rs → W p l e R s m args below meth c H locs cells slots Q (F0 m (pc + 1) ls (.long (x - x / y * y) :: rest))) : W p l e R s m args below meth c H locs cells slots Q (F0 m pc ls (.long y :: .long x :: rest)) := lv_lrem C.1 C.2.1 hdg (by have := (chk_some h).1; simpa using this) (kk (chk_some h).2)
/-! fields and arrays of the world -/
theorem rGet (C : CX p s m args meth c own cc nL ret G I) (hG : GW G I z s.heap H locs) {b ci : Nat} {fl : (Nat → Int32) → List Value} (hm : b ∈ I) (hs : ∀ g, eW G b g = .inr (ci, fl g)) {k : Nat} {CC : String} {T : u_T} {N : Nat} (hf : FI ci k CC T N) {v : Value} (hv : (fl (z b))[k]? = some v) {index : Nat} (hk : Cond.fieldLink own index (T k).1 (T k).2.1 (T k).2.2.1 ∈ WG) (hdg : decode cc pc = .ok (.getfield index, 3))
    (kk : W p l e R s m args below meth c H locs cells slots Q (F0 m (pc + 3) ls (v :: rest))) : W p l e R s m args below meth c H locs cells slots Q (F0 m pc ls (.ref (gA G b) :: rest)) := by
  obtain ⟨q, hq⟩ := ws_pos hm
  have he := ws_get (G := G) (z := z) hq
  rw [hs] at he
  exact va_get C.1 C.2.1 C.2.2.2.2.1 hf.2.1 C.2.2.2.1 C.2.2.2.2.2.2.2.1 hG.1 q he hf.1 k hf.2.2 (C.2.2.2.2.1 _ hk) (fun _ h9 => h9) hv hdg kk
theorem rPut (C : CX p s m args meth c own cc nL ret G I) (hG : GW G I z s.heap H locs) {b ci : Nat} {fl : (Nat → Int32) → List Value} (hm : b ∈ I) (hs : ∀ g, eW G b g = .inr (ci, fl g)) {k : Nat} {CC : String} {T : u_T} {N : Nat} (hf : FI ci k CC T N) {ty0 : Nat → FieldType} (htk : ∀ k, k < N → parseFieldDescriptor (T k).2.2.1 = some (ty0 k)) (hnm : ∀ a, a < N → ∀ b, b < N → a ≠ b → (T a).2.1 ≠ (T b).2.1) (hfin : (T k).2.2.2 = false) {x : Int32} (hset : ∀ g, (fl g).set k (.int x) = fl (upd g k x)) (hlen : k < (fl (z b)).length) {ty : FieldType} (hd : parseFieldDescriptor (T k).2.2.1 = some ty) (hn : narrow ty (.int x) = .int x) (hfit : fits ty (.int x) = true) {index : Nat} (hk : Cond.fieldLink own index (T k).1 (T k).2.1 (T k).2.2.1 ∈ WG) {K : Sg → Option α} (h : letm (u2 z b k x) K = some rs) (hdg : decode cc pc = .ok (.putfield index, 3))
    (kk : ∀ (H1 : Heap) (locs1 : List Loc) (z1 : Sg), K z1 = some rs → GW G I z1 s.heap H1 locs1 → W p l e R s m args below meth c H1 locs1 cells slots Q (F0 m (pc + 3) ls rest)) : W p l e R s m args below meth c H locs cells slots Q (F0 m pc ls (.int x :: .ref (gA G b) :: rest)) := by
  obtain ⟨q, hq⟩ := ws_pos hm
  have he := ws_get (G := G) (z := z) hq
  rw [hs] at he
  have e1 : (wsI G I z).set q (gA G b, .inr (ci, (fl (z b)).set k (.int x))) = wsI G I (u2 z b k x) := by
    rw [hset, ← hs, ws_set hG.2.1 hq]
    rfl
  refine va_put C.1 C.2.1 C.2.2.2.2.1 hf.2.1 ty0 htk hnm C.2.2.2.1 C.2.2.2.2.2.2.2.1 hG.1 hG.2.1 hG.2.2 q he hf.1 k hf.2.2 (C.2.2.2.2.1 _ hk) (fun _ h9 => h9) hfin hd hn hfit hlen hdg (fun H1 locs1 hP hD hS => ?_)
  rw [e1] at hP hD
  exact kk H1 locs1 _ h ⟨hP, hD, hS⟩
theorem rIald (C : CX p s m args meth c own cc nL ret G I) (hG : GW G I z s.heap H locs) {b n : Nat} (hm : b ∈ I) (hs : ∀ g, eW G b g = eI G n g) {i : Int32} {K : Option α} (h : chk (inb i n) K = some rs) (hdg : decode cc pc = .ok (.iaload, 1))
    (kk : K = some rs → W p l e R s m args below meth c H locs cells slots Q (F0 m (pc + 1) ls (.int (ga z b i) :: rest))) : W p l e R s m args below meth c H locs cells slots Q (F0 m pc ls (.int i :: .ref (gA G b) :: rest)) := by
  obtain ⟨q, hq⟩ := ws_pos hm
  have he := ws_get (G := G) (z := z) hq
  rw [hs] at he
  exact va_iald C.1 C.2.1 C.2.2.2.2.2.2.2.1 hG.1 q 0 he rfl (inb_in (chk_some h).1) hdg (kk (chk_some h).2)
theorem rIast (C : CX p s m args meth c own cc nL ret G I) (hG : GW G I z s.heap H locs) {b n : Nat} (hm : b ∈ I) (hs : ∀ g, eW G b g = eI G n g) {i x : Int32} {K : Sg → Option α} (h : chk (inb i n) (letm (sa z b i x) K) = some rs) (hdg : decode cc pc = .ok (.iastore, 1))
    (kk : ∀ (H1 : Heap) (locs1 : List Loc) (z1 : Sg), K z1 = some rs → GW G I z1 s.heap H1 locs1 → W p l e R s m args below meth c H1 locs1 cells slots Q (F0 m (pc + 1) ls rest)) : W p l e R s m args below meth c H locs cells slots Q (F0 m pc ls (.int x :: .int i :: .ref (gA G b) :: rest)) := by
  obtain ⟨q, hq⟩ := ws_pos hm
  have he := ws_get (G := G) (z := z) hq
  rw [hs] at he
  have e1 : (wsI G I z).set q (gA G b, .inl (gI G, n, .inl (upd (z b) i.toNatClampNeg x))) = wsI G I (sa z b i x) := by
    have := ws_set hG.2.1 hq (upd (z b) i.toNatClampNeg x)
    rw [hs] at this
    exact this
  refine va_iast C.1 C.2.1 C.2.2.2.2.2.2.2.1 hG.1 hG.2.1 hG.2.2 q 0 he rfl (inb_in (chk_some h).1) hdg (fun H1 locs1 hP hD hS => ?_)
  rw [e1] at hP hD
  exact kk H1 locs1 _ (chk_some h).2 ⟨hP, hD, hS⟩
theorem rAald (C : CX p s m args meth c own cc nL ret G I) (hG : GW G I z s.heap H locs) {b n : Nat} {cA : ClassId} {f : Nat → Nat} (hm : b ∈ I) (hs : ∀ g, eW G b g = eQ cA n (fun j => some (gA G (f j)))) {t0 : Nat} {ty : FieldType} (ht : (tysG G)[t0]? = some (cA, ty)) (hk : refKind ty = true) {i : Int32} {K : Option α} (h : chk (inb i n) K = some rs) (hdg : decode cc pc = .ok (.aaload, 1))
    (kk : vp_in i n → K = some rs → W p l e R s m args below meth c H locs cells slots Q (F0 m (pc + 1) ls (.ref (gA G (f i.toNatClampNeg)) :: rest))) : W p l e R s m args below meth c H locs cells slots Q (F0 m pc ls (.int i :: .ref (gA G b) :: rest)) := by
  obtain ⟨q, hq⟩ := ws_pos hm
  have he := ws_get (G := G) (z := z) hq
  rw [hs] at he
  have hin := inb_in (chk_some h).1
  have hlt : i.toNatClampNeg < n := Nat.not_le.mp fun q => hin (Or.inr q)
  exact W.aald (v := .ref (gA G (f i.toNatClampNeg))) (ty := ty) C.1 C.2.1 (hG.1 q _ he) ((C.2.2.2.2.2.2.2.1.2 t0 _ ht).1 n (fun j => va_rf (some (gA G (f j))))) hk (fun q => by cases q) (by show ¬ (i < 0 ∨ (arrV _ _ _).slots.size ≤ _); rw [arrV_size]; exact hin) (by show (arrV _ _ _).slots[_]? = _; rw [arrV_read _ _ hlt]; rfl) rfl rfl hdg (kk hin (chk_some h).2)
theorem rAlen (C : CX p s m args meth c own cc nL ret G I) (hG : GW G I z s.heap H locs) {b n : Nat} (hm : b ∈ I) (hs : ∀ g, eW G b g = eI G n g) {v : Int32} (hv : Int32.ofNat n = v) (hdg : decode cc pc = .ok (.arraylength, 1))
    (kk : W p l e R s m args below meth c H locs cells slots Q (F0 m (pc + 1) ls (.int v :: rest))) : W p l e R s m args below meth c H locs cells slots Q (F0 m pc ls (.ref (gA G b) :: rest)) := by
  obtain ⟨q, hq⟩ := ws_pos hm
  have he := ws_get (G := G) (z := z) hq
  rw [hs] at he
  exact va_alen C.1 C.2.1 C.2.2.2.2.2.2.2.1 hG.1 q 0 he rfl hv hdg kk
theorem rIaldK (C : CX p s m args meth c own cc nL ret G I) (hG : GW G I z s.heap H locs) {b n : Nat} (hm : b ∈ I) (hs : ∀ g, eW G b g = eI G n g) {i : Int32} (j : Nat) (hj : i.toNatClampNeg = j) (hin : inb i n = true) (hdg : decode cc pc = .ok (.iaload, 1))
    (kk : W p l e R s m args below meth c H locs cells slots Q (F0 m (pc + 1) ls (.int (z b j) :: rest))) : W p l e R s m args below meth c H locs cells slots Q (F0 m pc ls (.int i :: .ref (gA G b) :: rest)) := by
  subst hj
  obtain ⟨q, hq⟩ := ws_pos hm
  have he := ws_get (G := G) (z := z) hq
  rw [hs] at he
  exact va_iald C.1 C.2.1 C.2.2.2.2.2.2.2.1 hG.1 q 0 he rfl (inb_in hin) hdg kk
theorem rIastK (C : CX p s m args meth c own cc nL ret G I) (hG : GW G I z s.heap H locs) {b n : Nat} (hm : b ∈ I) (hs : ∀ g, eW G b g = eI G n g) {i x : Int32} (j : Nat) (hj : i.toNatClampNeg = j) (hin : inb i n = true) {K : Sg → Option α} (h : letm (u2 z b j x) K = some rs) (hdg : decode cc pc = .ok (.iastore, 1))
    (kk : ∀ (H1 : Heap) (locs1 : List Loc) (z1 : Sg), K z1 = some rs → GW G I z1 s.heap H1 locs1 → W p l e R s m args below meth c H1 locs1 cells slots Q (F0 m (pc + 1) ls rest)) : W p l e R s m args below meth c H locs cells slots Q (F0 m pc ls (.int x :: .int i :: .ref (gA G b) :: rest)) := by
  subst hj
  refine rIast (K := K) C hG hm hs ?_ hdg kk
  rw [hin]
  exact h
theorem rAaldK (C : CX p s m args meth c own cc nL ret G I) (hG : GW G I z s.heap H locs) {b n : Nat} {cA : ClassId} {f : Nat → Nat} (hm : b ∈ I) (hs : ∀ g, eW G b g = eQ cA n (fun j => some (gA G (f j)))) {t0 : Nat} {ty : FieldType} (ht : (tysG G)[t0]? = some (cA, ty)) (hk : refKind ty = true) {i : Int32} (j : Nat) (hj : i.toNatClampNeg = j) (hin : inb i n = true) (d : Nat) (hd : f j = d) (hdg : decode cc pc = .ok (.aaload, 1))
    (kk : W p l e R s m args below meth c H locs cells slots Q (F0 m (pc + 1) ls (.ref (gA G d) :: rest))) : W p l e R s m args below meth c H locs cells slots Q (F0 m pc ls (.int i :: .ref (gA G b) :: rest)) := by
  subst hd
  subst hj
  refine rAald (α := Nat) (rs := 0) (K := some 0) C hG hm hs ht hk ?_ hdg (fun _ _ => kk)
  rw [hin]
  rfl
end RW1
end
section
/-! returns, entries, calls over the world -/
section RW2
variable {p : Program} {l : Launch} {e : Env} {R : Room} {s : State} {m : MethodId} {args : Array Value} {below : List Frame} {meth : Method} {c : Code} {H : Heap} {locs : List Loc} {cells slots : Nat} {Q : State → Prop}
variable {own : String} {cc : ByteArray} {nL : Nat} {ret : Option FieldType} {G : GT} {I : List Nat} {z : Sg} {pc : Nat} {ls : Array Slot} {rest : List Value} {α : Type} {rs : α}
theorem PB.of {U : State} (hB : KB G (AD G I) s) (hG : GW G I z s.heap H locs) (hW : s.WarmedH U.vm) (hU : U.heap = H) : PB G I z U := ⟨hB.step hG.2.2 hW hU, by rw [hU]; exact hG.1, hG.2.1⟩
theorem rReti (C : CX p s m args meth c own cc nL (some .int) G I) (hG : GW G I z s.heap H locs) {x R1 : Int32} {Z : Sg} (h : some (x, z) = some (R1, Z)) (hdg : decode cc pc = .ok (.ireturn, 1)) :
    W p l e R s m args below meth c H locs 0 0 (MQ below (Qi G I R1 Z) args s 0 0 (AD G I)) (F0 m pc ls [.int x]) := by
  cases h
  exact W.iret C.1 C.2.1 C.2.2.2.2.2.1 (fun t ht hW => ⟨⟨x, (), rfl, rfl, PB.of C.2.2.2.2.2.2.2 hG hW ht⟩, hG.2.2.F ht⟩) hG.2.2.2.2 hdg C.2.2.2.2.2.2.1
/-- an answer of a smaller type, that it holds -/
theorem rRetn (C : CX p s m args meth c own cc nL ret G I) (hG : GW G I z s.heap H locs) {ty : FieldType} (hty : ret = some ty) {x R1 : Int32} {Z : Sg} (hn : narrow ty (.int x) = .int x) (h : some (x, z) = some (R1, Z)) (hdg : decode cc pc = .ok (.ireturn, 1)) :
    W p l e R s m args below meth c H locs 0 0 (MQ below (Qi G I R1 Z) args s 0 0 (AD G I)) (F0 m pc ls [.int x]) := by
  cases h
  exact W.zret C.1 C.2.1 (C.2.2.2.2.2.1.trans hty) hn (fun t ht hW => ⟨⟨x, (), rfl, rfl, PB.of C.2.2.2.2.2.2.2 hG hW ht⟩, hG.2.2.F ht⟩) hG.2.2.2.2 hdg C.2.2.2.2.2.2.1
theorem rRetl (C : CX p s m args meth c own cc nL (some .long) G I) (hG : GW G I z s.heap H locs) {x R1 : Int64} {Z : Sg} (h : some (x, z) = some (R1, Z)) (hdg : decode cc pc = .ok (.lreturn, 1)) :
    W p l e R s m args below meth c H locs 0 0 (MQ below (Ql G I R1 Z) args s 0 0 (AD G I)) (F0 m pc ls [.long x]) := by
  cases h
  exact W.lret C.1 C.2.1 C.2.2.2.2.2.1 (fun t ht hW => ⟨⟨x, (), rfl, rfl, PB.of C.2.2.2.2.2.2.2 hG hW ht⟩, hG.2.2.F ht⟩) hG.2.2.2.2 hdg C.2.2.2.2.2.2.1
theorem rRetv (C : CX p s m args meth c own cc nL none G I) (hG : GW G I z s.heap H locs) {Z : Sg} (h : some z = some Z) (hdg : decode cc pc = .ok (.return_, 1)) :
    W p l e R s m args below meth c H locs 0 0 (MQ below (Qv G I Z) args s 0 0 (AD G I)) (F0 m pc ls []) := by
  cases h
  exact W.vret C.1 C.2.1 C.2.2.2.2.2.1 (fun t ht hW => ⟨⟨(), rfl, trivial, PB.of C.2.2.2.2.2.2.2 hG hW ht⟩, hG.2.2.F ht⟩) hG.2.2.2.2 hdg C.2.2.2.2.2.2.1
/-- a contract out of its body's walk -/
theorem entM {y : MethodName} {b : ByteArray} {n : Nat} {rm : Room} {av : List Value} {Qc : Array Value → State → Outcome → State → Prop} (hy : plainName y.cls = true) (hn : (lg_sl av).length ≤ n)
    (body : ∀ (p : Program) (e : Env) (s : State) (m : MethodId) (below : List Frame) (meth : Method) (c : Code), CX p s m av.toArray meth c y.cls b n ret G I → GW G I z s.heap s.heap [] → ∀ ls : Array Slot, lv_has ls n (lv_args 0 av) → W p l e rm s m av.toArray below meth c s.heap [] 0 0 (MQ below Qc av.toArray s 0 0 (AD G I)) (F0 m 0 ls [])) :
    Mt l y rm b n ret G I z av Qc := by
  refine Met.ofW (cc := b) (maxL := n) (ret := ret) hy rfl ?_
  intro p e s m args below meth c s₁ B hml hv
  obtain ⟨rfl, hB, hP, hD⟩ := hv
  have hts := atoms_spec (ws := wsF y b n ret) B.pre
  have C : CX p s m av.toArray meth c y.cls b n ret G I := ⟨B.exec, B.bytes, hml, findClass_of_methodNamed B.named, fun w hw => hts w (List.mem_cons_of_mem _ hw), B.returns, B.notSynchronized, hB⟩
  have hG : GW G I z s.heap s.heap [] := ⟨hP, hD, va_S.rf⟩
  have hl := lv_entry av (n := n) hn
  rw [lg_entry_eq]
  exact body p e s m below meth c C hG _ hl
/-- what a call needs of the words, but its link -/
def MV (y : MethodName) (b : ByteArray) (n : Nat) (r : Option FieldType) (k : Nat) : Prop :=
  (Cond.instanceMethod y ∈ WG ∧ Cond.selects y.cls y y ∈ WG) ∧ Cond.code y b n r ∈ WG ∧ Cond.initialized y.cls ∈ WG ∧ y.cls ≠ "java/lang/invoke/MethodHandle" ∧ y.cls ≠ "java/lang/invoke/VarHandle" ∧ (parseMethodDescriptor y.desc).map (fun d => d.parameters.length) = some k
def MS (y : MethodName) (b : ByteArray) (n : Nat) (r : Option FieldType) (k : Nat) : Prop :=
  Cond.static y ∈ WG ∧ Cond.code y b n r ∈ WG ∧ Cond.initialized y.cls ∈ WG ∧ y.cls ≠ "java/lang/invoke/MethodHandle" ∧ y.cls ≠ "java/lang/invoke/VarHandle" ∧ (parseMethodDescriptor y.desc).map (fun d => d.parameters.length) = some k
theorem goodIn_F {y : MethodName} {b : ByteArray} {n : Nat} {r : Option FieldType} (h : Cond.code y b n r ∈ WG) : GoodIn WG (wsF y b n r) := by
  intro w hw
  rcases List.mem_cons.mp hw with rfl | hw
  · exact ⟨h, wg_good h⟩
  · exact ⟨hw, wg_good hw⟩
section CW
variable {y : MethodName} {b : ByteArray} {n k : Nat} {r : Option FieldType} {index : Nat} {rm : Room} {Qc : Array Value → State → Outcome → State → Prop} {As : List Value} {a : Nat}
theorem rRunV (C : CX p s m args meth c own cc nL ret G I) (hG : GW G I z s.heap H locs) (hM : Mt l y rm b n r G I z (.ref a :: As) Qc) (mv : MV y b n r k) (hk : Cond.methodLink own index y ∈ WG) (hR : rm.frames + 1 ≤ R.frames ∧ 8 + (n + 11) + rm.locals ≤ R.locals) (hc : rm.cells = 0 ∧ rm.slots = 0)
    (hv : ∃ cellB : Cell, H[a]? = some cellB ∧ cellB.vm.isStatics = false ∧ s.vm.findClass y.cls = some cellB.cls) (hn : As.length = k) (hsize : ls.size = nL) (hw : (rest.map fun v => v.category).sum ≤ 8) (hdg : decode cc pc = .ok (.invokevirtual index, 3)) (hf : cells ≤ R.cells ∧ slots ≤ R.slots) :
    va_Run p l e R s m args below meth c H locs cells slots 0 0 (F0 m pc ls (As.reverse ++ .ref a :: rest)) rest (Qc (Value.ref a :: As).toArray) (AD G I) := by
  have ht := C.2.2.2.2.1
  obtain ⟨⟨v1, v2⟩, v3, v4, v5, v6, v7⟩ := mv
  refine va_runV (Ts := WG) (C := y.cls) (n := k) ⟨C.1, C.2.1, C.2.2.1, C.2.2.2.1, ht⟩ hM ⟨callB_of k ht (goodIn_F v3) rfl hc.1 hc.2 (ht _ v4) (ht _ hk) ⟨v5, v6, v7⟩ hR, ht _ v1, ht _ v2⟩ ⟨PB.blind _, hv, fun U hU hW => ⟨rfl, PB.of C.2.2.2.2.2.2.2 hG hW hU⟩⟩ rfl hn hsize rfl (lv_room hw) hdg hf
theorem rRunS (C : CX p s m args meth c own cc nL ret G I) (hG : GW G I z s.heap H locs) (hM : Mt l y rm b n r G I z As Qc) (mv : MS y b n r k) (hk : Cond.methodLink own index y ∈ WG) (hR : rm.frames + 1 ≤ R.frames ∧ 8 + (n + 11) + rm.locals ≤ R.locals) (hc : rm.cells = 0 ∧ rm.slots = 0)
    (hn : As.length = k) (hsize : ls.size = nL) (hw : (rest.map fun v => v.category).sum ≤ 8) (hdg : decode cc pc = .ok (.invokestatic index, 3)) (hf : cells ≤ R.cells ∧ slots ≤ R.slots) :
    va_Run p l e R s m args below meth c H locs cells slots 0 0 (F0 m pc ls (As.reverse ++ rest)) rest (Qc As.toArray) (AD G I) := by
  have ht := C.2.2.2.2.1
  obtain ⟨v1, v3, v4, v5, v6, v7⟩ := mv
  refine va_runS (Ts := WG) (n := k) ⟨C.1, C.2.1, C.2.2.1, C.2.2.2.1, ht⟩ hM ⟨callB_of k ht (goodIn_F v3) rfl hc.1 hc.2 (ht _ v4) (ht _ hk) ⟨v5, v6, v7⟩ hR, ht _ v1⟩ ⟨PB.blind _, fun U hU hW => ⟨rfl, PB.of C.2.2.2.2.2.2.2 hG hW hU⟩⟩ rfl hn hsize rfl (lv_room hw) hdg hf
theorem rRunSN {host : String} (C : CX p s m args meth c own cc nL ret G I) (hG : GW G I z s.heap H locs) (hM : Mt l y rm b n r G I z As Qc) (mv : MS y b n r k) (hk : va_Nw (.methodLinkNest own index y host) s) (hR : rm.frames + 1 ≤ R.frames ∧ 8 + (n + 11) + rm.locals ≤ R.locals) (hc : rm.cells = 0 ∧ rm.slots = 0)
    (hn : As.length = k) (hsize : ls.size = nL) (hw : (rest.map fun v => v.category).sum ≤ 8) (hdg : decode cc pc = .ok (.invokestatic index, 3)) (hf : cells ≤ R.cells ∧ slots ≤ R.slots) :
    va_Run p l e R s m args below meth c H locs cells slots 0 0 (F0 m pc ls (As.reverse ++ rest)) rest (Qc As.toArray) (AD G I) := by
  have ht := C.2.2.2.2.1
  obtain ⟨v1, v3, v4, v5, v6, v7⟩ := mv
  refine va_runSN (Ts := WG) (n := k) ⟨C.1, C.2.1, C.2.2.1, C.2.2.2.1, ht⟩ hM ⟨va_cnB k ht (goodIn_F v3) rfl hc.1 hc.2 hk (ht _ v4) ⟨v5, v6, v7⟩ hR, ht _ v1, trivial⟩ ⟨PB.blind _, fun U hU hW => ⟨rfl, PB.of C.2.2.2.2.2.2.2 hG hW hU⟩⟩ rfl hn hsize rfl (lv_room hw) hdg hf
end CW
/-- behind a call: the world with the new ints -/
theorem rBacki (hG : GW G I z s.heap H locs) {R1 : Int32} {Z : Sg} {a : Array Value} {st0 : List Value} (hr : va_Run p l e R s m args below meth c H locs cells slots 0 0 (F0 m pc ls st0) rest (Qi G I R1 Z a) (AD G I))
    (kk : ∀ (H1 : Heap) (locs1 : List Loc), GW G I Z s.heap H1 locs1 → W p l e R s m args below meth c H1 locs1 cells slots Q (F0 m (pc + 3) ls (.int R1 :: rest))) : W p l e R s m args below meth c H locs cells slots Q (F0 m pc ls st0) := by
  refine va_calli hr hG.2.2 (fun _ _ h => h) (fun _ h => h) (fun r u t H1 locs1 ht hvm hw hB hz hk hS => ?_)
  subst hw
  obtain ⟨-, hP, hD⟩ := hB
  rw [ht] at hP
  exact kk H1 locs1 ⟨hP, hD, hS⟩
theorem rBackl (hG : GW G I z s.heap H locs) {R1 : Int64} {Z : Sg} {a : Array Value} {st0 : List Value} (hr : va_Run p l e R s m args below meth c H locs cells slots 0 0 (F0 m pc ls st0) rest (Ql G I R1 Z a) (AD G I))
    (kk : ∀ (H1 : Heap) (locs1 : List Loc), GW G I Z s.heap H1 locs1 → W p l e R s m args below meth c H1 locs1 cells slots Q (F0 m (pc + 3) ls (.long R1 :: rest))) : W p l e R s m args below meth c H locs cells slots Q (F0 m pc ls st0) := by
  refine va_calll hr hG.2.2 (fun _ _ h => h) (fun _ h => h) (fun r u t H1 locs1 ht hvm hw hB hz hk hS => ?_)
  subst hw
  obtain ⟨-, hP, hD⟩ := hB
  rw [ht] at hP
  exact kk H1 locs1 ⟨hP, hD, hS⟩
theorem rBackv (hG : GW G I z s.heap H locs) {Z : Sg} {a : Array Value} {st0 : List Value} (hr : va_Run p l e R s m args below meth c H locs cells slots 0 0 (F0 m pc ls st0) rest (Qv G I Z a) (AD G I))
    (kk : ∀ (H1 : Heap) (locs1 : List Loc), GW G I Z s.heap H1 locs1 → W p l e R s m args below meth c H1 locs1 cells slots Q (F0 m (pc + 3) ls rest)) : W p l e R s m args below meth c H locs cells slots Q (F0 m pc ls st0) := by
  refine va_callv hr hG.2.2 (fun _ _ h => h) (fun _ h => h) (fun u t H1 locs1 ht hvm hw hB hz hk hS => ?_)
  obtain ⟨-, hP, hD⟩ := hB
  rw [ht] at hP
  exact kk H1 locs1 ⟨hP, hD, hS⟩
/-- a receiver: an object of the world -/
theorem rRecv (C : CX p s m args meth c own cc nL ret G I) (hG : GW G I z s.heap H locs) {b ci : Nat} {fl : (Nat → Int32) → List Value} (hm : b ∈ I) (hs : ∀ g, eW G b g = .inr (ci, fl g)) {CC : String} {T : u_T} {N : Nat} (hc : clsG[ci]? = some (CC, T, N)) : ∃ cellB : Cell, H[gA G b]? = some cellB ∧ cellB.vm.isStatics = false ∧ s.vm.findClass CC = some cellB.cls := by
  obtain ⟨q, hq⟩ := ws_pos hm
  have he := ws_get (G := G) (z := z) hq
  rw [hs] at he
  exact va_recv C.2.2.2.2.2.2.2.1 hG.1 hc he
end RW2
end
section
/-! calls out of the pure function; constants, tables, copies, Math -/
def kaM (i : Int32) : Int32 := ([9, 11, 11, 999, 9999] : List Int32).getD i.toNatClampNeg 0
def kaK (i : Int32) : Int32 := ([-1, 0, 0, 1, 2, 0] : List Int32).getD i.toNatClampNeg 0
/-- a run of n numbers copied within bounds -/
def cpb (sp dp n : Int32) (n0 n1 : Nat) : Bool := !(decide (sp < 0) || decide (dp < 0) || decide (n < 0)) && decide (sp.toNatClampNeg + n.toNatClampNeg ≤ n0) && decide (dp.toNatClampNeg + n.toNatClampNeg ≤ n1)
def cpy (z : Sg) (a : Nat) (sp : Int32) (b : Nat) (dp n : Int32) : Sg := ur z b (va_cpy (z a) (z b) sp.toNatClampNeg dp.toNatClampNeg n.toNatClampNeg)
section RW3
variable {p : Program} {l : Launch} {e : Env} {R : Room} {s : State} {m : MethodId} {args : Array Value} {below : List Frame} {meth : Method} {c : Code} {H : Heap} {locs : List Loc} {cells slots : Nat} {Q : State → Prop}
variable {own : String} {cc : ByteArray} {nL : Nat} {ret : Option FieldType} {G : GT} {I : List Nat} {z : Sg} {pc : Nat} {ls : Array Slot} {st0 : List Value} {α : Type} {rs : α}
section CW2
variable {y : MethodName} {b : ByteArray} {n k : Nat} {r : Option FieldType} {index : Nat} {rm : Room}
theorem rCVi (As : List Value) (rest : List Value) {a : Nat} (C : CX p s m args meth c own cc nL ret G I) (hG : GW G I z s.heap H locs) {P : Option (Int32 × Sg)} {K : Int32 → Sg → Option α} (h : bnd P K = some rs) (hM : ∀ {x : Int32} {z1 : Sg}, P = some (x, z1) → Mt l y rm b n r G I z (.ref a :: As) (Qi G I x z1)) (mv : MV y b n r k) (hk : Cond.methodLink own index y ∈ WG) (hR : rm.frames + 1 ≤ R.frames ∧ 8 + (n + 11) + rm.locals ≤ R.locals) (hc : rm.cells = 0 ∧ rm.slots = 0)
    (hv : ∃ cellB : Cell, H[a]? = some cellB ∧ cellB.vm.isStatics = false ∧ s.vm.findClass y.cls = some cellB.cls) (hn : As.length = k) (hsize : ls.size = nL) (hw : (rest.map fun v => v.category).sum ≤ 8) (hdg : decode cc pc = .ok (.invokevirtual index, 3)) (hf : cells ≤ R.cells ∧ slots ≤ R.slots) (hst : st0 = As.reverse ++ .ref a :: rest)
    (kk : ∀ (H1 : Heap) (locs1 : List Loc) (x : Int32) (z1 : Sg), K x z1 = some rs → GW G I z1 s.heap H1 locs1 → W p l e R s m args below meth c H1 locs1 cells slots Q (F0 m (pc + 3) ls (.int x :: rest))) : W p l e R s m args below meth c H locs cells slots Q (F0 m pc ls st0) := by
  subst hst
  obtain ⟨x, z1, h1, h2⟩ := bnd_some h
  exact rBacki hG (rRunV C hG (hM h1) mv hk hR hc hv hn hsize hw hdg hf) (fun H1 locs1 hG1 => kk H1 locs1 x z1 h2 hG1)
theorem rCVv (As : List Value) (rest : List Value) {a : Nat} (C : CX p s m args meth c own cc nL ret G I) (hG : GW G I z s.heap H locs) {P : Option Sg} {K : Sg → Option α} (h : bndv P K = some rs) (hM : ∀ {z1 : Sg}, P = some z1 → Mt l y rm b n r G I z (.ref a :: As) (Qv G I z1)) (mv : MV y b n r k) (hk : Cond.methodLink own index y ∈ WG) (hR : rm.frames + 1 ≤ R.frames ∧ 8 + (n + 11) + rm.locals ≤ R.locals) (hc : rm.cells = 0 ∧ rm.slots = 0)
    (hv : ∃ cellB : Cell, H[a]? = some cellB ∧ cellB.vm.isStatics = false ∧ s.vm.findClass y.cls = some cellB.cls) (hn : As.length = k) (hsize : ls.size = nL) (hw : (rest.map fun v => v.category).sum ≤ 8) (hdg : decode cc pc = .ok (.invokevirtual index, 3)) (hf : cells ≤ R.cells ∧ slots ≤ R.slots) (hst : st0 = As.reverse ++ .ref a :: rest)
    (kk : ∀ (H1 : Heap) (locs1 : List Loc) (z1 : Sg), K z1 = some rs → GW G I z1 s.heap H1 locs1 → W p l e R s m args below meth c H1 locs1 cells slots Q (F0 m (pc + 3) ls rest)) : W p l e R s m args below meth c H locs cells slots Q (F0 m pc ls st0) := by
  subst hst
  obtain ⟨z1, h1, h2⟩ := bndv_some h
  exact rBackv hG (rRunV C hG (hM h1) mv hk hR hc hv hn hsize hw hdg hf) (fun H1 locs1 hG1 => kk H1 locs1 z1 h2 hG1)
theorem rCVl (As : List Value) (rest : List Value) {a : Nat} (C : CX p s m args meth c own cc nL ret G I) (hG : GW G I z s.heap H locs) {P : Option (Int64 × Sg)} {K : Int64 → Sg → Option α} (h : bnd P K = some rs) (hM : ∀ {x : Int64} {z1 : Sg}, P = some (x, z1) → Mt l y rm b n r G I z (.ref a :: As) (Ql G I x z1)) (mv : MV y b n r k) (hk : Cond.methodLink own index y ∈ WG) (hR : rm.frames + 1 ≤ R.frames ∧ 8 + (n + 11) + rm.locals ≤ R.locals) (hc : rm.cells = 0 ∧ rm.slots = 0)
    (hv : ∃ cellB : Cell, H[a]? = some cellB ∧ cellB.vm.isStatics = false ∧ s.vm.findClass y.cls = some cellB.cls) (hn : As.length = k) (hsize : ls.size = nL) (hw : (rest.map fun v => v.category).sum ≤ 8) (hdg : decode cc pc = .ok (.invokevirtual index, 3)) (hf : cells ≤ R.cells ∧ slots ≤ R.slots) (hst : st0 = As.reverse ++ .ref a :: rest)
    (kk : ∀ (H1 : Heap) (locs1 : List Loc) (x : Int64) (z1 : Sg), K x z1 = some rs → GW G I z1 s.heap H1 locs1 → W p l e R s m args below meth c H1 locs1 cells slots Q (F0 m (pc + 3) ls (.long x :: rest))) : W p l e R s m args below meth c H locs cells slots Q (F0 m pc ls st0) := by
  subst hst
  obtain ⟨x, z1, h1, h2⟩ := bnd_some h
  exact rBackl hG (rRunV C hG (hM h1) mv hk hR hc hv hn hsize hw hdg hf) (fun H1 locs1 hG1 => kk H1 locs1 x z1 h2 hG1)
theorem rCSi (As : List Value) (rest : List Value) (C : CX p s m args meth c own cc nL ret G I) (hG : GW G I z s.heap H locs) {P : Option (Int32 × Sg)} {K : Int32 → Sg → Option α} (h : bnd P K = some rs) (hM : ∀ {x : Int32} {z1 : Sg}, P = some (x, z1) → Mt l y rm b n r G I z As (Qi G I x z1)) (mv : MS y b n r k) (hk : Cond.methodLink own index y ∈ WG) (hR : rm.frames + 1 ≤ R.frames ∧ 8 + (n + 11) + rm.locals ≤ R.locals) (hc : rm.cells = 0 ∧ rm.slots = 0)
    (hn : As.length = k) (hsize : ls.size = nL) (hw : (rest.map fun v => v.category).sum ≤ 8) (hdg : decode cc pc = .ok (.invokestatic index, 3)) (hf : cells ≤ R.cells ∧ slots ≤ R.slots) (hst : st0 = As.reverse ++ rest)
    (kk : ∀ (H1 : Heap) (locs1 : List Loc) (x : Int32) (z1 : Sg), K x z1 = some rs → GW G I z1 s.heap H1 locs1 → W p l e R s m args below meth c H1 locs1 cells slots Q (F0 m (pc + 3) ls (.int x :: rest))) : W p l e R s m args below meth c H locs cells slots Q (F0 m pc ls st0) := by
  subst hst
  obtain ⟨x, z1, h1, h2⟩ := bnd_some h
  exact rBacki hG (rRunS C hG (hM h1) mv hk hR hc hn hsize hw hdg hf) (fun H1 locs1 hG1 => kk H1 locs1 x z1 h2 hG1)
theorem rCSl (As : List Value) (rest : List Value) (C : CX p s m args meth c own cc nL ret G I) (hG : GW G I z s.heap H locs) {P : Option (Int64 × Sg)} {K : Int64 → Sg → Option α} (h : bnd P K = some rs) (hM : ∀ {x : Int64} {z1 : Sg}, P = some (x, z1) → Mt l y rm b n r G I z As (Ql G I x z1)) (mv : MS y b n r k) (hk : Cond.methodLink own index y ∈ WG) (hR : rm.frames + 1 ≤ R.frames ∧ 8 + (n + 11) + rm.locals ≤ R.locals) (hc : rm.cells = 0 ∧ rm.slots = 0)
    (hn : As.length = k) (hsize : ls.size = nL) (hw : (rest.map fun v => v.category).sum ≤ 8) (hdg : decode cc pc = .ok (.invokestatic index, 3)) (hf : cells ≤ R.cells ∧ slots ≤ R.slots) (hst : st0 = As.reverse ++ rest)
    (kk : ∀ (H1 : Heap) (locs1 : List Loc) (x : Int64) (z1 : Sg), K x z1 = some rs → GW G I z1 s.heap H1 locs1 → W p l e R s m args below meth c H1 locs1 cells slots Q (F0 m (pc + 3) ls (.long x :: rest))) : W p l e R s m args below meth c H locs cells slots Q (F0 m pc ls st0) := by
  subst hst
  obtain ⟨x, z1, h1, h2⟩ := bnd_some h
  exact rBackl hG (rRunS C hG (hM h1) mv hk hR hc hn hsize hw hdg hf) (fun H1 locs1 hG1 => kk H1 locs1 x z1 h2 hG1)
theorem rCNi {host : String} (As : List Value) (rest : List Value) (C : CX p s m args meth c own cc nL ret G I) (hG : GW G I z s.heap H locs) {P : Option (Int32 × Sg)} {K : Int32 → Sg → Option α} (h : bnd P K = some rs) (hM : ∀ {x : Int32} {z1 : Sg}, P = some (x, z1) → Mt l y rm b n r G I z As (Qi G I x z1)) (mv : MS y b n r k) (hk : va_Nw (.methodLinkNest own index y host) s) (hR : rm.frames + 1 ≤ R.frames ∧ 8 + (n + 11) + rm.locals ≤ R.locals) (hc : rm.cells = 0 ∧ rm.slots = 0)
    (hn : As.length = k) (hsize : ls.size = nL) (hw : (rest.map fun v => v.category).sum ≤ 8) (hdg : decode cc pc = .ok (.invokestatic index, 3)) (hf : cells ≤ R.cells ∧ slots ≤ R.slots) (hst : st0 = As.reverse ++ rest)
    (kk : ∀ (H1 : Heap) (locs1 : List Loc) (x : Int32) (z1 : Sg), K x z1 = some rs → GW G I z1 s.heap H1 locs1 → W p l e R s m args below meth c H1 locs1 cells slots Q (F0 m (pc + 3) ls (.int x :: rest))) : W p l e R s m args below meth c H locs cells slots Q (F0 m pc ls st0) := by
  subst hst
  obtain ⟨x, z1, h1, h2⟩ := bnd_some h
  exact rBacki hG (rRunSN C hG (hM h1) mv hk hR hc hn hsize hw hdg hf) (fun H1 locs1 hG1 => kk H1 locs1 x z1 h2 hG1)
end CW2
variable {rest : List Value}
theorem rGetsM (C : CX p s m args meth c NS cc nL ret G I) (hG : GW G I z s.heap H locs) {index : Nat} (hk : Cond.fieldLink NS index NS "MARK_MOST" "[I" ∈ WG) (hdg : decode cc pc = .ok (.getstatic index, 3)) (kk : W p l e R s m args below meth c H locs cells slots Q (F0 m (pc + 3) ls (.ref (gM G) :: rest))) : W p l e R s m args below meth c H locs cells slots Q (F0 m pc ls rest) :=
  va_gets C.1 C.2.1 C.2.2.2.2.2.2.2.2.2.1.1 hG.2.2 C.2.2.2.1 (C.2.2.2.2.1 _ hk) (fun _ h => h) hdg kk
theorem rGetsK (C : CX p s m args meth c NS cc nL ret G I) (hG : GW G I z s.heap H locs) {index : Nat} (hk : Cond.fieldLink NS index NS "KIND_ABOVE" "[I" ∈ WG) (hdg : decode cc pc = .ok (.getstatic index, 3)) (kk : W p l e R s m args below meth c H locs cells slots Q (F0 m (pc + 3) ls (.ref (gK G) :: rest))) : W p l e R s m args below meth c H locs cells slots Q (F0 m pc ls rest) :=
  va_gets C.1 C.2.1 C.2.2.2.2.2.2.2.2.2.2.1.1 hG.2.2 C.2.2.2.1 (C.2.2.2.2.1 _ hk) (fun _ h => h) hdg kk
theorem rTabM (C : CX p s m args meth c own cc nL ret G I) (hG : GW G I z s.heap H locs) {i : Int32} {K : Option α} (h : chk (inb i 5) K = some rs) (hdg : decode cc pc = .ok (.iaload, 1)) (kk : K = some rs → W p l e R s m args below meth c H locs cells slots Q (F0 m (pc + 1) ls (.int (kaM i) :: rest))) : W p l e R s m args below meth c H locs cells slots Q (F0 m pc ls (.int i :: .ref (gM G) :: rest)) :=
  va_ti C.1 C.2.1 C.2.2.2.2.2.2.2.2.2.1.2 hG.2.2 (inb_in (chk_some h).1) (v := .int (kaM i)) rfl hdg (kk (chk_some h).2)
theorem rTabK (C : CX p s m args meth c own cc nL ret G I) (hG : GW G I z s.heap H locs) {i : Int32} {K : Option α} (h : chk (inb i 6) K = some rs) (hdg : decode cc pc = .ok (.iaload, 1)) (kk : K = some rs → W p l e R s m args below meth c H locs cells slots Q (F0 m (pc + 1) ls (.int (kaK i) :: rest))) : W p l e R s m args below meth c H locs cells slots Q (F0 m pc ls (.int i :: .ref (gK G) :: rest)) :=
  va_ti C.1 C.2.1 C.2.2.2.2.2.2.2.2.2.2.1.2 hG.2.2 (inb_in (chk_some h).1) (v := .int (kaK i)) rfl hdg (kk (chk_some h).2)
/-- what System.arraycopy needs of the words -/
def CPW : Prop := Cond.native arraycopyName ∈ WG ∧ Cond.static arraycopyName ∈ WG ∧ Cond.initialized "java/lang/System" ∈ WG
theorem rCopy (C : CX p s m args meth c own cc nL ret G I) (hG : GW G I z s.heap H locs) {a b n0 n1 : Nat} (ha : a ∈ I) (hb : b ∈ I) (ea : ∀ g, eW G a g = eI G n0 g) (eb : ∀ g, eW G b g = eI G n1 g) {index : Nat} (hk : Cond.methodLink own index arraycopyName ∈ WG) (hw : CPW) {sp dp n : Int32} {K : Sg → Option α} (h : chk (cpb sp dp n n0 n1) (letm (cpy z a sp b dp n) K) = some rs) (hsize : ls.size = nL)
    (hframes : 1 ≤ R.frames) (hlocals : (rest.map fun v => v.category).sum + (nativeFrameWords "java/lang/System" "arraycopy" 5 + 11) ≤ R.locals) (hdg : decode cc pc = .ok (.invokestatic index, 3))
    (kk : ∀ (H1 : Heap) (locs1 : List Loc) (z1 : Sg), K z1 = some rs → GW G I z1 s.heap H1 locs1 → W p l e R s m args below meth c H1 locs1 cells slots Q (F0 m (pc + 3) ls rest)) : W p l e R s m args below meth c H locs cells slots Q (F0 m pc ls (.int n :: .int dp :: .ref (gA G b) :: .int sp :: .ref (gA G a) :: rest)) := by
  obtain ⟨q0, hq0⟩ := ws_pos ha
  obtain ⟨q1, hq1⟩ := ws_pos hb
  have h0 := ws_get (G := G) (z := z) hq0
  have h1 := ws_get (G := G) (z := z) hq1
  rw [ea] at h0
  rw [eb] at h1
  obtain ⟨hc, hK⟩ := chk_some h
  simp only [cpb, Bool.and_eq_true, Bool.not_eq_true', Bool.or_eq_false_iff, decide_eq_false_iff_not, decide_eq_true_eq] at hc
  obtain ⟨⟨⟨⟨c1, c2⟩, c3⟩, c4⟩, c5⟩ := hc
  have e1 : (wsI G I z).set q1 (gA G b, .inl (gI G, n1, .inl (va_cpy (z a) (z b) sp.toNatClampNeg dp.toNatClampNeg n.toNatClampNeg))) = wsI G I (cpy z a sp b dp n) := by
    have := ws_set hG.2.1 hq1 (va_cpy (z a) (z b) sp.toNatClampNeg dp.toNatClampNeg n.toNatClampNeg)
    rw [eb] at this
    exact this
  have ht := C.2.2.2.2.1
  refine va_copyi C.1 C.2.1 (by rw [C.2.2.1, hsize]) C.2.2.2.1 (ht _ hk) (ht _ hw.1) (ht _ hw.2.1) (ht _ hw.2.2) C.2.2.2.2.2.2.2.1 hG.1 hG.2.1 hG.2.2 q0 q1 0 0 h0 h1 rfl rfl rfl c1 c2 c3 c4 c5 (fun _ _ => rfl) hframes hlocals hdg (fun H1 locs1 hP hD hS => ?_)
  rw [e1] at hP hD
  exact kk H1 locs1 _ hK ⟨hP, hD, hS⟩
/-- Math.max, min, abs -/
def MTW (nm : MethodName) (cd : ByteArray) (k : Nat) : Prop := Cond.static nm ∈ WG ∧ Cond.initialized "java/lang/Math" ∈ WG ∧ Cond.code nm cd k (some .int) ∈ WG
theorem rMax (C : CX p s m args meth c own cc nL ret G I) {index : Nat} (hk : Cond.methodLink own index Lib.Math.max.name ∈ WG) (hw : MTW Lib.Math.max.name Lib.Math.max.code 2) (hsize : ls.size = nL) (hframes : 1 ≤ R.frames) (hlocals : (rest.map fun v => v.category).sum + 13 ≤ R.locals) (hf : cells ≤ R.cells ∧ slots ≤ R.slots) {x y : Int32} (hdg : decode cc pc = .ok (.invokestatic index, 3)) (kk : W p l e R s m args below meth c H locs cells slots Q (F0 m (pc + 3) ls (.int (if x < y then y else x) :: rest))) : W p l e R s m args below meth c H locs cells slots Q (F0 m pc ls (.int y :: .int x :: rest)) :=
  va_mmax C.1 C.2.1 (by rw [C.2.2.1, hsize]) C.2.2.2.1 (C.2.2.2.2.1 _ hk) (C.2.2.2.2.1 _ hw.1) (C.2.2.2.2.1 _ hw.2.1) (C.2.2.2.2.1 _ hw.2.2) hframes hlocals hf.1 hf.2 hdg kk
theorem rMin (C : CX p s m args meth c own cc nL ret G I) {index : Nat} (hk : Cond.methodLink own index Lib.Math.min.name ∈ WG) (hw : MTW Lib.Math.min.name Lib.Math.min.code 2) (hsize : ls.size = nL) (hframes : 1 ≤ R.frames) (hlocals : (rest.map fun v => v.category).sum + 13 ≤ R.locals) (hf : cells ≤ R.cells ∧ slots ≤ R.slots) {x y : Int32} (hdg : decode cc pc = .ok (.invokestatic index, 3)) (kk : W p l e R s m args below meth c H locs cells slots Q (F0 m (pc + 3) ls (.int (if y < x then y else x) :: rest))) : W p l e R s m args below meth c H locs cells slots Q (F0 m pc ls (.int y :: .int x :: rest)) :=
  va_mmin C.1 C.2.1 (by rw [C.2.2.1, hsize]) C.2.2.2.1 (C.2.2.2.2.1 _ hk) (C.2.2.2.2.1 _ hw.1) (C.2.2.2.2.1 _ hw.2.1) (C.2.2.2.2.1 _ hw.2.2) hframes hlocals hf.1 hf.2 hdg kk
theorem rAbs (C : CX p s m args meth c own cc nL ret G I) {index : Nat} (hk : Cond.methodLink own index Lib.Math.abs.name ∈ WG) (hw : MTW Lib.Math.abs.name Lib.Math.abs.code 1) (hsize : ls.size = nL) (hframes : 1 ≤ R.frames) (hlocals : (rest.map fun v => v.category).sum + 13 ≤ R.locals) (hf : cells ≤ R.cells ∧ slots ≤ R.slots) {x : Int32} (hdg : decode cc pc = .ok (.invokestatic index, 3)) (kk : W p l e R s m args below meth c H locs cells slots Q (F0 m (pc + 3) ls (.int (if 0 ≤ x then x else 0 - x) :: rest))) : W p l e R s m args below meth c H locs cells slots Q (F0 m pc ls (.int x :: rest)) :=
  va_mabs C.1 C.2.1 (by rw [C.2.2.1, hsize]) C.2.2.2.1 (C.2.2.2.2.1 _ hk) (C.2.2.2.2.1 _ hw.1) (C.2.2.2.2.1 _ hw.2.1) (C.2.2.2.2.1 _ hw.2.2) hframes hlocals hf.1 hf.2 hdg kk
/-! switches: one case after the other -/
theorem rSwT (C : CX p s m args meth c own cc nL ret G I) {dflt lo hi : Int} {offs : Array Int} {len : Nat} {x : Int32} (hdg : decode cc pc = .ok (.tableswitch dflt lo hi offs, len)) (v : Int32) {off : Int} {tgt : Nat} (hx : x = v) (h1 : ¬ v.toInt < lo ∧ ¬ hi < v.toInt) (ho : offs[(v.toInt - lo).toNat]? = some off) (ht : (pc : Int) + off = (tgt : Int)) (kk : W p l e R s m args below meth c H locs cells slots Q (F0 m tgt ls rest)) : W p l e R s m args below meth c H locs cells slots Q (F0 m pc ls (.int x :: rest)) := by
  subst hx
  exact lv_tableIn C.1 C.2.1 hdg h1.1 h1.2 ho ht kk
theorem rSwD (C : CX p s m args meth c own cc nL ret G I) {dflt lo hi : Int} {offs : Array Int} {len : Nat} {x : Int32} (hdg : decode cc pc = .ok (.tableswitch dflt lo hi offs, len)) {tgt : Nat} (hx : x.toInt < lo ∨ hi < x.toInt) (ht : (pc : Int) + dflt = (tgt : Int)) (kk : W p l e R s m args below meth c H locs cells slots Q (F0 m tgt ls rest)) : W p l e R s m args below meth c H locs cells slots Q (F0 m pc ls (.int x :: rest)) :=
  lv_tableOut C.1 C.2.1 hdg hx ht kk
theorem ne_toInt {x v : Int32} {k : Int} (h : ¬ x = v) (hk : v.toInt = k) : ¬ x.toInt = k := lv_neT h hk
theorem ifP {cnd : Prop} [Decidable cnd] {A B : Option α} (q : cnd) (h : (if cnd then A else B) = some rs) : A = some rs := by rw [if_pos q] at h; exact h
theorem ifN {cnd : Prop} [Decidable cnd] {A B : Option α} (q : ¬ cnd) (h : (if cnd then A else B) = some rs) : B = some rs := by rw [if_neg q] at h; exact h
end RW3
end
