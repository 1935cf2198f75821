def yD_take : MethodName := ⟨ND, "take", "(I)V"⟩
abbrev bD_take : ByteArray := prog_5_method_2_code
def yL_clear : MethodName := ⟨NL, "clear", "()V"⟩
abbrev bL_clear : ByteArray := prog_3_method_2_code
def yD_isLetter : MethodName := ⟨ND, "isLetter", "(I)Z"⟩
abbrev bD_isLetter : ByteArray := prog_5_method_17_code
def yJS_coder : MethodName := ⟨NJS, "coder", "()B"⟩
abbrev bJS_coder : ByteArray := prog_13_method_152_code
def yJS_length : MethodName := ⟨NJS, "length", "()I"⟩
abbrev bJS_length : ByteArray := prog_13_method_54_code
def yJS_isLatin1 : MethodName := ⟨NJS, "isLatin1", "()Z"⟩
abbrev bJS_isLatin1 : ByteArray := prog_13_method_154_code
def yJP_checkIndex : MethodName := ⟨NJP, "checkIndex", "(IILjava/util/function/BiFunction;)I"⟩
abbrev bJP_checkIndex : ByteArray := prog_17_method_11_code
def yJS_checkIndex : MethodName := ⟨NJS, "checkIndex", "(II)V"⟩
abbrev bJS_checkIndex : ByteArray := prog_13_method_155_code
def yJL_charAt : MethodName := ⟨NJL, "charAt", "([BI)C"⟩
abbrev bJL_charAt : ByteArray := prog_14_method_2_code
def yJS_charAt : MethodName := ⟨NJS, "charAt", "(I)C"⟩
abbrev bJS_charAt : ByteArray := prog_13_method_56_code
def yD_isWordAt : MethodName := ⟨ND, "isWordAt", "(II)Z"⟩
abbrev bD_isWordAt : ByteArray := prog_5_method_15_code
def yD_advanceWord : MethodName := ⟨ND, "advanceWord", "()V"⟩
abbrev bD_advanceWord : ByteArray := prog_5_method_14_code
def yD_isDigit : MethodName := ⟨ND, "isDigit", "(I)Z"⟩
abbrev bD_isDigit : ByteArray := prog_5_method_18_code
def yD_advanceNumber : MethodName := ⟨ND, "advanceNumber", "()V"⟩
abbrev bD_advanceNumber : ByteArray := prog_5_method_16_code
def yJL_canEncode : MethodName := ⟨NJL, "canEncode", "(I)Z"⟩
abbrev bJL_canEncode : ByteArray := prog_14_method_4_code
def yJL_indexOfChar : MethodName := ⟨NJL, "indexOfChar", "([BIII)I"⟩
abbrev bJL_indexOfChar : ByteArray := prog_14_method_23_code
def yJL_indexOf : MethodName := ⟨NJL, "indexOf", "([BIII)I"⟩
abbrev bJL_indexOf : ByteArray := prog_14_method_22_code
def yJS_indexOf2 : MethodName := ⟨NJS, "indexOf", "(II)I"⟩
abbrev bJS_indexOf2 : ByteArray := prog_13_method_80_code
def yJS_indexOf : MethodName := ⟨NJS, "indexOf", "(I)I"⟩
abbrev bJS_indexOf : ByteArray := prog_13_method_79_code
def yD_advance : MethodName := ⟨ND, "advance", "()V"⟩
abbrev bD_advance : ByteArray := prog_5_method_13_code
def yD_fail : MethodName := ⟨ND, "fail", "()V"⟩
abbrev bD_fail : ByteArray := prog_5_method_5_code
def yD_expect : MethodName := ⟨ND, "expect", "(I)V"⟩
abbrev bD_expect : ByteArray := prog_5_method_4_code
def yL_add : MethodName := ⟨NL, "add", "(I)V"⟩
abbrev bL_add : ByteArray := prog_3_method_3_code
def yD_opens : MethodName := ⟨ND, "opens", "(I)Z"⟩
abbrev bD_opens : ByteArray := prog_5_method_12_code
def yD_readEither : MethodName := ⟨ND, "readEither", "(I)V"⟩
abbrev bD_readEither : ByteArray := prog_5_method_6_code
def yD_readBoth : MethodName := ⟨ND, "readBoth", "(I)V"⟩
abbrev bD_readBoth : ByteArray := prog_5_method_7_code
def yD_readNot : MethodName := ⟨ND, "readNot", "(I)V"⟩
abbrev bD_readNot : ByteArray := prog_5_method_8_code
def yD_readSum : MethodName := ⟨ND, "readSum", "(I)V"⟩
abbrev bD_readSum : ByteArray := prog_5_method_9_code
def yD_readTerm : MethodName := ⟨ND, "readTerm", "(I)V"⟩
abbrev bD_readTerm : ByteArray := prog_5_method_10_code
def yD_readOne : MethodName := ⟨ND, "readOne", "(I)V"⟩
abbrev bD_readOne : ByteArray := prog_5_method_11_code
def yL_endPart : MethodName := ⟨NL, "endPart", "(I)V"⟩
abbrev bL_endPart : ByteArray := prog_3_method_4_code
def yD_readAll : MethodName := ⟨ND, "readAll", "()I"⟩
abbrev bD_readAll : ByteArray := prog_5_method_3_code
def yL_become : MethodName := ⟨NL, "become", "(LScythesKeepStep$Law;)V"⟩
abbrev bL_become : ByteArray := prog_3_method_5_code
def yR_inStep : MethodName := ⟨NR, "inStep", "(I)Z"⟩
abbrev bR_inStep : ByteArray := prog_6_method_8_code
def yR_inStepBits : MethodName := ⟨NR, "inStepBits", "()I"⟩
abbrev bR_inStepBits : ByteArray := prog_6_method_9_code
def yJI_bitCount : MethodName := ⟨NJI, "bitCount", "(I)I"⟩
abbrev bJI_bitCount : ByteArray := prog_11_method_49_code
def yS_count : MethodName := ⟨NS, "count", "(I)I"⟩
abbrev bS_count : ByteArray := prog_1_method_2_code
def yS_within : MethodName := ⟨NS, "within", "(II)Z"⟩
abbrev bS_within : ByteArray := prog_1_method_37_code
def yR_whoAt : MethodName := ⟨NR, "whoAt", "(I)I"⟩
abbrev bR_whoAt : ByteArray := prog_6_method_5_code
def yS_sets : MethodName := ⟨NS, "sets", "(II)I"⟩
abbrev bS_sets : ByteArray := prog_1_method_3_code
def yS_row : MethodName := ⟨NS, "row", "(I)I"⟩
abbrev bS_row : ByteArray := prog_1_method_4_code
def yS_feed : MethodName := ⟨NS, "feed", "(IIIIII)I"⟩
abbrev bS_feed : ByteArray := prog_1_method_5_code
def yS_text : MethodName := ⟨NS, "text", "()I"⟩
abbrev bS_text : ByteArray := prog_1_method_6_code
def yS_force : MethodName := ⟨NS, "force", "(I)I"⟩
abbrev bS_force : ByteArray := prog_1_method_7_code
def yR_has : MethodName := ⟨NR, "has", "(I)Z"⟩
abbrev bR_has : ByteArray := prog_6_method_3_code
def yR_seenAt : MethodName := ⟨NR, "seenAt", "(I)I"⟩
abbrev bR_seenAt : ByteArray := prog_6_method_13_code
def yR_lookAt : MethodName := ⟨NR, "lookAt", "(I)V"⟩
abbrev bR_lookAt : ByteArray := prog_6_method_12_code
def yL_joined : MethodName := ⟨NL, "joined", "(III)I"⟩
abbrev bL_joined : ByteArray := prog_3_method_7_code
def yL_says : MethodName := ⟨NL, "says", "(I[I)I"⟩
abbrev bL_says : ByteArray := prog_3_method_6_code
def yS_asks : MethodName := ⟨NS, "asks", "(II)I"⟩
abbrev bS_asks : ByteArray := prog_1_method_8_code
def yR_isFree : MethodName := ⟨NR, "isFree", "(I)Z"⟩
abbrev bR_isFree : ByteArray := prog_6_method_6_code
def yR_add : MethodName := ⟨NR, "add", "(III)I"⟩
abbrev bR_add : ByteArray := prog_6_method_4_code
def yS_comes : MethodName := ⟨NS, "comes", "(II)I"⟩
abbrev bS_comes : ByteArray := prog_1_method_40_code
def yS_mower : MethodName := ⟨NS, "mower", "(II)I"⟩
abbrev bS_mower : ByteArray := prog_1_method_9_code
def yR_isFreeFor : MethodName := ⟨NR, "isFreeFor", "(II)Z"⟩
abbrev bR_isFreeFor : ByteArray := prog_6_method_7_code
def yS_put : MethodName := ⟨NS, "put", "(III)I"⟩
abbrev bS_put : ByteArray := prog_1_method_10_code
def yR_keepsTo : MethodName := ⟨NR, "keepsTo", "()I"⟩
abbrev bR_keepsTo : ByteArray := prog_6_method_17_code
def yJM_floorMod : MethodName := ⟨NJM, "floorMod", "(II)I"⟩
abbrev bJM_floorMod : ByteArray := prog_12_method_50_code
def yS_isA : MethodName := ⟨NS, "isA", "(II)Z"⟩
abbrev bS_isA : ByteArray := prog_1_method_38_code
def yR_howFar : MethodName := ⟨NR, "howFar", "()I"⟩
abbrev bR_howFar : ByteArray := prog_6_method_15_code
def yR_clashes : MethodName := ⟨NR, "clashes", "()Z"⟩
abbrev bR_clashes : ByteArray := prog_6_method_14_code
def yR_howTiring : MethodName := ⟨NR, "howTiring", "()I"⟩
abbrev bR_howTiring : ByteArray := prog_6_method_16_code
def yS_told : MethodName := ⟨NS, "told", "(II)I"⟩
abbrev bS_told : ByteArray := prog_1_method_11_code
def yR_swingOn : MethodName := ⟨NR, "swingOn", "()I"⟩
abbrev bR_swingOn : ByteArray := prog_6_method_18_code
def yS_stroke : MethodName := ⟨NS, "stroke", "()I"⟩
abbrev bS_stroke : ByteArray := prog_1_method_12_code
def yR_become : MethodName := ⟨NR, "become", "(LScythesKeepStep$Row;)V"⟩
abbrev bR_become : ByteArray := prog_6_method_2_code
def yR_cutBy : MethodName := ⟨NR, "cutBy", "(I)I"⟩
abbrev bR_cutBy : ByteArray := prog_6_method_19_code
def yR_clashBits : MethodName := ⟨NR, "clashBits", "()I"⟩
abbrev bR_clashBits : ByteArray := prog_6_method_10_code
def yS_run : MethodName := ⟨NS, "run", "(II)I"⟩
abbrev bS_run : ByteArray := prog_1_method_13_code
def yR_anySpent : MethodName := ⟨NR, "anySpent", "()Z"⟩
abbrev bR_anySpent : ByteArray := prog_6_method_11_code
def yS_happens : MethodName := ⟨NS, "happens", "(I)Z"⟩
abbrev bS_happens : ByteArray := prog_1_method_41_code
def yS_when : MethodName := ⟨NS, "when", "(I)I"⟩
abbrev bS_when : ByteArray := prog_1_method_14_code
def yS_often : MethodName := ⟨NS, "often", "(III)I"⟩
abbrev bS_often : ByteArray := prog_1_method_15_code
def yB_clear : MethodName := ⟨NB, "clear", "()V"⟩
abbrev bB_clear : ByteArray := prog_2_method_2_code
def yB_offer : MethodName := ⟨NB, "offer", "(II)V"⟩
abbrev bB_offer : ByteArray := prog_2_method_3_code
def yB_tells : MethodName := ⟨NB, "tells", "(I)I"⟩
abbrev bB_tells : ByteArray := prog_2_method_4_code
def yS_gap : MethodName := ⟨NS, "gap", "(II)I"⟩
abbrev bS_gap : ByteArray := prog_1_method_16_code
def yS_stands : MethodName := ⟨NS, "stands", "(III)I"⟩
abbrev bS_stands : ByteArray := prog_1_method_17_code
def yS_tempo : MethodName := ⟨NS, "tempo", "(II)I"⟩
abbrev bS_tempo : ByteArray := prog_1_method_18_code
def yO_begin : MethodName := ⟨NO, "begin", "(LScythesKeepStep$Row;)V"⟩
abbrev bO_begin : ByteArray := prog_4_method_2_code
def yO_seat : MethodName := ⟨NO, "seat", "(LScythesKeepStep$Row;)V"⟩
abbrev bO_seat : ByteArray := prog_4_method_3_code
def yO_digits : MethodName := ⟨NO, "digits", "()I"⟩
abbrev bO_digits : ByteArray := prog_4_method_4_code
def yO_swap : MethodName := ⟨NO, "swap", "(II)V"⟩
abbrev bO_swap : ByteArray := prog_4_method_6_code
def yO_goesOn : MethodName := ⟨NO, "goesOn", "()Z"⟩
abbrev bO_goesOn : ByteArray := prog_4_method_5_code
def yS_order : MethodName := ⟨NS, "order", "(II)I"⟩
abbrev bS_order : ByteArray := prog_1_method_19_code
def yS_lowestTerm : MethodName := ⟨NS, "lowestTerm", "(III)J"⟩
abbrev bS_lowestTerm : ByteArray := prog_1_method_39_code
def yS_mean : MethodName := ⟨NS, "mean", "(II)J"⟩
abbrev bS_mean : ByteArray := prog_1_method_20_code
def yH_isMissing : MethodName := ⟨NH, "isMissing", "()Z"⟩
abbrev bH_isMissing : ByteArray := prog_7_method_2_code
def yS_refusalOfTold : MethodName := ⟨NS, "refusalOfTold", "(I)I"⟩
abbrev bS_refusalOfTold : ByteArray := prog_1_method_42_code
def yS_refusalOfOne : MethodName := ⟨NS, "refusalOfOne", "(II)I"⟩
abbrev bS_refusalOfOne : ByteArray := prog_1_method_43_code
def yS_firstOtherwise : MethodName := ⟨NS, "firstOtherwise", "(II)I"⟩
abbrev bS_firstOtherwise : ByteArray := prog_1_method_44_code
def yS_judge : MethodName := ⟨NS, "judge", "(II)I"⟩
abbrev bS_judge : ByteArray := prog_1_method_21_code
def yS_bitsOfFact : MethodName := ⟨NS, "bitsOfFact", "(IIII)I"⟩
abbrev bS_bitsOfFact : ByteArray := prog_1_method_45_code
def yS_kinds : MethodName := ⟨NS, "kinds", "(III)I"⟩
abbrev bS_kinds : ByteArray := prog_1_method_22_code
def yS_bitsOfMark : MethodName := ⟨NS, "bitsOfMark", "(III)I"⟩
abbrev bS_bitsOfMark : ByteArray := prog_1_method_46_code
def yS_states : MethodName := ⟨NS, "states", "(III)I"⟩
abbrev bS_states : ByteArray := prog_1_method_23_code
def yS_weary : MethodName := ⟨NS, "weary", "(III)I"⟩
abbrev bS_weary : ByteArray := prog_1_method_24_code
def yS_whose : MethodName := ⟨NS, "whose", "(I)I"⟩
abbrev bS_whose : ByteArray := prog_1_method_25_code
def yS_laws : MethodName := ⟨NS, "laws", "(II)I"⟩
abbrev bS_laws : ByteArray := prog_1_method_26_code
def yH_remake : MethodName := ⟨NH, "remake", "(II)V"⟩
abbrev bH_remake : ByteArray := prog_7_method_3_code
def yH_write : MethodName := ⟨NH, "write", "(II)V"⟩
abbrev bH_write : ByteArray := prog_7_method_4_code
def yS_film : MethodName := ⟨NS, "film", "(III)I"⟩
abbrev bS_film : ByteArray := prog_1_method_27_code
def yR_nextLot : MethodName := ⟨NR, "nextLot", "(J)J"⟩
abbrev bR_nextLot : ByteArray := prog_6_method_21_code
def yR_cutByGusts : MethodName := ⟨NR, "cutByGusts", "(I)I"⟩
abbrev bR_cutByGusts : ByteArray := prog_6_method_20_code
def yS_drawn : MethodName := ⟨NS, "drawn", "(II)I"⟩
abbrev bS_drawn : ByteArray := prog_1_method_28_code
def yS_odds : MethodName := ⟨NS, "odds", "(IIII)J"⟩
abbrev bS_odds : ByteArray := prog_1_method_29_code
def yS_image : MethodName := ⟨NS, "image", "()I"⟩
abbrev bS_image : ByteArray := prog_1_method_30_code
def yS_back : MethodName := ⟨NS, "back", "()I"⟩
abbrev bS_back : ByteArray := prog_1_method_31_code
def yS_sheet : MethodName := ⟨NS, "sheet", "(III)I"⟩
abbrev bS_sheet : ByteArray := prog_1_method_32_code
def yS_cell : MethodName := ⟨NS, "cell", "(III)I"⟩
abbrev bS_cell : ByteArray := prog_1_method_33_code
def yH_holds : MethodName := ⟨NH, "holds", "(II)Z"⟩
abbrev bH_holds : ByteArray := prog_7_method_5_code
def yS_copy : MethodName := ⟨NS, "copy", "(IIIII)I"⟩
abbrev bS_copy : ByteArray := prog_1_method_34_code
def yS_mowersBy : MethodName := ⟨NS, "mowersBy", "(IIII)I"⟩
abbrev bS_mowersBy : ByteArray := prog_1_method_35_code
def yS_taken : MethodName := ⟨NS, "taken", "(II)I"⟩
abbrev bS_taken : ByteArray := prog_1_method_36_code
def yM_in : MethodName := ⟨NM, "in", "(III)Z"⟩
abbrev bM_in : ByteArray := prog_9_method_3_code
def yM_wordFrom : MethodName := ⟨NM, "wordFrom", "(II)I"⟩
abbrev bM_wordFrom : ByteArray := prog_9_method_21_code
def yM_next : MethodName := ⟨NM, "next", "()V"⟩
abbrev bM_next : ByteArray := prog_9_method_22_code
def yM_puts : MethodName := ⟨NM, "puts", "(I)V"⟩
abbrev bM_puts : ByteArray := prog_9_method_24_code
def yM_rank : MethodName := ⟨NM, "rank", "(I)I"⟩
abbrev bM_rank : ByteArray := prog_9_method_23_code
def yM_unwinds : MethodName := ⟨NM, "unwinds", "(I)V"⟩
abbrev bM_unwinds : ByteArray := prog_9_method_25_code
def yM_holds : MethodName := ⟨NM, "holds", "(I)V"⟩
abbrev bM_holds : ByteArray := prog_9_method_26_code
def yM_opensOne : MethodName := ⟨NM, "opensOne", "(I)Z"⟩
abbrev bM_opensOne : ByteArray := prog_9_method_27_code
def yM_signOf : MethodName := ⟨NM, "signOf", "()I"⟩
abbrev bM_signOf : ByteArray := prog_9_method_29_code
def yM_between : MethodName := ⟨NM, "between", "(I)Z"⟩
abbrev bM_between : ByteArray := prog_9_method_28_code
def yM_eRead : MethodName := ⟨NM, "eRead", "()Z"⟩
abbrev bM_eRead : ByteArray := prog_9_method_30_code
def yM_text : MethodName := ⟨NM, "text", "()I"⟩
abbrev bM_text : ByteArray := prog_9_method_31_code
def yM_inStep : MethodName := ⟨NM, "inStep", "()I"⟩
abbrev bM_inStep : ByteArray := prog_9_method_13_code
def yM_ones : MethodName := ⟨NM, "ones", "(I)I"⟩
abbrev bM_ones : ByteArray := prog_9_method_15_code
def yM_count : MethodName := ⟨NM, "count", "(I)I"⟩
abbrev bM_count : ByteArray := prog_9_method_16_code
def yM_whoAt : MethodName := ⟨NM, "whoAt", "(I)I"⟩
abbrev bM_whoAt : ByteArray := prog_9_method_6_code
def yM_sets : MethodName := ⟨NM, "sets", "(II)I"⟩
abbrev bM_sets : ByteArray := prog_9_method_17_code
def yM_row : MethodName := ⟨NM, "row", "(I)I"⟩
abbrev bM_row : ByteArray := prog_9_method_18_code
def yM_isByte : MethodName := ⟨NM, "isByte", "(I)Z"⟩
abbrev bM_isByte : ByteArray := prog_9_method_19_code
def yM_feed : MethodName := ⟨NM, "feed", "(IIIIII)I"⟩
abbrev bM_feed : ByteArray := prog_9_method_20_code
def yM_force : MethodName := ⟨NM, "force", "(I)I"⟩
abbrev bM_force : ByteArray := prog_9_method_34_code
def yM_isOne : MethodName := ⟨NM, "isOne", "(I)Z"⟩
abbrev bM_isOne : ByteArray := prog_9_method_5_code
def yM_besideOf : MethodName := ⟨NM, "besideOf", "(II)I"⟩
abbrev bM_besideOf : ByteArray := prog_9_method_8_code
def yM_leftOf : MethodName := ⟨NM, "leftOf", "(I)I"⟩
abbrev bM_leftOf : ByteArray := prog_9_method_9_code
def yM_rightOf : MethodName := ⟨NM, "rightOf", "(I)I"⟩
abbrev bM_rightOf : ByteArray := prog_9_method_10_code
def yM_two : MethodName := ⟨NM, "two", "(III)I"⟩
abbrev bM_two : ByteArray := prog_9_method_32_code
def yM_says : MethodName := ⟨NM, "says", "(I)I"⟩
abbrev bM_says : ByteArray := prog_9_method_33_code
def yM_within : MethodName := ⟨NM, "within", "(III)I"⟩
abbrev bM_within : ByteArray := prog_9_method_4_code
def yM_asksOf : MethodName := ⟨NM, "asksOf", "(II)I"⟩
abbrev bM_asksOf : ByteArray := prog_9_method_35_code
def yM_asks : MethodName := ⟨NM, "asks", "(II)I"⟩
abbrev bM_asks : ByteArray := prog_9_method_36_code
def yM_isFree : MethodName := ⟨NM, "isFree", "(I)Z"⟩
abbrev bM_isFree : ByteArray := prog_9_method_7_code
def yM_mower : MethodName := ⟨NM, "mower", "(II)I"⟩
abbrev bM_mower : ByteArray := prog_9_method_37_code
def yM_put : MethodName := ⟨NM, "put", "(III)I"⟩
abbrev bM_put : ByteArray := prog_9_method_38_code
def yM_keepsOf : MethodName := ⟨NM, "keepsOf", "(I)I"⟩
abbrev bM_keepsOf : ByteArray := prog_9_method_39_code
def yM_swingsOf : MethodName := ⟨NM, "swingsOf", "(I)I"⟩
abbrev bM_swingsOf : ByteArray := prog_9_method_40_code
def yM_areApart : MethodName := ⟨NM, "areApart", "(II)Z"⟩
abbrev bM_areApart : ByteArray := prog_9_method_11_code
def yM_doesClash : MethodName := ⟨NM, "doesClash", "(I)Z"⟩
abbrev bM_doesClash : ByteArray := prog_9_method_12_code
def yM_tiresOf : MethodName := ⟨NM, "tiresOf", "(I)I"⟩
abbrev bM_tiresOf : ByteArray := prog_9_method_41_code
def yM_told : MethodName := ⟨NM, "told", "(II)I"⟩
abbrev bM_told : ByteArray := prog_9_method_42_code
def yM_strokeOf : MethodName := ⟨NM, "strokeOf", "()I"⟩
abbrev bM_strokeOf : ByteArray := prog_9_method_43_code
def yM_stroke : MethodName := ⟨NM, "stroke", "()I"⟩
abbrev bM_stroke : ByteArray := prog_9_method_44_code
def yM_keeps : MethodName := ⟨NM, "keeps", "()V"⟩
abbrev bM_keeps : ByteArray := prog_9_method_45_code
def yM_goes : MethodName := ⟨NM, "goes", "(I)I"⟩
abbrev bM_goes : ByteArray := prog_9_method_47_code
def yM_clashing : MethodName := ⟨NM, "clashing", "()I"⟩
abbrev bM_clashing : ByteArray := prog_9_method_14_code
def yM_toldBehind : MethodName := ⟨NM, "toldBehind", "(I)I"⟩
abbrev bM_toldBehind : ByteArray := prog_9_method_48_code
def yM_lays : MethodName := ⟨NM, "lays", "()V"⟩
abbrev bM_lays : ByteArray := prog_9_method_46_code
def yM_run : MethodName := ⟨NM, "run", "(II)I"⟩
abbrev bM_run : ByteArray := prog_9_method_49_code
def yM_isNow : MethodName := ⟨NM, "isNow", "(I)Z"⟩
abbrev bM_isNow : ByteArray := prog_9_method_50_code
def yM_when : MethodName := ⟨NM, "when", "(I)I"⟩
abbrev bM_when : ByteArray := prog_9_method_51_code
def yM_often : MethodName := ⟨NM, "often", "(III)I"⟩
abbrev bM_often : ByteArray := prog_9_method_52_code
def yM_cutNow : MethodName := ⟨NM, "cutNow", "(I)I"⟩
abbrev bM_cutNow : ByteArray := prog_9_method_53_code
def yM_gap : MethodName := ⟨NM, "gap", "(II)I"⟩
abbrev bM_gap : ByteArray := prog_9_method_54_code
def yM_stands : MethodName := ⟨NM, "stands", "(III)I"⟩
abbrev bM_stands : ByteArray := prog_9_method_55_code
def yM_tempo : MethodName := ⟨NM, "tempo", "(II)I"⟩
abbrev bM_tempo : ByteArray := prog_9_method_56_code
def yM_tellsTaken : MethodName := ⟨NM, "tellsTaken", "()V"⟩
abbrev bM_tellsTaken : ByteArray := prog_9_method_57_code
def yM_orders : MethodName := ⟨NM, "orders", "(I)Z"⟩
abbrev bM_orders : ByteArray := prog_9_method_58_code
def yM_order : MethodName := ⟨NM, "order", "(II)I"⟩
abbrev bM_order : ByteArray := prog_9_method_59_code
def yM_lowest : MethodName := ⟨NM, "lowest", "(JJI)J"⟩
abbrev bM_lowest : ByteArray := prog_9_method_60_code
def yM_mean : MethodName := ⟨NM, "mean", "(II)J"⟩
abbrev bM_mean : ByteArray := prog_9_method_61_code
def yM_sheetWrong : MethodName := ⟨NM, "sheetWrong", "(I)I"⟩
abbrev bM_sheetWrong : ByteArray := prog_9_method_62_code
def yM_toldWrong : MethodName := ⟨NM, "toldWrong", "(II)I"⟩
abbrev bM_toldWrong : ByteArray := prog_9_method_63_code
def yM_unlike : MethodName := ⟨NM, "unlike", "(II)I"⟩
abbrev bM_unlike : ByteArray := prog_9_method_64_code
def yM_judge : MethodName := ⟨NM, "judge", "(II)I"⟩
abbrev bM_judge : ByteArray := prog_9_method_65_code
def yM_kinds : MethodName := ⟨NM, "kinds", "(III)I"⟩
abbrev bM_kinds : ByteArray := prog_9_method_66_code
def yM_placesBy : MethodName := ⟨NM, "placesBy", "(II)I"⟩
abbrev bM_placesBy : ByteArray := prog_9_method_67_code
def yM_swingsBy : MethodName := ⟨NM, "swingsBy", "(II)I"⟩
abbrev bM_swingsBy : ByteArray := prog_9_method_68_code
def yM_rowBy : MethodName := ⟨NM, "rowBy", "(III)I"⟩
abbrev bM_rowBy : ByteArray := prog_9_method_69_code
def yM_states : MethodName := ⟨NM, "states", "(III)I"⟩
abbrev bM_states : ByteArray := prog_9_method_70_code
def yM_weary : MethodName := ⟨NM, "weary", "(III)I"⟩
abbrev bM_weary : ByteArray := prog_9_method_71_code
def yM_whose : MethodName := ⟨NM, "whose", "(I)I"⟩
abbrev bM_whose : ByteArray := prog_9_method_72_code
def yM_laws : MethodName := ⟨NM, "laws", "(II)I"⟩
abbrev bM_laws : ByteArray := prog_9_method_73_code
def yM_film : MethodName := ⟨NM, "film", "(III)I"⟩
abbrev bM_film : ByteArray := prog_9_method_74_code
def yM_gusts : MethodName := ⟨NM, "gusts", "(I)I"⟩
abbrev bM_gusts : ByteArray := prog_9_method_75_code
def yM_drawn : MethodName := ⟨NM, "drawn", "(II)I"⟩
abbrev bM_drawn : ByteArray := prog_9_method_76_code
def yM_odds : MethodName := ⟨NM, "odds", "(IIII)J"⟩
abbrev bM_odds : ByteArray := prog_9_method_77_code
def yM_image : MethodName := ⟨NM, "image", "()I"⟩
abbrev bM_image : ByteArray := prog_9_method_78_code
def yM_back : MethodName := ⟨NM, "back", "()I"⟩
abbrev bM_back : ByteArray := prog_9_method_79_code
def yM_sheet : MethodName := ⟨NM, "sheet", "(III)I"⟩
abbrev bM_sheet : ByteArray := prog_9_method_80_code
def yM_cell : MethodName := ⟨NM, "cell", "(III)I"⟩
abbrev bM_cell : ByteArray := prog_9_method_81_code
def yM_copy : MethodName := ⟨NM, "copy", "(IIIII)I"⟩
abbrev bM_copy : ByteArray := prog_9_method_82_code
def yM_mowersBy : MethodName := ⟨NM, "mowersBy", "(IIII)I"⟩
abbrev bM_mowersBy : ByteArray := prog_9_method_83_code
def yM_isUnder : MethodName := ⟨NM, "isUnder", "(II)Z"⟩
abbrev bM_isUnder : ByteArray := prog_9_method_84_code
def yM_taken : MethodName := ⟨NM, "taken", "(II)I"⟩
abbrev bM_taken : ByteArray := prog_9_method_85_code
theorem k_57 : Cond.fieldLink ND 22 (TD 1).1 (TD 1).2.1 (TD 1).2.2.1 ∈ WG := wg_1 57 (by rfl) rfl
theorem k_59 : Cond.fieldLink ND 18 (TD 2).1 (TD 2).2.1 (TD 2).2.2.1 ∈ WG := wg_1 59 (by rfl) rfl
theorem k_224 : Cond.code yD_take bD_take 2 none ∈ WG := wg_1 224 (by rfl) rfl
theorem k_2 : Cond.initialized ND ∈ WG := wg_1 2 (by rfl) rfl
theorem k_222 : Cond.instanceMethod yD_take ∈ WG := wg_1 222 (by rfl) rfl
theorem k_223 : Cond.selects yD_take.cls yD_take yD_take ∈ WG := wg_1 223 (by rfl) rfl
theorem k_44 : Cond.fieldLink NL 21 (TL 3).1 (TL 3).2.1 (TL 3).2.2.1 ∈ WG := wg_1 44 (by rfl) rfl
theorem k_232 : Cond.code yL_clear bL_clear 1 none ∈ WG := wg_1 232 (by rfl) rfl
theorem k_3 : Cond.initialized NL ∈ WG := wg_1 3 (by rfl) rfl
theorem k_230 : Cond.instanceMethod yL_clear ∈ WG := wg_1 230 (by rfl) rfl
theorem k_231 : Cond.selects yL_clear.cls yL_clear yL_clear ∈ WG := wg_1 231 (by rfl) rfl
theorem k_239 : Cond.code yD_isLetter bD_isLetter 1 (some .boolean) ∈ WG := wg_1 239 (by rfl) rfl
theorem k_238 : Cond.static yD_isLetter ∈ WG := wg_1 238 (by rfl) rfl
theorem k_181 : Cond.fieldLink NJS 38 NJS "COMPACT_STRINGS" "Z" ∈ WG := wg_1 181 (by rfl) rfl
theorem k_1195 : Cond.fieldLink NJS 15 NJS "coder" "B" ∈ WG := wg_5 235 (by rfl) rfl
theorem k_180 : Cond.code yJS_coder bJS_coder 1 (some .byte) ∈ WG := wg_1 180 (by rfl) rfl
theorem k_8 : Cond.initialized NJS ∈ WG := wg_1 8 (by rfl) rfl
theorem k_178 : Cond.instanceMethod yJS_coder ∈ WG := wg_1 178 (by rfl) rfl
theorem k_179 : Cond.selects yJS_coder.cls yJS_coder yJS_coder ∈ WG := wg_1 179 (by rfl) rfl
theorem k_1194 : Cond.fieldLink NJS 9 NJS "value" "[B" ∈ WG := wg_5 234 (by rfl) rfl
theorem k_177 : Cond.methodLink NJS 335 yJS_coder ∈ WG := wg_1 177 (by rfl) rfl
theorem k_176 : Cond.code yJS_length bJS_length 1 (some .int) ∈ WG := wg_1 176 (by rfl) rfl
theorem k_174 : Cond.instanceMethod yJS_length ∈ WG := wg_1 174 (by rfl) rfl
theorem k_175 : Cond.selects yJS_length.cls yJS_length yJS_length ∈ WG := wg_1 175 (by rfl) rfl
theorem k_190 : Cond.code yJS_isLatin1 bJS_isLatin1 1 (some .boolean) ∈ WG := wg_1 190 (by rfl) rfl
theorem k_188 : Cond.instanceMethod yJS_isLatin1 ∈ WG := wg_1 188 (by rfl) rfl
theorem k_189 : Cond.selects yJS_isLatin1.cls yJS_isLatin1 yJS_isLatin1 ∈ WG := wg_1 189 (by rfl) rfl
theorem k_201 : Cond.code yJP_checkIndex bJP_checkIndex 3 (some .int) ∈ WG := wg_1 201 (by rfl) rfl
theorem k_10 : Cond.initialized NJP ∈ WG := wg_1 10 (by rfl) rfl
theorem k_200 : Cond.static yJP_checkIndex ∈ WG := wg_1 200 (by rfl) rfl
theorem k_197 : Cond.fieldLink NJS 1053 NJP "SIOOBE_FORMATTER" "Ljava/util/function/BiFunction;" ∈ WG := wg_1 197 (by rfl) rfl
theorem k_199 : Cond.methodLink NJS 1059 yJP_checkIndex ∈ WG := wg_1 199 (by rfl) rfl
theorem k_196 : Cond.code yJS_checkIndex bJS_checkIndex 2 none ∈ WG := wg_1 196 (by rfl) rfl
theorem k_195 : Cond.static yJS_checkIndex ∈ WG := wg_1 195 (by rfl) rfl
theorem k_194 : Cond.methodLink NJL 9 yJS_checkIndex ∈ WG := wg_1 194 (by rfl) rfl
theorem k_193 : Cond.code yJL_charAt bJL_charAt 2 (some .char) ∈ WG := wg_1 193 (by rfl) rfl
theorem k_9 : Cond.initialized NJL ∈ WG := wg_1 9 (by rfl) rfl
theorem k_192 : Cond.static yJL_charAt ∈ WG := wg_1 192 (by rfl) rfl
theorem k_187 : Cond.methodLink NJS 492 yJS_isLatin1 ∈ WG := wg_1 187 (by rfl) rfl
theorem k_191 : Cond.methodLink NJS 495 yJL_charAt ∈ WG := wg_1 191 (by rfl) rfl
theorem k_186 : Cond.code yJS_charAt bJS_charAt 2 (some .char) ∈ WG := wg_1 186 (by rfl) rfl
theorem k_184 : Cond.instanceMethod yJS_charAt ∈ WG := wg_1 184 (by rfl) rfl
theorem k_185 : Cond.selects yJS_charAt.cls yJS_charAt yJS_charAt ∈ WG := wg_1 185 (by rfl) rfl
theorem k_60 : Cond.fieldLink ND 26 (TD 3).1 (TD 3).2.1 (TD 3).2.2.1 ∈ WG := wg_1 60 (by rfl) rfl
theorem k_62 : Cond.fieldLink ND 54 (TD 5).1 (TD 5).2.1 (TD 5).2.2.1 ∈ WG := wg_1 62 (by rfl) rfl
theorem k_246 : Cond.methodLink ND 108 yJS_charAt ∈ WG := wg_2 6 (by rfl) rfl
theorem k_250 : Cond.code yD_isWordAt bD_isWordAt 4 (some .boolean) ∈ WG := wg_2 10 (by rfl) rfl
theorem k_249 : Cond.instanceMethod yD_isWordAt ∈ WG := wg_2 9 (by rfl) rfl
theorem k_sel_D_isWordAt : Cond.selects yD_isWordAt.cls yD_isWordAt yD_isWordAt ∈ WG := wg_s (n := 8) (by decide +kernel)
theorem k_237 : Cond.methodLink ND 82 yD_isLetter ∈ WG := wg_1 237 (by rfl) rfl
theorem k_61 : Cond.fieldLink ND 48 (TD 4).1 (TD 4).2.1 (TD 4).2.2.1 ∈ WG := wg_1 61 (by rfl) rfl
theorem k_245 : Cond.methodLink ND 104 yJS_length ∈ WG := wg_2 5 (by rfl) rfl
theorem k_247 : Cond.methodLink ND 112 yD_isWordAt ∈ WG := wg_2 7 (by rfl) rfl
theorem k_243 : Cond.code yD_advanceWord bD_advanceWord 4 none ∈ WG := wg_2 3 (by rfl) rfl
theorem k_242 : Cond.instanceMethod yD_advanceWord ∈ WG := wg_2 2 (by rfl) rfl
theorem k_sel_D_advanceWord : Cond.selects yD_advanceWord.cls yD_advanceWord yD_advanceWord ∈ WG := wg_s (n := 8) (by decide +kernel)
theorem k_253 : Cond.code yD_isDigit bD_isDigit 1 (some .boolean) ∈ WG := wg_2 13 (by rfl) rfl
theorem k_252 : Cond.static yD_isDigit ∈ WG := wg_2 12 (by rfl) rfl
theorem k_63 : Cond.fieldLink ND 79 (TD 6).1 (TD 6).2.1 (TD 6).2.2.1 ∈ WG := wg_1 63 (by rfl) rfl
theorem k_251 : Cond.methodLink ND 88 yD_isDigit ∈ WG := wg_2 11 (by rfl) rfl
theorem k_257 : Cond.code yD_advanceNumber bD_advanceNumber 1 none ∈ WG := wg_2 17 (by rfl) rfl
theorem k_256 : Cond.instanceMethod yD_advanceNumber ∈ WG := wg_2 16 (by rfl) rfl
theorem k_sel_D_advanceNumber : Cond.selects yD_advanceNumber.cls yD_advanceNumber yD_advanceNumber ∈ WG := wg_s (n := 8) (by decide +kernel)
theorem k_273 : Cond.code yJL_canEncode bJL_canEncode 1 (some .boolean) ∈ WG := wg_2 33 (by rfl) rfl
theorem k_272 : Cond.static yJL_canEncode ∈ WG := wg_2 32 (by rfl) rfl
theorem k_282 : Cond.code yJL_indexOfChar bJL_indexOfChar 6 (some .int) ∈ WG := wg_2 42 (by rfl) rfl
theorem k_281 : Cond.static yJL_indexOfChar ∈ WG := wg_2 41 (by rfl) rfl
theorem k_271 : Cond.methodLink NJL 88 yJL_canEncode ∈ WG := wg_2 31 (by rfl) rfl
theorem k_274 : Cond.methodLink NJL 92 Lib.Math.max.name ∈ WG := wg_2 34 (by rfl) rfl
theorem k_277 : Cond.methodLink NJL 38 Lib.Math.min.name ∈ WG := wg_2 37 (by rfl) rfl
theorem k_280 : Cond.methodLink NJL 95 yJL_indexOfChar ∈ WG := wg_2 40 (by rfl) rfl
theorem k_270 : Cond.code yJL_indexOf bJL_indexOf 4 (some .int) ∈ WG := wg_2 30 (by rfl) rfl
theorem k_269 : Cond.static yJL_indexOf ∈ WG := wg_2 29 (by rfl) rfl
theorem k_267 : Cond.methodLink NJS 505 yJS_length ∈ WG := wg_2 27 (by rfl) rfl
theorem k_268 : Cond.methodLink NJS 637 yJL_indexOf ∈ WG := wg_2 28 (by rfl) rfl
theorem k_266 : Cond.code yJS_indexOf2 bJS_indexOf2 3 (some .int) ∈ WG := wg_2 26 (by rfl) rfl
theorem k_264 : Cond.instanceMethod yJS_indexOf2 ∈ WG := wg_2 24 (by rfl) rfl
theorem k_265 : Cond.selects yJS_indexOf2.cls yJS_indexOf2 yJS_indexOf2 ∈ WG := wg_2 25 (by rfl) rfl
theorem k_263 : Cond.methodLink NJS 633 yJS_indexOf2 ∈ WG := wg_2 23 (by rfl) rfl
theorem k_262 : Cond.code yJS_indexOf bJS_indexOf 2 (some .int) ∈ WG := wg_2 22 (by rfl) rfl
theorem k_260 : Cond.instanceMethod yJS_indexOf ∈ WG := wg_2 20 (by rfl) rfl
theorem k_261 : Cond.selects yJS_indexOf.cls yJS_indexOf yJS_indexOf ∈ WG := wg_2 21 (by rfl) rfl
theorem k_259 : Cond.methodLink ND 96 yJS_indexOf ∈ WG := wg_2 19 (by rfl) rfl
theorem k_254 : Cond.methodLink ND 91 yD_advanceNumber ∈ WG := wg_2 14 (by rfl) rfl
theorem k_240 : Cond.methodLink ND 85 yD_advanceWord ∈ WG := wg_2 0 (by rfl) rfl
theorem k_236 : Cond.code yD_advance bD_advance 1 none ∈ WG := wg_1 236 (by rfl) rfl
theorem k_235 : Cond.instanceMethod yD_advance ∈ WG := wg_1 235 (by rfl) rfl
theorem k_sel_D_advance : Cond.selects yD_advance.cls yD_advance yD_advance ∈ WG := wg_s (n := 8) (by decide +kernel)
theorem k_64 : Cond.fieldLink ND 29 (TD 7).1 (TD 7).2.1 (TD 7).2.2.1 ∈ WG := wg_1 64 (by rfl) rfl
theorem k_325 : Cond.code yD_fail bD_fail 1 none ∈ WG := wg_2 85 (by rfl) rfl
theorem k_324 : Cond.instanceMethod yD_fail ∈ WG := wg_2 84 (by rfl) rfl
theorem k_sel_D_fail : Cond.selects yD_fail.cls yD_fail yD_fail ∈ WG := wg_s (n := 8) (by decide +kernel)
theorem k_322 : Cond.methodLink ND 51 yD_fail ∈ WG := wg_2 82 (by rfl) rfl
theorem k_233 : Cond.methodLink ND 35 yD_advance ∈ WG := wg_1 233 (by rfl) rfl
theorem k_321 : Cond.code yD_expect bD_expect 2 none ∈ WG := wg_2 81 (by rfl) rfl
theorem k_320 : Cond.instanceMethod yD_expect ∈ WG := wg_2 80 (by rfl) rfl
theorem k_sel_D_expect : Cond.selects yD_expect.cls yD_expect yD_expect ∈ WG := wg_s (n := 8) (by decide +kernel)
theorem k_41 : Cond.fieldLink NL 9 (TL 0).1 (TL 0).2.1 (TL 0).2.2.1 ∈ WG := wg_1 41 (by rfl) rfl
theorem k_345 : Cond.code yL_add bL_add 2 none ∈ WG := wg_2 105 (by rfl) rfl
theorem k_343 : Cond.instanceMethod yL_add ∈ WG := wg_2 103 (by rfl) rfl
theorem k_344 : Cond.selects yL_add.cls yL_add yL_add ∈ WG := wg_2 104 (by rfl) rfl
theorem k_341 : Cond.code yD_opens bD_opens 2 (some .boolean) ∈ WG := wg_2 101 (by rfl) rfl
theorem k_340 : Cond.instanceMethod yD_opens ∈ WG := wg_2 100 (by rfl) rfl
theorem k_sel_D_opens : Cond.selects yD_opens.cls yD_opens yD_opens ∈ WG := wg_s (n := 8) (by decide +kernel)
theorem k_330 : Cond.methodLink ND 57 yD_readBoth ∈ WG := wg_2 90 (by rfl) rfl
theorem k_55 : Cond.fieldLink ND 12 (TD 0).1 (TD 0).2.1 (TD 0).2.2.1 ∈ WG := wg_1 55 (by rfl) rfl
theorem k_342 : Cond.methodLink ND 60 yL_add ∈ WG := wg_2 102 (by rfl) rfl
theorem k_329 : Cond.code yD_readEither bD_readEither 3 none ∈ WG := wg_2 89 (by rfl) rfl
theorem k_328 : Cond.instanceMethod yD_readEither ∈ WG := wg_2 88 (by rfl) rfl
theorem k_sel_D_readEither : Cond.selects yD_readEither.cls yD_readEither yD_readEither ∈ WG := wg_s (n := 8) (by decide +kernel)
theorem k_334 : Cond.methodLink ND 63 yD_readNot ∈ WG := wg_2 94 (by rfl) rfl
theorem k_333 : Cond.code yD_readBoth bD_readBoth 3 none ∈ WG := wg_2 93 (by rfl) rfl
theorem k_332 : Cond.instanceMethod yD_readBoth ∈ WG := wg_2 92 (by rfl) rfl
theorem k_sel_D_readBoth : Cond.selects yD_readBoth.cls yD_readBoth yD_readBoth ∈ WG := wg_s (n := 8) (by decide +kernel)
theorem k_346 : Cond.methodLink ND 70 yD_readSum ∈ WG := wg_2 106 (by rfl) rfl
theorem k_338 : Cond.methodLink ND 66 yD_opens ∈ WG := wg_2 98 (by rfl) rfl
theorem k_337 : Cond.code yD_readNot bD_readNot 3 none ∈ WG := wg_2 97 (by rfl) rfl
theorem k_336 : Cond.instanceMethod yD_readNot ∈ WG := wg_2 96 (by rfl) rfl
theorem k_sel_D_readNot : Cond.selects yD_readNot.cls yD_readNot yD_readNot ∈ WG := wg_s (n := 8) (by decide +kernel)
theorem k_350 : Cond.methodLink ND 73 yD_readTerm ∈ WG := wg_2 110 (by rfl) rfl
theorem k_349 : Cond.code yD_readSum bD_readSum 4 none ∈ WG := wg_2 109 (by rfl) rfl
theorem k_348 : Cond.instanceMethod yD_readSum ∈ WG := wg_2 108 (by rfl) rfl
theorem k_sel_D_readSum : Cond.selects yD_readSum.cls yD_readSum yD_readSum ∈ WG := wg_s (n := 8) (by decide +kernel)
theorem k_354 : Cond.methodLink ND 76 yD_readOne ∈ WG := wg_2 114 (by rfl) rfl
theorem k_353 : Cond.code yD_readTerm bD_readTerm 3 none ∈ WG := wg_2 113 (by rfl) rfl
theorem k_352 : Cond.instanceMethod yD_readTerm ∈ WG := wg_2 112 (by rfl) rfl
theorem k_sel_D_readTerm : Cond.selects yD_readTerm.cls yD_readTerm yD_readTerm ∈ WG := wg_s (n := 8) (by decide +kernel)
theorem k_326 : Cond.methodLink ND 42 yD_readEither ∈ WG := wg_2 86 (by rfl) rfl
theorem k_318 : Cond.methodLink ND 38 yD_expect ∈ WG := wg_2 78 (by rfl) rfl
theorem k_357 : Cond.code yD_readOne bD_readOne 2 none ∈ WG := wg_2 117 (by rfl) rfl
theorem k_356 : Cond.instanceMethod yD_readOne ∈ WG := wg_2 116 (by rfl) rfl
theorem k_sel_D_readOne : Cond.selects yD_readOne.cls yD_readOne yD_readOne ∈ WG := wg_s (n := 8) (by decide +kernel)
theorem k_42 : Cond.fieldLink NL 15 (TL 1).1 (TL 1).2.1 (TL 1).2.2.1 ∈ WG := wg_1 42 (by rfl) rfl
theorem k_361 : Cond.code yL_endPart bL_endPart 2 none ∈ WG := wg_2 121 (by rfl) rfl
theorem k_359 : Cond.instanceMethod yL_endPart ∈ WG := wg_2 119 (by rfl) rfl
theorem k_360 : Cond.selects yL_endPart.cls yL_endPart yL_endPart ∈ WG := wg_2 120 (by rfl) rfl
theorem k_229 : Cond.methodLink ND 32 yL_clear ∈ WG := wg_1 229 (by rfl) rfl
theorem k_358 : Cond.methodLink ND 45 yL_endPart ∈ WG := wg_2 118 (by rfl) rfl
theorem k_228 : Cond.code yD_readAll bD_readAll 2 (some .int) ∈ WG := wg_1 228 (by rfl) rfl
theorem k_226 : Cond.instanceMethod yD_readAll ∈ WG := wg_1 226 (by rfl) rfl
theorem k_227 : Cond.selects yD_readAll.cls yD_readAll yD_readAll ∈ WG := wg_1 227 (by rfl) rfl
theorem k_366 : Cond.methodLink NL 25 arraycopyName ∈ WG := wg_2 126 (by rfl) rfl
theorem k_365 : Cond.code yL_become bL_become 2 none ∈ WG := wg_2 125 (by rfl) rfl
theorem k_363 : Cond.instanceMethod yL_become ∈ WG := wg_2 123 (by rfl) rfl
theorem k_364 : Cond.selects yL_become.cls yL_become yL_become ∈ WG := wg_2 124 (by rfl) rfl
theorem k_141 : Cond.fieldLink NR 17 (TR 2).1 (TR 2).2.1 (TR 2).2.2.1 ∈ WG := wg_1 141 (by rfl) rfl
theorem k_139 : Cond.fieldLink NR 9 (TR 1).1 (TR 1).2.1 (TR 1).2.2.1 ∈ WG := wg_1 139 (by rfl) rfl
theorem k_412 : Cond.code yR_inStep bR_inStep 2 (some .boolean) ∈ WG := wg_2 172 (by rfl) rfl
theorem k_7 : Cond.initialized NR ∈ WG := wg_1 7 (by rfl) rfl
theorem k_410 : Cond.instanceMethod yR_inStep ∈ WG := wg_2 170 (by rfl) rfl
theorem k_411 : Cond.selects yR_inStep.cls yR_inStep yR_inStep ∈ WG := wg_2 171 (by rfl) rfl
theorem k_145 : Cond.fieldLink NR 39 (TR 3).1 (TR 3).2.1 (TR 3).2.2.1 ∈ WG := wg_1 145 (by rfl) rfl
theorem k_409 : Cond.methodLink NR 58 yR_inStep ∈ WG := wg_2 169 (by rfl) rfl
theorem k_408 : Cond.code yR_inStepBits bR_inStepBits 3 (some .int) ∈ WG := wg_2 168 (by rfl) rfl
theorem k_406 : Cond.instanceMethod yR_inStepBits ∈ WG := wg_2 166 (by rfl) rfl
theorem k_407 : Cond.selects yR_inStepBits.cls yR_inStepBits yR_inStepBits ∈ WG := wg_2 167 (by rfl) rfl
theorem k_416 : Cond.constant NJI 265 1431655765 ∈ WG := wg_2 176 (by rfl) rfl
theorem k_417 : Cond.constant NJI 266 858993459 ∈ WG := wg_2 177 (by rfl) rfl
theorem k_418 : Cond.constant NJI 267 252645135 ∈ WG := wg_2 178 (by rfl) rfl
theorem k_415 : Cond.code yJI_bitCount bJI_bitCount 1 (some .int) ∈ WG := wg_2 175 (by rfl) rfl
theorem k_16 : Cond.initialized NJI ∈ WG := wg_1 16 (by rfl) rfl
theorem k_414 : Cond.static yJI_bitCount ∈ WG := wg_2 174 (by rfl) rfl
theorem k_374 : Cond.fieldLink NS 49 (TS 5).1 (TS 5).2.1 (TS 5).2.2.1 ∈ WG := wg_2 134 (by rfl) rfl
theorem k_144 : Cond.fieldLink NS 90 (TR 3).1 (TR 3).2.1 (TR 3).2.2.1 ∈ WG := wg_1 144 (by rfl) rfl
theorem k_405 : Cond.methodLink NS 93 yR_inStepBits ∈ WG := wg_2 165 (by rfl) rfl
theorem k_413 : Cond.methodLink NS 96 yJI_bitCount ∈ WG := wg_2 173 (by rfl) rfl
theorem k_377 : Cond.fieldLink NS 86 (TS 8).1 (TS 8).2.1 (TS 8).2.2.1 ∈ WG := wg_2 137 (by rfl) rfl
theorem k_147 : Cond.fieldLink NS 102 (TR 4).1 (TR 4).2.1 (TR 4).2.2.1 ∈ WG := wg_1 147 (by rfl) rfl
theorem k_371 : Cond.fieldLink NS 24 (TS 2).1 (TS 2).2.1 (TS 2).2.2.1 ∈ WG := wg_2 131 (by rfl) rfl
theorem k_58 : Cond.fieldLink NS 105 (TD 1).1 (TD 1).2.1 (TD 1).2.2.1 ∈ WG := wg_1 58 (by rfl) rfl
theorem k_404 : Cond.code yS_count bS_count 2 (some .int) ∈ WG := wg_2 164 (by rfl) rfl
theorem k_1 : Cond.initialized NS ∈ WG := wg_1 1 (by rfl) rfl
theorem k_402 : Cond.instanceMethod yS_count ∈ WG := wg_2 162 (by rfl) rfl
theorem k_403 : Cond.selects yS_count.cls yS_count yS_count ∈ WG := wg_2 163 (by rfl) rfl
theorem k_425 : Cond.code yS_within bS_within 2 (some .boolean) ∈ WG := wg_2 185 (by rfl) rfl
theorem k_424 : Cond.static yS_within ∈ WG := wg_2 184 (by rfl) rfl
theorem k_431 : Cond.code yR_whoAt bR_whoAt 3 (some .int) ∈ WG := wg_2 191 (by rfl) rfl
theorem k_429 : Cond.instanceMethod yR_whoAt ∈ WG := wg_2 189 (by rfl) rfl
theorem k_430 : Cond.selects yR_whoAt.cls yR_whoAt yR_whoAt ∈ WG := wg_2 190 (by rfl) rfl
theorem k_423 : Cond.methodLink NS 108 yS_within ∈ WG := wg_2 183 (by rfl) rfl
theorem k_426 : Cond.fieldLink NS 112 NS "MARK_MOST" "[I" ∈ WG := wg_2 186 (by rfl) rfl
theorem k_428 : Cond.methodLink NS 116 yR_whoAt ∈ WG := wg_2 188 (by rfl) rfl
theorem k_140 : Cond.fieldLink NS 119 (TR 1).1 (TR 1).2.1 (TR 1).2.2.1 ∈ WG := wg_1 140 (by rfl) rfl
theorem k_422 : Cond.code yS_sets bS_sets 4 (some .int) ∈ WG := wg_2 182 (by rfl) rfl
theorem k_420 : Cond.instanceMethod yS_sets ∈ WG := wg_2 180 (by rfl) rfl
theorem k_421 : Cond.selects yS_sets.cls yS_sets yS_sets ∈ WG := wg_2 181 (by rfl) rfl
theorem k_435 : Cond.code yS_row bS_row 2 (some .int) ∈ WG := wg_2 195 (by rfl) rfl
theorem k_433 : Cond.instanceMethod yS_row ∈ WG := wg_2 193 (by rfl) rfl
theorem k_434 : Cond.selects yS_row.cls yS_row yS_row ∈ WG := wg_2 194 (by rfl) rfl
theorem k_221 : Cond.methodLink NS 71 yD_take ∈ WG := wg_1 221 (by rfl) rfl
theorem k_439 : Cond.code yS_feed bS_feed 8 (some .int) ∈ WG := wg_2 199 (by rfl) rfl
theorem k_437 : Cond.instanceMethod yS_feed ∈ WG := wg_2 197 (by rfl) rfl
theorem k_438 : Cond.selects yS_feed.cls yS_feed yS_feed ∈ WG := wg_2 198 (by rfl) rfl
theorem k_225 : Cond.methodLink NS 75 yD_readAll ∈ WG := wg_1 225 (by rfl) rfl
theorem k_369 : Cond.fieldLink NS 11 (TS 0).1 (TS 0).2.1 (TS 0).2.2.1 ∈ WG := wg_2 129 (by rfl) rfl
theorem k_56 : Cond.fieldLink NS 78 (TD 0).1 (TD 0).2.1 (TD 0).2.2.1 ∈ WG := wg_1 56 (by rfl) rfl
theorem k_362 : Cond.methodLink NS 82 yL_become ∈ WG := wg_2 122 (by rfl) rfl
theorem k_443 : Cond.code yS_text bS_text 2 (some .int) ∈ WG := wg_2 203 (by rfl) rfl
theorem k_441 : Cond.instanceMethod yS_text ∈ WG := wg_2 201 (by rfl) rfl
theorem k_442 : Cond.selects yS_text.cls yS_text yS_text ∈ WG := wg_2 202 (by rfl) rfl
theorem k_447 : Cond.code yS_force bS_force 3 (some .int) ∈ WG := wg_2 207 (by rfl) rfl
theorem k_445 : Cond.instanceMethod yS_force ∈ WG := wg_2 205 (by rfl) rfl
theorem k_446 : Cond.selects yS_force.cls yS_force yS_force ∈ WG := wg_2 206 (by rfl) rfl
theorem k_455 : Cond.code yR_has bR_has 2 (some .boolean) ∈ WG := wg_2 215 (by rfl) rfl
theorem k_453 : Cond.instanceMethod yR_has ∈ WG := wg_2 213 (by rfl) rfl
theorem k_454 : Cond.selects yR_has.cls yR_has yR_has ∈ WG := wg_2 214 (by rfl) rfl
theorem k_464 : Cond.methodLink NR 50 yR_whoAt ∈ WG := wg_2 224 (by rfl) rfl
theorem k_150 : Cond.fieldLink NR 69 (TR 6).1 (TR 6).2.1 (TR 6).2.2.1 ∈ WG := wg_1 150 (by rfl) rfl
theorem k_463 : Cond.code yR_seenAt bR_seenAt 3 (some .int) ∈ WG := wg_2 223 (by rfl) rfl
theorem k_462 : Cond.instanceMethod yR_seenAt ∈ WG := wg_2 222 (by rfl) rfl
theorem k_sel_R_seenAt : Cond.selects yR_seenAt.cls yR_seenAt yR_seenAt ∈ WG := wg_s (n := 9) (by decide +kernel)
theorem k_148 : Cond.fieldLink NR 20 (TR 5).1 (TR 5).2.1 (TR 5).2.2.1 ∈ WG := wg_1 148 (by rfl) rfl
theorem k_460 : Cond.methodLink NR 72 yR_seenAt ∈ WG := wg_2 220 (by rfl) rfl
theorem k_459 : Cond.code yR_lookAt bR_lookAt 3 none ∈ WG := wg_2 219 (by rfl) rfl
theorem k_457 : Cond.instanceMethod yR_lookAt ∈ WG := wg_2 217 (by rfl) rfl
theorem k_458 : Cond.selects yR_lookAt.cls yR_lookAt yR_lookAt ∈ WG := wg_2 218 (by rfl) rfl
theorem k_471 : Cond.code yL_joined bL_joined 3 (some .int) ∈ WG := wg_2 231 (by rfl) rfl
theorem k_470 : Cond.static yL_joined ∈ WG := wg_2 230 (by rfl) rfl
theorem k_43 : Cond.fieldLink NL 18 (TL 2).1 (TL 2).2.1 (TL 2).2.2.1 ∈ WG := wg_1 43 (by rfl) rfl
theorem k_469 : Cond.methodLink NL 31 yL_joined ∈ WG := wg_2 229 (by rfl) rfl
theorem k_472 : Cond.methodLink NL 35 Lib.Math.min.name ∈ WG := wg_2 232 (by rfl) rfl
theorem k_473 : Cond.methodLink NL 41 Lib.Math.max.name ∈ WG := wg_2 233 (by rfl) rfl
theorem k_468 : Cond.code yL_says bL_says 7 (some .int) ∈ WG := wg_2 228 (by rfl) rfl
theorem k_466 : Cond.instanceMethod yL_says ∈ WG := wg_2 226 (by rfl) rfl
theorem k_467 : Cond.selects yL_says.cls yL_says yL_says ∈ WG := wg_2 227 (by rfl) rfl
theorem k_452 : Cond.methodLink NS 122 yR_has ∈ WG := wg_2 212 (by rfl) rfl
theorem k_456 : Cond.methodLink NS 126 yR_lookAt ∈ WG := wg_2 216 (by rfl) rfl
theorem k_149 : Cond.fieldLink NS 129 (TR 5).1 (TR 5).2.1 (TR 5).2.2.1 ∈ WG := wg_1 149 (by rfl) rfl
theorem k_465 : Cond.methodLink NS 132 yL_says ∈ WG := wg_2 225 (by rfl) rfl
theorem k_451 : Cond.code yS_asks bS_asks 3 (some .int) ∈ WG := wg_2 211 (by rfl) rfl
theorem k_449 : Cond.instanceMethod yS_asks ∈ WG := wg_2 209 (by rfl) rfl
theorem k_450 : Cond.selects yS_asks.cls yS_asks yS_asks ∈ WG := wg_2 210 (by rfl) rfl
theorem k_485 : Cond.code yR_isFree bR_isFree 2 (some .boolean) ∈ WG := wg_3 5 (by rfl) rfl
theorem k_483 : Cond.instanceMethod yR_isFree ∈ WG := wg_3 3 (by rfl) rfl
theorem k_484 : Cond.selects yR_isFree.cls yR_isFree yR_isFree ∈ WG := wg_3 4 (by rfl) rfl
theorem k_490 : Cond.code yR_add bR_add 5 (some .int) ∈ WG := wg_3 10 (by rfl) rfl
theorem k_488 : Cond.instanceMethod yR_add ∈ WG := wg_3 8 (by rfl) rfl
theorem k_489 : Cond.selects yR_add.cls yR_add yR_add ∈ WG := wg_3 9 (by rfl) rfl
theorem k_482 : Cond.methodLink NS 262 yR_isFree ∈ WG := wg_3 2 (by rfl) rfl
theorem k_487 : Cond.methodLink NS 265 yR_add ∈ WG := wg_3 7 (by rfl) rfl
theorem k_481 : Cond.code yS_comes bS_comes 5 (some .int) ∈ WG := wg_3 1 (by rfl) rfl
theorem k_480 : Cond.instanceMethod yS_comes ∈ WG := wg_3 0 (by rfl) rfl
theorem k_sel_S_comes : Cond.selects yS_comes.cls yS_comes yS_comes ∈ WG := wg_s (n := 10) (by decide +kernel)
theorem k_478 : Cond.methodLink NS 136 yS_comes ∈ WG := wg_2 238 (by rfl) rfl
theorem k_477 : Cond.code yS_mower bS_mower 3 (some .int) ∈ WG := wg_2 237 (by rfl) rfl
theorem k_475 : Cond.instanceMethod yS_mower ∈ WG := wg_2 235 (by rfl) rfl
theorem k_476 : Cond.selects yS_mower.cls yS_mower yS_mower ∈ WG := wg_2 236 (by rfl) rfl
theorem k_499 : Cond.methodLink NR 54 yR_isFree ∈ WG := wg_3 19 (by rfl) rfl
theorem k_498 : Cond.code yR_isFreeFor bR_isFreeFor 3 (some .boolean) ∈ WG := wg_3 18 (by rfl) rfl
theorem k_496 : Cond.instanceMethod yR_isFreeFor ∈ WG := wg_3 16 (by rfl) rfl
theorem k_497 : Cond.selects yR_isFreeFor.cls yR_isFreeFor yR_isFreeFor ∈ WG := wg_3 17 (by rfl) rfl
theorem k_495 : Cond.methodLink NS 140 yR_isFreeFor ∈ WG := wg_3 15 (by rfl) rfl
theorem k_143 : Cond.fieldLink NS 143 (TR 2).1 (TR 2).2.1 (TR 2).2.2.1 ∈ WG := wg_1 143 (by rfl) rfl
theorem k_494 : Cond.code yS_put bS_put 6 (some .int) ∈ WG := wg_3 14 (by rfl) rfl
theorem k_492 : Cond.instanceMethod yS_put ∈ WG := wg_3 12 (by rfl) rfl
theorem k_493 : Cond.selects yS_put.cls yS_put yS_put ∈ WG := wg_3 13 (by rfl) rfl
theorem k_138 : Cond.fieldLink NR 29 (TR 0).1 (TR 0).2.1 (TR 0).2.2.1 ∈ WG := wg_1 138 (by rfl) rfl
theorem k_146 : Cond.fieldLink NR 43 (TR 4).1 (TR 4).2.1 (TR 4).2.2.1 ∈ WG := wg_1 146 (by rfl) rfl
theorem k_508 : Cond.methodLink NR 88 yL_says ∈ WG := wg_3 28 (by rfl) rfl
theorem k_507 : Cond.code yR_keepsTo bR_keepsTo 1 (some .int) ∈ WG := wg_3 27 (by rfl) rfl
theorem k_505 : Cond.instanceMethod yR_keepsTo ∈ WG := wg_3 25 (by rfl) rfl
theorem k_506 : Cond.selects yR_keepsTo.cls yR_keepsTo yR_keepsTo ∈ WG := wg_3 26 (by rfl) rfl
theorem k_516 : Cond.code yJM_floorMod bJM_floorMod 3 (some .int) ∈ WG := wg_3 36 (by rfl) rfl
theorem k_12 : Cond.initialized NJM ∈ WG := wg_1 12 (by rfl) rfl
theorem k_515 : Cond.static yJM_floorMod ∈ WG := wg_3 35 (by rfl) rfl
theorem k_520 : Cond.fieldLink NS 259 NS "KIND_ABOVE" "[I" ∈ WG := wg_3 40 (by rfl) rfl
theorem k_519 : Cond.code yS_isA bS_isA 4 (some .boolean) ∈ WG := wg_3 39 (by rfl) rfl
theorem k_518 : Cond.static yS_isA ∈ WG := wg_3 38 (by rfl) rfl
theorem k_513 : Cond.methodLink NR 80 yR_keepsTo ∈ WG := wg_3 33 (by rfl) rfl
theorem k_514 : Cond.methodLink NR 84 yJM_floorMod ∈ WG := wg_3 34 (by rfl) rfl
theorem k_522 : Cond.methodLink NR 97 Lib.Math.min.name ∈ WG := wg_3 42 (by rfl) rfl
theorem k_512 : Cond.code yR_howFar bR_howFar 4 (some .int) ∈ WG := wg_3 32 (by rfl) rfl
theorem k_510 : Cond.instanceMethod yR_howFar ∈ WG := wg_3 30 (by rfl) rfl
theorem k_511 : Cond.selects yR_howFar.cls yR_howFar yR_howFar ∈ WG := wg_3 31 (by rfl) rfl
theorem k_531 : Cond.methodLink NR 75 Lib.Math.abs.name ∈ WG := wg_3 51 (by rfl) rfl
theorem k_530 : Cond.code yR_clashes bR_clashes 1 (some .boolean) ∈ WG := wg_3 50 (by rfl) rfl
theorem k_528 : Cond.instanceMethod yR_clashes ∈ WG := wg_3 48 (by rfl) rfl
theorem k_529 : Cond.selects yR_clashes.cls yR_clashes yR_clashes ∈ WG := wg_3 49 (by rfl) rfl
theorem k_527 : Cond.methodLink NR 65 yR_clashes ∈ WG := wg_3 47 (by rfl) rfl
theorem k_526 : Cond.code yR_howTiring bR_howTiring 3 (some .int) ∈ WG := wg_3 46 (by rfl) rfl
theorem k_524 : Cond.instanceMethod yR_howTiring ∈ WG := wg_3 44 (by rfl) rfl
theorem k_525 : Cond.selects yR_howTiring.cls yR_howTiring yR_howTiring ∈ WG := wg_3 45 (by rfl) rfl
theorem k_504 : Cond.methodLink NS 147 yR_keepsTo ∈ WG := wg_3 24 (by rfl) rfl
theorem k_509 : Cond.methodLink NS 150 yR_howFar ∈ WG := wg_3 29 (by rfl) rfl
theorem k_523 : Cond.methodLink NS 153 yR_howTiring ∈ WG := wg_3 43 (by rfl) rfl
theorem k_534 : Cond.methodLink NS 156 yR_clashes ∈ WG := wg_3 54 (by rfl) rfl
theorem k_535 : Cond.methodLink NS 160 yR_inStep ∈ WG := wg_3 55 (by rfl) rfl
theorem k_503 : Cond.code yS_told bS_told 3 (some .int) ∈ WG := wg_3 23 (by rfl) rfl
theorem k_501 : Cond.instanceMethod yS_told ∈ WG := wg_3 21 (by rfl) rfl
theorem k_502 : Cond.selects yS_told.cls yS_told yS_told ∈ WG := wg_3 22 (by rfl) rfl
theorem k_544 : Cond.methodLink NR 61 yR_lookAt ∈ WG := wg_3 64 (by rfl) rfl
theorem k_151 : Cond.fieldLink NR 23 (TR 7).1 (TR 7).2.1 (TR 7).2.2.1 ∈ WG := wg_1 151 (by rfl) rfl
theorem k_545 : Cond.methodLink NR 100 yR_howFar ∈ WG := wg_3 65 (by rfl) rfl
theorem k_152 : Cond.fieldLink NR 26 (TR 8).1 (TR 8).2.1 (TR 8).2.2.1 ∈ WG := wg_1 152 (by rfl) rfl
theorem k_546 : Cond.methodLink NR 103 yR_howTiring ∈ WG := wg_3 66 (by rfl) rfl
theorem k_547 : Cond.methodLink NR 106 Lib.Math.max.name ∈ WG := wg_3 67 (by rfl) rfl
theorem k_543 : Cond.code yR_swingOn bR_swingOn 4 (some .int) ∈ WG := wg_3 63 (by rfl) rfl
theorem k_541 : Cond.instanceMethod yR_swingOn ∈ WG := wg_3 61 (by rfl) rfl
theorem k_542 : Cond.selects yR_swingOn.cls yR_swingOn yR_swingOn ∈ WG := wg_3 62 (by rfl) rfl
theorem k_540 : Cond.methodLink NS 163 yR_swingOn ∈ WG := wg_3 60 (by rfl) rfl
theorem k_539 : Cond.code yS_stroke bS_stroke 1 (some .int) ∈ WG := wg_3 59 (by rfl) rfl
theorem k_537 : Cond.instanceMethod yS_stroke ∈ WG := wg_3 57 (by rfl) rfl
theorem k_538 : Cond.selects yS_stroke.cls yS_stroke yS_stroke ∈ WG := wg_3 58 (by rfl) rfl
theorem k_556 : Cond.methodLink NR 33 arraycopyName ∈ WG := wg_3 76 (by rfl) rfl
theorem k_555 : Cond.code yR_become bR_become 3 none ∈ WG := wg_3 75 (by rfl) rfl
theorem k_553 : Cond.instanceMethod yR_become ∈ WG := wg_3 73 (by rfl) rfl
theorem k_554 : Cond.selects yR_become.cls yR_become yR_become ∈ WG := wg_3 74 (by rfl) rfl
theorem k_561 : Cond.methodLink NR 109 yR_swingOn ∈ WG := wg_3 81 (by rfl) rfl
theorem k_560 : Cond.code yR_cutBy bR_cutBy 4 (some .int) ∈ WG := wg_3 80 (by rfl) rfl
theorem k_558 : Cond.instanceMethod yR_cutBy ∈ WG := wg_3 78 (by rfl) rfl
theorem k_559 : Cond.selects yR_cutBy.cls yR_cutBy yR_cutBy ∈ WG := wg_3 79 (by rfl) rfl
theorem k_565 : Cond.code yR_clashBits bR_clashBits 3 (some .int) ∈ WG := wg_3 85 (by rfl) rfl
theorem k_563 : Cond.instanceMethod yR_clashBits ∈ WG := wg_3 83 (by rfl) rfl
theorem k_564 : Cond.selects yR_clashBits.cls yR_clashBits yR_clashBits ∈ WG := wg_3 84 (by rfl) rfl
theorem k_375 : Cond.fieldLink NS 53 (TS 6).1 (TS 6).2.1 (TS 6).2.2.1 ∈ WG := wg_2 135 (by rfl) rfl
theorem k_552 : Cond.methodLink NS 166 yR_become ∈ WG := wg_3 72 (by rfl) rfl
theorem k_557 : Cond.methodLink NS 169 yR_cutBy ∈ WG := wg_3 77 (by rfl) rfl
theorem k_562 : Cond.methodLink NS 172 yR_clashBits ∈ WG := wg_3 82 (by rfl) rfl
theorem k_551 : Cond.code yS_run bS_run 6 (some .int) ∈ WG := wg_3 71 (by rfl) rfl
theorem k_549 : Cond.instanceMethod yS_run ∈ WG := wg_3 69 (by rfl) rfl
theorem k_550 : Cond.selects yS_run.cls yS_run yS_run ∈ WG := wg_3 70 (by rfl) rfl
theorem k_577 : Cond.code yR_anySpent bR_anySpent 2 (some .boolean) ∈ WG := wg_3 97 (by rfl) rfl
theorem k_575 : Cond.instanceMethod yR_anySpent ∈ WG := wg_3 95 (by rfl) rfl
theorem k_576 : Cond.selects yR_anySpent.cls yR_anySpent yR_anySpent ∈ WG := wg_3 96 (by rfl) rfl
theorem k_574 : Cond.methodLink NS 268 yR_anySpent ∈ WG := wg_3 94 (by rfl) rfl
theorem k_573 : Cond.code yS_happens bS_happens 2 (some .boolean) ∈ WG := wg_3 93 (by rfl) rfl
theorem k_572 : Cond.instanceMethod yS_happens ∈ WG := wg_3 92 (by rfl) rfl
theorem k_sel_S_happens : Cond.selects yS_happens.cls yS_happens yS_happens ∈ WG := wg_s (n := 10) (by decide +kernel)
theorem k_570 : Cond.methodLink NS 175 yS_happens ∈ WG := wg_3 90 (by rfl) rfl
theorem k_569 : Cond.code yS_when bS_when 3 (some .int) ∈ WG := wg_3 89 (by rfl) rfl
theorem k_567 : Cond.instanceMethod yS_when ∈ WG := wg_3 87 (by rfl) rfl
theorem k_568 : Cond.selects yS_when.cls yS_when yS_when ∈ WG := wg_3 88 (by rfl) rfl
theorem k_581 : Cond.code yS_often bS_often 6 (some .int) ∈ WG := wg_3 101 (by rfl) rfl
theorem k_579 : Cond.instanceMethod yS_often ∈ WG := wg_3 99 (by rfl) rfl
theorem k_580 : Cond.selects yS_often.cls yS_often yS_often ∈ WG := wg_3 100 (by rfl) rfl
theorem k_88 : Cond.fieldLink NB 9 (TB 0).1 (TB 0).2.1 (TB 0).2.2.1 ∈ WG := wg_1 88 (by rfl) rfl
theorem k_89 : Cond.fieldLink NB 15 (TB 1).1 (TB 1).2.1 (TB 1).2.2.1 ∈ WG := wg_1 89 (by rfl) rfl
theorem k_589 : Cond.code yB_clear bB_clear 1 none ∈ WG := wg_3 109 (by rfl) rfl
theorem k_4 : Cond.initialized NB ∈ WG := wg_1 4 (by rfl) rfl
theorem k_587 : Cond.instanceMethod yB_clear ∈ WG := wg_3 107 (by rfl) rfl
theorem k_588 : Cond.selects yB_clear.cls yB_clear yB_clear ∈ WG := wg_3 108 (by rfl) rfl
theorem k_593 : Cond.code yB_offer bB_offer 3 none ∈ WG := wg_3 113 (by rfl) rfl
theorem k_591 : Cond.instanceMethod yB_offer ∈ WG := wg_3 111 (by rfl) rfl
theorem k_592 : Cond.selects yB_offer.cls yB_offer yB_offer ∈ WG := wg_3 112 (by rfl) rfl
theorem k_597 : Cond.code yB_tells bB_tells 2 (some .int) ∈ WG := wg_3 117 (by rfl) rfl
theorem k_595 : Cond.instanceMethod yB_tells ∈ WG := wg_3 115 (by rfl) rfl
theorem k_596 : Cond.selects yB_tells.cls yB_tells yB_tells ∈ WG := wg_3 116 (by rfl) rfl
theorem k_372 : Cond.fieldLink NS 31 (TS 3).1 (TS 3).2.1 (TS 3).2.2.1 ∈ WG := wg_2 132 (by rfl) rfl
theorem k_586 : Cond.methodLink NS 178 yB_clear ∈ WG := wg_3 106 (by rfl) rfl
theorem k_594 : Cond.methodLink NS 185 yB_tells ∈ WG := wg_3 114 (by rfl) rfl
theorem k_590 : Cond.methodLink NS 181 yB_offer ∈ WG := wg_3 110 (by rfl) rfl
theorem k_585 : Cond.code yS_gap bS_gap 4 (some .int) ∈ WG := wg_3 105 (by rfl) rfl
theorem k_583 : Cond.instanceMethod yS_gap ∈ WG := wg_3 103 (by rfl) rfl
theorem k_584 : Cond.selects yS_gap.cls yS_gap yS_gap ∈ WG := wg_3 104 (by rfl) rfl
theorem k_601 : Cond.code yS_stands bS_stands 5 (some .int) ∈ WG := wg_3 121 (by rfl) rfl
theorem k_599 : Cond.instanceMethod yS_stands ∈ WG := wg_3 119 (by rfl) rfl
theorem k_600 : Cond.selects yS_stands.cls yS_stands yS_stands ∈ WG := wg_3 120 (by rfl) rfl
theorem k_605 : Cond.code yS_tempo bS_tempo 4 (some .int) ∈ WG := wg_3 125 (by rfl) rfl
theorem k_603 : Cond.instanceMethod yS_tempo ∈ WG := wg_3 123 (by rfl) rfl
theorem k_604 : Cond.selects yS_tempo.cls yS_tempo yS_tempo ∈ WG := wg_3 124 (by rfl) rfl
theorem k_103 : Cond.fieldLink NO 18 (TO 2).1 (TO 2).2.1 (TO 2).2.2.1 ∈ WG := wg_1 103 (by rfl) rfl
theorem k_614 : Cond.methodLink NO 22 yR_whoAt ∈ WG := wg_3 134 (by rfl) rfl
theorem k_101 : Cond.fieldLink NO 9 (TO 0).1 (TO 0).2.1 (TO 0).2.2.1 ∈ WG := wg_1 101 (by rfl) rfl
theorem k_102 : Cond.fieldLink NO 15 (TO 1).1 (TO 1).2.1 (TO 1).2.2.1 ∈ WG := wg_1 102 (by rfl) rfl
theorem k_613 : Cond.code yO_begin bO_begin 3 none ∈ WG := wg_3 133 (by rfl) rfl
theorem k_5 : Cond.initialized NO ∈ WG := wg_1 5 (by rfl) rfl
theorem k_611 : Cond.instanceMethod yO_begin ∈ WG := wg_3 131 (by rfl) rfl
theorem k_612 : Cond.selects yO_begin.cls yO_begin yO_begin ∈ WG := wg_3 132 (by rfl) rfl
theorem k_142 : Cond.fieldLink NO 28 (TR 2).1 (TR 2).2.1 (TR 2).2.2.1 ∈ WG := wg_1 142 (by rfl) rfl
theorem k_618 : Cond.code yO_seat bO_seat 3 none ∈ WG := wg_3 138 (by rfl) rfl
theorem k_616 : Cond.instanceMethod yO_seat ∈ WG := wg_3 136 (by rfl) rfl
theorem k_617 : Cond.selects yO_seat.cls yO_seat yO_seat ∈ WG := wg_3 137 (by rfl) rfl
theorem k_622 : Cond.code yO_digits bO_digits 3 (some .int) ∈ WG := wg_3 142 (by rfl) rfl
theorem k_620 : Cond.instanceMethod yO_digits ∈ WG := wg_3 140 (by rfl) rfl
theorem k_621 : Cond.selects yO_digits.cls yO_digits yO_digits ∈ WG := wg_3 141 (by rfl) rfl
theorem k_630 : Cond.code yO_swap bO_swap 4 none ∈ WG := wg_3 150 (by rfl) rfl
theorem k_629 : Cond.instanceMethod yO_swap ∈ WG := wg_3 149 (by rfl) rfl
theorem k_sel_O_swap : Cond.selects yO_swap.cls yO_swap yO_swap ∈ WG := wg_s (n := 3) (by decide +kernel)
theorem k_627 : Cond.methodLink NO 32 yO_swap ∈ WG := wg_3 147 (by rfl) rfl
theorem k_626 : Cond.code yO_goesOn bO_goesOn 5 (some .boolean) ∈ WG := wg_3 146 (by rfl) rfl
theorem k_624 : Cond.instanceMethod yO_goesOn ∈ WG := wg_3 144 (by rfl) rfl
theorem k_625 : Cond.selects yO_goesOn.cls yO_goesOn yO_goesOn ∈ WG := wg_3 145 (by rfl) rfl
theorem k_373 : Cond.fieldLink NS 38 (TS 4).1 (TS 4).2.1 (TS 4).2.2.1 ∈ WG := wg_2 133 (by rfl) rfl
theorem k_610 : Cond.methodLink NS 188 yO_begin ∈ WG := wg_3 130 (by rfl) rfl
theorem k_615 : Cond.methodLink NS 191 yO_seat ∈ WG := wg_3 135 (by rfl) rfl
theorem k_619 : Cond.methodLink NS 194 yO_digits ∈ WG := wg_3 139 (by rfl) rfl
theorem k_623 : Cond.methodLink NS 197 yO_goesOn ∈ WG := wg_3 143 (by rfl) rfl
theorem k_609 : Cond.code yS_order bS_order 5 (some .int) ∈ WG := wg_3 129 (by rfl) rfl
theorem k_607 : Cond.instanceMethod yS_order ∈ WG := wg_3 127 (by rfl) rfl
theorem k_608 : Cond.selects yS_order.cls yS_order yS_order ∈ WG := wg_3 128 (by rfl) rfl
theorem k_635 : Cond.constantLong NS 200 (-4611686018427387904) ∈ WG := wg_3 155 (by rfl) rfl
theorem k_638 : Cond.code yS_lowestTerm bS_lowestTerm 7 (some .long) ∈ WG := wg_3 158 (by rfl) rfl
theorem k_637 : Cond.static yS_lowestTerm ∈ WG := wg_3 157 (by rfl) rfl
theorem k_636 : Cond.methodLink NS 202 yS_lowestTerm ∈ WG := wg_3 156 (by rfl) rfl
theorem k_634 : Cond.code yS_mean bS_mean 3 (some .long) ∈ WG := wg_3 154 (by rfl) rfl
theorem k_632 : Cond.instanceMethod yS_mean ∈ WG := wg_3 152 (by rfl) rfl
theorem k_633 : Cond.selects yS_mean.cls yS_mean yS_mean ∈ WG := wg_3 153 (by rfl) rfl
theorem k_119 : Cond.fieldLink NH 15 (TH 1).1 (TH 1).2.1 (TH 1).2.2.1 ∈ WG := wg_1 119 (by rfl) rfl
theorem k_654 : Cond.code yH_isMissing bH_isMissing 1 (some .boolean) ∈ WG := wg_3 174 (by rfl) rfl
theorem k_6 : Cond.initialized NH ∈ WG := wg_1 6 (by rfl) rfl
theorem k_652 : Cond.instanceMethod yH_isMissing ∈ WG := wg_3 172 (by rfl) rfl
theorem k_653 : Cond.selects yH_isMissing.cls yH_isMissing yH_isMissing ∈ WG := wg_3 173 (by rfl) rfl
theorem k_370 : Cond.fieldLink NS 17 (TS 1).1 (TS 1).2.1 (TS 1).2.2.1 ∈ WG := wg_2 130 (by rfl) rfl
theorem k_651 : Cond.methodLink NS 237 yH_isMissing ∈ WG := wg_3 171 (by rfl) rfl
theorem k_122 : Cond.fieldLink NS 240 (TH 2).1 (TH 2).2.1 (TH 2).2.2.1 ∈ WG := wg_1 122 (by rfl) rfl
theorem k_650 : Cond.code yS_refusalOfTold bS_refusalOfTold 2 (some .int) ∈ WG := wg_3 170 (by rfl) rfl
theorem k_649 : Cond.instanceMethod yS_refusalOfTold ∈ WG := wg_3 169 (by rfl) rfl
theorem k_sel_S_refusalOfTold : Cond.selects yS_refusalOfTold.cls yS_refusalOfTold yS_refusalOfTold ∈ WG := wg_s (n := 10) (by decide +kernel)
theorem k_647 : Cond.methodLink NS 220 yS_refusalOfTold ∈ WG := wg_3 167 (by rfl) rfl
theorem k_646 : Cond.code yS_refusalOfOne bS_refusalOfOne 4 (some .int) ∈ WG := wg_3 166 (by rfl) rfl
theorem k_645 : Cond.instanceMethod yS_refusalOfOne ∈ WG := wg_3 165 (by rfl) rfl
theorem k_sel_S_refusalOfOne : Cond.selects yS_refusalOfOne.cls yS_refusalOfOne yS_refusalOfOne ∈ WG := wg_s (n := 10) (by decide +kernel)
theorem k_118 : Cond.fieldLink NS 247 (TH 0).1 (TH 0).2.1 (TH 0).2.2.1 ∈ WG := wg_1 118 (by rfl) rfl
theorem k_658 : Cond.code yS_firstOtherwise bS_firstOtherwise 5 (some .int) ∈ WG := wg_3 178 (by rfl) rfl
theorem k_657 : Cond.instanceMethod yS_firstOtherwise ∈ WG := wg_3 177 (by rfl) rfl
theorem k_sel_S_firstOtherwise : Cond.selects yS_firstOtherwise.cls yS_firstOtherwise yS_firstOtherwise ∈ WG := wg_s (n := 10) (by decide +kernel)
theorem k_643 : Cond.methodLink NS 206 yS_refusalOfOne ∈ WG := wg_3 163 (by rfl) rfl
theorem k_655 : Cond.methodLink NS 209 yS_firstOtherwise ∈ WG := wg_3 175 (by rfl) rfl
theorem k_642 : Cond.code yS_judge bS_judge 4 (some .int) ∈ WG := wg_3 162 (by rfl) rfl
theorem k_640 : Cond.instanceMethod yS_judge ∈ WG := wg_3 160 (by rfl) rfl
theorem k_641 : Cond.selects yS_judge.cls yS_judge yS_judge ∈ WG := wg_3 161 (by rfl) rfl
theorem k_666 : Cond.code yS_bitsOfFact bS_bitsOfFact 8 (some .int) ∈ WG := wg_3 186 (by rfl) rfl
theorem k_665 : Cond.instanceMethod yS_bitsOfFact ∈ WG := wg_3 185 (by rfl) rfl
theorem k_sel_S_bitsOfFact : Cond.selects yS_bitsOfFact.cls yS_bitsOfFact yS_bitsOfFact ∈ WG := wg_s (n := 10) (by decide +kernel)
theorem k_663 : Cond.methodLink NS 212 yS_bitsOfFact ∈ WG := wg_3 183 (by rfl) rfl
theorem k_662 : Cond.code yS_kinds bS_kinds 5 (some .int) ∈ WG := wg_3 182 (by rfl) rfl
theorem k_660 : Cond.instanceMethod yS_kinds ∈ WG := wg_3 180 (by rfl) rfl
theorem k_661 : Cond.selects yS_kinds.cls yS_kinds yS_kinds ∈ WG := wg_3 181 (by rfl) rfl
theorem k_674 : Cond.code yS_bitsOfMark bS_bitsOfMark 6 (some .int) ∈ WG := wg_3 194 (by rfl) rfl
theorem k_673 : Cond.instanceMethod yS_bitsOfMark ∈ WG := wg_3 193 (by rfl) rfl
theorem k_sel_S_bitsOfMark : Cond.selects yS_bitsOfMark.cls yS_bitsOfMark yS_bitsOfMark ∈ WG := wg_s (n := 10) (by decide +kernel)
theorem k_671 : Cond.methodLink NS 216 yS_bitsOfMark ∈ WG := wg_3 191 (by rfl) rfl
theorem k_670 : Cond.code yS_states bS_states 5 (some .int) ∈ WG := wg_3 190 (by rfl) rfl
theorem k_668 : Cond.instanceMethod yS_states ∈ WG := wg_3 188 (by rfl) rfl
theorem k_669 : Cond.selects yS_states.cls yS_states yS_states ∈ WG := wg_3 189 (by rfl) rfl
theorem k_678 : Cond.code yS_weary bS_weary 8 (some .int) ∈ WG := wg_3 198 (by rfl) rfl
theorem k_676 : Cond.instanceMethod yS_weary ∈ WG := wg_3 196 (by rfl) rfl
theorem k_677 : Cond.selects yS_weary.cls yS_weary yS_weary ∈ WG := wg_3 197 (by rfl) rfl
theorem k_682 : Cond.code yS_whose bS_whose 5 (some .int) ∈ WG := wg_3 202 (by rfl) rfl
theorem k_680 : Cond.instanceMethod yS_whose ∈ WG := wg_3 200 (by rfl) rfl
theorem k_681 : Cond.selects yS_whose.cls yS_whose yS_whose ∈ WG := wg_3 201 (by rfl) rfl
theorem k_686 : Cond.code yS_laws bS_laws 6 (some .int) ∈ WG := wg_3 206 (by rfl) rfl
theorem k_684 : Cond.instanceMethod yS_laws ∈ WG := wg_3 204 (by rfl) rfl
theorem k_685 : Cond.selects yS_laws.cls yS_laws yS_laws ∈ WG := wg_3 205 (by rfl) rfl
theorem k_121 : Cond.fieldLink NH 19 (TH 2).1 (TH 2).2.1 (TH 2).2.2.1 ∈ WG := wg_1 121 (by rfl) rfl
theorem k_117 : Cond.fieldLink NH 9 (TH 0).1 (TH 0).2.1 (TH 0).2.2.1 ∈ WG := wg_1 117 (by rfl) rfl
theorem k_694 : Cond.code yH_remake bH_remake 4 none ∈ WG := wg_3 214 (by rfl) rfl
theorem k_692 : Cond.instanceMethod yH_remake ∈ WG := wg_3 212 (by rfl) rfl
theorem k_693 : Cond.selects yH_remake.cls yH_remake yH_remake ∈ WG := wg_3 213 (by rfl) rfl
theorem k_698 : Cond.code yH_write bH_write 3 none ∈ WG := wg_3 218 (by rfl) rfl
theorem k_696 : Cond.instanceMethod yH_write ∈ WG := wg_3 216 (by rfl) rfl
theorem k_697 : Cond.selects yH_write.cls yH_write yH_write ∈ WG := wg_3 217 (by rfl) rfl
theorem k_691 : Cond.methodLink NS 223 yH_remake ∈ WG := wg_3 211 (by rfl) rfl
theorem k_695 : Cond.methodLink NS 226 yH_write ∈ WG := wg_3 215 (by rfl) rfl
theorem k_690 : Cond.code yS_film bS_film 5 (some .int) ∈ WG := wg_3 210 (by rfl) rfl
theorem k_688 : Cond.instanceMethod yS_film ∈ WG := wg_3 208 (by rfl) rfl
theorem k_689 : Cond.selects yS_film.cls yS_film yS_film ∈ WG := wg_3 209 (by rfl) rfl
theorem k_711 : Cond.constantLong NR 120 48271 ∈ WG := wg_3 231 (by rfl) rfl
theorem k_712 : Cond.constantLong NR 122 2147483647 ∈ WG := wg_3 232 (by rfl) rfl
theorem k_710 : Cond.code yR_nextLot bR_nextLot 2 (some .long) ∈ WG := wg_3 230 (by rfl) rfl
theorem k_709 : Cond.static yR_nextLot ∈ WG := wg_3 229 (by rfl) rfl
theorem k_708 : Cond.methodLink NR 112 yR_nextLot ∈ WG := wg_3 228 (by rfl) rfl
theorem k_713 : Cond.constantLong NR 116 6 ∈ WG := wg_3 233 (by rfl) rfl
theorem k_714 : Cond.constantLong NR 118 12 ∈ WG := wg_3 234 (by rfl) rfl
theorem k_707 : Cond.code yR_cutByGusts bR_cutByGusts 7 (some .int) ∈ WG := wg_3 227 (by rfl) rfl
theorem k_705 : Cond.instanceMethod yR_cutByGusts ∈ WG := wg_3 225 (by rfl) rfl
theorem k_706 : Cond.selects yR_cutByGusts.cls yR_cutByGusts yR_cutByGusts ∈ WG := wg_3 226 (by rfl) rfl
theorem k_703 : Cond.constant NS 229 99999 ∈ WG := wg_3 223 (by rfl) rfl
theorem k_704 : Cond.methodLink NS 230 yR_cutByGusts ∈ WG := wg_3 224 (by rfl) rfl
theorem k_702 : Cond.code yS_drawn bS_drawn 4 (some .int) ∈ WG := wg_3 222 (by rfl) rfl
theorem k_700 : Cond.instanceMethod yS_drawn ∈ WG := wg_3 220 (by rfl) rfl
theorem k_701 : Cond.selects yS_drawn.cls yS_drawn yS_drawn ∈ WG := wg_3 221 (by rfl) rfl
theorem k_718 : Cond.code yS_odds bS_odds 7 (some .long) ∈ WG := wg_3 238 (by rfl) rfl
theorem k_716 : Cond.instanceMethod yS_odds ∈ WG := wg_3 236 (by rfl) rfl
theorem k_717 : Cond.selects yS_odds.cls yS_odds yS_odds ∈ WG := wg_3 237 (by rfl) rfl
theorem k_376 : Cond.fieldLink NS 56 (TS 7).1 (TS 7).2.1 (TS 7).2.2.1 ∈ WG := wg_2 136 (by rfl) rfl
theorem k_378 : Cond.fieldLink NS 233 (TS 9).1 (TS 9).2.1 (TS 9).2.2.1 ∈ WG := wg_2 138 (by rfl) rfl
theorem k_722 : Cond.code yS_image bS_image 1 (some .int) ∈ WG := wg_4 2 (by rfl) rfl
theorem k_720 : Cond.instanceMethod yS_image ∈ WG := wg_4 0 (by rfl) rfl
theorem k_721 : Cond.selects yS_image.cls yS_image yS_image ∈ WG := wg_4 1 (by rfl) rfl
theorem k_726 : Cond.code yS_back bS_back 1 (some .int) ∈ WG := wg_4 6 (by rfl) rfl
theorem k_724 : Cond.instanceMethod yS_back ∈ WG := wg_4 4 (by rfl) rfl
theorem k_725 : Cond.selects yS_back.cls yS_back yS_back ∈ WG := wg_4 5 (by rfl) rfl
theorem k_730 : Cond.code yS_sheet bS_sheet 4 (some .int) ∈ WG := wg_4 10 (by rfl) rfl
theorem k_728 : Cond.instanceMethod yS_sheet ∈ WG := wg_4 8 (by rfl) rfl
theorem k_729 : Cond.selects yS_sheet.cls yS_sheet yS_sheet ∈ WG := wg_4 9 (by rfl) rfl
theorem k_734 : Cond.code yS_cell bS_cell 4 (some .int) ∈ WG := wg_4 14 (by rfl) rfl
theorem k_732 : Cond.instanceMethod yS_cell ∈ WG := wg_4 12 (by rfl) rfl
theorem k_733 : Cond.selects yS_cell.cls yS_cell yS_cell ∈ WG := wg_4 13 (by rfl) rfl
theorem k_742 : Cond.code yH_holds bH_holds 3 (some .boolean) ∈ WG := wg_4 22 (by rfl) rfl
theorem k_740 : Cond.instanceMethod yH_holds ∈ WG := wg_4 20 (by rfl) rfl
theorem k_741 : Cond.selects yH_holds.cls yH_holds yH_holds ∈ WG := wg_4 21 (by rfl) rfl
theorem k_120 : Cond.fieldLink NS 241 (TH 1).1 (TH 1).2.1 (TH 1).2.2.1 ∈ WG := wg_1 120 (by rfl) rfl
theorem k_739 : Cond.methodLink NS 244 yH_holds ∈ WG := wg_4 19 (by rfl) rfl
theorem k_743 : Cond.methodLink NS 250 arraycopyName ∈ WG := wg_4 23 (by rfl) rfl
theorem k_738 : Cond.code yS_copy bS_copy 8 (some .int) ∈ WG := wg_4 18 (by rfl) rfl
theorem k_736 : Cond.instanceMethod yS_copy ∈ WG := wg_4 16 (by rfl) rfl
theorem k_737 : Cond.selects yS_copy.cls yS_copy yS_copy ∈ WG := wg_4 17 (by rfl) rfl
theorem k_747 : Cond.code yS_mowersBy bS_mowersBy 9 (some .int) ∈ WG := wg_4 27 (by rfl) rfl
theorem k_745 : Cond.instanceMethod yS_mowersBy ∈ WG := wg_4 25 (by rfl) rfl
theorem k_746 : Cond.selects yS_mowersBy.cls yS_mowersBy yS_mowersBy ∈ WG := wg_4 26 (by rfl) rfl
theorem k_752 : Cond.methodLink NS 256 yS_isA ∈ WG := wg_4 32 (by rfl) rfl
theorem k_751 : Cond.code yS_taken bS_taken 5 (some .int) ∈ WG := wg_4 31 (by rfl) rfl
theorem k_749 : Cond.instanceMethod yS_taken ∈ WG := wg_4 29 (by rfl) rfl
theorem k_750 : Cond.selects yS_taken.cls yS_taken yS_taken ∈ WG := wg_4 30 (by rfl) rfl
theorem k_769 : Cond.code yM_in bM_in 3 (some .boolean) ∈ WG := wg_4 49 (by rfl) rfl
theorem k_15 : Cond.initialized NM ∈ WG := wg_1 15 (by rfl) rfl
theorem k_768 : Cond.static yM_in ∈ WG := wg_4 48 (by rfl) rfl
theorem k_828 : Cond.fieldLink NM 49 (TM 22).1 (TM 22).2.1 (TM 22).2.2.1 ∈ WG := wg_4 108 (by rfl) rfl
theorem k_811 : Cond.fieldLink NM 22 (TM 5).1 (TM 5).2.1 (TM 5).2.2.1 ∈ WG := wg_4 91 (by rfl) rfl
theorem k_773 : Cond.code yM_wordFrom bM_wordFrom 6 (some .int) ∈ WG := wg_4 53 (by rfl) rfl
theorem k_772 : Cond.instanceMethod yM_wordFrom ∈ WG := wg_4 52 (by rfl) rfl
theorem k_sel_M_wordFrom : Cond.selects yM_wordFrom.cls yM_wordFrom yM_wordFrom ∈ WG := wg_s (n := 34) (by decide +kernel)
theorem k_824 : Cond.fieldLink NM 122 (TM 18).1 (TM 18).2.1 (TM 18).2.2.1 ∈ WG := wg_4 104 (by rfl) rfl
theorem k_812 : Cond.fieldLink NM 70 (TM 6).1 (TM 6).2.1 (TM 6).2.2.1 ∈ WG := wg_4 92 (by rfl) rfl
theorem k_825 : Cond.fieldLink NM 125 (TM 19).1 (TM 19).2.1 (TM 19).2.2.1 ∈ WG := wg_4 105 (by rfl) rfl
theorem k_826 : Cond.fieldLink NM 128 (TM 20).1 (TM 20).2.1 (TM 20).2.2.1 ∈ WG := wg_4 106 (by rfl) rfl
theorem k_827 : Cond.fieldLink NM 131 (TM 21).1 (TM 21).2.1 (TM 21).2.2.1 ∈ WG := wg_4 107 (by rfl) rfl
theorem k_767 : Cond.methodLink NM 81 yM_in ∈ WG := wg_4 47 (by rfl) rfl
theorem k_770 : Cond.methodLink NM 134 yM_wordFrom ∈ WG := wg_4 50 (by rfl) rfl
theorem k_766 : Cond.code yM_next bM_next 3 none ∈ WG := wg_4 46 (by rfl) rfl
theorem k_765 : Cond.instanceMethod yM_next ∈ WG := wg_4 45 (by rfl) rfl
theorem k_sel_M_next : Cond.selects yM_next.cls yM_next yM_next ∈ WG := wg_s (n := 34) (by decide +kernel)
theorem k_813 : Cond.fieldLink NM 25 (TM 7).1 (TM 7).2.1 (TM 7).2.2.1 ∈ WG := wg_4 93 (by rfl) rfl
theorem k_815 : Cond.fieldLink NM 113 (TM 9).1 (TM 9).2.1 (TM 9).2.2.1 ∈ WG := wg_4 95 (by rfl) rfl
theorem k_832 : Cond.fieldLink NM 137 (TM 26).1 (TM 26).2.1 (TM 26).2.2.1 ∈ WG := wg_4 112 (by rfl) rfl
theorem k_782 : Cond.code yM_puts bM_puts 2 none ∈ WG := wg_4 62 (by rfl) rfl
theorem k_781 : Cond.instanceMethod yM_puts ∈ WG := wg_4 61 (by rfl) rfl
theorem k_sel_M_puts : Cond.selects yM_puts.cls yM_puts yM_puts ∈ WG := wg_s (n := 34) (by decide +kernel)
theorem k_789 : Cond.code yM_rank bM_rank 1 (some .int) ∈ WG := wg_4 69 (by rfl) rfl
theorem k_788 : Cond.static yM_rank ∈ WG := wg_4 68 (by rfl) rfl
theorem k_830 : Cond.fieldLink NM 140 (TM 24).1 (TM 24).2.1 (TM 24).2.2.1 ∈ WG := wg_4 110 (by rfl) rfl
theorem k_829 : Cond.fieldLink NM 52 (TM 23).1 (TM 23).2.1 (TM 23).2.2.1 ∈ WG := wg_4 109 (by rfl) rfl
theorem k_787 : Cond.methodLink NM 143 yM_rank ∈ WG := wg_4 67 (by rfl) rfl
theorem k_831 : Cond.fieldLink NM 146 (TM 25).1 (TM 25).2.1 (TM 25).2.2.1 ∈ WG := wg_4 111 (by rfl) rfl
theorem k_779 : Cond.methodLink NM 149 yM_puts ∈ WG := wg_4 59 (by rfl) rfl
theorem k_786 : Cond.code yM_unwinds bM_unwinds 3 none ∈ WG := wg_4 66 (by rfl) rfl
theorem k_785 : Cond.instanceMethod yM_unwinds ∈ WG := wg_4 65 (by rfl) rfl
theorem k_sel_M_unwinds : Cond.selects yM_unwinds.cls yM_unwinds yM_unwinds ∈ WG := wg_s (n := 34) (by decide +kernel)
theorem k_797 : Cond.code yM_holds bM_holds 2 none ∈ WG := wg_4 77 (by rfl) rfl
theorem k_796 : Cond.instanceMethod yM_holds ∈ WG := wg_4 76 (by rfl) rfl
theorem k_sel_M_holds : Cond.selects yM_holds.cls yM_holds yM_holds ∈ WG := wg_s (n := 34) (by decide +kernel)
theorem k_794 : Cond.methodLink NM 153 yM_holds ∈ WG := wg_4 74 (by rfl) rfl
theorem k_793 : Cond.code yM_opensOne bM_opensOne 2 (some .boolean) ∈ WG := wg_4 73 (by rfl) rfl
theorem k_792 : Cond.instanceMethod yM_opensOne ∈ WG := wg_4 72 (by rfl) rfl
theorem k_sel_M_opensOne : Cond.selects yM_opensOne.cls yM_opensOne yM_opensOne ∈ WG := wg_s (n := 34) (by decide +kernel)
theorem k_801 : Cond.code yM_signOf bM_signOf 1 (some .int) ∈ WG := wg_4 81 (by rfl) rfl
theorem k_800 : Cond.instanceMethod yM_signOf ∈ WG := wg_4 80 (by rfl) rfl
theorem k_sel_M_signOf : Cond.selects yM_signOf.cls yM_signOf yM_signOf ∈ WG := wg_s (n := 34) (by decide +kernel)
theorem k_783 : Cond.methodLink NM 156 yM_unwinds ∈ WG := wg_4 63 (by rfl) rfl
theorem k_805 : Cond.code yM_between bM_between 2 (some .boolean) ∈ WG := wg_4 85 (by rfl) rfl
theorem k_804 : Cond.instanceMethod yM_between ∈ WG := wg_4 84 (by rfl) rfl
theorem k_sel_M_between : Cond.selects yM_between.cls yM_between yM_between ∈ WG := wg_s (n := 34) (by decide +kernel)
theorem k_763 : Cond.methodLink NM 159 yM_next ∈ WG := wg_4 43 (by rfl) rfl
theorem k_798 : Cond.methodLink NM 166 yM_signOf ∈ WG := wg_4 78 (by rfl) rfl
theorem k_802 : Cond.methodLink NM 169 yM_between ∈ WG := wg_4 82 (by rfl) rfl
theorem k_790 : Cond.methodLink NM 163 yM_opensOne ∈ WG := wg_4 70 (by rfl) rfl
theorem k_778 : Cond.constant NM 162 100000 ∈ WG := wg_4 58 (by rfl) rfl
theorem k_777 : Cond.code yM_eRead bM_eRead 4 (some .boolean) ∈ WG := wg_4 57 (by rfl) rfl
theorem k_776 : Cond.instanceMethod yM_eRead ∈ WG := wg_4 56 (by rfl) rfl
theorem k_sel_M_eRead : Cond.selects yM_eRead.cls yM_eRead yM_eRead ∈ WG := wg_s (n := 34) (by decide +kernel)
theorem k_814 : Cond.fieldLink NM 28 (TM 8).1 (TM 8).2.1 (TM 8).2.2.1 ∈ WG := wg_4 94 (by rfl) rfl
theorem k_774 : Cond.methodLink NM 172 yM_eRead ∈ WG := wg_4 54 (by rfl) rfl
theorem k_762 : Cond.code yM_text bM_text 3 (some .int) ∈ WG := wg_4 42 (by rfl) rfl
theorem k_760 : Cond.instanceMethod yM_text ∈ WG := wg_4 40 (by rfl) rfl
theorem k_761 : Cond.selects yM_text.cls yM_text yM_text ∈ WG := wg_4 41 (by rfl) rfl
theorem k_806 : Cond.fieldLink NM 78 (TM 0).1 (TM 0).2.1 (TM 0).2.2.1 ∈ WG := wg_4 86 (by rfl) rfl
theorem k_809 : Cond.fieldLink NM 16 (TM 3).1 (TM 3).2.1 (TM 3).2.2.1 ∈ WG := wg_4 89 (by rfl) rfl
theorem k_810 : Cond.fieldLink NM 19 (TM 4).1 (TM 4).2.1 (TM 4).2.2.1 ∈ WG := wg_4 90 (by rfl) rfl
theorem k_916 : Cond.code yM_inStep bM_inStep 3 (some .int) ∈ WG := wg_4 196 (by rfl) rfl
theorem k_915 : Cond.instanceMethod yM_inStep ∈ WG := wg_4 195 (by rfl) rfl
theorem k_sel_M_inStep : Cond.selects yM_inStep.cls yM_inStep yM_inStep ∈ WG := wg_s (n := 34) (by decide +kernel)
theorem k_919 : Cond.code yM_ones bM_ones 3 (some .int) ∈ WG := wg_4 199 (by rfl) rfl
theorem k_918 : Cond.static yM_ones ∈ WG := wg_4 198 (by rfl) rfl
theorem k_913 : Cond.methodLink NM 107 yM_inStep ∈ WG := wg_4 193 (by rfl) rfl
theorem k_917 : Cond.methodLink NM 110 yM_ones ∈ WG := wg_4 197 (by rfl) rfl
theorem k_816 : Cond.fieldLink NM 116 (TM 10).1 (TM 10).2.1 (TM 10).2.2.1 ∈ WG := wg_4 96 (by rfl) rfl
theorem k_912 : Cond.code yM_count bM_count 2 (some .int) ∈ WG := wg_4 192 (by rfl) rfl
theorem k_910 : Cond.instanceMethod yM_count ∈ WG := wg_4 190 (by rfl) rfl
theorem k_911 : Cond.selects yM_count.cls yM_count yM_count ∈ WG := wg_4 191 (by rfl) rfl
theorem k_927 : Cond.code yM_whoAt bM_whoAt 3 (some .int) ∈ WG := wg_4 207 (by rfl) rfl
theorem k_926 : Cond.instanceMethod yM_whoAt ∈ WG := wg_4 206 (by rfl) rfl
theorem k_sel_M_whoAt : Cond.selects yM_whoAt.cls yM_whoAt yM_whoAt ∈ WG := wg_s (n := 34) (by decide +kernel)
theorem k_924 : Cond.methodLink NM 85 yM_whoAt ∈ WG := wg_4 204 (by rfl) rfl
theorem k_923 : Cond.code yM_sets bM_sets 5 (some .int) ∈ WG := wg_4 203 (by rfl) rfl
theorem k_921 : Cond.instanceMethod yM_sets ∈ WG := wg_4 201 (by rfl) rfl
theorem k_922 : Cond.selects yM_sets.cls yM_sets yM_sets ∈ WG := wg_4 202 (by rfl) rfl
theorem k_931 : Cond.code yM_row bM_row 2 (some .int) ∈ WG := wg_4 211 (by rfl) rfl
theorem k_929 : Cond.instanceMethod yM_row ∈ WG := wg_4 209 (by rfl) rfl
theorem k_930 : Cond.selects yM_row.cls yM_row yM_row ∈ WG := wg_4 210 (by rfl) rfl
theorem k_938 : Cond.code yM_isByte bM_isByte 1 (some .boolean) ∈ WG := wg_4 218 (by rfl) rfl
theorem k_937 : Cond.static yM_isByte ∈ WG := wg_4 217 (by rfl) rfl
theorem k_936 : Cond.methodLink NM 119 yM_isByte ∈ WG := wg_4 216 (by rfl) rfl
theorem k_935 : Cond.code yM_feed bM_feed 8 (some .int) ∈ WG := wg_4 215 (by rfl) rfl
theorem k_933 : Cond.instanceMethod yM_feed ∈ WG := wg_4 213 (by rfl) rfl
theorem k_934 : Cond.selects yM_feed.cls yM_feed yM_feed ∈ WG := wg_4 214 (by rfl) rfl
theorem k_943 : Cond.code yM_force bM_force 3 (some .int) ∈ WG := wg_4 223 (by rfl) rfl
theorem k_941 : Cond.instanceMethod yM_force ∈ WG := wg_4 221 (by rfl) rfl
theorem k_942 : Cond.selects yM_force.cls yM_force yM_force ∈ WG := wg_4 222 (by rfl) rfl
theorem k_951 : Cond.code yM_isOne bM_isOne 2 (some .boolean) ∈ WG := wg_4 231 (by rfl) rfl
theorem k_950 : Cond.instanceMethod yM_isOne ∈ WG := wg_4 230 (by rfl) rfl
theorem k_sel_M_isOne : Cond.selects yM_isOne.cls yM_isOne yM_isOne ∈ WG := wg_s (n := 34) (by decide +kernel)
theorem k_963 : Cond.code yM_besideOf bM_besideOf 4 (some .int) ∈ WG := wg_5 3 (by rfl) rfl
theorem k_962 : Cond.instanceMethod yM_besideOf ∈ WG := wg_5 2 (by rfl) rfl
theorem k_sel_M_besideOf : Cond.selects yM_besideOf.cls yM_besideOf yM_besideOf ∈ WG := wg_s (n := 34) (by decide +kernel)
theorem k_960 : Cond.methodLink NM 89 yM_besideOf ∈ WG := wg_5 0 (by rfl) rfl
theorem k_959 : Cond.code yM_leftOf bM_leftOf 2 (some .int) ∈ WG := wg_4 239 (by rfl) rfl
theorem k_958 : Cond.instanceMethod yM_leftOf ∈ WG := wg_4 238 (by rfl) rfl
theorem k_sel_M_leftOf : Cond.selects yM_leftOf.cls yM_leftOf yM_leftOf ∈ WG := wg_s (n := 34) (by decide +kernel)
theorem k_967 : Cond.code yM_rightOf bM_rightOf 2 (some .int) ∈ WG := wg_5 7 (by rfl) rfl
theorem k_966 : Cond.instanceMethod yM_rightOf ∈ WG := wg_5 6 (by rfl) rfl
theorem k_sel_M_rightOf : Cond.selects yM_rightOf.cls yM_rightOf yM_rightOf ∈ WG := wg_s (n := 34) (by decide +kernel)
theorem k_974 : Cond.code yM_two bM_two 3 (some .int) ∈ WG := wg_5 14 (by rfl) rfl
theorem k_973 : Cond.static yM_two ∈ WG := wg_5 13 (by rfl) rfl
theorem k_833 : Cond.fieldLink NM 55 (TM 27).1 (TM 27).2.1 (TM 27).2.2.1 ∈ WG := wg_4 113 (by rfl) rfl
theorem k_972 : Cond.methodLink NM 176 yM_two ∈ WG := wg_5 12 (by rfl) rfl
theorem k_834 : Cond.fieldLink NM 58 (TM 28).1 (TM 28).2.1 (TM 28).2.2.1 ∈ WG := wg_4 114 (by rfl) rfl
theorem k_971 : Cond.code yM_says bM_says 5 (some .int) ∈ WG := wg_5 11 (by rfl) rfl
theorem k_970 : Cond.instanceMethod yM_says ∈ WG := wg_5 10 (by rfl) rfl
theorem k_sel_M_says : Cond.selects yM_says.cls yM_says yM_says ∈ WG := wg_s (n := 34) (by decide +kernel)
theorem k_977 : Cond.code yM_within bM_within 3 (some .int) ∈ WG := wg_5 17 (by rfl) rfl
theorem k_976 : Cond.static yM_within ∈ WG := wg_5 16 (by rfl) rfl
theorem k_956 : Cond.methodLink NM 93 yM_leftOf ∈ WG := wg_4 236 (by rfl) rfl
theorem k_964 : Cond.methodLink NM 100 yM_rightOf ∈ WG := wg_5 4 (by rfl) rfl
theorem k_808 : Cond.fieldLink NM 13 (TM 2).1 (TM 2).2.1 (TM 2).2.2.1 ∈ WG := wg_4 88 (by rfl) rfl
theorem k_968 : Cond.methodLink NM 180 yM_says ∈ WG := wg_5 8 (by rfl) rfl
theorem k_975 : Cond.methodLink NM 183 yM_within ∈ WG := wg_5 15 (by rfl) rfl
theorem k_955 : Cond.code yM_asksOf bM_asksOf 3 (some .int) ∈ WG := wg_4 235 (by rfl) rfl
theorem k_954 : Cond.instanceMethod yM_asksOf ∈ WG := wg_4 234 (by rfl) rfl
theorem k_sel_M_asksOf : Cond.selects yM_asksOf.cls yM_asksOf yM_asksOf ∈ WG := wg_s (n := 34) (by decide +kernel)
theorem k_948 : Cond.methodLink NM 186 yM_isOne ∈ WG := wg_4 228 (by rfl) rfl
theorem k_952 : Cond.methodLink NM 189 yM_asksOf ∈ WG := wg_4 232 (by rfl) rfl
theorem k_947 : Cond.code yM_asks bM_asks 3 (some .int) ∈ WG := wg_4 227 (by rfl) rfl
theorem k_945 : Cond.instanceMethod yM_asks ∈ WG := wg_4 225 (by rfl) rfl
theorem k_946 : Cond.selects yM_asks.cls yM_asks yM_asks ∈ WG := wg_4 226 (by rfl) rfl
theorem k_985 : Cond.code yM_isFree bM_isFree 2 (some .boolean) ∈ WG := wg_5 25 (by rfl) rfl
theorem k_984 : Cond.instanceMethod yM_isFree ∈ WG := wg_5 24 (by rfl) rfl
theorem k_sel_M_isFree : Cond.selects yM_isFree.cls yM_isFree yM_isFree ∈ WG := wg_s (n := 34) (by decide +kernel)
theorem k_982 : Cond.methodLink NM 192 yM_isFree ∈ WG := wg_5 22 (by rfl) rfl
theorem k_807 : Cond.fieldLink NM 7 (TM 1).1 (TM 1).2.1 (TM 1).2.2.1 ∈ WG := wg_4 87 (by rfl) rfl
theorem k_981 : Cond.code yM_mower bM_mower 4 (some .int) ∈ WG := wg_5 21 (by rfl) rfl
theorem k_979 : Cond.instanceMethod yM_mower ∈ WG := wg_5 19 (by rfl) rfl
theorem k_980 : Cond.selects yM_mower.cls yM_mower yM_mower ∈ WG := wg_5 20 (by rfl) rfl
theorem k_989 : Cond.code yM_put bM_put 6 (some .int) ∈ WG := wg_5 29 (by rfl) rfl
theorem k_987 : Cond.instanceMethod yM_put ∈ WG := wg_5 27 (by rfl) rfl
theorem k_988 : Cond.selects yM_put.cls yM_put yM_put ∈ WG := wg_5 28 (by rfl) rfl
theorem k_997 : Cond.code yM_keepsOf bM_keepsOf 2 (some .int) ∈ WG := wg_5 37 (by rfl) rfl
theorem k_996 : Cond.instanceMethod yM_keepsOf ∈ WG := wg_5 36 (by rfl) rfl
theorem k_sel_M_keepsOf : Cond.selects yM_keepsOf.cls yM_keepsOf yM_keepsOf ∈ WG := wg_s (n := 34) (by decide +kernel)
theorem k_994 : Cond.methodLink NM 195 yM_keepsOf ∈ WG := wg_5 34 (by rfl) rfl
theorem k_1001 : Cond.code yM_swingsOf bM_swingsOf 5 (some .int) ∈ WG := wg_5 41 (by rfl) rfl
theorem k_1000 : Cond.instanceMethod yM_swingsOf ∈ WG := wg_5 40 (by rfl) rfl
theorem k_sel_M_swingsOf : Cond.selects yM_swingsOf.cls yM_swingsOf yM_swingsOf ∈ WG := wg_s (n := 34) (by decide +kernel)
theorem k_1012 : Cond.code yM_areApart bM_areApart 2 (some .boolean) ∈ WG := wg_5 52 (by rfl) rfl
theorem k_1011 : Cond.static yM_areApart ∈ WG := wg_5 51 (by rfl) rfl
theorem k_1010 : Cond.methodLink NM 96 yM_areApart ∈ WG := wg_5 50 (by rfl) rfl
theorem k_1009 : Cond.code yM_doesClash bM_doesClash 3 (some .boolean) ∈ WG := wg_5 49 (by rfl) rfl
theorem k_1008 : Cond.instanceMethod yM_doesClash ∈ WG := wg_5 48 (by rfl) rfl
theorem k_sel_M_doesClash : Cond.selects yM_doesClash.cls yM_doesClash yM_doesClash ∈ WG := wg_s (n := 34) (by decide +kernel)
theorem k_1006 : Cond.methodLink NM 103 yM_doesClash ∈ WG := wg_5 46 (by rfl) rfl
theorem k_1005 : Cond.code yM_tiresOf bM_tiresOf 4 (some .int) ∈ WG := wg_5 45 (by rfl) rfl
theorem k_1004 : Cond.instanceMethod yM_tiresOf ∈ WG := wg_5 44 (by rfl) rfl
theorem k_sel_M_tiresOf : Cond.selects yM_tiresOf.cls yM_tiresOf yM_tiresOf ∈ WG := wg_s (n := 34) (by decide +kernel)
theorem k_998 : Cond.methodLink NM 198 yM_swingsOf ∈ WG := wg_5 38 (by rfl) rfl
theorem k_1002 : Cond.methodLink NM 201 yM_tiresOf ∈ WG := wg_5 42 (by rfl) rfl
theorem k_993 : Cond.code yM_told bM_told 3 (some .int) ∈ WG := wg_5 33 (by rfl) rfl
theorem k_991 : Cond.instanceMethod yM_told ∈ WG := wg_5 31 (by rfl) rfl
theorem k_992 : Cond.selects yM_told.cls yM_told yM_told ∈ WG := wg_5 32 (by rfl) rfl
theorem k_835 : Cond.fieldLink NM 61 (TM 29).1 (TM 29).2.1 (TM 29).2.2.1 ∈ WG := wg_4 115 (by rfl) rfl
theorem k_1020 : Cond.code yM_strokeOf bM_strokeOf 4 (some .int) ∈ WG := wg_5 60 (by rfl) rfl
theorem k_1019 : Cond.instanceMethod yM_strokeOf ∈ WG := wg_5 59 (by rfl) rfl
theorem k_sel_M_strokeOf : Cond.selects yM_strokeOf.cls yM_strokeOf yM_strokeOf ∈ WG := wg_s (n := 34) (by decide +kernel)
theorem k_1017 : Cond.methodLink NM 204 yM_strokeOf ∈ WG := wg_5 57 (by rfl) rfl
theorem k_1016 : Cond.code yM_stroke bM_stroke 2 (some .int) ∈ WG := wg_5 56 (by rfl) rfl
theorem k_1014 : Cond.instanceMethod yM_stroke ∈ WG := wg_5 54 (by rfl) rfl
theorem k_1015 : Cond.selects yM_stroke.cls yM_stroke yM_stroke ∈ WG := wg_5 55 (by rfl) rfl
theorem k_836 : Cond.fieldLink NM 64 (TM 30).1 (TM 30).2.1 (TM 30).2.2.1 ∈ WG := wg_4 116 (by rfl) rfl
theorem k_1028 : Cond.code yM_keeps bM_keeps 2 none ∈ WG := wg_5 68 (by rfl) rfl
theorem k_1027 : Cond.instanceMethod yM_keeps ∈ WG := wg_5 67 (by rfl) rfl
theorem k_sel_M_keeps : Cond.selects yM_keeps.cls yM_keeps yM_keeps ∈ WG := wg_s (n := 34) (by decide +kernel)
theorem k_1032 : Cond.code yM_goes bM_goes 4 (some .int) ∈ WG := wg_5 72 (by rfl) rfl
theorem k_1031 : Cond.instanceMethod yM_goes ∈ WG := wg_5 71 (by rfl) rfl
theorem k_sel_M_goes : Cond.selects yM_goes.cls yM_goes yM_goes ∈ WG := wg_s (n := 34) (by decide +kernel)
theorem k_1040 : Cond.code yM_clashing bM_clashing 3 (some .int) ∈ WG := wg_5 80 (by rfl) rfl
theorem k_1039 : Cond.instanceMethod yM_clashing ∈ WG := wg_5 79 (by rfl) rfl
theorem k_sel_M_clashing : Cond.selects yM_clashing.cls yM_clashing yM_clashing ∈ WG := wg_s (n := 34) (by decide +kernel)
theorem k_1037 : Cond.methodLink NM 207 yM_clashing ∈ WG := wg_5 77 (by rfl) rfl
theorem k_1036 : Cond.code yM_toldBehind bM_toldBehind 2 (some .int) ∈ WG := wg_5 76 (by rfl) rfl
theorem k_1035 : Cond.instanceMethod yM_toldBehind ∈ WG := wg_5 75 (by rfl) rfl
theorem k_sel_M_toldBehind : Cond.selects yM_toldBehind.cls yM_toldBehind yM_toldBehind ∈ WG := wg_s (n := 34) (by decide +kernel)
theorem k_1044 : Cond.code yM_lays bM_lays 2 none ∈ WG := wg_5 84 (by rfl) rfl
theorem k_1043 : Cond.instanceMethod yM_lays ∈ WG := wg_5 83 (by rfl) rfl
theorem k_sel_M_lays : Cond.selects yM_lays.cls yM_lays yM_lays ∈ WG := wg_s (n := 34) (by decide +kernel)
theorem k_1025 : Cond.methodLink NM 210 yM_keeps ∈ WG := wg_5 65 (by rfl) rfl
theorem k_1029 : Cond.methodLink NM 213 yM_goes ∈ WG := wg_5 69 (by rfl) rfl
theorem k_1033 : Cond.methodLink NM 216 yM_toldBehind ∈ WG := wg_5 73 (by rfl) rfl
theorem k_1041 : Cond.methodLink NM 219 yM_lays ∈ WG := wg_5 81 (by rfl) rfl
theorem k_1024 : Cond.code yM_run bM_run 6 (some .int) ∈ WG := wg_5 64 (by rfl) rfl
theorem k_1022 : Cond.instanceMethod yM_run ∈ WG := wg_5 62 (by rfl) rfl
theorem k_1023 : Cond.selects yM_run.cls yM_run yM_run ∈ WG := wg_5 63 (by rfl) rfl
theorem k_1052 : Cond.code yM_isNow bM_isNow 3 (some .boolean) ∈ WG := wg_5 92 (by rfl) rfl
theorem k_1051 : Cond.instanceMethod yM_isNow ∈ WG := wg_5 91 (by rfl) rfl
theorem k_sel_M_isNow : Cond.selects yM_isNow.cls yM_isNow yM_isNow ∈ WG := wg_s (n := 34) (by decide +kernel)
theorem k_1049 : Cond.methodLink NM 222 yM_isNow ∈ WG := wg_5 89 (by rfl) rfl
theorem k_1048 : Cond.code yM_when bM_when 4 (some .int) ∈ WG := wg_5 88 (by rfl) rfl
theorem k_1046 : Cond.instanceMethod yM_when ∈ WG := wg_5 86 (by rfl) rfl
theorem k_1047 : Cond.selects yM_when.cls yM_when yM_when ∈ WG := wg_5 87 (by rfl) rfl
theorem k_1056 : Cond.code yM_often bM_often 7 (some .int) ∈ WG := wg_5 96 (by rfl) rfl
theorem k_1054 : Cond.instanceMethod yM_often ∈ WG := wg_5 94 (by rfl) rfl
theorem k_1055 : Cond.selects yM_often.cls yM_often yM_often ∈ WG := wg_5 95 (by rfl) rfl
theorem k_1064 : Cond.code yM_cutNow bM_cutNow 3 (some .int) ∈ WG := wg_5 104 (by rfl) rfl
theorem k_1063 : Cond.instanceMethod yM_cutNow ∈ WG := wg_5 103 (by rfl) rfl
theorem k_sel_M_cutNow : Cond.selects yM_cutNow.cls yM_cutNow yM_cutNow ∈ WG := wg_s (n := 34) (by decide +kernel)
theorem k_1061 : Cond.methodLink NM 225 yM_cutNow ∈ WG := wg_5 101 (by rfl) rfl
theorem k_1060 : Cond.code yM_gap bM_gap 8 (some .int) ∈ WG := wg_5 100 (by rfl) rfl
theorem k_1058 : Cond.instanceMethod yM_gap ∈ WG := wg_5 98 (by rfl) rfl
theorem k_1059 : Cond.selects yM_gap.cls yM_gap yM_gap ∈ WG := wg_5 99 (by rfl) rfl
theorem k_1068 : Cond.code yM_stands bM_stands 10 (some .int) ∈ WG := wg_5 108 (by rfl) rfl
theorem k_1066 : Cond.instanceMethod yM_stands ∈ WG := wg_5 106 (by rfl) rfl
theorem k_1067 : Cond.selects yM_stands.cls yM_stands yM_stands ∈ WG := wg_5 107 (by rfl) rfl
theorem k_1072 : Cond.code yM_tempo bM_tempo 8 (some .int) ∈ WG := wg_5 112 (by rfl) rfl
theorem k_1070 : Cond.instanceMethod yM_tempo ∈ WG := wg_5 110 (by rfl) rfl
theorem k_1071 : Cond.selects yM_tempo.cls yM_tempo yM_tempo ∈ WG := wg_5 111 (by rfl) rfl
theorem k_837 : Cond.fieldLink NM 67 (TM 31).1 (TM 31).2.1 (TM 31).2.2.1 ∈ WG := wg_4 117 (by rfl) rfl
theorem k_1080 : Cond.code yM_tellsTaken bM_tellsTaken 3 none ∈ WG := wg_5 120 (by rfl) rfl
theorem k_1079 : Cond.instanceMethod yM_tellsTaken ∈ WG := wg_5 119 (by rfl) rfl
theorem k_sel_M_tellsTaken : Cond.selects yM_tellsTaken.cls yM_tellsTaken yM_tellsTaken ∈ WG := wg_s (n := 34) (by decide +kernel)
theorem k_838 : Cond.fieldLink NM 228 (TM 32).1 (TM 32).2.1 (TM 32).2.2.1 ∈ WG := wg_4 118 (by rfl) rfl
theorem k_1084 : Cond.code yM_orders bM_orders 7 (some .boolean) ∈ WG := wg_5 124 (by rfl) rfl
theorem k_1083 : Cond.instanceMethod yM_orders ∈ WG := wg_5 123 (by rfl) rfl
theorem k_sel_M_orders : Cond.selects yM_orders.cls yM_orders yM_orders ∈ WG := wg_s (n := 34) (by decide +kernel)
theorem k_1077 : Cond.methodLink NM 231 yM_tellsTaken ∈ WG := wg_5 117 (by rfl) rfl
theorem k_1081 : Cond.methodLink NM 234 yM_orders ∈ WG := wg_5 121 (by rfl) rfl
theorem k_1076 : Cond.code yM_order bM_order 8 (some .int) ∈ WG := wg_5 116 (by rfl) rfl
theorem k_1074 : Cond.instanceMethod yM_order ∈ WG := wg_5 114 (by rfl) rfl
theorem k_1075 : Cond.selects yM_order.cls yM_order yM_order ∈ WG := wg_5 115 (by rfl) rfl
theorem k_1092 : Cond.code yM_lowest bM_lowest 11 (some .long) ∈ WG := wg_5 132 (by rfl) rfl
theorem k_1091 : Cond.static yM_lowest ∈ WG := wg_5 131 (by rfl) rfl
theorem k_1089 : Cond.constantLong NM 237 (-4611686018427387904) ∈ WG := wg_5 129 (by rfl) rfl
theorem k_1090 : Cond.methodLink NM 239 yM_lowest ∈ WG := wg_5 130 (by rfl) rfl
theorem k_1088 : Cond.code yM_mean bM_mean 3 (some .long) ∈ WG := wg_5 128 (by rfl) rfl
theorem k_1086 : Cond.instanceMethod yM_mean ∈ WG := wg_5 126 (by rfl) rfl
theorem k_1087 : Cond.selects yM_mean.cls yM_mean yM_mean ∈ WG := wg_5 127 (by rfl) rfl
theorem k_820 : Cond.fieldLink NM 37 (TM 14).1 (TM 14).2.1 (TM 14).2.2.1 ∈ WG := wg_4 100 (by rfl) rfl
theorem k_821 : Cond.fieldLink NM 40 (TM 15).1 (TM 15).2.1 (TM 15).2.2.1 ∈ WG := wg_4 101 (by rfl) rfl
theorem k_1104 : Cond.code yM_sheetWrong bM_sheetWrong 2 (some .int) ∈ WG := wg_5 144 (by rfl) rfl
theorem k_1103 : Cond.instanceMethod yM_sheetWrong ∈ WG := wg_5 143 (by rfl) rfl
theorem k_sel_M_sheetWrong : Cond.selects yM_sheetWrong.cls yM_sheetWrong yM_sheetWrong ∈ WG := wg_s (n := 34) (by decide +kernel)
theorem k_1101 : Cond.methodLink NM 243 yM_sheetWrong ∈ WG := wg_5 141 (by rfl) rfl
theorem k_1100 : Cond.code yM_toldWrong bM_toldWrong 4 (some .int) ∈ WG := wg_5 140 (by rfl) rfl
theorem k_1099 : Cond.instanceMethod yM_toldWrong ∈ WG := wg_5 139 (by rfl) rfl
theorem k_sel_M_toldWrong : Cond.selects yM_toldWrong.cls yM_toldWrong yM_toldWrong ∈ WG := wg_s (n := 34) (by decide +kernel)
theorem k_822 : Cond.fieldLink NM 43 (TM 16).1 (TM 16).2.1 (TM 16).2.2.1 ∈ WG := wg_4 102 (by rfl) rfl
theorem k_1108 : Cond.code yM_unlike bM_unlike 5 (some .int) ∈ WG := wg_5 148 (by rfl) rfl
theorem k_1107 : Cond.instanceMethod yM_unlike ∈ WG := wg_5 147 (by rfl) rfl
theorem k_sel_M_unlike : Cond.selects yM_unlike.cls yM_unlike yM_unlike ∈ WG := wg_s (n := 34) (by decide +kernel)
theorem k_1097 : Cond.methodLink NM 246 yM_toldWrong ∈ WG := wg_5 137 (by rfl) rfl
theorem k_1105 : Cond.methodLink NM 249 yM_unlike ∈ WG := wg_5 145 (by rfl) rfl
theorem k_1096 : Cond.code yM_judge bM_judge 4 (some .int) ∈ WG := wg_5 136 (by rfl) rfl
theorem k_1094 : Cond.instanceMethod yM_judge ∈ WG := wg_5 134 (by rfl) rfl
theorem k_1095 : Cond.selects yM_judge.cls yM_judge yM_judge ∈ WG := wg_5 135 (by rfl) rfl
theorem k_1112 : Cond.code yM_kinds bM_kinds 9 (some .int) ∈ WG := wg_5 152 (by rfl) rfl
theorem k_1110 : Cond.instanceMethod yM_kinds ∈ WG := wg_5 150 (by rfl) rfl
theorem k_1111 : Cond.selects yM_kinds.cls yM_kinds yM_kinds ∈ WG := wg_5 151 (by rfl) rfl
theorem k_1120 : Cond.code yM_placesBy bM_placesBy 7 (some .int) ∈ WG := wg_5 160 (by rfl) rfl
theorem k_1119 : Cond.instanceMethod yM_placesBy ∈ WG := wg_5 159 (by rfl) rfl
theorem k_sel_M_placesBy : Cond.selects yM_placesBy.cls yM_placesBy yM_placesBy ∈ WG := wg_s (n := 34) (by decide +kernel)
theorem k_1124 : Cond.code yM_swingsBy bM_swingsBy 6 (some .int) ∈ WG := wg_5 164 (by rfl) rfl
theorem k_1123 : Cond.instanceMethod yM_swingsBy ∈ WG := wg_5 163 (by rfl) rfl
theorem k_sel_M_swingsBy : Cond.selects yM_swingsBy.cls yM_swingsBy yM_swingsBy ∈ WG := wg_s (n := 34) (by decide +kernel)
theorem k_1128 : Cond.code yM_rowBy bM_rowBy 7 (some .int) ∈ WG := wg_5 168 (by rfl) rfl
theorem k_1127 : Cond.instanceMethod yM_rowBy ∈ WG := wg_5 167 (by rfl) rfl
theorem k_sel_M_rowBy : Cond.selects yM_rowBy.cls yM_rowBy yM_rowBy ∈ WG := wg_s (n := 34) (by decide +kernel)
theorem k_1117 : Cond.methodLink NM 252 yM_placesBy ∈ WG := wg_5 157 (by rfl) rfl
theorem k_1121 : Cond.methodLink NM 255 yM_swingsBy ∈ WG := wg_5 161 (by rfl) rfl
theorem k_1125 : Cond.methodLink NM 258 yM_rowBy ∈ WG := wg_5 165 (by rfl) rfl
theorem k_1116 : Cond.code yM_states bM_states 5 (some .int) ∈ WG := wg_5 156 (by rfl) rfl
theorem k_1114 : Cond.instanceMethod yM_states ∈ WG := wg_5 154 (by rfl) rfl
theorem k_1115 : Cond.selects yM_states.cls yM_states yM_states ∈ WG := wg_5 155 (by rfl) rfl
theorem k_1132 : Cond.code yM_weary bM_weary 10 (some .int) ∈ WG := wg_5 172 (by rfl) rfl
theorem k_1130 : Cond.instanceMethod yM_weary ∈ WG := wg_5 170 (by rfl) rfl
theorem k_1131 : Cond.selects yM_weary.cls yM_weary yM_weary ∈ WG := wg_5 171 (by rfl) rfl
theorem k_1136 : Cond.code yM_whose bM_whose 5 (some .int) ∈ WG := wg_5 176 (by rfl) rfl
theorem k_1134 : Cond.instanceMethod yM_whose ∈ WG := wg_5 174 (by rfl) rfl
theorem k_1135 : Cond.selects yM_whose.cls yM_whose yM_whose ∈ WG := wg_5 175 (by rfl) rfl
theorem k_1140 : Cond.code yM_laws bM_laws 7 (some .int) ∈ WG := wg_5 180 (by rfl) rfl
theorem k_1138 : Cond.instanceMethod yM_laws ∈ WG := wg_5 178 (by rfl) rfl
theorem k_1139 : Cond.selects yM_laws.cls yM_laws yM_laws ∈ WG := wg_5 179 (by rfl) rfl
theorem k_1144 : Cond.code yM_film bM_film 5 (some .int) ∈ WG := wg_5 184 (by rfl) rfl
theorem k_1142 : Cond.instanceMethod yM_film ∈ WG := wg_5 182 (by rfl) rfl
theorem k_1143 : Cond.selects yM_film.cls yM_film yM_film ∈ WG := wg_5 183 (by rfl) rfl
theorem k_839 : Cond.fieldLink NM 269 (TM 33).1 (TM 33).2.1 (TM 33).2.2.1 ∈ WG := wg_4 119 (by rfl) rfl
theorem k_1154 : Cond.constantLong NM 261 48271 ∈ WG := wg_5 194 (by rfl) rfl
theorem k_1155 : Cond.constantLong NM 263 2147483647 ∈ WG := wg_5 195 (by rfl) rfl
theorem k_1156 : Cond.constantLong NM 265 6 ∈ WG := wg_5 196 (by rfl) rfl
theorem k_1157 : Cond.constantLong NM 267 12 ∈ WG := wg_5 197 (by rfl) rfl
theorem k_1153 : Cond.code yM_gusts bM_gusts 7 (some .int) ∈ WG := wg_5 193 (by rfl) rfl
theorem k_1152 : Cond.instanceMethod yM_gusts ∈ WG := wg_5 192 (by rfl) rfl
theorem k_sel_M_gusts : Cond.selects yM_gusts.cls yM_gusts yM_gusts ∈ WG := wg_s (n := 34) (by decide +kernel)
theorem k_1149 : Cond.constant NM 272 99999 ∈ WG := wg_5 189 (by rfl) rfl
theorem k_1150 : Cond.methodLink NM 273 yM_gusts ∈ WG := wg_5 190 (by rfl) rfl
theorem k_1148 : Cond.code yM_drawn bM_drawn 4 (some .int) ∈ WG := wg_5 188 (by rfl) rfl
theorem k_1146 : Cond.instanceMethod yM_drawn ∈ WG := wg_5 186 (by rfl) rfl
theorem k_1147 : Cond.selects yM_drawn.cls yM_drawn yM_drawn ∈ WG := wg_5 187 (by rfl) rfl
theorem k_1161 : Cond.code yM_odds bM_odds 8 (some .long) ∈ WG := wg_5 201 (by rfl) rfl
theorem k_1159 : Cond.instanceMethod yM_odds ∈ WG := wg_5 199 (by rfl) rfl
theorem k_1160 : Cond.selects yM_odds.cls yM_odds yM_odds ∈ WG := wg_5 200 (by rfl) rfl
theorem k_817 : Cond.fieldLink NM 276 (TM 11).1 (TM 11).2.1 (TM 11).2.2.1 ∈ WG := wg_4 97 (by rfl) rfl
theorem k_818 : Cond.fieldLink NM 31 (TM 12).1 (TM 12).2.1 (TM 12).2.2.1 ∈ WG := wg_4 98 (by rfl) rfl
theorem k_819 : Cond.fieldLink NM 34 (TM 13).1 (TM 13).2.1 (TM 13).2.2.1 ∈ WG := wg_4 99 (by rfl) rfl
theorem k_1165 : Cond.code yM_image bM_image 2 (some .int) ∈ WG := wg_5 205 (by rfl) rfl
theorem k_1163 : Cond.instanceMethod yM_image ∈ WG := wg_5 203 (by rfl) rfl
theorem k_1164 : Cond.selects yM_image.cls yM_image yM_image ∈ WG := wg_5 204 (by rfl) rfl
theorem k_1169 : Cond.code yM_back bM_back 2 (some .int) ∈ WG := wg_5 209 (by rfl) rfl
theorem k_1167 : Cond.instanceMethod yM_back ∈ WG := wg_5 207 (by rfl) rfl
theorem k_1168 : Cond.selects yM_back.cls yM_back yM_back ∈ WG := wg_5 208 (by rfl) rfl
theorem k_1173 : Cond.code yM_sheet bM_sheet 5 (some .int) ∈ WG := wg_5 213 (by rfl) rfl
theorem k_1171 : Cond.instanceMethod yM_sheet ∈ WG := wg_5 211 (by rfl) rfl
theorem k_1172 : Cond.selects yM_sheet.cls yM_sheet yM_sheet ∈ WG := wg_5 212 (by rfl) rfl
theorem k_1177 : Cond.code yM_cell bM_cell 4 (some .int) ∈ WG := wg_5 217 (by rfl) rfl
theorem k_1175 : Cond.instanceMethod yM_cell ∈ WG := wg_5 215 (by rfl) rfl
theorem k_1176 : Cond.selects yM_cell.cls yM_cell yM_cell ∈ WG := wg_5 216 (by rfl) rfl
theorem k_1181 : Cond.code yM_copy bM_copy 10 (some .int) ∈ WG := wg_5 221 (by rfl) rfl
theorem k_1179 : Cond.instanceMethod yM_copy ∈ WG := wg_5 219 (by rfl) rfl
theorem k_1180 : Cond.selects yM_copy.cls yM_copy yM_copy ∈ WG := wg_5 220 (by rfl) rfl
theorem k_1186 : Cond.methodLink NM 280 yM_mower ∈ WG := wg_5 226 (by rfl) rfl
theorem k_1185 : Cond.code yM_mowersBy bM_mowersBy 9 (some .int) ∈ WG := wg_5 225 (by rfl) rfl
theorem k_1183 : Cond.instanceMethod yM_mowersBy ∈ WG := wg_5 223 (by rfl) rfl
theorem k_1184 : Cond.selects yM_mowersBy.cls yM_mowersBy yM_mowersBy ∈ WG := wg_5 224 (by rfl) rfl
theorem k_1193 : Cond.code yM_isUnder bM_isUnder 2 (some .boolean) ∈ WG := wg_5 233 (by rfl) rfl
theorem k_1192 : Cond.static yM_isUnder ∈ WG := wg_5 232 (by rfl) rfl
theorem k_1191 : Cond.methodLink NM 283 yM_isUnder ∈ WG := wg_5 231 (by rfl) rfl
theorem k_1190 : Cond.code yM_taken bM_taken 3 (some .int) ∈ WG := wg_5 230 (by rfl) rfl
theorem k_1188 : Cond.instanceMethod yM_taken ∈ WG := wg_5 228 (by rfl) rfl
theorem k_1189 : Cond.selects yM_taken.cls yM_taken yM_taken ∈ WG := wg_5 229 (by rfl) rfl
theorem k_275 : Cond.static Lib.Math.max.name ∈ WG := wg_2 35 (by rfl) rfl
theorem k_276 : Cond.code Lib.Math.max.name Lib.Math.max.code 2 (some .int) ∈ WG := wg_2 36 (by rfl) rfl
theorem k_278 : Cond.static Lib.Math.min.name ∈ WG := wg_2 38 (by rfl) rfl
theorem k_279 : Cond.code Lib.Math.min.name Lib.Math.min.code 2 (some .int) ∈ WG := wg_2 39 (by rfl) rfl
theorem k_532 : Cond.static Lib.Math.abs.name ∈ WG := wg_3 52 (by rfl) rfl
theorem k_533 : Cond.code Lib.Math.abs.name Lib.Math.abs.code 1 (some .int) ∈ WG := wg_3 53 (by rfl) rfl
theorem k_368 : Cond.native arraycopyName ∈ WG := wg_2 128 (by rfl) rfl
theorem k_367 : Cond.static arraycopyName ∈ WG := wg_2 127 (by rfl) rfl
theorem k_14 : Cond.initialized NJY ∈ WG := wg_1 14 (by rfl) rfl
theorem inB : ∀ w ∈ u_ws NB TB 2, w ∈ WG := by
  intro w hw
  obtain ⟨k, hk, rfl⟩ := List.mem_map.mp hw
  have hk := List.mem_range.mp hk
  rcases (show k = 0 ∨ k = 1 by omega) with rfl | rfl
  · exact wg_1 90 (by rfl) rfl
  · exact wg_1 92 (by rfl) rfl
theorem fiB_0 : FI 0 0 NB TB 2 := ⟨rfl, inB, by decide⟩
theorem fpB_0 {G : GT} (x : Int32) : ∀ g, (fsB G g).set 0 (.int x) = fsB G (upd g 0 x) := fun _ => rfl
theorem fiB_1 : FI 0 1 NB TB 2 := ⟨rfl, inB, by decide⟩
theorem fpB_1 {G : GT} (x : Int32) : ∀ g, (fsB G g).set 1 (.int x) = fsB G (upd g 1 x) := fun _ => rfl
theorem inL : ∀ w ∈ u_ws NL TL 4, w ∈ WG := by
  intro w hw
  obtain ⟨k, hk, rfl⟩ := List.mem_map.mp hw
  have hk := List.mem_range.mp hk
  rcases (show k = 0 ∨ k = 1 ∨ k = 2 ∨ k = 3 by omega) with rfl | rfl | rfl | rfl
  · exact wg_1 45 (by rfl) rfl
  · exact wg_1 47 (by rfl) rfl
  · exact wg_1 49 (by rfl) rfl
  · exact wg_1 51 (by rfl) rfl
theorem fiL_0 : FI 1 0 NL TL 4 := ⟨rfl, inL, by decide⟩
theorem fiL_1 : FI 1 1 NL TL 4 := ⟨rfl, inL, by decide⟩
theorem fiL_2 : FI 1 2 NL TL 4 := ⟨rfl, inL, by decide⟩
theorem fiL_3 : FI 1 3 NL TL 4 := ⟨rfl, inL, by decide⟩
theorem fpL_3 {G : GT} {b : Nat} (x : Int32) : ∀ g, (fsL G b g).set 3 (.int x) = fsL G b (upd g 3 x) := fun _ => rfl
theorem inO : ∀ w ∈ u_ws NO TO 3, w ∈ WG := by
  intro w hw
  obtain ⟨k, hk, rfl⟩ := List.mem_map.mp hw
  have hk := List.mem_range.mp hk
  rcases (show k = 0 ∨ k = 1 ∨ k = 2 by omega) with rfl | rfl | rfl
  · exact wg_1 104 (by rfl) rfl
  · exact wg_1 106 (by rfl) rfl
  · exact wg_1 108 (by rfl) rfl
theorem fiO_0 : FI 2 0 NO TO 3 := ⟨rfl, inO, by decide⟩
theorem fiO_1 : FI 2 1 NO TO 3 := ⟨rfl, inO, by decide⟩
theorem fiO_2 : FI 2 2 NO TO 3 := ⟨rfl, inO, by decide⟩
theorem fpO_2 {G : GT} (x : Int32) : ∀ g, (fsO G g).set 2 (.int x) = fsO G (upd g 2 x) := fun _ => rfl
theorem inD : ∀ w ∈ u_ws ND TD 8, w ∈ WG := by
  intro w hw
  obtain ⟨k, hk, rfl⟩ := List.mem_map.mp hw
  have hk := List.mem_range.mp hk
  rcases (show k = 0 ∨ k = 1 ∨ k = 2 ∨ k = 3 ∨ k = 4 ∨ k = 5 ∨ k = 6 ∨ k = 7 by omega) with rfl | rfl | rfl | rfl | rfl | rfl | rfl | rfl
  · exact wg_1 65 (by rfl) rfl
  · exact wg_1 67 (by rfl) rfl
  · exact wg_1 69 (by rfl) rfl
  · exact wg_1 71 (by rfl) rfl
  · exact wg_1 73 (by rfl) rfl
  · exact wg_1 75 (by rfl) rfl
  · exact wg_1 77 (by rfl) rfl
  · exact wg_1 79 (by rfl) rfl
theorem fiD_0 : FI 3 0 ND TD 8 := ⟨rfl, inD, by decide⟩
theorem fiD_1 : FI 3 1 ND TD 8 := ⟨rfl, inD, by decide⟩
theorem fpD_1 {G : GT} (x : Int32) : ∀ g, (fsD G g).set 1 (.int x) = fsD G (upd g 1 x) := fun _ => rfl
theorem fiD_2 : FI 3 2 ND TD 8 := ⟨rfl, inD, by decide⟩
theorem fiD_3 : FI 3 3 ND TD 8 := ⟨rfl, inD, by decide⟩
theorem fpD_3 {G : GT} (x : Int32) : ∀ g, (fsD G g).set 3 (.int x) = fsD G (upd g 3 x) := fun _ => rfl
theorem fiD_4 : FI 3 4 ND TD 8 := ⟨rfl, inD, by decide⟩
theorem fpD_4 {G : GT} (x : Int32) : ∀ g, (fsD G g).set 4 (.int x) = fsD G (upd g 4 x) := fun _ => rfl
theorem fiD_5 : FI 3 5 ND TD 8 := ⟨rfl, inD, by decide⟩
theorem fpD_5 {G : GT} (x : Int32) : ∀ g, (fsD G g).set 5 (.int x) = fsD G (upd g 5 x) := fun _ => rfl
theorem fiD_6 : FI 3 6 ND TD 8 := ⟨rfl, inD, by decide⟩
theorem fpD_6 {G : GT} (x : Int32) : ∀ g, (fsD G g).set 6 (.int x) = fsD G (upd g 6 x) := fun _ => rfl
theorem fiD_7 : FI 3 7 ND TD 8 := ⟨rfl, inD, by decide⟩
theorem fpD_7 {G : GT} (x : Int32) : ∀ g, (fsD G g).set 7 (.int x) = fsD G (upd g 7 x) := fun _ => rfl
theorem inR : ∀ w ∈ u_ws NR TR 9, w ∈ WG := by
  intro w hw
  obtain ⟨k, hk, rfl⟩ := List.mem_map.mp hw
  have hk := List.mem_range.mp hk
  rcases (show k = 0 ∨ k = 1 ∨ k = 2 ∨ k = 3 ∨ k = 4 ∨ k = 5 ∨ k = 6 ∨ k = 7 ∨ k = 8 by omega) with rfl | rfl | rfl | rfl | rfl | rfl | rfl | rfl | rfl
  · exact wg_1 153 (by rfl) rfl
  · exact wg_1 155 (by rfl) rfl
  · exact wg_1 157 (by rfl) rfl
  · exact wg_1 159 (by rfl) rfl
  · exact wg_1 161 (by rfl) rfl
  · exact wg_1 163 (by rfl) rfl
  · exact wg_1 165 (by rfl) rfl
  · exact wg_1 167 (by rfl) rfl
  · exact wg_1 169 (by rfl) rfl
theorem fiR_0 : FI 4 0 NR TR 9 := ⟨rfl, inR, by decide⟩
theorem fiR_1 : FI 4 1 NR TR 9 := ⟨rfl, inR, by decide⟩
theorem fiR_2 : FI 4 2 NR TR 9 := ⟨rfl, inR, by decide⟩
theorem fiR_3 : FI 4 3 NR TR 9 := ⟨rfl, inR, by decide⟩
theorem fpR_3 {G : GT} {b : Nat} (x : Int32) : ∀ g, (fsR G b g).set 3 (.int x) = fsR G b (upd g 3 x) := fun _ => rfl
theorem fiR_4 : FI 4 4 NR TR 9 := ⟨rfl, inR, by decide⟩
theorem fpR_4 {G : GT} {b : Nat} (x : Int32) : ∀ g, (fsR G b g).set 4 (.int x) = fsR G b (upd g 4 x) := fun _ => rfl
theorem fiR_5 : FI 4 5 NR TR 9 := ⟨rfl, inR, by decide⟩
theorem fiR_6 : FI 4 6 NR TR 9 := ⟨rfl, inR, by decide⟩
theorem fpR_6 {G : GT} {b : Nat} (x : Int32) : ∀ g, (fsR G b g).set 6 (.int x) = fsR G b (upd g 6 x) := fun _ => rfl
theorem fiR_7 : FI 4 7 NR TR 9 := ⟨rfl, inR, by decide⟩
theorem fiR_8 : FI 4 8 NR TR 9 := ⟨rfl, inR, by decide⟩
theorem inH : ∀ w ∈ u_ws NH TH 3, w ∈ WG := by
  intro w hw
  obtain ⟨k, hk, rfl⟩ := List.mem_map.mp hw
  have hk := List.mem_range.mp hk
  rcases (show k = 0 ∨ k = 1 ∨ k = 2 by omega) with rfl | rfl | rfl
  · exact wg_1 123 (by rfl) rfl
  · exact wg_1 125 (by rfl) rfl
  · exact wg_1 127 (by rfl) rfl
theorem fiH_0 : FI 5 0 NH TH 3 := ⟨rfl, inH, by decide⟩
theorem fiH_1 : FI 5 1 NH TH 3 := ⟨rfl, inH, by decide⟩
theorem fpH_1 {G : GT} {b : Nat} (x : Int32) : ∀ g, (fsH G b g).set 1 (.int x) = fsH G b (upd g 1 x) := fun _ => rfl
theorem fiH_2 : FI 5 2 NH TH 3 := ⟨rfl, inH, by decide⟩
theorem fpH_2 {G : GT} {b : Nat} (x : Int32) : ∀ g, (fsH G b g).set 2 (.int x) = fsH G b (upd g 2 x) := fun _ => rfl
theorem inS : ∀ w ∈ u_ws NS TS 10, w ∈ WG := by
  intro w hw
  obtain ⟨k, hk, rfl⟩ := List.mem_map.mp hw
  have hk := List.mem_range.mp hk
  rcases (show k = 0 ∨ k = 1 ∨ k = 2 ∨ k = 3 ∨ k = 4 ∨ k = 5 ∨ k = 6 ∨ k = 7 ∨ k = 8 ∨ k = 9 by omega) with rfl | rfl | rfl | rfl | rfl | rfl | rfl | rfl | rfl | rfl
  · exact wg_2 139 (by rfl) rfl
  · exact wg_2 141 (by rfl) rfl
  · exact wg_2 143 (by rfl) rfl
  · exact wg_2 145 (by rfl) rfl
  · exact wg_2 147 (by rfl) rfl
  · exact wg_2 149 (by rfl) rfl
  · exact wg_2 151 (by rfl) rfl
  · exact wg_2 153 (by rfl) rfl
  · exact wg_2 155 (by rfl) rfl
  · exact wg_2 157 (by rfl) rfl
theorem fiS_0 : FI 6 0 NS TS 10 := ⟨rfl, inS, by decide⟩
theorem fiS_1 : FI 6 1 NS TS 10 := ⟨rfl, inS, by decide⟩
theorem fiS_2 : FI 6 2 NS TS 10 := ⟨rfl, inS, by decide⟩
theorem fiS_3 : FI 6 3 NS TS 10 := ⟨rfl, inS, by decide⟩
theorem fiS_4 : FI 6 4 NS TS 10 := ⟨rfl, inS, by decide⟩
theorem fiS_5 : FI 6 5 NS TS 10 := ⟨rfl, inS, by decide⟩
theorem fiS_6 : FI 6 6 NS TS 10 := ⟨rfl, inS, by decide⟩
theorem fiS_7 : FI 6 7 NS TS 10 := ⟨rfl, inS, by decide⟩
theorem fiS_8 : FI 6 8 NS TS 10 := ⟨rfl, inS, by decide⟩
theorem fpS_8 {G : GT} (x : Int32) : ∀ g, (fsS G g).set 8 (.int x) = fsS G (upd g 8 x) := fun _ => rfl
theorem fiS_9 : FI 6 9 NS TS 10 := ⟨rfl, inS, by decide⟩
theorem fpS_9 {G : GT} (x : Int32) : ∀ g, (fsS G g).set 9 (.int x) = fsS G (upd g 9 x) := fun _ => rfl
theorem inM : ∀ w ∈ u_ws NM TM 34, w ∈ WG := by
  intro w hw
  obtain ⟨k, hk, rfl⟩ := List.mem_map.mp hw
  have hk := List.mem_range.mp hk
  rcases (show k = 0 ∨ k = 1 ∨ k = 2 ∨ k = 3 ∨ k = 4 ∨ k = 5 ∨ k = 6 ∨ k = 7 ∨ k = 8 ∨ k = 9 ∨ k = 10 ∨ k = 11 ∨ k = 12 ∨ k = 13 ∨ k = 14 ∨ k = 15 ∨ k = 16 ∨ k = 17 ∨ k = 18 ∨ k = 19 ∨ k = 20 ∨ k = 21 ∨ k = 22 ∨ k = 23 ∨ k = 24 ∨ k = 25 ∨ k = 26 ∨ k = 27 ∨ k = 28 ∨ k = 29 ∨ k = 30 ∨ k = 31 ∨ k = 32 ∨ k = 33 by omega) with rfl | rfl | rfl | rfl | rfl | rfl | rfl | rfl | rfl | rfl | rfl | rfl | rfl | rfl | rfl | rfl | rfl | rfl | rfl | rfl | rfl | rfl | rfl | rfl | rfl | rfl | rfl | rfl | rfl | rfl | rfl | rfl | rfl | rfl
  · exact wg_4 120 (by rfl) rfl
  · exact wg_4 122 (by rfl) rfl
  · exact wg_4 124 (by rfl) rfl
  · exact wg_4 126 (by rfl) rfl
  · exact wg_4 128 (by rfl) rfl
  · exact wg_4 130 (by rfl) rfl
  · exact wg_4 132 (by rfl) rfl
  · exact wg_4 134 (by rfl) rfl
  · exact wg_4 136 (by rfl) rfl
  · exact wg_4 138 (by rfl) rfl
  · exact wg_4 140 (by rfl) rfl
  · exact wg_4 142 (by rfl) rfl
  · exact wg_4 144 (by rfl) rfl
  · exact wg_4 146 (by rfl) rfl
  · exact wg_4 148 (by rfl) rfl
  · exact wg_4 150 (by rfl) rfl
  · exact wg_4 152 (by rfl) rfl
  · exact wg_4 154 (by rfl) rfl
  · exact wg_4 156 (by rfl) rfl
  · exact wg_4 158 (by rfl) rfl
  · exact wg_4 160 (by rfl) rfl
  · exact wg_4 162 (by rfl) rfl
  · exact wg_4 164 (by rfl) rfl
  · exact wg_4 166 (by rfl) rfl
  · exact wg_4 168 (by rfl) rfl
  · exact wg_4 170 (by rfl) rfl
  · exact wg_4 172 (by rfl) rfl
  · exact wg_4 174 (by rfl) rfl
  · exact wg_4 176 (by rfl) rfl
  · exact wg_4 178 (by rfl) rfl
  · exact wg_4 180 (by rfl) rfl
  · exact wg_4 182 (by rfl) rfl
  · exact wg_4 184 (by rfl) rfl
  · exact wg_4 186 (by rfl) rfl
theorem fiM_0 : FI 7 0 NM TM 34 := ⟨rfl, inM, by decide⟩
theorem fpM_0 {G : GT} (x : Int32) : ∀ g, (fsM G g).set 0 (.int x) = fsM G (upd g 0 x) := fun _ => rfl
theorem fiM_1 : FI 7 1 NM TM 34 := ⟨rfl, inM, by decide⟩
theorem fiM_2 : FI 7 2 NM TM 34 := ⟨rfl, inM, by decide⟩
theorem fiM_3 : FI 7 3 NM TM 34 := ⟨rfl, inM, by decide⟩
theorem fiM_4 : FI 7 4 NM TM 34 := ⟨rfl, inM, by decide⟩
theorem fiM_5 : FI 7 5 NM TM 34 := ⟨rfl, inM, by decide⟩
theorem fiM_6 : FI 7 6 NM TM 34 := ⟨rfl, inM, by decide⟩
theorem fpM_6 {G : GT} (x : Int32) : ∀ g, (fsM G g).set 6 (.int x) = fsM G (upd g 6 x) := fun _ => rfl
theorem fiM_7 : FI 7 7 NM TM 34 := ⟨rfl, inM, by decide⟩
theorem fiM_8 : FI 7 8 NM TM 34 := ⟨rfl, inM, by decide⟩
theorem fiM_9 : FI 7 9 NM TM 34 := ⟨rfl, inM, by decide⟩
theorem fpM_9 {G : GT} (x : Int32) : ∀ g, (fsM G g).set 9 (.int x) = fsM G (upd g 9 x) := fun _ => rfl
theorem fiM_10 : FI 7 10 NM TM 34 := ⟨rfl, inM, by decide⟩
theorem fpM_10 {G : GT} (x : Int32) : ∀ g, (fsM G g).set 10 (.int x) = fsM G (upd g 10 x) := fun _ => rfl
theorem fiM_11 : FI 7 11 NM TM 34 := ⟨rfl, inM, by decide⟩
theorem fpM_11 {G : GT} (x : Int32) : ∀ g, (fsM G g).set 11 (.int x) = fsM G (upd g 11 x) := fun _ => rfl
theorem fiM_12 : FI 7 12 NM TM 34 := ⟨rfl, inM, by decide⟩
theorem fiM_13 : FI 7 13 NM TM 34 := ⟨rfl, inM, by decide⟩
theorem fiM_14 : FI 7 14 NM TM 34 := ⟨rfl, inM, by decide⟩
theorem fiM_15 : FI 7 15 NM TM 34 := ⟨rfl, inM, by decide⟩
theorem fiM_16 : FI 7 16 NM TM 34 := ⟨rfl, inM, by decide⟩
theorem fiM_17 : FI 7 17 NM TM 34 := ⟨rfl, inM, by decide⟩
theorem fiM_18 : FI 7 18 NM TM 34 := ⟨rfl, inM, by decide⟩
theorem fpM_18 {G : GT} (x : Int32) : ∀ g, (fsM G g).set 18 (.int x) = fsM G (upd g 18 x) := fun _ => rfl
theorem fiM_19 : FI 7 19 NM TM 34 := ⟨rfl, inM, by decide⟩
theorem fpM_19 {G : GT} (x : Int32) : ∀ g, (fsM G g).set 19 (.int x) = fsM G (upd g 19 x) := fun _ => rfl
theorem fiM_20 : FI 7 20 NM TM 34 := ⟨rfl, inM, by decide⟩
theorem fpM_20 {G : GT} (x : Int32) : ∀ g, (fsM G g).set 20 (.int x) = fsM G (upd g 20 x) := fun _ => rfl
theorem fiM_21 : FI 7 21 NM TM 34 := ⟨rfl, inM, by decide⟩
theorem fpM_21 {G : GT} (x : Int32) : ∀ g, (fsM G g).set 21 (.int x) = fsM G (upd g 21 x) := fun _ => rfl
theorem fiM_22 : FI 7 22 NM TM 34 := ⟨rfl, inM, by decide⟩
theorem fiM_23 : FI 7 23 NM TM 34 := ⟨rfl, inM, by decide⟩
theorem fiM_24 : FI 7 24 NM TM 34 := ⟨rfl, inM, by decide⟩
theorem fpM_24 {G : GT} (x : Int32) : ∀ g, (fsM G g).set 24 (.int x) = fsM G (upd g 24 x) := fun _ => rfl
theorem fiM_25 : FI 7 25 NM TM 34 := ⟨rfl, inM, by decide⟩
theorem fpM_25 {G : GT} (x : Int32) : ∀ g, (fsM G g).set 25 (.int x) = fsM G (upd g 25 x) := fun _ => rfl
theorem fiM_26 : FI 7 26 NM TM 34 := ⟨rfl, inM, by decide⟩
theorem fpM_26 {G : GT} (x : Int32) : ∀ g, (fsM G g).set 26 (.int x) = fsM G (upd g 26 x) := fun _ => rfl
theorem fiM_27 : FI 7 27 NM TM 34 := ⟨rfl, inM, by decide⟩
theorem fiM_28 : FI 7 28 NM TM 34 := ⟨rfl, inM, by decide⟩
theorem fiM_29 : FI 7 29 NM TM 34 := ⟨rfl, inM, by decide⟩
theorem fiM_30 : FI 7 30 NM TM 34 := ⟨rfl, inM, by decide⟩
theorem fiM_31 : FI 7 31 NM TM 34 := ⟨rfl, inM, by decide⟩
theorem fiM_32 : FI 7 32 NM TM 34 := ⟨rfl, inM, by decide⟩
theorem fpM_32 {G : GT} (x : Int32) : ∀ g, (fsM G g).set 32 (.int x) = fsM G (upd g 32 x) := fun _ => rfl
theorem fiM_33 : FI 7 33 NM TM 34 := ⟨rfl, inM, by decide⟩
theorem fpM_33 {G : GT} (x : Int32) : ∀ g, (fsM G g).set 33 (.int x) = fsM G (upd g 33 x) := fun _ => rfl

theorem row9 : isRow 9 := Or.inl rfl
theorem row20 : isRow 20 := Or.inr (Or.inl rfl)
theorem row31 : isRow 31 := Or.inr (Or.inr rfl)
theorem law42 : isLaw 42 := Or.inl rfl
theorem law66 : isLaw 66 := Or.inr (Or.inr (Or.inr (Or.inr (Or.inr (Or.inr rfl)))))
def isB (x : Int32) : Bool := decide (x = 0) || decide (x = 1)
theorem isB_nar {x : Int32} (h : isB x = true) : narrow .boolean (.int x) = .int x := by
  simp only [isB, Bool.or_eq_true, decide_eq_true_eq] at h
  rcases h with rfl | rfl <;> rfl
def isC (x : Int32) : Bool := decide ((x.toUInt32 % 65536).toInt32 = x)
theorem isC_nar {x : Int32} (h : isC x = true) : narrow .char (.int x) = .int x := by
  have h := of_decide_eq_true h
  have h2 := pk_nc x
  rw [h] at h2
  exact h2
def jsB (q : Nat) (i : Int32) : Int32 := (jsByt.getD q []).getD i.toNatClampNeg 0
section RWS
variable {p : Program} {l : Launch} {e : Env} {R : Room} {s : State} {m : MethodId} {args : Array Value} {below : List Frame} {meth : Method} {c : Code} {H : Heap} {locs : List Loc} {cells slots : Nat} {Q : State → Prop}
variable {own : String} {cc : ByteArray} {nL : Nat} {ret : Option FieldType} {G : GT} {I : List Nat} {A0 : Nat → Prop} {z : Sg} {pc : Nat} {ls : Array Slot} {rest : List Value} {α : Type} {rs : α}
theorem rLdcS0 (C : CXA p s m args meth c NS cc nL ret G I A0) (hdg : decode cc pc = .ok (.ldc 59, 2)) (kk : W p l e R s m args below meth c H locs cells slots Q (F0 m (pc + 2) ls (.ref (gS G 0) :: rest))) : W p l e R s m args below meth c H locs cells slots Q (F0 m pc ls rest) := va_ldcS C.1 C.2.1 C.2.2.2.1 C.2.2.2.2.2.2.2.2.2.2.2.2.2.1 hdg kk
theorem rLdcS1 (C : CXA p s m args meth c ND cc nL ret G I A0) (hdg : decode cc pc = .ok (.ldc 102, 2)) (kk : W p l e R s m args below meth c H locs cells slots Q (F0 m (pc + 2) ls (.ref (gS G 1) :: rest))) : W p l e R s m args below meth c H locs cells slots Q (F0 m pc ls rest) := va_ldcS C.1 C.2.1 C.2.2.2.1 C.2.2.2.2.2.2.2.2.2.2.2.2.2.2.1 hdg kk
theorem rLdcS2 (C : CXA p s m args meth c ND cc nL ret G I A0) (hdg : decode cc pc = .ok (.ldc 94, 2)) (kk : W p l e R s m args below meth c H locs cells slots Q (F0 m (pc + 2) ls (.ref (gS G 2) :: rest))) : W p l e R s m args below meth c H locs cells slots Q (F0 m pc ls rest) := va_ldcS C.1 C.2.1 C.2.2.2.1 C.2.2.2.2.2.2.2.2.2.2.2.2.2.2.2 hdg kk
theorem rStrR (C : CXA p s m args meth c own cc nL ret G I A0) (hG : GWA G I A0 z s.heap H locs) {q : Nat} (hq : q < 3) : ∃ cell : Cell, H[gS G q]? = some cell ∧ cell.vm.isStatics = false ∧ s.vm.findClass NJS = some cell.cls := vk_recv C.2.2.2.2.2.2.2.2.2.2.2.2.1 hq hG.2.2
theorem rStrV (C : CXA p s m args meth c own cc nL ret G I A0) (hG : GWA G I A0 z s.heap H locs) {q : Nat} (hq : q < 3) {index : Nat} (hk : Cond.fieldLink own index NJS "value" "[B" ∈ WG) (hdg : decode cc pc = .ok (.getfield index, 3)) (kk : W p l e R s m args below meth c H locs cells slots Q (F0 m (pc + 3) ls (.ref (gV G q) :: rest))) : W p l e R s m args below meth c H locs cells slots Q (F0 m pc ls (.ref (gS G q) :: rest)) :=
  vk_getf C.1 C.2.1 (C.2.2.2.2.2.2.2.2.2.2.2.2.1.1 q hq).2.2.1 hG.2.2 C.2.2.2.1 (C.2.2.2.2.1 _ hk) (fun _ h => h) hdg kk
theorem rStrC (C : CXA p s m args meth c own cc nL ret G I A0) (hG : GWA G I A0 z s.heap H locs) {q : Nat} (hq : q < 3) {index : Nat} (hk : Cond.fieldLink own index NJS "coder" "B" ∈ WG) (hdg : decode cc pc = .ok (.getfield index, 3)) (kk : W p l e R s m args below meth c H locs cells slots Q (F0 m (pc + 3) ls (.int 0 :: rest))) : W p l e R s m args below meth c H locs cells slots Q (F0 m pc ls (.ref (gS G q) :: rest)) :=
  vk_getf C.1 C.2.1 (C.2.2.2.2.2.2.2.2.2.2.2.2.1.1 q hq).2.1 hG.2.2 C.2.2.2.1 (C.2.2.2.2.1 _ hk) (fun _ h => h) hdg kk
theorem rSlen (C : CXA p s m args meth c own cc nL ret G I A0) (hG : GWA G I A0 z s.heap H locs) {q : Nat} (hq : q < 3) (hdg : decode cc pc = .ok (.arraylength, 1)) (kk : W p l e R s m args below meth c H locs cells slots Q (F0 m (pc + 1) ls (.int (nI (jsLen.getD q 0)) :: rest))) : W p l e R s m args below meth c H locs cells slots Q (F0 m pc ls (.ref (gV G q) :: rest)) :=
  va_tlen C.1 C.2.1 (C.2.2.2.2.2.2.2.2.2.2.2.2.1.1 q hq).2.2.2 hG.2.2 rfl hdg kk
theorem rSald (C : CXA p s m args meth c own cc nL ret G I A0) (hG : GWA G I A0 z s.heap H locs) {q : Nat} (hq : q < 3) {i : Int32} {K : Option α} (h : chk (inb i (jsLen.getD q 0)) K = some rs) (hdg : decode cc pc = .ok (.baload, 1)) (kk : K = some rs → W p l e R s m args below meth c H locs cells slots Q (F0 m (pc + 1) ls (.int (jsB q i) :: rest))) : W p l e R s m args below meth c H locs cells slots Q (F0 m pc ls (.int i :: .ref (gV G q) :: rest)) :=
  va_tb C.1 C.2.1 (C.2.2.2.2.2.2.2.2.2.2.2.2.1.1 q hq).2.2.2 hG.2.2 (inb_in (chk_some h).1) (v := .int (jsB q i)) rfl hdg (kk (chk_some h).2)
theorem rGetsC (C : CXA p s m args meth c own cc nL ret G I A0) (hG : GWA G I A0 z s.heap H locs) {index : Nat} (hk : Cond.fieldLink own index NJS "COMPACT_STRINGS" "Z" ∈ WG) (hdg : decode cc pc = .ok (.getstatic index, 3)) (kk : W p l e R s m args below meth c H locs cells slots Q (F0 m (pc + 3) ls (.int 1 :: rest))) : W p l e R s m args below meth c H locs cells slots Q (F0 m pc ls rest) :=
  va_gets C.1 C.2.1 C.2.2.2.2.2.2.2.2.2.2.2.1.1 hG.2.2 C.2.2.2.1 (C.2.2.2.2.1 _ hk) (fun _ h => h) hdg kk
theorem rGetsQ (C : CXA p s m args meth c own cc nL ret G I A0) (hG : GWA G I A0 z s.heap H locs) {index : Nat} (hk : Cond.fieldLink own index NJP "SIOOBE_FORMATTER" "Ljava/util/function/BiFunction;" ∈ WG) (hdg : decode cc pc = .ok (.getstatic index, 3)) (kk : ∀ w : Value, (w = .null ∨ ∃ t : Nat, w = .ref t) → W p l e R s m args below meth c H locs cells slots Q (F0 m (pc + 3) ls (w :: rest))) : W p l e R s m args below meth c H locs cells slots Q (F0 m pc ls rest) := by
  rcases C.2.2.2.2.2.2.2.2.2.2.2.1.2 with h | ⟨t, h⟩
  · exact va_gets C.1 C.2.1 h hG.2.2 C.2.2.2.1 (C.2.2.2.2.1 _ hk) (fun _ h => h) hdg (kk _ (Or.inl rfl))
  · exact va_gets C.1 C.2.1 h hG.2.2 C.2.2.2.1 (C.2.2.2.2.1 _ hk) (fun _ h => h) hdg (kk _ (Or.inr ⟨t, rfl⟩))
end RWS
theorem mvD_take : MV yD_take bD_take 2 none 1 := ⟨⟨k_222, k_223⟩, k_224, k_2, by decide, by decide, by decide +kernel⟩
abbrev rmD_take : Room := { frames := 0, cells := 0, slots := 0, locals := 0 }
theorem mvL_clear : MV yL_clear bL_clear 1 none 0 := ⟨⟨k_230, k_231⟩, k_232, k_3, by decide, by decide, by decide +kernel⟩
abbrev rmL_clear : Room := { frames := 0, cells := 0, slots := 0, locals := 0 }
theorem mvD_isLetter : MS yD_isLetter bD_isLetter 1 (some .boolean) 1 := ⟨k_238, k_239, k_2, by decide, by decide, by decide +kernel⟩
abbrev rmD_isLetter : Room := { frames := 0, cells := 0, slots := 0, locals := 0 }
theorem mvJS_coder : MV yJS_coder bJS_coder 1 (some .byte) 0 := ⟨⟨k_178, k_179⟩, k_180, k_8, by decide, by decide, by decide +kernel⟩
abbrev rmJS_coder : Room := { frames := 0, cells := 0, slots := 0, locals := 0 }
theorem mvJS_length : MV yJS_length bJS_length 1 (some .int) 0 := ⟨⟨k_174, k_175⟩, k_176, k_8, by decide, by decide, by decide +kernel⟩
abbrev rmJS_length : Room := { frames := 1, cells := 0, slots := 0, locals := 20 }
theorem mvJS_isLatin1 : MV yJS_isLatin1 bJS_isLatin1 1 (some .boolean) 0 := ⟨⟨k_188, k_189⟩, k_190, k_8, by decide, by decide, by decide +kernel⟩
abbrev rmJS_isLatin1 : Room := { frames := 0, cells := 0, slots := 0, locals := 0 }
theorem mvJP_checkIndex : MS yJP_checkIndex bJP_checkIndex 3 (some .int) 3 := ⟨k_200, k_201, k_10, by decide, by decide, by decide +kernel⟩
abbrev rmJP_checkIndex : Room := { frames := 0, cells := 0, slots := 0, locals := 0 }
theorem mvJS_checkIndex : MS yJS_checkIndex bJS_checkIndex 2 none 2 := ⟨k_195, k_196, k_8, by decide, by decide, by decide +kernel⟩
abbrev rmJS_checkIndex : Room := { frames := 1, cells := 0, slots := 0, locals := 22 }
theorem mvJL_charAt : MS yJL_charAt bJL_charAt 2 (some .char) 2 := ⟨k_192, k_193, k_9, by decide, by decide, by decide +kernel⟩
abbrev rmJL_charAt : Room := { frames := 2, cells := 0, slots := 0, locals := 43 }
theorem mvJS_charAt : MV yJS_charAt bJS_charAt 2 (some .char) 1 := ⟨⟨k_184, k_185⟩, k_186, k_8, by decide, by decide, by decide +kernel⟩
abbrev rmJS_charAt : Room := { frames := 3, cells := 0, slots := 0, locals := 64 }
theorem mvD_isWordAt : MV yD_isWordAt bD_isWordAt 4 (some .boolean) 2 := ⟨⟨k_249, k_sel_D_isWordAt⟩, k_250, k_2, by decide, by decide, by decide +kernel⟩
abbrev rmD_isWordAt : Room := { frames := 4, cells := 0, slots := 0, locals := 85 }
theorem mvD_advanceWord : MV yD_advanceWord bD_advanceWord 4 none 0 := ⟨⟨k_242, k_sel_D_advanceWord⟩, k_243, k_2, by decide, by decide, by decide +kernel⟩
abbrev rmD_advanceWord : Room := { frames := 5, cells := 0, slots := 0, locals := 108 }
theorem mvD_isDigit : MS yD_isDigit bD_isDigit 1 (some .boolean) 1 := ⟨k_252, k_253, k_2, by decide, by decide, by decide +kernel⟩
abbrev rmD_isDigit : Room := { frames := 0, cells := 0, slots := 0, locals := 0 }
theorem mvD_advanceNumber : MV yD_advanceNumber bD_advanceNumber 1 none 0 := ⟨⟨k_256, k_sel_D_advanceNumber⟩, k_257, k_2, by decide, by decide, by decide +kernel⟩
abbrev rmD_advanceNumber : Room := { frames := 1, cells := 0, slots := 0, locals := 20 }
theorem mvJL_canEncode : MS yJL_canEncode bJL_canEncode 1 (some .boolean) 1 := ⟨k_272, k_273, k_9, by decide, by decide, by decide +kernel⟩
abbrev rmJL_canEncode : Room := { frames := 0, cells := 0, slots := 0, locals := 0 }
theorem mvJL_indexOfChar : MS yJL_indexOfChar bJL_indexOfChar 6 (some .int) 4 := ⟨k_281, k_282, k_9, by decide, by decide, by decide +kernel⟩
abbrev rmJL_indexOfChar : Room := { frames := 0, cells := 0, slots := 0, locals := 0 }
theorem mvJL_indexOf : MS yJL_indexOf bJL_indexOf 4 (some .int) 4 := ⟨k_269, k_270, k_9, by decide, by decide, by decide +kernel⟩
abbrev rmJL_indexOf : Room := { frames := 1, cells := 0, slots := 0, locals := 25 }
theorem mvJS_indexOf2 : MV yJS_indexOf2 bJS_indexOf2 3 (some .int) 2 := ⟨⟨k_264, k_265⟩, k_266, k_8, by decide, by decide, by decide +kernel⟩
abbrev rmJS_indexOf2 : Room := { frames := 2, cells := 0, slots := 0, locals := 48 }
theorem mvJS_indexOf : MV yJS_indexOf bJS_indexOf 2 (some .int) 1 := ⟨⟨k_260, k_261⟩, k_262, k_8, by decide, by decide, by decide +kernel⟩
abbrev rmJS_indexOf : Room := { frames := 3, cells := 0, slots := 0, locals := 70 }
theorem mvD_advance : MV yD_advance bD_advance 1 none 0 := ⟨⟨k_235, k_sel_D_advance⟩, k_236, k_2, by decide, by decide, by decide +kernel⟩
abbrev rmD_advance : Room := { frames := 6, cells := 0, slots := 0, locals := 131 }
theorem mvD_fail : MV yD_fail bD_fail 1 none 0 := ⟨⟨k_324, k_sel_D_fail⟩, k_325, k_2, by decide, by decide, by decide +kernel⟩
abbrev rmD_fail : Room := { frames := 0, cells := 0, slots := 0, locals := 0 }
theorem mvD_expect : MV yD_expect bD_expect 2 none 1 := ⟨⟨k_320, k_sel_D_expect⟩, k_321, k_2, by decide, by decide, by decide +kernel⟩
abbrev rmD_expect : Room := { frames := 7, cells := 0, slots := 0, locals := 151 }
theorem mvL_add : MV yL_add bL_add 2 none 1 := ⟨⟨k_343, k_344⟩, k_345, k_3, by decide, by decide, by decide +kernel⟩
abbrev rmL_add : Room := { frames := 0, cells := 0, slots := 0, locals := 0 }
theorem mvD_opens : MV yD_opens bD_opens 2 (some .boolean) 1 := ⟨⟨k_340, k_sel_D_opens⟩, k_341, k_2, by decide, by decide, by decide +kernel⟩
abbrev rmD_opens : Room := { frames := 7, cells := 0, slots := 0, locals := 151 }
theorem mvD_readEither : MV yD_readEither bD_readEither 3 none 1 := ⟨⟨k_328, k_sel_D_readEither⟩, k_329, k_2, by decide, by decide, by decide +kernel⟩
theorem mvD_readBoth : MV yD_readBoth bD_readBoth 3 none 1 := ⟨⟨k_332, k_sel_D_readBoth⟩, k_333, k_2, by decide, by decide, by decide +kernel⟩
theorem mvD_readNot : MV yD_readNot bD_readNot 3 none 1 := ⟨⟨k_336, k_sel_D_readNot⟩, k_337, k_2, by decide, by decide, by decide +kernel⟩
theorem mvD_readSum : MV yD_readSum bD_readSum 4 none 1 := ⟨⟨k_348, k_sel_D_readSum⟩, k_349, k_2, by decide, by decide, by decide +kernel⟩
theorem mvD_readTerm : MV yD_readTerm bD_readTerm 3 none 1 := ⟨⟨k_352, k_sel_D_readTerm⟩, k_353, k_2, by decide, by decide, by decide +kernel⟩
theorem mvD_readOne : MV yD_readOne bD_readOne 2 none 1 := ⟨⟨k_356, k_sel_D_readOne⟩, k_357, k_2, by decide, by decide, by decide +kernel⟩
theorem mvL_endPart : MV yL_endPart bL_endPart 2 none 1 := ⟨⟨k_359, k_360⟩, k_361, k_3, by decide, by decide, by decide +kernel⟩
abbrev rmL_endPart : Room := { frames := 0, cells := 0, slots := 0, locals := 0 }
theorem mvD_readAll : MV yD_readAll bD_readAll 2 (some .int) 0 := ⟨⟨k_226, k_227⟩, k_228, k_2, by decide, by decide, by decide +kernel⟩
abbrev rmD_readAll : Room := { frames := 75, cells := 0, slots := 0, locals := 2982 }
theorem mvL_become : MV yL_become bL_become 2 none 1 := ⟨⟨k_363, k_364⟩, k_365, k_3, by decide, by decide, by decide +kernel⟩
abbrev rmL_become : Room := { frames := 1, cells := 0, slots := 0, locals := 40 }
theorem mvR_inStep : MV yR_inStep bR_inStep 2 (some .boolean) 1 := ⟨⟨k_410, k_411⟩, k_412, k_7, by decide, by decide, by decide +kernel⟩
abbrev rmR_inStep : Room := { frames := 0, cells := 0, slots := 0, locals := 0 }
theorem mvR_inStepBits : MV yR_inStepBits bR_inStepBits 3 (some .int) 0 := ⟨⟨k_406, k_407⟩, k_408, k_7, by decide, by decide, by decide +kernel⟩
abbrev rmR_inStepBits : Room := { frames := 1, cells := 0, slots := 0, locals := 21 }
theorem mvJI_bitCount : MS yJI_bitCount bJI_bitCount 1 (some .int) 1 := ⟨k_414, k_415, k_16, by decide, by decide, by decide +kernel⟩
abbrev rmJI_bitCount : Room := { frames := 0, cells := 0, slots := 0, locals := 0 }
theorem mvS_count : MV yS_count bS_count 2 (some .int) 1 := ⟨⟨k_402, k_403⟩, k_404, k_1, by decide, by decide, by decide +kernel⟩
abbrev rmS_count : Room := { frames := 2, cells := 0, slots := 0, locals := 43 }
theorem mvS_within : MS yS_within bS_within 2 (some .boolean) 2 := ⟨k_424, k_425, k_1, by decide, by decide, by decide +kernel⟩
abbrev rmS_within : Room := { frames := 0, cells := 0, slots := 0, locals := 0 }
theorem mvR_whoAt : MV yR_whoAt bR_whoAt 3 (some .int) 1 := ⟨⟨k_429, k_430⟩, k_431, k_7, by decide, by decide, by decide +kernel⟩
abbrev rmR_whoAt : Room := { frames := 0, cells := 0, slots := 0, locals := 0 }
theorem mvS_sets : MV yS_sets bS_sets 4 (some .int) 2 := ⟨⟨k_420, k_421⟩, k_422, k_1, by decide, by decide, by decide +kernel⟩
abbrev rmS_sets : Room := { frames := 1, cells := 0, slots := 0, locals := 22 }
theorem mvS_row : MV yS_row bS_row 2 (some .int) 1 := ⟨⟨k_433, k_434⟩, k_435, k_1, by decide, by decide, by decide +kernel⟩
abbrev rmS_row : Room := { frames := 1, cells := 0, slots := 0, locals := 21 }
theorem mvS_feed : MV yS_feed bS_feed 8 (some .int) 6 := ⟨⟨k_437, k_438⟩, k_439, k_1, by decide, by decide, by decide +kernel⟩
abbrev rmS_feed : Room := { frames := 1, cells := 0, slots := 0, locals := 21 }
theorem mvS_text : MV yS_text bS_text 2 (some .int) 0 := ⟨⟨k_441, k_442⟩, k_443, k_1, by decide, by decide, by decide +kernel⟩
abbrev rmS_text : Room := { frames := 76, cells := 0, slots := 0, locals := 3003 }
theorem mvS_force : MV yS_force bS_force 3 (some .int) 1 := ⟨⟨k_445, k_446⟩, k_447, k_1, by decide, by decide, by decide +kernel⟩
abbrev rmS_force : Room := { frames := 1, cells := 0, slots := 0, locals := 21 }
theorem mvR_has : MV yR_has bR_has 2 (some .boolean) 1 := ⟨⟨k_453, k_454⟩, k_455, k_7, by decide, by decide, by decide +kernel⟩
abbrev rmR_has : Room := { frames := 0, cells := 0, slots := 0, locals := 0 }
theorem mvR_seenAt : MV yR_seenAt bR_seenAt 3 (some .int) 1 := ⟨⟨k_462, k_sel_R_seenAt⟩, k_463, k_7, by decide, by decide, by decide +kernel⟩
abbrev rmR_seenAt : Room := { frames := 1, cells := 0, slots := 0, locals := 22 }
theorem mvR_lookAt : MV yR_lookAt bR_lookAt 3 none 1 := ⟨⟨k_457, k_458⟩, k_459, k_7, by decide, by decide, by decide +kernel⟩
abbrev rmR_lookAt : Room := { frames := 2, cells := 0, slots := 0, locals := 44 }
theorem mvL_joined : MS yL_joined bL_joined 3 (some .int) 3 := ⟨k_470, k_471, k_3, by decide, by decide, by decide +kernel⟩
abbrev rmL_joined : Room := { frames := 0, cells := 0, slots := 0, locals := 0 }
theorem mvL_says : MV yL_says bL_says 7 (some .int) 2 := ⟨⟨k_466, k_467⟩, k_468, k_3, by decide, by decide, by decide +kernel⟩
abbrev rmL_says : Room := { frames := 1, cells := 0, slots := 0, locals := 22 }
theorem mvS_asks : MV yS_asks bS_asks 3 (some .int) 2 := ⟨⟨k_449, k_450⟩, k_451, k_1, by decide, by decide, by decide +kernel⟩
abbrev rmS_asks : Room := { frames := 3, cells := 0, slots := 0, locals := 66 }
theorem mvR_isFree : MV yR_isFree bR_isFree 2 (some .boolean) 1 := ⟨⟨k_483, k_484⟩, k_485, k_7, by decide, by decide, by decide +kernel⟩
abbrev rmR_isFree : Room := { frames := 1, cells := 0, slots := 0, locals := 22 }
theorem mvR_add : MV yR_add bR_add 5 (some .int) 3 := ⟨⟨k_488, k_489⟩, k_490, k_7, by decide, by decide, by decide +kernel⟩
abbrev rmR_add : Room := { frames := 0, cells := 0, slots := 0, locals := 0 }
theorem mvS_comes : MV yS_comes bS_comes 5 (some .int) 2 := ⟨⟨k_480, k_sel_S_comes⟩, k_481, k_1, by decide, by decide, by decide +kernel⟩
abbrev rmS_comes : Room := { frames := 2, cells := 0, slots := 0, locals := 43 }
theorem mvS_mower : MV yS_mower bS_mower 3 (some .int) 2 := ⟨⟨k_475, k_476⟩, k_477, k_1, by decide, by decide, by decide +kernel⟩
abbrev rmS_mower : Room := { frames := 3, cells := 0, slots := 0, locals := 67 }
theorem mvR_isFreeFor : MV yR_isFreeFor bR_isFreeFor 3 (some .boolean) 2 := ⟨⟨k_496, k_497⟩, k_498, k_7, by decide, by decide, by decide +kernel⟩
abbrev rmR_isFreeFor : Room := { frames := 2, cells := 0, slots := 0, locals := 43 }
theorem mvS_put : MV yS_put bS_put 6 (some .int) 3 := ⟨⟨k_492, k_493⟩, k_494, k_1, by decide, by decide, by decide +kernel⟩
abbrev rmS_put : Room := { frames := 3, cells := 0, slots := 0, locals := 65 }
theorem mvR_keepsTo : MV yR_keepsTo bR_keepsTo 1 (some .int) 0 := ⟨⟨k_505, k_506⟩, k_507, k_7, by decide, by decide, by decide +kernel⟩
abbrev rmR_keepsTo : Room := { frames := 2, cells := 0, slots := 0, locals := 48 }
theorem mvJM_floorMod : MS yJM_floorMod bJM_floorMod 3 (some .int) 2 := ⟨k_515, k_516, k_12, by decide, by decide, by decide +kernel⟩
abbrev rmJM_floorMod : Room := { frames := 0, cells := 0, slots := 0, locals := 0 }
theorem mvS_isA : MS yS_isA bS_isA 4 (some .boolean) 2 := ⟨k_518, k_519, k_1, by decide, by decide, by decide +kernel⟩
abbrev rmS_isA : Room := { frames := 1, cells := 0, slots := 0, locals := 21 }
theorem mvR_howFar : MV yR_howFar bR_howFar 4 (some .int) 0 := ⟨⟨k_510, k_511⟩, k_512, k_7, by decide, by decide, by decide +kernel⟩
abbrev rmR_howFar : Room := { frames := 3, cells := 0, slots := 0, locals := 68 }
theorem mvR_clashes : MV yR_clashes bR_clashes 1 (some .boolean) 0 := ⟨⟨k_528, k_529⟩, k_530, k_7, by decide, by decide, by decide +kernel⟩
abbrev rmR_clashes : Room := { frames := 1, cells := 0, slots := 0, locals := 21 }
theorem mvR_howTiring : MV yR_howTiring bR_howTiring 3 (some .int) 0 := ⟨⟨k_524, k_525⟩, k_526, k_7, by decide, by decide, by decide +kernel⟩
abbrev rmR_howTiring : Room := { frames := 2, cells := 0, slots := 0, locals := 48 }
theorem mvS_told : MV yS_told bS_told 3 (some .int) 2 := ⟨⟨k_501, k_502⟩, k_503, k_1, by decide, by decide, by decide +kernel⟩
abbrev rmS_told : Room := { frames := 4, cells := 0, slots := 0, locals := 91 }
theorem mvR_swingOn : MV yR_swingOn bR_swingOn 4 (some .int) 0 := ⟨⟨k_541, k_542⟩, k_543, k_7, by decide, by decide, by decide +kernel⟩
abbrev rmR_swingOn : Room := { frames := 4, cells := 0, slots := 0, locals := 91 }
theorem mvS_stroke : MV yS_stroke bS_stroke 1 (some .int) 0 := ⟨⟨k_537, k_538⟩, k_539, k_1, by decide, by decide, by decide +kernel⟩
abbrev rmS_stroke : Room := { frames := 5, cells := 0, slots := 0, locals := 114 }
theorem mvR_become : MV yR_become bR_become 3 none 1 := ⟨⟨k_553, k_554⟩, k_555, k_7, by decide, by decide, by decide +kernel⟩
abbrev rmR_become : Room := { frames := 1, cells := 0, slots := 0, locals := 40 }
theorem mvR_cutBy : MV yR_cutBy bR_cutBy 4 (some .int) 1 := ⟨⟨k_558, k_559⟩, k_560, k_7, by decide, by decide, by decide +kernel⟩
abbrev rmR_cutBy : Room := { frames := 5, cells := 0, slots := 0, locals := 114 }
theorem mvR_clashBits : MV yR_clashBits bR_clashBits 3 (some .int) 0 := ⟨⟨k_563, k_564⟩, k_565, k_7, by decide, by decide, by decide +kernel⟩
abbrev rmR_clashBits : Room := { frames := 3, cells := 0, slots := 0, locals := 66 }
theorem mvS_run : MV yS_run bS_run 6 (some .int) 2 := ⟨⟨k_549, k_550⟩, k_551, k_1, by decide, by decide, by decide +kernel⟩
abbrev rmS_run : Room := { frames := 6, cells := 0, slots := 0, locals := 137 }
theorem mvR_anySpent : MV yR_anySpent bR_anySpent 2 (some .boolean) 0 := ⟨⟨k_575, k_576⟩, k_577, k_7, by decide, by decide, by decide +kernel⟩
abbrev rmR_anySpent : Room := { frames := 0, cells := 0, slots := 0, locals := 0 }
theorem mvS_happens : MV yS_happens bS_happens 2 (some .boolean) 1 := ⟨⟨k_572, k_sel_S_happens⟩, k_573, k_1, by decide, by decide, by decide +kernel⟩
abbrev rmS_happens : Room := { frames := 4, cells := 0, slots := 0, locals := 88 }
theorem mvS_when : MV yS_when bS_when 3 (some .int) 1 := ⟨⟨k_567, k_568⟩, k_569, k_1, by decide, by decide, by decide +kernel⟩
abbrev rmS_when : Room := { frames := 5, cells := 0, slots := 0, locals := 114 }
theorem mvS_often : MV yS_often bS_often 6 (some .int) 3 := ⟨⟨k_579, k_580⟩, k_581, k_1, by decide, by decide, by decide +kernel⟩
abbrev rmS_often : Room := { frames := 5, cells := 0, slots := 0, locals := 114 }
theorem mvB_clear : MV yB_clear bB_clear 1 none 0 := ⟨⟨k_587, k_588⟩, k_589, k_4, by decide, by decide, by decide +kernel⟩
abbrev rmB_clear : Room := { frames := 0, cells := 0, slots := 0, locals := 0 }
theorem mvB_offer : MV yB_offer bB_offer 3 none 2 := ⟨⟨k_591, k_592⟩, k_593, k_4, by decide, by decide, by decide +kernel⟩
abbrev rmB_offer : Room := { frames := 0, cells := 0, slots := 0, locals := 0 }
theorem mvB_tells : MV yB_tells bB_tells 2 (some .int) 1 := ⟨⟨k_595, k_596⟩, k_597, k_4, by decide, by decide, by decide +kernel⟩
abbrev rmB_tells : Room := { frames := 0, cells := 0, slots := 0, locals := 0 }
theorem mvS_gap : MV yS_gap bS_gap 4 (some .int) 2 := ⟨⟨k_583, k_584⟩, k_585, k_1, by decide, by decide, by decide +kernel⟩
abbrev rmS_gap : Room := { frames := 6, cells := 0, slots := 0, locals := 137 }
theorem mvS_stands : MV yS_stands bS_stands 5 (some .int) 3 := ⟨⟨k_599, k_600⟩, k_601, k_1, by decide, by decide, by decide +kernel⟩
abbrev rmS_stands : Room := { frames := 6, cells := 0, slots := 0, locals := 137 }
theorem mvS_tempo : MV yS_tempo bS_tempo 4 (some .int) 2 := ⟨⟨k_603, k_604⟩, k_605, k_1, by decide, by decide, by decide +kernel⟩
abbrev rmS_tempo : Room := { frames := 6, cells := 0, slots := 0, locals := 137 }
theorem mvO_begin : MV yO_begin bO_begin 3 none 1 := ⟨⟨k_611, k_612⟩, k_613, k_5, by decide, by decide, by decide +kernel⟩
abbrev rmO_begin : Room := { frames := 1, cells := 0, slots := 0, locals := 22 }
theorem mvO_seat : MV yO_seat bO_seat 3 none 1 := ⟨⟨k_616, k_617⟩, k_618, k_5, by decide, by decide, by decide +kernel⟩
abbrev rmO_seat : Room := { frames := 0, cells := 0, slots := 0, locals := 0 }
theorem mvO_digits : MV yO_digits bO_digits 3 (some .int) 0 := ⟨⟨k_620, k_621⟩, k_622, k_5, by decide, by decide, by decide +kernel⟩
abbrev rmO_digits : Room := { frames := 0, cells := 0, slots := 0, locals := 0 }
theorem mvO_swap : MV yO_swap bO_swap 4 none 2 := ⟨⟨k_629, k_sel_O_swap⟩, k_630, k_5, by decide, by decide, by decide +kernel⟩
abbrev rmO_swap : Room := { frames := 0, cells := 0, slots := 0, locals := 0 }
theorem mvO_goesOn : MV yO_goesOn bO_goesOn 5 (some .boolean) 0 := ⟨⟨k_624, k_625⟩, k_626, k_5, by decide, by decide, by decide +kernel⟩
abbrev rmO_goesOn : Room := { frames := 1, cells := 0, slots := 0, locals := 23 }
theorem mvS_order : MV yS_order bS_order 5 (some .int) 2 := ⟨⟨k_607, k_608⟩, k_609, k_1, by decide, by decide, by decide +kernel⟩
abbrev rmS_order : Room := { frames := 6, cells := 0, slots := 0, locals := 137 }
theorem mvS_lowestTerm : MS yS_lowestTerm bS_lowestTerm 7 (some .long) 3 := ⟨k_637, k_638, k_1, by decide, by decide, by decide +kernel⟩
abbrev rmS_lowestTerm : Room := { frames := 0, cells := 0, slots := 0, locals := 0 }
theorem mvS_mean : MV yS_mean bS_mean 3 (some .long) 2 := ⟨⟨k_632, k_633⟩, k_634, k_1, by decide, by decide, by decide +kernel⟩
abbrev rmS_mean : Room := { frames := 6, cells := 0, slots := 0, locals := 137 }
theorem mvH_isMissing : MV yH_isMissing bH_isMissing 1 (some .boolean) 0 := ⟨⟨k_652, k_653⟩, k_654, k_6, by decide, by decide, by decide +kernel⟩
abbrev rmH_isMissing : Room := { frames := 0, cells := 0, slots := 0, locals := 0 }
theorem mvS_refusalOfTold : MV yS_refusalOfTold bS_refusalOfTold 2 (some .int) 1 := ⟨⟨k_649, k_sel_S_refusalOfTold⟩, k_650, k_1, by decide, by decide, by decide +kernel⟩
abbrev rmS_refusalOfTold : Room := { frames := 1, cells := 0, slots := 0, locals := 21 }
theorem mvS_refusalOfOne : MV yS_refusalOfOne bS_refusalOfOne 4 (some .int) 2 := ⟨⟨k_645, k_sel_S_refusalOfOne⟩, k_646, k_1, by decide, by decide, by decide +kernel⟩
abbrev rmS_refusalOfOne : Room := { frames := 2, cells := 0, slots := 0, locals := 42 }
theorem mvS_firstOtherwise : MV yS_firstOtherwise bS_firstOtherwise 5 (some .int) 2 := ⟨⟨k_657, k_sel_S_firstOtherwise⟩, k_658, k_1, by decide, by decide, by decide +kernel⟩
abbrev rmS_firstOtherwise : Room := { frames := 5, cells := 0, slots := 0, locals := 114 }
theorem mvS_judge : MV yS_judge bS_judge 4 (some .int) 2 := ⟨⟨k_640, k_641⟩, k_642, k_1, by decide, by decide, by decide +kernel⟩
abbrev rmS_judge : Room := { frames := 6, cells := 0, slots := 0, locals := 138 }
theorem mvS_bitsOfFact : MV yS_bitsOfFact bS_bitsOfFact 8 (some .int) 4 := ⟨⟨k_665, k_sel_S_bitsOfFact⟩, k_666, k_1, by decide, by decide, by decide +kernel⟩
abbrev rmS_bitsOfFact : Room := { frames := 6, cells := 0, slots := 0, locals := 138 }
theorem mvS_kinds : MV yS_kinds bS_kinds 5 (some .int) 3 := ⟨⟨k_660, k_661⟩, k_662, k_1, by decide, by decide, by decide +kernel⟩
abbrev rmS_kinds : Room := { frames := 7, cells := 0, slots := 0, locals := 165 }
theorem mvS_bitsOfMark : MV yS_bitsOfMark bS_bitsOfMark 6 (some .int) 3 := ⟨⟨k_673, k_sel_S_bitsOfMark⟩, k_674, k_1, by decide, by decide, by decide +kernel⟩
abbrev rmS_bitsOfMark : Room := { frames := 6, cells := 0, slots := 0, locals := 138 }
theorem mvS_states : MV yS_states bS_states 5 (some .int) 3 := ⟨⟨k_668, k_669⟩, k_670, k_1, by decide, by decide, by decide +kernel⟩
abbrev rmS_states : Room := { frames := 7, cells := 0, slots := 0, locals := 165 }
theorem mvS_weary : MV yS_weary bS_weary 8 (some .int) 3 := ⟨⟨k_676, k_677⟩, k_678, k_1, by decide, by decide, by decide +kernel⟩
abbrev rmS_weary : Room := { frames := 6, cells := 0, slots := 0, locals := 138 }
theorem mvS_whose : MV yS_whose bS_whose 5 (some .int) 1 := ⟨⟨k_680, k_681⟩, k_682, k_1, by decide, by decide, by decide +kernel⟩
abbrev rmS_whose : Room := { frames := 6, cells := 0, slots := 0, locals := 138 }
theorem mvS_laws : MV yS_laws bS_laws 6 (some .int) 2 := ⟨⟨k_684, k_685⟩, k_686, k_1, by decide, by decide, by decide +kernel⟩
abbrev rmS_laws : Room := { frames := 6, cells := 0, slots := 0, locals := 138 }
theorem mvH_remake : MV yH_remake bH_remake 4 none 2 := ⟨⟨k_692, k_693⟩, k_694, k_6, by decide, by decide, by decide +kernel⟩
abbrev rmH_remake : Room := { frames := 0, cells := 0, slots := 0, locals := 0 }
theorem mvH_write : MV yH_write bH_write 3 none 2 := ⟨⟨k_696, k_697⟩, k_698, k_6, by decide, by decide, by decide +kernel⟩
abbrev rmH_write : Room := { frames := 0, cells := 0, slots := 0, locals := 0 }
theorem mvS_film : MV yS_film bS_film 5 (some .int) 3 := ⟨⟨k_688, k_689⟩, k_690, k_1, by decide, by decide, by decide +kernel⟩
abbrev rmS_film : Room := { frames := 5, cells := 0, slots := 0, locals := 114 }
theorem mvR_nextLot : MS yR_nextLot bR_nextLot 2 (some .long) 1 := ⟨k_709, k_710, k_7, by decide, by decide, by decide +kernel⟩
abbrev rmR_nextLot : Room := { frames := 0, cells := 0, slots := 0, locals := 0 }
theorem mvR_cutByGusts : MV yR_cutByGusts bR_cutByGusts 7 (some .int) 1 := ⟨⟨k_705, k_706⟩, k_707, k_7, by decide, by decide, by decide +kernel⟩
abbrev rmR_cutByGusts : Room := { frames := 5, cells := 0, slots := 0, locals := 114 }
theorem mvS_drawn : MV yS_drawn bS_drawn 4 (some .int) 2 := ⟨⟨k_700, k_701⟩, k_702, k_1, by decide, by decide, by decide +kernel⟩
abbrev rmS_drawn : Room := { frames := 6, cells := 0, slots := 0, locals := 140 }
theorem mvS_odds : MV yS_odds bS_odds 7 (some .long) 4 := ⟨⟨k_716, k_717⟩, k_718, k_1, by decide, by decide, by decide +kernel⟩
abbrev rmS_odds : Room := { frames := 6, cells := 0, slots := 0, locals := 140 }
theorem mvS_image : MV yS_image bS_image 1 (some .int) 0 := ⟨⟨k_720, k_721⟩, k_722, k_1, by decide, by decide, by decide +kernel⟩
abbrev rmS_image : Room := { frames := 2, cells := 0, slots := 0, locals := 62 }
theorem mvS_back : MV yS_back bS_back 1 (some .int) 0 := ⟨⟨k_724, k_725⟩, k_726, k_1, by decide, by decide, by decide +kernel⟩
abbrev rmS_back : Room := { frames := 2, cells := 0, slots := 0, locals := 62 }
theorem mvS_sheet : MV yS_sheet bS_sheet 4 (some .int) 3 := ⟨⟨k_728, k_729⟩, k_730, k_1, by decide, by decide, by decide +kernel⟩
abbrev rmS_sheet : Room := { frames := 1, cells := 0, slots := 0, locals := 23 }
theorem mvS_cell : MV yS_cell bS_cell 4 (some .int) 3 := ⟨⟨k_732, k_733⟩, k_734, k_1, by decide, by decide, by decide +kernel⟩
abbrev rmS_cell : Room := { frames := 1, cells := 0, slots := 0, locals := 22 }
theorem mvH_holds : MV yH_holds bH_holds 3 (some .boolean) 2 := ⟨⟨k_740, k_741⟩, k_742, k_6, by decide, by decide, by decide +kernel⟩
abbrev rmH_holds : Room := { frames := 0, cells := 0, slots := 0, locals := 0 }
theorem mvS_copy : MV yS_copy bS_copy 8 (some .int) 5 := ⟨⟨k_736, k_737⟩, k_738, k_1, by decide, by decide, by decide +kernel⟩
abbrev rmS_copy : Room := { frames := 1, cells := 0, slots := 0, locals := 40 }
theorem mvS_mowersBy : MV yS_mowersBy bS_mowersBy 9 (some .int) 4 := ⟨⟨k_745, k_746⟩, k_747, k_1, by decide, by decide, by decide +kernel⟩
abbrev rmS_mowersBy : Room := { frames := 3, cells := 0, slots := 0, locals := 67 }
theorem mvS_taken : MV yS_taken bS_taken 5 (some .int) 2 := ⟨⟨k_749, k_750⟩, k_751, k_1, by decide, by decide, by decide +kernel⟩
abbrev rmS_taken : Room := { frames := 2, cells := 0, slots := 0, locals := 44 }
theorem mvM_in : MS yM_in bM_in 3 (some .boolean) 3 := ⟨k_768, k_769, k_15, by decide, by decide, by decide +kernel⟩
abbrev rmM_in : Room := { frames := 0, cells := 0, slots := 0, locals := 0 }
theorem mvM_wordFrom : MV yM_wordFrom bM_wordFrom 6 (some .int) 2 := ⟨⟨k_772, k_sel_M_wordFrom⟩, k_773, k_15, by decide, by decide, by decide +kernel⟩
abbrev rmM_wordFrom : Room := { frames := 0, cells := 0, slots := 0, locals := 0 }
theorem mvM_next : MV yM_next bM_next 3 none 0 := ⟨⟨k_765, k_sel_M_next⟩, k_766, k_15, by decide, by decide, by decide +kernel⟩
abbrev rmM_next : Room := { frames := 1, cells := 0, slots := 0, locals := 25 }
theorem mvM_puts : MV yM_puts bM_puts 2 none 1 := ⟨⟨k_781, k_sel_M_puts⟩, k_782, k_15, by decide, by decide, by decide +kernel⟩
abbrev rmM_puts : Room := { frames := 0, cells := 0, slots := 0, locals := 0 }
theorem mvM_rank : MS yM_rank bM_rank 1 (some .int) 1 := ⟨k_788, k_789, k_15, by decide, by decide, by decide +kernel⟩
abbrev rmM_rank : Room := { frames := 0, cells := 0, slots := 0, locals := 0 }
theorem mvM_unwinds : MV yM_unwinds bM_unwinds 3 none 1 := ⟨⟨k_785, k_sel_M_unwinds⟩, k_786, k_15, by decide, by decide, by decide +kernel⟩
abbrev rmM_unwinds : Room := { frames := 1, cells := 0, slots := 0, locals := 21 }
theorem mvM_holds : MV yM_holds bM_holds 2 none 1 := ⟨⟨k_796, k_sel_M_holds⟩, k_797, k_15, by decide, by decide, by decide +kernel⟩
abbrev rmM_holds : Room := { frames := 0, cells := 0, slots := 0, locals := 0 }
theorem mvM_opensOne : MV yM_opensOne bM_opensOne 2 (some .boolean) 1 := ⟨⟨k_792, k_sel_M_opensOne⟩, k_793, k_15, by decide, by decide, by decide +kernel⟩
abbrev rmM_opensOne : Room := { frames := 1, cells := 0, slots := 0, locals := 21 }
theorem mvM_signOf : MV yM_signOf bM_signOf 1 (some .int) 0 := ⟨⟨k_800, k_sel_M_signOf⟩, k_801, k_15, by decide, by decide, by decide +kernel⟩
abbrev rmM_signOf : Room := { frames := 0, cells := 0, slots := 0, locals := 0 }
theorem mvM_between : MV yM_between bM_between 2 (some .boolean) 1 := ⟨⟨k_804, k_sel_M_between⟩, k_805, k_15, by decide, by decide, by decide +kernel⟩
abbrev rmM_between : Room := { frames := 2, cells := 0, slots := 0, locals := 43 }
theorem mvM_eRead : MV yM_eRead bM_eRead 4 (some .boolean) 0 := ⟨⟨k_776, k_sel_M_eRead⟩, k_777, k_15, by decide, by decide, by decide +kernel⟩
abbrev rmM_eRead : Room := { frames := 3, cells := 0, slots := 0, locals := 64 }
theorem mvM_text : MV yM_text bM_text 3 (some .int) 0 := ⟨⟨k_760, k_761⟩, k_762, k_15, by decide, by decide, by decide +kernel⟩
abbrev rmM_text : Room := { frames := 4, cells := 0, slots := 0, locals := 87 }
theorem mvM_inStep : MV yM_inStep bM_inStep 3 (some .int) 0 := ⟨⟨k_915, k_sel_M_inStep⟩, k_916, k_15, by decide, by decide, by decide +kernel⟩
abbrev rmM_inStep : Room := { frames := 0, cells := 0, slots := 0, locals := 0 }
theorem mvM_ones : MS yM_ones bM_ones 3 (some .int) 1 := ⟨k_918, k_919, k_15, by decide, by decide, by decide +kernel⟩
abbrev rmM_ones : Room := { frames := 0, cells := 0, slots := 0, locals := 0 }
theorem mvM_count : MV yM_count bM_count 2 (some .int) 1 := ⟨⟨k_910, k_911⟩, k_912, k_15, by decide, by decide, by decide +kernel⟩
abbrev rmM_count : Room := { frames := 1, cells := 0, slots := 0, locals := 22 }
theorem mvM_whoAt : MV yM_whoAt bM_whoAt 3 (some .int) 1 := ⟨⟨k_926, k_sel_M_whoAt⟩, k_927, k_15, by decide, by decide, by decide +kernel⟩
abbrev rmM_whoAt : Room := { frames := 0, cells := 0, slots := 0, locals := 0 }
theorem mvM_sets : MV yM_sets bM_sets 5 (some .int) 2 := ⟨⟨k_921, k_922⟩, k_923, k_15, by decide, by decide, by decide +kernel⟩
abbrev rmM_sets : Room := { frames := 1, cells := 0, slots := 0, locals := 22 }
theorem mvM_row : MV yM_row bM_row 2 (some .int) 1 := ⟨⟨k_929, k_930⟩, k_931, k_15, by decide, by decide, by decide +kernel⟩
abbrev rmM_row : Room := { frames := 1, cells := 0, slots := 0, locals := 22 }
theorem mvM_isByte : MS yM_isByte bM_isByte 1 (some .boolean) 1 := ⟨k_937, k_938, k_15, by decide, by decide, by decide +kernel⟩
abbrev rmM_isByte : Room := { frames := 1, cells := 0, slots := 0, locals := 22 }
theorem mvM_feed : MV yM_feed bM_feed 8 (some .int) 6 := ⟨⟨k_933, k_934⟩, k_935, k_15, by decide, by decide, by decide +kernel⟩
abbrev rmM_feed : Room := { frames := 2, cells := 0, slots := 0, locals := 42 }
theorem mvM_force : MV yM_force bM_force 3 (some .int) 1 := ⟨⟨k_941, k_942⟩, k_943, k_15, by decide, by decide, by decide +kernel⟩
abbrev rmM_force : Room := { frames := 1, cells := 0, slots := 0, locals := 22 }
theorem mvM_isOne : MV yM_isOne bM_isOne 2 (some .boolean) 1 := ⟨⟨k_950, k_sel_M_isOne⟩, k_951, k_15, by decide, by decide, by decide +kernel⟩
abbrev rmM_isOne : Room := { frames := 1, cells := 0, slots := 0, locals := 22 }
theorem mvM_besideOf : MV yM_besideOf bM_besideOf 4 (some .int) 2 := ⟨⟨k_962, k_sel_M_besideOf⟩, k_963, k_15, by decide, by decide, by decide +kernel⟩
abbrev rmM_besideOf : Room := { frames := 1, cells := 0, slots := 0, locals := 22 }
theorem mvM_leftOf : MV yM_leftOf bM_leftOf 2 (some .int) 1 := ⟨⟨k_958, k_sel_M_leftOf⟩, k_959, k_15, by decide, by decide, by decide +kernel⟩
abbrev rmM_leftOf : Room := { frames := 2, cells := 0, slots := 0, locals := 45 }
theorem mvM_rightOf : MV yM_rightOf bM_rightOf 2 (some .int) 1 := ⟨⟨k_966, k_sel_M_rightOf⟩, k_967, k_15, by decide, by decide, by decide +kernel⟩
abbrev rmM_rightOf : Room := { frames := 2, cells := 0, slots := 0, locals := 45 }
theorem mvM_two : MS yM_two bM_two 3 (some .int) 3 := ⟨k_973, k_974, k_15, by decide, by decide, by decide +kernel⟩
abbrev rmM_two : Room := { frames := 0, cells := 0, slots := 0, locals := 0 }
theorem mvM_says : MV yM_says bM_says 5 (some .int) 1 := ⟨⟨k_970, k_sel_M_says⟩, k_971, k_15, by decide, by decide, by decide +kernel⟩
abbrev rmM_says : Room := { frames := 1, cells := 0, slots := 0, locals := 22 }
theorem mvM_within : MS yM_within bM_within 3 (some .int) 3 := ⟨k_976, k_977, k_15, by decide, by decide, by decide +kernel⟩
abbrev rmM_within : Room := { frames := 0, cells := 0, slots := 0, locals := 0 }
theorem mvM_asksOf : MV yM_asksOf bM_asksOf 3 (some .int) 2 := ⟨⟨k_954, k_sel_M_asksOf⟩, k_955, k_15, by decide, by decide, by decide +kernel⟩
abbrev rmM_asksOf : Room := { frames := 3, cells := 0, slots := 0, locals := 66 }
theorem mvM_asks : MV yM_asks bM_asks 3 (some .int) 2 := ⟨⟨k_945, k_946⟩, k_947, k_15, by decide, by decide, by decide +kernel⟩
abbrev rmM_asks : Room := { frames := 4, cells := 0, slots := 0, locals := 88 }
theorem mvM_isFree : MV yM_isFree bM_isFree 2 (some .boolean) 1 := ⟨⟨k_984, k_sel_M_isFree⟩, k_985, k_15, by decide, by decide, by decide +kernel⟩
abbrev rmM_isFree : Room := { frames := 1, cells := 0, slots := 0, locals := 22 }
theorem mvM_mower : MV yM_mower bM_mower 4 (some .int) 2 := ⟨⟨k_979, k_980⟩, k_981, k_15, by decide, by decide, by decide +kernel⟩
abbrev rmM_mower : Room := { frames := 2, cells := 0, slots := 0, locals := 43 }
theorem mvM_put : MV yM_put bM_put 6 (some .int) 3 := ⟨⟨k_987, k_988⟩, k_989, k_15, by decide, by decide, by decide +kernel⟩
abbrev rmM_put : Room := { frames := 2, cells := 0, slots := 0, locals := 43 }
theorem mvM_keepsOf : MV yM_keepsOf bM_keepsOf 2 (some .int) 1 := ⟨⟨k_996, k_sel_M_keepsOf⟩, k_997, k_15, by decide, by decide, by decide +kernel⟩
abbrev rmM_keepsOf : Room := { frames := 4, cells := 0, slots := 0, locals := 88 }
theorem mvM_swingsOf : MV yM_swingsOf bM_swingsOf 5 (some .int) 1 := ⟨⟨k_1000, k_sel_M_swingsOf⟩, k_1001, k_15, by decide, by decide, by decide +kernel⟩
abbrev rmM_swingsOf : Room := { frames := 5, cells := 0, slots := 0, locals := 109 }
theorem mvM_areApart : MS yM_areApart bM_areApart 2 (some .boolean) 2 := ⟨k_1011, k_1012, k_15, by decide, by decide, by decide +kernel⟩
abbrev rmM_areApart : Room := { frames := 0, cells := 0, slots := 0, locals := 0 }
theorem mvM_doesClash : MV yM_doesClash bM_doesClash 3 (some .boolean) 1 := ⟨⟨k_1008, k_sel_M_doesClash⟩, k_1009, k_15, by decide, by decide, by decide +kernel⟩
abbrev rmM_doesClash : Room := { frames := 3, cells := 0, slots := 0, locals := 66 }
theorem mvM_tiresOf : MV yM_tiresOf bM_tiresOf 4 (some .int) 1 := ⟨⟨k_1004, k_sel_M_tiresOf⟩, k_1005, k_15, by decide, by decide, by decide +kernel⟩
abbrev rmM_tiresOf : Room := { frames := 4, cells := 0, slots := 0, locals := 88 }
theorem mvM_told : MV yM_told bM_told 3 (some .int) 2 := ⟨⟨k_991, k_992⟩, k_993, k_15, by decide, by decide, by decide +kernel⟩
abbrev rmM_told : Room := { frames := 6, cells := 0, slots := 0, locals := 133 }
theorem mvM_strokeOf : MV yM_strokeOf bM_strokeOf 4 (some .int) 0 := ⟨⟨k_1019, k_sel_M_strokeOf⟩, k_1020, k_15, by decide, by decide, by decide +kernel⟩
abbrev rmM_strokeOf : Room := { frames := 6, cells := 0, slots := 0, locals := 133 }
theorem mvM_stroke : MV yM_stroke bM_stroke 2 (some .int) 0 := ⟨⟨k_1014, k_1015⟩, k_1016, k_15, by decide, by decide, by decide +kernel⟩
abbrev rmM_stroke : Room := { frames := 7, cells := 0, slots := 0, locals := 156 }
theorem mvM_keeps : MV yM_keeps bM_keeps 2 none 0 := ⟨⟨k_1027, k_sel_M_keeps⟩, k_1028, k_15, by decide, by decide, by decide +kernel⟩
abbrev rmM_keeps : Room := { frames := 0, cells := 0, slots := 0, locals := 0 }
theorem mvM_goes : MV yM_goes bM_goes 4 (some .int) 1 := ⟨⟨k_1031, k_sel_M_goes⟩, k_1032, k_15, by decide, by decide, by decide +kernel⟩
abbrev rmM_goes : Room := { frames := 7, cells := 0, slots := 0, locals := 156 }
theorem mvM_clashing : MV yM_clashing bM_clashing 3 (some .int) 0 := ⟨⟨k_1039, k_sel_M_clashing⟩, k_1040, k_15, by decide, by decide, by decide +kernel⟩
abbrev rmM_clashing : Room := { frames := 4, cells := 0, slots := 0, locals := 88 }
theorem mvM_toldBehind : MV yM_toldBehind bM_toldBehind 2 (some .int) 1 := ⟨⟨k_1035, k_sel_M_toldBehind⟩, k_1036, k_15, by decide, by decide, by decide +kernel⟩
abbrev rmM_toldBehind : Room := { frames := 5, cells := 0, slots := 0, locals := 110 }
theorem mvM_lays : MV yM_lays bM_lays 2 none 0 := ⟨⟨k_1043, k_sel_M_lays⟩, k_1044, k_15, by decide, by decide, by decide +kernel⟩
abbrev rmM_lays : Room := { frames := 0, cells := 0, slots := 0, locals := 0 }
theorem mvM_run : MV yM_run bM_run 6 (some .int) 2 := ⟨⟨k_1022, k_1023⟩, k_1024, k_15, by decide, by decide, by decide +kernel⟩
abbrev rmM_run : Room := { frames := 8, cells := 0, slots := 0, locals := 179 }
theorem mvM_isNow : MV yM_isNow bM_isNow 3 (some .boolean) 1 := ⟨⟨k_1051, k_sel_M_isNow⟩, k_1052, k_15, by decide, by decide, by decide +kernel⟩
abbrev rmM_isNow : Room := { frames := 5, cells := 0, slots := 0, locals := 110 }
theorem mvM_when : MV yM_when bM_when 4 (some .int) 1 := ⟨⟨k_1046, k_1047⟩, k_1048, k_15, by decide, by decide, by decide +kernel⟩
abbrev rmM_when : Room := { frames := 7, cells := 0, slots := 0, locals := 156 }
theorem mvM_often : MV yM_often bM_often 7 (some .int) 3 := ⟨⟨k_1054, k_1055⟩, k_1056, k_15, by decide, by decide, by decide +kernel⟩
abbrev rmM_often : Room := { frames := 7, cells := 0, slots := 0, locals := 156 }
theorem mvM_cutNow : MV yM_cutNow bM_cutNow 3 (some .int) 1 := ⟨⟨k_1063, k_sel_M_cutNow⟩, k_1064, k_15, by decide, by decide, by decide +kernel⟩
abbrev rmM_cutNow : Room := { frames := 8, cells := 0, slots := 0, locals := 179 }
theorem mvM_gap : MV yM_gap bM_gap 8 (some .int) 2 := ⟨⟨k_1058, k_1059⟩, k_1060, k_15, by decide, by decide, by decide +kernel⟩
abbrev rmM_gap : Room := { frames := 9, cells := 0, slots := 0, locals := 201 }
theorem mvM_stands : MV yM_stands bM_stands 10 (some .int) 3 := ⟨⟨k_1066, k_1067⟩, k_1068, k_15, by decide, by decide, by decide +kernel⟩
abbrev rmM_stands : Room := { frames := 9, cells := 0, slots := 0, locals := 201 }
theorem mvM_tempo : MV yM_tempo bM_tempo 8 (some .int) 2 := ⟨⟨k_1070, k_1071⟩, k_1072, k_15, by decide, by decide, by decide +kernel⟩
abbrev rmM_tempo : Room := { frames := 9, cells := 0, slots := 0, locals := 201 }
theorem mvM_tellsTaken : MV yM_tellsTaken bM_tellsTaken 3 none 0 := ⟨⟨k_1079, k_sel_M_tellsTaken⟩, k_1080, k_15, by decide, by decide, by decide +kernel⟩
abbrev rmM_tellsTaken : Room := { frames := 1, cells := 0, slots := 0, locals := 22 }
theorem mvM_orders : MV yM_orders bM_orders 7 (some .boolean) 1 := ⟨⟨k_1083, k_sel_M_orders⟩, k_1084, k_15, by decide, by decide, by decide +kernel⟩
abbrev rmM_orders : Room := { frames := 1, cells := 0, slots := 0, locals := 22 }
theorem mvM_order : MV yM_order bM_order 8 (some .int) 2 := ⟨⟨k_1074, k_1075⟩, k_1076, k_15, by decide, by decide, by decide +kernel⟩
abbrev rmM_order : Room := { frames := 8, cells := 0, slots := 0, locals := 179 }
theorem mvM_lowest : MS yM_lowest bM_lowest 11 (some .long) 3 := ⟨k_1091, k_1092, k_15, by decide, by decide, by decide +kernel⟩
abbrev rmM_lowest : Room := { frames := 0, cells := 0, slots := 0, locals := 0 }
theorem mvM_mean : MV yM_mean bM_mean 3 (some .long) 2 := ⟨⟨k_1086, k_1087⟩, k_1088, k_15, by decide, by decide, by decide +kernel⟩
abbrev rmM_mean : Room := { frames := 9, cells := 0, slots := 0, locals := 201 }
theorem mvM_sheetWrong : MV yM_sheetWrong bM_sheetWrong 2 (some .int) 1 := ⟨⟨k_1103, k_sel_M_sheetWrong⟩, k_1104, k_15, by decide, by decide, by decide +kernel⟩
abbrev rmM_sheetWrong : Room := { frames := 1, cells := 0, slots := 0, locals := 22 }
theorem mvM_toldWrong : MV yM_toldWrong bM_toldWrong 4 (some .int) 2 := ⟨⟨k_1099, k_sel_M_toldWrong⟩, k_1100, k_15, by decide, by decide, by decide +kernel⟩
abbrev rmM_toldWrong : Room := { frames := 2, cells := 0, slots := 0, locals := 43 }
theorem mvM_unlike : MV yM_unlike bM_unlike 5 (some .int) 2 := ⟨⟨k_1107, k_sel_M_unlike⟩, k_1108, k_15, by decide, by decide, by decide +kernel⟩
abbrev rmM_unlike : Room := { frames := 7, cells := 0, slots := 0, locals := 156 }
theorem mvM_judge : MV yM_judge bM_judge 4 (some .int) 2 := ⟨⟨k_1094, k_1095⟩, k_1096, k_15, by decide, by decide, by decide +kernel⟩
abbrev rmM_judge : Room := { frames := 8, cells := 0, slots := 0, locals := 180 }
theorem mvM_kinds : MV yM_kinds bM_kinds 9 (some .int) 3 := ⟨⟨k_1110, k_1111⟩, k_1112, k_15, by decide, by decide, by decide +kernel⟩
abbrev rmM_kinds : Room := { frames := 8, cells := 0, slots := 0, locals := 180 }
theorem mvM_placesBy : MV yM_placesBy bM_placesBy 7 (some .int) 2 := ⟨⟨k_1119, k_sel_M_placesBy⟩, k_1120, k_15, by decide, by decide, by decide +kernel⟩
abbrev rmM_placesBy : Room := { frames := 8, cells := 0, slots := 0, locals := 180 }
theorem mvM_swingsBy : MV yM_swingsBy bM_swingsBy 6 (some .int) 2 := ⟨⟨k_1123, k_sel_M_swingsBy⟩, k_1124, k_15, by decide, by decide, by decide +kernel⟩
abbrev rmM_swingsBy : Room := { frames := 8, cells := 0, slots := 0, locals := 180 }
theorem mvM_rowBy : MV yM_rowBy bM_rowBy 7 (some .int) 3 := ⟨⟨k_1127, k_sel_M_rowBy⟩, k_1128, k_15, by decide, by decide, by decide +kernel⟩
abbrev rmM_rowBy : Room := { frames := 8, cells := 0, slots := 0, locals := 180 }
theorem mvM_states : MV yM_states bM_states 5 (some .int) 3 := ⟨⟨k_1114, k_1115⟩, k_1116, k_15, by decide, by decide, by decide +kernel⟩
abbrev rmM_states : Room := { frames := 9, cells := 0, slots := 0, locals := 206 }
theorem mvM_weary : MV yM_weary bM_weary 10 (some .int) 3 := ⟨⟨k_1130, k_1131⟩, k_1132, k_15, by decide, by decide, by decide +kernel⟩
abbrev rmM_weary : Room := { frames := 8, cells := 0, slots := 0, locals := 180 }
theorem mvM_whose : MV yM_whose bM_whose 5 (some .int) 1 := ⟨⟨k_1134, k_1135⟩, k_1136, k_15, by decide, by decide, by decide +kernel⟩
abbrev rmM_whose : Room := { frames := 8, cells := 0, slots := 0, locals := 180 }
theorem mvM_laws : MV yM_laws bM_laws 7 (some .int) 2 := ⟨⟨k_1138, k_1139⟩, k_1140, k_15, by decide, by decide, by decide +kernel⟩
abbrev rmM_laws : Room := { frames := 8, cells := 0, slots := 0, locals := 180 }
theorem mvM_film : MV yM_film bM_film 5 (some .int) 3 := ⟨⟨k_1142, k_1143⟩, k_1144, k_15, by decide, by decide, by decide +kernel⟩
abbrev rmM_film : Room := { frames := 7, cells := 0, slots := 0, locals := 156 }
theorem mvM_gusts : MV yM_gusts bM_gusts 7 (some .int) 1 := ⟨⟨k_1152, k_sel_M_gusts⟩, k_1153, k_15, by decide, by decide, by decide +kernel⟩
abbrev rmM_gusts : Room := { frames := 7, cells := 0, slots := 0, locals := 156 }
theorem mvM_drawn : MV yM_drawn bM_drawn 4 (some .int) 2 := ⟨⟨k_1146, k_1147⟩, k_1148, k_15, by decide, by decide, by decide +kernel⟩
abbrev rmM_drawn : Room := { frames := 8, cells := 0, slots := 0, locals := 182 }
theorem mvM_odds : MV yM_odds bM_odds 8 (some .long) 4 := ⟨⟨k_1159, k_1160⟩, k_1161, k_15, by decide, by decide, by decide +kernel⟩
abbrev rmM_odds : Room := { frames := 8, cells := 0, slots := 0, locals := 182 }
theorem mvM_image : MV yM_image bM_image 2 (some .int) 0 := ⟨⟨k_1163, k_1164⟩, k_1165, k_15, by decide, by decide, by decide +kernel⟩
abbrev rmM_image : Room := { frames := 0, cells := 0, slots := 0, locals := 0 }
theorem mvM_back : MV yM_back bM_back 2 (some .int) 0 := ⟨⟨k_1167, k_1168⟩, k_1169, k_15, by decide, by decide, by decide +kernel⟩
abbrev rmM_back : Room := { frames := 0, cells := 0, slots := 0, locals := 0 }
theorem mvM_sheet : MV yM_sheet bM_sheet 5 (some .int) 3 := ⟨⟨k_1171, k_1172⟩, k_1173, k_15, by decide, by decide, by decide +kernel⟩
abbrev rmM_sheet : Room := { frames := 1, cells := 0, slots := 0, locals := 22 }
theorem mvM_cell : MV yM_cell bM_cell 4 (some .int) 3 := ⟨⟨k_1175, k_1176⟩, k_1177, k_15, by decide, by decide, by decide +kernel⟩
abbrev rmM_cell : Room := { frames := 1, cells := 0, slots := 0, locals := 22 }
theorem mvM_copy : MV yM_copy bM_copy 10 (some .int) 5 := ⟨⟨k_1179, k_1180⟩, k_1181, k_15, by decide, by decide, by decide +kernel⟩
abbrev rmM_copy : Room := { frames := 1, cells := 0, slots := 0, locals := 22 }
theorem mvM_mowersBy : MV yM_mowersBy bM_mowersBy 9 (some .int) 4 := ⟨⟨k_1183, k_1184⟩, k_1185, k_15, by decide, by decide, by decide +kernel⟩
abbrev rmM_mowersBy : Room := { frames := 3, cells := 0, slots := 0, locals := 66 }
theorem mvM_isUnder : MS yM_isUnder bM_isUnder 2 (some .boolean) 2 := ⟨k_1192, k_1193, k_15, by decide, by decide, by decide +kernel⟩
abbrev rmM_isUnder : Room := { frames := 0, cells := 0, slots := 0, locals := 0 }
theorem mvM_taken : MV yM_taken bM_taken 3 (some .int) 2 := ⟨⟨k_1188, k_1189⟩, k_1190, k_15, by decide, by decide, by decide +kernel⟩
abbrev rmM_taken : Room := { frames := 1, cells := 0, slots := 0, locals := 22 }
theorem mt_max : MTW Lib.Math.max.name Lib.Math.max.code 2 := ⟨k_275, k_12, k_276⟩
theorem mt_min : MTW Lib.Math.min.name Lib.Math.min.code 2 := ⟨k_278, k_12, k_279⟩
theorem mt_abs : MTW Lib.Math.abs.name Lib.Math.abs.code 1 := ⟨k_532, k_12, k_533⟩
theorem cpw : CPW := ⟨k_368, k_367, k_14⟩

/-- the readers of a text, one with another: their rooms by the depth, their contracts out of a given function -/
def rmG (d : Nat) : Room := { frames := d + 10, cells := 0, slots := 0, locals := 400 + 40 * d }
theorem rmG_ok {n d : Nat} (hn : n ≤ 4) : (rmG d).frames + 1 ≤ (rmG (d + 1)).frames ∧ 8 + (n + 11) + (rmG d).locals ≤ (rmG (d + 1)).locals := by
  simp only [rmG]; omega
theorem rmG_out {n d : Nat} {rm : Room} (h1 : rm.frames + 1 ≤ 10) (h2 : 8 + (n + 11) + rm.locals ≤ 400) : rm.frames + 1 ≤ (rmG (d + 1)).frames ∧ 8 + (n + 11) + rm.locals ≤ (rmG (d + 1)).locals := by
  simp only [rmG]; omega
abbrev QGi (l : Launch) (G : GT) (I : List Nat) (rec : Nat → Int32 → Sg → Option Sg) (d i : Nat) (y : MethodName) (b : ByteArray) (n : Nat) : Prop := ∀ {o : Int32} {z z1 : Sg}, rec i o z = some z1 → Mt l y (rmG d) b n none G I z [.ref (gA G 3), .int o] (Qv G I z1)
def QG (l : Launch) (G : GT) (I : List Nat) (rec : Nat → Int32 → Sg → Option Sg) (d : Nat) : Prop := QGi l G I rec d 0 yD_readEither bD_readEither 3 ∧ QGi l G I rec d 1 yD_readBoth bD_readBoth 3 ∧ QGi l G I rec d 2 yD_readNot bD_readNot 3 ∧ QGi l G I rec d 3 yD_readSum bD_readSum 4 ∧ QGi l G I rec d 4 yD_readTerm bD_readTerm 3 ∧ QGi l G I rec d 5 yD_readOne bD_readOne 2
