theorem pw_220 : (Cond.code ⟨"MembraneRounds", "<init>", "()V"⟩ prog_1_method_1_code 1 none : Cond) ∈ lw_gd := lw_gd_in (List.mem_of_getElem? (i := 66) (by decide +kernel)) (by decide +kernel)
theorem pC_0 : gCode pP pN 0 := Or.inl ⟨rfl, pw_220⟩
theorem pNa_0 : gName pP pN 0 := ⟨by decide +kernel, ⟨by decide, by decide⟩, rfl, pw_211, fun _ => rfl, by decide⟩
theorem pw_221 : (Cond.code ⟨"MembraneRounds", "clear", "(I)V"⟩ prog_1_method_2_code 2 none : Cond) ∈ lw_gd := lw_gd_in (List.mem_of_getElem? (i := 336) (by decide +kernel)) (by decide +kernel)
theorem pC_1 : gCode pP pN 1 := Or.inl ⟨rfl, pw_221⟩
theorem pNa_1 : gName pP pN 1 := ⟨by decide +kernel, ⟨by decide, by decide⟩, rfl, pw_211, (fun h => absurd h (by decide)), by decide⟩
theorem pw_222 : (Cond.code ⟨"MembraneRounds", "membrane", "(II)I"⟩ prog_1_method_3_code 4 (some .int) : Cond) ∈ lw_gd := lw_gd_in (List.mem_of_getElem? (i := 416) (by decide +kernel)) (by decide +kernel)
theorem pC_2 : gCode pP pN 2 := Or.inl ⟨rfl, pw_222⟩
theorem pNa_2 : gName pP pN 2 := ⟨by decide +kernel, ⟨by decide, by decide⟩, rfl, pw_211, (fun h => absurd h (by decide)), by decide⟩
theorem pw_223 : (Cond.code ⟨"MembraneRounds", "put", "(II)V"⟩ prog_1_method_4_code 5 none : Cond) ∈ lw_gd := lw_gd_in (List.mem_of_getElem? (i := 464) (by decide +kernel)) (by decide +kernel)
theorem pC_3 : gCode pP pN 3 := Or.inl ⟨rfl, pw_223⟩
theorem pNa_3 : gName pP pN 3 := ⟨by decide +kernel, ⟨by decide, by decide⟩, rfl, pw_211, (fun h => absurd h (by decide)), by decide⟩
theorem pw_224 : (Cond.code ⟨"MembraneRounds", "rule", "(IIII)I"⟩ prog_1_method_5_code 5 (some .int) : Cond) ∈ lw_gd := lw_gd_in (List.mem_of_getElem? (i := 487) (by decide +kernel)) (by decide +kernel)
theorem pC_4 : gCode pP pN 4 := Or.inl ⟨rfl, pw_224⟩
theorem pNa_4 : gName pP pN 4 := ⟨by decide +kernel, ⟨by decide, by decide⟩, rfl, pw_211, (fun h => absurd h (by decide)), by decide⟩
theorem pw_225 : (Cond.code ⟨"MembraneRounds", "into", "(III)V"⟩ prog_1_method_6_code 4 none : Cond) ∈ lw_gd := lw_gd_in (List.mem_of_getElem? (i := 507) (by decide +kernel)) (by decide +kernel)
theorem pC_5 : gCode pP pN 5 := Or.inl ⟨rfl, pw_225⟩
theorem pNa_5 : gName pP pN 5 := ⟨by decide +kernel, ⟨by decide, by decide⟩, rfl, pw_211, (fun h => absurd h (by decide)), by decide⟩
theorem pw_226 : (Cond.code ⟨"MembraneRounds", "dissolve", "(I)V"⟩ prog_1_method_7_code 2 none : Cond) ∈ lw_gd := lw_gd_in (List.mem_of_getElem? (i := 519) (by decide +kernel)) (by decide +kernel)
theorem pC_6 : gCode pP pN 6 := Or.inl ⟨rfl, pw_226⟩
theorem pNa_6 : gName pP pN 6 := ⟨by decide +kernel, ⟨by decide, by decide⟩, rfl, pw_211, (fun h => absurd h (by decide)), by decide⟩
theorem pw_227 : (Cond.code ⟨"MembraneRounds", "divide", "(II)V"⟩ prog_1_method_8_code 3 none : Cond) ∈ lw_gd := lw_gd_in (List.mem_of_getElem? (i := 535) (by decide +kernel)) (by decide +kernel)
theorem pC_7 : gCode pP pN 7 := Or.inl ⟨rfl, pw_227⟩
theorem pNa_7 : gName pP pN 7 := ⟨by decide +kernel, ⟨by decide, by decide⟩, rfl, pw_211, (fun h => absurd h (by decide)), by decide⟩
theorem pw_228 : (Cond.code ⟨"MembraneRounds", "round", "()I"⟩ prog_1_method_9_code 3 (some .int) : Cond) ∈ lw_gd := lw_gd_in (List.mem_of_getElem? (i := 542) (by decide +kernel)) (by decide +kernel)
theorem pC_8 : gCode pP pN 8 := Or.inl ⟨rfl, pw_228⟩
theorem pNa_8 : gName pP pN 8 := ⟨by decide +kernel, ⟨by decide, by decide⟩, rfl, pw_211, (fun h => absurd h (by decide)), by decide⟩
theorem pw_229 : (Cond.code ⟨"MembraneRounds", "uses", "(II)I"⟩ prog_1_method_10_code 3 (some .int) : Cond) ∈ lw_gd := lw_gd_in (List.mem_of_getElem? (i := 624) (by decide +kernel)) (by decide +kernel)
theorem pC_9 : gCode pP pN 9 := Or.inl ⟨rfl, pw_229⟩
theorem pNa_9 : gName pP pN 9 := ⟨by decide +kernel, ⟨by decide, by decide⟩, rfl, pw_211, (fun h => absurd h (by decide)), by decide⟩
theorem pw_230 : (Cond.code ⟨"MembraneRounds", "choices", "(I)I"⟩ prog_1_method_11_code 2 (some .int) : Cond) ∈ lw_gd := lw_gd_in (List.mem_of_getElem? (i := 632) (by decide +kernel)) (by decide +kernel)
theorem pC_10 : gCode pP pN 10 := Or.inl ⟨rfl, pw_230⟩
theorem pNa_10 : gName pP pN 10 := ⟨by decide +kernel, ⟨by decide, by decide⟩, rfl, pw_211, (fun h => absurd h (by decide)), by decide⟩
theorem pw_231 : (Cond.code ⟨"MembraneRounds", "at", "(II)I"⟩ prog_1_method_12_code 3 (some .int) : Cond) ∈ lw_gd := lw_gd_in (List.mem_of_getElem? (i := 659) (by decide +kernel)) (by decide +kernel)
theorem pC_11 : gCode pP pN 11 := Or.inl ⟨rfl, pw_231⟩
theorem pNa_11 : gName pP pN 11 := ⟨by decide +kernel, ⟨by decide, by decide⟩, rfl, pw_211, (fun h => absurd h (by decide)), by decide⟩
theorem pw_232 : (Cond.code ⟨"MembraneRounds", "there", "(I)Z"⟩ prog_1_method_13_code 2 (some .boolean) : Cond) ∈ lw_gd := lw_gd_in (List.mem_of_getElem? (i := 304) (by decide +kernel)) (by decide +kernel)
theorem pC_12 : gCode pP pN 12 := Or.inl ⟨rfl, pw_232⟩
theorem pNa_12 : gName pP pN 12 := ⟨by decide +kernel, ⟨by decide, by decide⟩, rfl, pw_211, (fun h => absurd h (by decide)), by decide⟩
theorem pw_233 : (Cond.code ⟨"MembraneRounds", "outside", "(I)I"⟩ prog_1_method_14_code 2 (some .int) : Cond) ∈ lw_gd := lw_gd_in (List.mem_of_getElem? (i := 672) (by decide +kernel)) (by decide +kernel)
theorem pC_13 : gCode pP pN 13 := Or.inl ⟨rfl, pw_233⟩
theorem pNa_13 : gName pP pN 13 := ⟨by decide +kernel, ⟨by decide, by decide⟩, rfl, pw_211, (fun h => absurd h (by decide)), by decide⟩
theorem pw_234 : (Cond.code ⟨"MembraneRounds", "outcomes", "(I)I"⟩ prog_1_method_15_code 3 (some .int) : Cond) ∈ lw_gd := lw_gd_in (List.mem_of_getElem? (i := 680) (by decide +kernel)) (by decide +kernel)
theorem pC_14 : gCode pP pN 14 := Or.inl ⟨rfl, pw_234⟩
theorem pNa_14 : gName pP pN 14 := ⟨by decide +kernel, ⟨by decide, by decide⟩, rfl, pw_211, (fun h => absurd h (by decide)), by decide⟩
theorem pw_235 : (Cond.code ⟨"MembraneRounds", "outcome", "(III)I"⟩ prog_1_method_16_code 5 (some .int) : Cond) ∈ lw_gd := lw_gd_in (List.mem_of_getElem? (i := 715) (by decide +kernel)) (by decide +kernel)
theorem pC_15 : gCode pP pN 15 := Or.inl ⟨rfl, pw_235⟩
theorem pNa_15 : gName pP pN 15 := ⟨by decide +kernel, ⟨by decide, by decide⟩, rfl, pw_211, (fun h => absurd h (by decide)), by decide⟩
theorem pw_236 : (Cond.code ⟨"MembraneRounds", "adopt", "(I)V"⟩ prog_1_method_17_code 2 none : Cond) ∈ lw_gd := lw_gd_in (List.mem_of_getElem? (i := 727) (by decide +kernel)) (by decide +kernel)
theorem pC_16 : gCode pP pN 16 := Or.inl ⟨rfl, pw_236⟩
theorem pNa_16 : gName pP pN 16 := ⟨by decide +kernel, ⟨by decide, by decide⟩, rfl, pw_211, (fun h => absurd h (by decide)), by decide⟩
theorem pw_237 : (Cond.code ⟨"MembraneRounds", "written", "(I)I"⟩ prog_1_method_18_code 2 (some .int) : Cond) ∈ lw_gd := lw_gd_in (List.mem_of_getElem? (i := 312) (by decide +kernel)) (by decide +kernel)
theorem pC_17 : gCode pP pN 17 := Or.inl ⟨rfl, pw_237⟩
theorem pNa_17 : gName pP pN 17 := ⟨by decide +kernel, ⟨by decide, by decide⟩, rfl, pw_211, (fun h => absurd h (by decide)), by decide⟩
theorem pw_238 : (Cond.code ⟨"MembraneRounds", "checkMembrane", "(I)V"⟩ prog_1_method_19_code 2 none : Cond) ∈ lw_gd := lw_gd_in (List.mem_of_getElem? (i := 420) (by decide +kernel)) (by decide +kernel)
theorem pC_18 : gCode pP pN 18 := Or.inl ⟨rfl, pw_238⟩
theorem pNa_18 : gName pP pN 18 := ⟨by decide +kernel, ⟨by decide, by decide⟩, rfl, pw_211, (fun h => absurd h (by decide)), by decide⟩
theorem pw_239 : (Cond.code ⟨"MembraneRounds", "checkRule", "(I)V"⟩ prog_1_method_20_code 2 none : Cond) ∈ lw_gd := lw_gd_in (List.mem_of_getElem? (i := 511) (by decide +kernel)) (by decide +kernel)
theorem pC_19 : gCode pP pN 19 := Or.inl ⟨rfl, pw_239⟩
theorem pNa_19 : gName pP pN 19 := ⟨by decide +kernel, ⟨by decide, by decide⟩, rfl, pw_211, (fun h => absurd h (by decide)), by decide⟩
theorem pw_240 : (Cond.code ⟨"MembraneRounds", "checkOutcome", "(I)V"⟩ prog_1_method_21_code 2 none : Cond) ∈ lw_gd := lw_gd_in (List.mem_of_getElem? (i := 719) (by decide +kernel)) (by decide +kernel)
theorem pC_20 : gCode pP pN 20 := Or.inl ⟨rfl, pw_240⟩
theorem pNa_20 : gName pP pN 20 := ⟨by decide +kernel, ⟨by decide, by decide⟩, rfl, pw_211, (fun h => absurd h (by decide)), by decide⟩
theorem pw_241 : (Cond.code ⟨"MembraneRounds", "checkLabel", "(I)V"⟩ prog_1_method_22_code 1 none : Cond) ∈ lw_gd := lw_gd_in (List.mem_of_getElem? (i := 339) (by decide +kernel)) (by decide +kernel)
theorem pC_21 : gCode pP pN 21 := Or.inl ⟨rfl, pw_241⟩
theorem pNa_21 : gName pP pN 21 := ⟨by decide +kernel, ⟨by decide, by decide⟩, rfl, pw_211, (fun h => absurd h (by decide)), by decide⟩
theorem pw_242 : (Cond.code ⟨"MembraneRounds", "checkHandful", "(I)V"⟩ prog_1_method_23_code 1 none : Cond) ∈ lw_gd := lw_gd_in (List.mem_of_getElem? (i := 467) (by decide +kernel)) (by decide +kernel)
theorem pC_22 : gCode pP pN 22 := Or.inl ⟨rfl, pw_242⟩
theorem pNa_22 : gName pP pN 22 := ⟨by decide +kernel, ⟨by decide, by decide⟩, rfl, pw_211, (fun h => absurd h (by decide)), by decide⟩
theorem pw_243 : (Cond.code ⟨"MembraneRounds", "checkNotEmpty", "(I)V"⟩ prog_1_method_24_code 1 none : Cond) ∈ lw_gd := lw_gd_in (List.mem_of_getElem? (i := 490) (by decide +kernel)) (by decide +kernel)
theorem pC_23 : gCode pP pN 23 := Or.inl ⟨rfl, pw_243⟩
theorem pNa_23 : gName pP pN 23 := ⟨by decide +kernel, ⟨by decide, by decide⟩, rfl, pw_211, (fun h => absurd h (by decide)), by decide⟩
theorem pw_244 : (Cond.code ⟨"MembraneRounds", "checkWhat", "(II)V"⟩ prog_1_method_25_code 2 none : Cond) ∈ lw_gd := lw_gd_in (List.mem_of_getElem? (i := 662) (by decide +kernel)) (by decide +kernel)
theorem pC_24 : gCode pP pN 24 := Or.inl ⟨rfl, pw_244⟩
theorem pNa_24 : gName pP pN 24 := ⟨by decide +kernel, ⟨by decide, by decide⟩, rfl, pw_211, (fun h => absurd h (by decide)), by decide⟩
theorem pw_245 : (Cond.code ⟨"MembraneRounds", "checkEndsNothing", "(I)V"⟩ prog_1_method_26_code 2 none : Cond) ∈ lw_gd := lw_gd_in (List.mem_of_getElem? (i := 523) (by decide +kernel)) (by decide +kernel)
theorem pC_25 : gCode pP pN 25 := Or.inl ⟨rfl, pw_245⟩
theorem pNa_25 : gName pP pN 25 := ⟨by decide +kernel, ⟨by decide, by decide⟩, rfl, pw_211, (fun h => absurd h (by decide)), by decide⟩
theorem pw_246 : (Cond.code ⟨"MembraneRoundsModel", "<init>", "()V"⟩ prog_12_method_1_code 1 none : Cond) ∈ lw_gd := lw_gd_in (List.mem_of_getElem? (i := 732) (by decide +kernel)) (by decide +kernel)
theorem pC_26 : gCode pP pN 26 := Or.inl ⟨rfl, pw_246⟩
theorem pNa_26 : gName pP pN 26 := ⟨by decide +kernel, ⟨by decide, by decide⟩, rfl, pw_214, fun _ => rfl, by decide⟩
theorem pw_247 : (Cond.code ⟨"MembraneRoundsModel", "thrown", "()I"⟩ prog_12_method_2_code 1 (some .int) : Cond) ∈ lw_gd := lw_gd_in (List.mem_of_getElem? (i := 824) (by decide +kernel)) (by decide +kernel)
theorem pC_27 : gCode pP pN 27 := Or.inl ⟨rfl, pw_247⟩
theorem pNa_27 : gName pP pN 27 := ⟨by decide +kernel, ⟨by decide, by decide⟩, rfl, pw_214, (fun h => absurd h (by decide)), by decide⟩
theorem pw_248 : (Cond.code ⟨"MembraneRoundsModel", "of", "(II)I"⟩ prog_12_method_3_code 2 (some .int) : Cond) ∈ lw_gd := lw_gd_in (List.mem_of_getElem? (i := 854) (by decide +kernel)) (by decide +kernel)
theorem pC_28 : gCode pP pN 28 := Or.inl ⟨rfl, pw_248⟩
theorem pNa_28 : gName pP pN 28 := ⟨by decide +kernel, ⟨by decide, by decide⟩, rfl, pw_214, (fun h => absurd h (by decide)), by decide⟩
theorem pw_249 : (Cond.code ⟨"MembraneRoundsModel", "cell", "(III)I"⟩ prog_12_method_4_code 4 (some .int) : Cond) ∈ lw_gd := lw_gd_in (List.mem_of_getElem? (i := 844) (by decide +kernel)) (by decide +kernel)
theorem pC_29 : gCode pP pN 29 := Or.inl ⟨rfl, pw_249⟩
theorem pNa_29 : gName pP pN 29 := ⟨by decide +kernel, ⟨by decide, by decide⟩, rfl, pw_214, (fun h => absurd h (by decide)), by decide⟩
theorem pw_250 : (Cond.code ⟨"MembraneRoundsModel", "set", "(IIII)V"⟩ prog_12_method_5_code 5 none : Cond) ∈ lw_gd := lw_gd_in (List.mem_of_getElem? (i := 741) (by decide +kernel)) (by decide +kernel)
theorem pC_30 : gCode pP pN 30 := Or.inl ⟨rfl, pw_250⟩
theorem pNa_30 : gName pP pN 30 := ⟨by decide +kernel, ⟨by decide, by decide⟩, rfl, pw_214, (fun h => absurd h (by decide)), by decide⟩
theorem pw_251 : (Cond.code ⟨"MembraneRoundsModel", "has", "(II)Z"⟩ prog_12_method_6_code 3 (some .boolean) : Cond) ∈ lw_gd := lw_gd_in (List.mem_of_getElem? (i := 840) (by decide +kernel)) (by decide +kernel)
theorem pC_31 : gCode pP pN 31 := Or.inl ⟨rfl, pw_251⟩
theorem pNa_31 : gName pP pN 31 := ⟨by decide +kernel, ⟨by decide, by decide⟩, rfl, pw_214, (fun h => absurd h (by decide)), by decide⟩
theorem pw_252 : (Cond.code ⟨"MembraneRoundsModel", "copy", "(II)V"⟩ prog_12_method_7_code 4 none : Cond) ∈ lw_gd := lw_gd_in (List.mem_of_getElem? (i := 928) (by decide +kernel)) (by decide +kernel)
theorem pC_32 : gCode pP pN 32 := Or.inl ⟨rfl, pw_252⟩
theorem pNa_32 : gName pP pN 32 := ⟨by decide +kernel, ⟨by decide, by decide⟩, rfl, pw_214, (fun h => absurd h (by decide)), by decide⟩
theorem pw_253 : (Cond.code ⟨"MembraneRoundsModel", "same", "(II)Z"⟩ prog_12_method_8_code 4 (some .boolean) : Cond) ∈ lw_gd := lw_gd_in (List.mem_of_getElem? (i := 980) (by decide +kernel)) (by decide +kernel)
theorem pC_33 : gCode pP pN 33 := Or.inl ⟨rfl, pw_253⟩
theorem pNa_33 : gName pP pN 33 := ⟨by decide +kernel, ⟨by decide, by decide⟩, rfl, pw_214, (fun h => absurd h (by decide)), by decide⟩
theorem pw_254 : (Cond.code ⟨"MembraneRoundsModel", "empty", "(I)V"⟩ prog_12_method_9_code 3 none : Cond) ∈ lw_gd := lw_gd_in (List.mem_of_getElem? (i := 737) (by decide +kernel)) (by decide +kernel)
theorem pC_34 : gCode pP pN 34 := Or.inl ⟨rfl, pw_254⟩
theorem pNa_34 : gName pP pN 34 := ⟨by decide +kernel, ⟨by decide, by decide⟩, rfl, pw_214, (fun h => absurd h (by decide)), by decide⟩
theorem pw_255 : (Cond.code ⟨"MembraneRoundsModel", "give", "(IIII)V"⟩ prog_12_method_10_code 7 none : Cond) ∈ lw_gd := lw_gd_in (List.mem_of_getElem? (i := 858) (by decide +kernel)) (by decide +kernel)
theorem pC_35 : gCode pP pN 35 := Or.inl ⟨rfl, pw_255⟩
theorem pNa_35 : gName pP pN 35 := ⟨by decide +kernel, ⟨by decide, by decide⟩, rfl, pw_214, (fun h => absurd h (by decide)), by decide⟩
theorem pw_256 : (Cond.code ⟨"MembraneRoundsModel", "children", "(II)I"⟩ prog_12_method_11_code 5 (some .int) : Cond) ∈ lw_gd := lw_gd_in (List.mem_of_getElem? (i := 902) (by decide +kernel)) (by decide +kernel)
theorem pC_36 : gCode pP pN 36 := Or.inl ⟨rfl, pw_256⟩
theorem pNa_36 : gName pP pN 36 := ⟨by decide +kernel, ⟨by decide, by decide⟩, rfl, pw_214, (fun h => absurd h (by decide)), by decide⟩
theorem pw_257 : (Cond.code ⟨"MembraneRoundsModel", "childOf", "(III)I"⟩ prog_12_method_12_code 5 (some .int) : Cond) ∈ lw_gd := lw_gd_in (List.mem_of_getElem? (i := 898) (by decide +kernel)) (by decide +kernel)
theorem pC_37 : gCode pP pN 37 := Or.inl ⟨rfl, pw_257⟩
theorem pNa_37 : gName pP pN 37 := ⟨by decide +kernel, ⟨by decide, by decide⟩, rfl, pw_214, (fun h => absurd h (by decide)), by decide⟩
theorem pw_258 : (Cond.code ⟨"MembraneRoundsModel", "free", "(I)I"⟩ prog_12_method_13_code 3 (some .int) : Cond) ∈ lw_gd := lw_gd_in (List.mem_of_getElem? (i := 836) (by decide +kernel)) (by decide +kernel)
theorem pC_38 : gCode pP pN 38 := Or.inl ⟨rfl, pw_258⟩
theorem pNa_38 : gName pP pN 38 := ⟨by decide +kernel, ⟨by decide, by decide⟩, rfl, pw_214, (fun h => absurd h (by decide)), by decide⟩
theorem pw_259 : (Cond.code ⟨"MembraneRoundsModel", "clear", "(I)V"⟩ prog_12_method_14_code 2 none : Cond) ∈ lw_gd := lw_gd_in (List.mem_of_getElem? (i := 828) (by decide +kernel)) (by decide +kernel)
theorem pC_39 : gCode pP pN 39 := Or.inl ⟨rfl, pw_259⟩
theorem pNa_39 : gName pP pN 39 := ⟨by decide +kernel, ⟨by decide, by decide⟩, rfl, pw_214, (fun h => absurd h (by decide)), by decide⟩
theorem pw_260 : (Cond.code ⟨"MembraneRoundsModel", "membrane", "(II)I"⟩ prog_12_method_15_code 5 (some .int) : Cond) ∈ lw_gd := lw_gd_in (List.mem_of_getElem? (i := 832) (by decide +kernel)) (by decide +kernel)
theorem pC_40 : gCode pP pN 40 := Or.inl ⟨rfl, pw_260⟩
theorem pNa_40 : gName pP pN 40 := ⟨by decide +kernel, ⟨by decide, by decide⟩, rfl, pw_214, (fun h => absurd h (by decide)), by decide⟩
theorem pw_261 : (Cond.code ⟨"MembraneRoundsModel", "noHandful", "(I)Z"⟩ prog_12_method_16_code 1 (some .boolean) : Cond) ∈ lw_gd := lw_gd_in (List.mem_of_getElem? (i := 851) (by decide +kernel)) (by decide +kernel)
theorem pC_41 : gCode pP pN 41 := Or.inl ⟨rfl, pw_261⟩
theorem pNa_41 : gName pP pN 41 := ⟨by decide +kernel, ⟨by decide, by decide⟩, rfl, pw_214, (fun h => absurd h (by decide)), by decide⟩
theorem pw_262 : (Cond.code ⟨"MembraneRoundsModel", "put", "(II)V"⟩ prog_12_method_17_code 4 none : Cond) ∈ lw_gd := lw_gd_in (List.mem_of_getElem? (i := 848) (by decide +kernel)) (by decide +kernel)
theorem pC_42 : gCode pP pN 42 := Or.inl ⟨rfl, pw_262⟩
theorem pNa_42 : gName pP pN 42 := ⟨by decide +kernel, ⟨by decide, by decide⟩, rfl, pw_214, (fun h => absurd h (by decide)), by decide⟩
theorem pw_263 : (Cond.code ⟨"MembraneRoundsModel", "rule", "(IIII)I"⟩ prog_12_method_18_code 5 (some .int) : Cond) ∈ lw_gd := lw_gd_in (List.mem_of_getElem? (i := 862) (by decide +kernel)) (by decide +kernel)
theorem pC_43 : gCode pP pN 43 := Or.inl ⟨rfl, pw_263⟩
theorem pNa_43 : gName pP pN 43 := ⟨by decide +kernel, ⟨by decide, by decide⟩, rfl, pw_214, (fun h => absurd h (by decide)), by decide⟩
theorem pw_264 : (Cond.code ⟨"MembraneRoundsModel", "noRule", "(I)Z"⟩ prog_12_method_19_code 2 (some .boolean) : Cond) ∈ lw_gd := lw_gd_in (List.mem_of_getElem? (i := 870) (by decide +kernel)) (by decide +kernel)
theorem pC_44 : gCode pP pN 44 := Or.inl ⟨rfl, pw_264⟩
theorem pNa_44 : gName pP pN 44 := ⟨by decide +kernel, ⟨by decide, by decide⟩, rfl, pw_214, (fun h => absurd h (by decide)), by decide⟩
theorem pw_265 : (Cond.code ⟨"MembraneRoundsModel", "into", "(III)V"⟩ prog_12_method_20_code 4 none : Cond) ∈ lw_gd := lw_gd_in (List.mem_of_getElem? (i := 866) (by decide +kernel)) (by decide +kernel)
theorem pC_45 : gCode pP pN 45 := Or.inl ⟨rfl, pw_265⟩
theorem pNa_45 : gName pP pN 45 := ⟨by decide +kernel, ⟨by decide, by decide⟩, rfl, pw_214, (fun h => absurd h (by decide)), by decide⟩
theorem pw_266 : (Cond.code ⟨"MembraneRoundsModel", "dissolve", "(I)V"⟩ prog_12_method_21_code 2 none : Cond) ∈ lw_gd := lw_gd_in (List.mem_of_getElem? (i := 874) (by decide +kernel)) (by decide +kernel)
theorem pC_46 : gCode pP pN 46 := Or.inl ⟨rfl, pw_266⟩
theorem pNa_46 : gName pP pN 46 := ⟨by decide +kernel, ⟨by decide, by decide⟩, rfl, pw_214, (fun h => absurd h (by decide)), by decide⟩
theorem pw_267 : (Cond.code ⟨"MembraneRoundsModel", "divide", "(II)V"⟩ prog_12_method_22_code 3 none : Cond) ∈ lw_gd := lw_gd_in (List.mem_of_getElem? (i := 878) (by decide +kernel)) (by decide +kernel)
theorem pC_47 : gCode pP pN 47 := Or.inl ⟨rfl, pw_267⟩
theorem pNa_47 : gName pP pN 47 := ⟨by decide +kernel, ⟨by decide, by decide⟩, rfl, pw_214, (fun h => absurd h (by decide)), by decide⟩
theorem pw_268 : (Cond.code ⟨"MembraneRoundsModel", "begin", "(II)V"⟩ prog_12_method_23_code 4 none : Cond) ∈ lw_gd := lw_gd_in (List.mem_of_getElem? (i := 890) (by decide +kernel)) (by decide +kernel)
theorem pC_48 : gCode pP pN 48 := Or.inl ⟨rfl, pw_268⟩
theorem pNa_48 : gName pP pN 48 := ⟨by decide +kernel, ⟨by decide, by decide⟩, rfl, pw_214, (fun h => absurd h (by decide)), by decide⟩
theorem pw_269 : (Cond.code ⟨"MembraneRoundsModel", "times", "(I)I"⟩ prog_12_method_24_code 5 (some .int) : Cond) ∈ lw_gd := lw_gd_in (List.mem_of_getElem? (i := 906) (by decide +kernel)) (by decide +kernel)
theorem pC_49 : gCode pP pN 49 := Or.inl ⟨rfl, pw_269⟩
theorem pNa_49 : gName pP pN 49 := ⟨by decide +kernel, ⟨by decide, by decide⟩, rfl, pw_214, (fun h => absurd h (by decide)), by decide⟩
theorem pw_270 : (Cond.code ⟨"MembraneRoundsModel", "allowed", "(III)I"⟩ prog_12_method_25_code 5 (some .int) : Cond) ∈ lw_gd := lw_gd_in (List.mem_of_getElem? (i := 894) (by decide +kernel)) (by decide +kernel)
theorem pC_50 : gCode pP pN 50 := Or.inl ⟨rfl, pw_270⟩
theorem pNa_50 : gName pP pN 50 := ⟨by decide +kernel, ⟨by decide, by decide⟩, rfl, pw_214, (fun h => absurd h (by decide)), by decide⟩
theorem pw_271 : (Cond.code ⟨"MembraneRoundsModel", "take", "(II)V"⟩ prog_12_method_26_code 4 none : Cond) ∈ lw_gd := lw_gd_in (List.mem_of_getElem? (i := 910) (by decide +kernel)) (by decide +kernel)
theorem pC_51 : gCode pP pN 51 := Or.inl ⟨rfl, pw_271⟩
theorem pNa_51 : gName pP pN 51 := ⟨by decide +kernel, ⟨by decide, by decide⟩, rfl, pw_214, (fun h => absurd h (by decide)), by decide⟩
theorem pw_272 : (Cond.code ⟨"MembraneRoundsModel", "packed", "(II)I"⟩ prog_12_method_27_code 2 (some .int) : Cond) ∈ lw_gd := lw_gd_in (List.mem_of_getElem? (i := 917) (by decide +kernel)) (by decide +kernel)
theorem pC_52 : gCode pP pN 52 := Or.inl ⟨rfl, pw_272⟩
theorem pNa_52 : gName pP pN 52 := ⟨by decide +kernel, ⟨by decide, by decide⟩, rfl, pw_214, (fun h => absurd h (by decide)), by decide⟩
theorem pw_273 : (Cond.code ⟨"MembraneRoundsModel", "pack", "()I"⟩ prog_12_method_28_code 3 (some .int) : Cond) ∈ lw_gd := lw_gd_in (List.mem_of_getElem? (i := 914) (by decide +kernel)) (by decide +kernel)
theorem pC_53 : gCode pP pN 53 := Or.inl ⟨rfl, pw_273⟩
theorem pNa_53 : gName pP pN 53 := ⟨by decide +kernel, ⟨by decide, by decide⟩, rfl, pw_214, (fun h => absurd h (by decide)), by decide⟩
theorem pw_274 : (Cond.code ⟨"MembraneRoundsModel", "used", "(II)I"⟩ prog_12_method_29_code 2 (some .int) : Cond) ∈ lw_gd := lw_gd_in (List.mem_of_getElem? (i := 920) (by decide +kernel)) (by decide +kernel)
theorem pC_54 : gCode pP pN 54 := Or.inl ⟨rfl, pw_274⟩
theorem pNa_54 : gName pP pN 54 := ⟨by decide +kernel, ⟨by decide, by decide⟩, rfl, pw_214, (fun h => absurd h (by decide)), by decide⟩
theorem pw_275 : (Cond.code ⟨"MembraneRoundsModel", "greedy", "(II)I"⟩ prog_12_method_30_code 4 (some .int) : Cond) ∈ lw_gd := lw_gd_in (List.mem_of_getElem? (i := 886) (by decide +kernel)) (by decide +kernel)
theorem pC_55 : gCode pP pN 55 := Or.inl ⟨rfl, pw_275⟩
theorem pNa_55 : gName pP pN 55 := ⟨by decide +kernel, ⟨by decide, by decide⟩, rfl, pw_214, (fun h => absurd h (by decide)), by decide⟩
theorem pw_276 : (Cond.code ⟨"MembraneRoundsModel", "greed", "(IIII)I"⟩ prog_12_method_31_code 13 (some .int) : Cond) ∈ lw_gd := lw_gd_in (List.mem_of_getElem? (i := 952) (by decide +kernel)) (by decide +kernel)
theorem pC_56 : gCode pP pN 56 := Or.inl ⟨rfl, pw_276⟩
theorem pNa_56 : gName pP pN 56 := ⟨by decide +kernel, ⟨by decide, by decide⟩, rfl, pw_214, (fun h => absurd h (by decide)), by decide⟩
theorem pw_277 : (Cond.code ⟨"MembraneRoundsModel", "stuck", "(III)Z"⟩ prog_12_method_32_code 8 (some .boolean) : Cond) ∈ lw_gd := lw_gd_in (List.mem_of_getElem? (i := 948) (by decide +kernel)) (by decide +kernel)
theorem pC_57 : gCode pP pN 57 := Or.inl ⟨rfl, pw_277⟩
theorem pNa_57 : gName pP pN 57 := ⟨by decide +kernel, ⟨by decide, by decide⟩, rfl, pw_214, (fun h => absurd h (by decide)), by decide⟩
theorem pw_278 : (Cond.code ⟨"MembraneRoundsModel", "write", "(III)I"⟩ prog_12_method_33_code 7 (some .int) : Cond) ∈ lw_gd := lw_gd_in (List.mem_of_getElem? (i := 944) (by decide +kernel)) (by decide +kernel)
theorem pC_58 : gCode pP pN 58 := Or.inl ⟨rfl, pw_278⟩
theorem pNa_58 : gName pP pN 58 := ⟨by decide +kernel, ⟨by decide, by decide⟩, rfl, pw_214, (fun h => absurd h (by decide)), by decide⟩
theorem pw_279 : (Cond.code ⟨"MembraneRoundsModel", "step", "(I)Z"⟩ prog_12_method_34_code 6 (some .boolean) : Cond) ∈ lw_gd := lw_gd_in (List.mem_of_getElem? (i := 924) (by decide +kernel)) (by decide +kernel)
theorem pC_59 : gCode pP pN 59 := Or.inl ⟨rfl, pw_279⟩
theorem pNa_59 : gName pP pN 59 := ⟨by decide +kernel, ⟨by decide, by decide⟩, rfl, pw_214, (fun h => absurd h (by decide)), by decide⟩
theorem pw_280 : (Cond.code ⟨"MembraneRoundsModel", "melt", "(I)V"⟩ prog_12_method_35_code 4 none : Cond) ∈ lw_gd := lw_gd_in (List.mem_of_getElem? (i := 932) (by decide +kernel)) (by decide +kernel)
theorem pC_60 : gCode pP pN 60 := Or.inl ⟨rfl, pw_280⟩
theorem pNa_60 : gName pP pN 60 := ⟨by decide +kernel, ⟨by decide, by decide⟩, rfl, pw_214, (fun h => absurd h (by decide)), by decide⟩
theorem pw_281 : (Cond.code ⟨"MembraneRoundsModel", "round", "()I"⟩ prog_12_method_36_code 4 (some .int) : Cond) ∈ lw_gd := lw_gd_in (List.mem_of_getElem? (i := 882) (by decide +kernel)) (by decide +kernel)
theorem pC_61 : gCode pP pN 61 := Or.inl ⟨rfl, pw_281⟩
theorem pNa_61 : gName pP pN 61 := ⟨by decide +kernel, ⟨by decide, by decide⟩, rfl, pw_214, (fun h => absurd h (by decide)), by decide⟩
theorem pw_282 : (Cond.code ⟨"MembraneRoundsModel", "uses", "(II)I"⟩ prog_12_method_37_code 3 (some .int) : Cond) ∈ lw_gd := lw_gd_in (List.mem_of_getElem? (i := 936) (by decide +kernel)) (by decide +kernel)
theorem pC_62 : gCode pP pN 62 := Or.inl ⟨rfl, pw_282⟩
theorem pNa_62 : gName pP pN 62 := ⟨by decide +kernel, ⟨by decide, by decide⟩, rfl, pw_214, (fun h => absurd h (by decide)), by decide⟩
theorem pw_283 : (Cond.code ⟨"MembraneRoundsModel", "choices", "(I)I"⟩ prog_12_method_38_code 2 (some .int) : Cond) ∈ lw_gd := lw_gd_in (List.mem_of_getElem? (i := 940) (by decide +kernel)) (by decide +kernel)
theorem pC_63 : gCode pP pN 63 := Or.inl ⟨rfl, pw_283⟩
theorem pNa_63 : gName pP pN 63 := ⟨by decide +kernel, ⟨by decide, by decide⟩, rfl, pw_214, (fun h => absurd h (by decide)), by decide⟩
theorem pw_284 : (Cond.code ⟨"MembraneRoundsModel", "at", "(II)I"⟩ prog_12_method_39_code 3 (some .int) : Cond) ∈ lw_gd := lw_gd_in (List.mem_of_getElem? (i := 956) (by decide +kernel)) (by decide +kernel)
theorem pC_64 : gCode pP pN 64 := Or.inl ⟨rfl, pw_284⟩
theorem pNa_64 : gName pP pN 64 := ⟨by decide +kernel, ⟨by decide, by decide⟩, rfl, pw_214, (fun h => absurd h (by decide)), by decide⟩
theorem pw_285 : (Cond.code ⟨"MembraneRoundsModel", "there", "(I)Z"⟩ prog_12_method_40_code 2 (some .boolean) : Cond) ∈ lw_gd := lw_gd_in (List.mem_of_getElem? (i := 960) (by decide +kernel)) (by decide +kernel)
theorem pC_65 : gCode pP pN 65 := Or.inl ⟨rfl, pw_285⟩
theorem pNa_65 : gName pP pN 65 := ⟨by decide +kernel, ⟨by decide, by decide⟩, rfl, pw_214, (fun h => absurd h (by decide)), by decide⟩
theorem pw_286 : (Cond.code ⟨"MembraneRoundsModel", "outside", "(I)I"⟩ prog_12_method_41_code 2 (some .int) : Cond) ∈ lw_gd := lw_gd_in (List.mem_of_getElem? (i := 964) (by decide +kernel)) (by decide +kernel)
theorem pC_66 : gCode pP pN 66 := Or.inl ⟨rfl, pw_286⟩
theorem pNa_66 : gName pP pN 66 := ⟨by decide +kernel, ⟨by decide, by decide⟩, rfl, pw_214, (fun h => absurd h (by decide)), by decide⟩
theorem pw_287 : (Cond.code ⟨"MembraneRoundsModel", "add", "()Z"⟩ prog_12_method_42_code 2 (some .boolean) : Cond) ∈ lw_gd := lw_gd_in (List.mem_of_getElem? (i := 976) (by decide +kernel)) (by decide +kernel)
theorem pC_67 : gCode pP pN 67 := Or.inl ⟨rfl, pw_287⟩
theorem pNa_67 : gName pP pN 67 := ⟨by decide +kernel, ⟨by decide, by decide⟩, rfl, pw_214, (fun h => absurd h (by decide)), by decide⟩
theorem pw_288 : (Cond.code ⟨"MembraneRoundsModel", "spread", "(I)Z"⟩ prog_12_method_43_code 5 (some .boolean) : Cond) ∈ lw_gd := lw_gd_in (List.mem_of_getElem? (i := 972) (by decide +kernel)) (by decide +kernel)
theorem pC_68 : gCode pP pN 68 := Or.inl ⟨rfl, pw_288⟩
theorem pNa_68 : gName pP pN 68 := ⟨by decide +kernel, ⟨by decide, by decide⟩, rfl, pw_214, (fun h => absurd h (by decide)), by decide⟩
theorem pw_289 : (Cond.code ⟨"MembraneRoundsModel", "outcomes", "(I)I"⟩ prog_12_method_44_code 4 (some .int) : Cond) ∈ lw_gd := lw_gd_in (List.mem_of_getElem? (i := 968) (by decide +kernel)) (by decide +kernel)
theorem pC_69 : gCode pP pN 69 := Or.inl ⟨rfl, pw_289⟩
theorem pNa_69 : gName pP pN 69 := ⟨by decide +kernel, ⟨by decide, by decide⟩, rfl, pw_214, (fun h => absurd h (by decide)), by decide⟩
theorem pw_290 : (Cond.code ⟨"MembraneRoundsModel", "outcome", "(III)I"⟩ prog_12_method_45_code 4 (some .int) : Cond) ∈ lw_gd := lw_gd_in (List.mem_of_getElem? (i := 984) (by decide +kernel)) (by decide +kernel)
theorem pC_70 : gCode pP pN 70 := Or.inl ⟨rfl, pw_290⟩
theorem pNa_70 : gName pP pN 70 := ⟨by decide +kernel, ⟨by decide, by decide⟩, rfl, pw_214, (fun h => absurd h (by decide)), by decide⟩
theorem pw_291 : (Cond.code ⟨"MembraneRoundsModel", "adopt", "(I)V"⟩ prog_12_method_46_code 2 none : Cond) ∈ lw_gd := lw_gd_in (List.mem_of_getElem? (i := 988) (by decide +kernel)) (by decide +kernel)
theorem pC_71 : gCode pP pN 71 := Or.inl ⟨rfl, pw_291⟩
theorem pNa_71 : gName pP pN 71 := ⟨by decide +kernel, ⟨by decide, by decide⟩, rfl, pw_214, (fun h => absurd h (by decide)), by decide⟩
theorem pw_292 : (Cond.code ⟨"MembraneRoundsModel", "append", "(I)V"⟩ prog_12_method_47_code 2 none : Cond) ∈ lw_gd := lw_gd_in (List.mem_of_getElem? (i := 1000) (by decide +kernel)) (by decide +kernel)
theorem pC_72 : gCode pP pN 72 := Or.inl ⟨rfl, pw_292⟩
theorem pNa_72 : gName pP pN 72 := ⟨by decide +kernel, ⟨by decide, by decide⟩, rfl, pw_214, (fun h => absurd h (by decide)), by decide⟩
theorem pw_293 : (Cond.code ⟨"MembraneRoundsModel", "appendInner", "(I)V"⟩ prog_12_method_48_code 4 none : Cond) ∈ lw_gd := lw_gd_in (List.mem_of_getElem? (i := 996) (by decide +kernel)) (by decide +kernel)
theorem pC_73 : gCode pP pN 73 := Or.inl ⟨rfl, pw_293⟩
theorem pNa_73 : gName pP pN 73 := ⟨by decide +kernel, ⟨by decide, by decide⟩, rfl, pw_214, (fun h => absurd h (by decide)), by decide⟩
theorem pw_294 : (Cond.code ⟨"MembraneRoundsModel", "nextChild", "(II)I"⟩ prog_12_method_49_code 4 (some .int) : Cond) ∈ lw_gd := lw_gd_in (List.mem_of_getElem? (i := 1004) (by decide +kernel)) (by decide +kernel)
theorem pC_74 : gCode pP pN 74 := Or.inl ⟨rfl, pw_294⟩
theorem pNa_74 : gName pP pN 74 := ⟨by decide +kernel, ⟨by decide, by decide⟩, rfl, pw_214, (fun h => absurd h (by decide)), by decide⟩
theorem pw_295 : (Cond.code ⟨"MembraneRoundsModel", "written", "(I)I"⟩ prog_12_method_50_code 5 (some .int) : Cond) ∈ lw_gd := lw_gd_in (List.mem_of_getElem? (i := 992) (by decide +kernel)) (by decide +kernel)
theorem pC_75 : gCode pP pN 75 := Or.inl ⟨rfl, pw_295⟩
theorem pNa_75 : gName pP pN 75 := ⟨by decide +kernel, ⟨by decide, by decide⟩, rfl, pw_214, (fun h => absurd h (by decide)), by decide⟩
theorem pw_296 : (Cond.code ⟨"MembraneRounds$Choice", "with", "(III)I"⟩ prog_2_method_2_code 3 (some .int) : Cond) ∈ lw_gd := lw_gd_in (List.mem_of_getElem? (i := 571) (by decide +kernel)) (by decide +kernel)
theorem pC_76 : gCode pP pN 76 := Or.inl ⟨rfl, pw_296⟩
theorem pw_297 : (Cond.initialized "MembraneRounds$Choice" : Cond) ∈ lw_gd := lw_gd_in (List.mem_of_getElem? (i := 59) (by decide +kernel)) (by decide +kernel)
theorem pNa_76 : gName pP pN 76 := ⟨by decide +kernel, ⟨by decide, by decide⟩, rfl, pw_297, (fun h => absurd h (by decide)), by decide⟩
theorem pw_298 : (Cond.code ⟨"MembraneRounds$Choice", "usesOf", "(II)I"⟩ prog_2_method_3_code 2 (some .int) : Cond) ∈ lw_gd := lw_gd_in (List.mem_of_getElem? (i := 577) (by decide +kernel)) (by decide +kernel)
theorem pC_77 : gCode pP pN 77 := Or.inl ⟨rfl, pw_298⟩
theorem pNa_77 : gName pP pN 77 := ⟨by decide +kernel, ⟨by decide, by decide⟩, rfl, pw_297, (fun h => absurd h (by decide)), by decide⟩
theorem pw_299 : (Cond.code ⟨"MembraneRounds$Choice", "usesTogether", "(I)I"⟩ prog_2_method_4_code 3 (some .int) : Cond) ∈ lw_gd := lw_gd_in (List.mem_of_getElem? (i := 574) (by decide +kernel)) (by decide +kernel)
theorem pC_78 : gCode pP pN 78 := Or.inl ⟨rfl, pw_299⟩
theorem pNa_78 : gName pP pN 78 := ⟨by decide +kernel, ⟨by decide, by decide⟩, rfl, pw_297, (fun h => absurd h (by decide)), by decide⟩
theorem pw_300 : (Cond.code ⟨"MembraneRounds$Chooser", "<init>", "()V"⟩ prog_3_method_1_code 1 none : Cond) ∈ lw_gd := lw_gd_in (List.mem_of_getElem? (i := 158) (by decide +kernel)) (by decide +kernel)
theorem pC_79 : gCode pP pN 79 := Or.inl ⟨rfl, pw_300⟩
theorem pNa_79 : gName pP pN 79 := ⟨by decide +kernel, ⟨by decide, by decide⟩, rfl, pw_185, fun _ => rfl, by decide⟩
theorem pw_301 : (Cond.code ⟨"MembraneRounds$Chooser", "machineChoice", "(LMembraneRounds$RuleBook;LMembraneRounds$Configuration;I)I"⟩ prog_3_method_2_code 10 (some .int) : Cond) ∈ lw_gd := lw_gd_in (List.mem_of_getElem? (i := 546) (by decide +kernel)) (by decide +kernel)
theorem pC_80 : gCode pP pN 80 := Or.inl ⟨rfl, pw_301⟩
theorem pNa_80 : gName pP pN 80 := ⟨by decide +kernel, ⟨by decide, by decide⟩, rfl, pw_185, (fun h => absurd h (by decide)), by decide⟩
theorem pw_302 : (Cond.code ⟨"MembraneRounds$Chooser", "count", "(LMembraneRounds$RuleBook;LMembraneRounds$Configuration;I)I"⟩ prog_3_method_3_code 4 (some .int) : Cond) ∈ lw_gd := lw_gd_in (List.mem_of_getElem? (i := 636) (by decide +kernel)) (by decide +kernel)
theorem pC_81 : gCode pP pN 81 := Or.inl ⟨rfl, pw_302⟩
theorem pNa_81 : gName pP pN 81 := ⟨by decide +kernel, ⟨by decide, by decide⟩, rfl, pw_185, (fun h => absurd h (by decide)), by decide⟩
theorem pw_303 : (Cond.code ⟨"MembraneRounds$Chooser", "countAll", "(LMembraneRounds$RuleBook;LMembraneRounds$Configuration;)I"⟩ prog_3_method_4_code 5 (some .int) : Cond) ∈ lw_gd := lw_gd_in (List.mem_of_getElem? (i := 694) (by decide +kernel)) (by decide +kernel)
theorem pC_82 : gCode pP pN 82 := Or.inl ⟨rfl, pw_303⟩
theorem pNa_82 : gName pP pN 82 := ⟨by decide +kernel, ⟨by decide, by decide⟩, rfl, pw_185, (fun h => absurd h (by decide)), by decide⟩
theorem pw_304 : (Cond.code ⟨"MembraneRounds$Chooser", "takeNext", "([I)V"⟩ prog_3_method_5_code 4 none : Cond) ∈ lw_gd := lw_gd_in (List.mem_of_getElem? (i := 699) (by decide +kernel)) (by decide +kernel)
theorem pC_83 : gCode pP pN 83 := Or.inl ⟨rfl, pw_304⟩
theorem pNa_83 : gName pP pN 83 := ⟨by decide +kernel, ⟨by decide, by decide⟩, rfl, pw_185, (fun h => absurd h (by decide)), by decide⟩
theorem pw_305 : (Cond.code ⟨"MembraneRounds$Chooser", "list", "(LMembraneRounds$RuleBook;LMembraneRounds$Configuration;I)V"⟩ prog_3_method_6_code 4 none : Cond) ∈ lw_gd := lw_gd_in (List.mem_of_getElem? (i := 640) (by decide +kernel)) (by decide +kernel)
theorem pC_84 : gCode pP pN 84 := Or.inl ⟨rfl, pw_305⟩
theorem pNa_84 : gName pP pN 84 := ⟨by decide +kernel, ⟨by decide, by decide⟩, rfl, pw_185, (fun h => absurd h (by decide)), by decide⟩
theorem pw_306 : (Cond.code ⟨"MembraneRounds$Chooser", "gatherOpen", "(LMembraneRounds$RuleBook;LMembraneRounds$Configuration;I)V"⟩ prog_3_method_7_code 6 none : Cond) ∈ lw_gd := lw_gd_in (List.mem_of_getElem? (i := 550) (by decide +kernel)) (by decide +kernel)
theorem pC_85 : gCode pP pN 85 := Or.inl ⟨rfl, pw_306⟩
theorem pNa_85 : gName pP pN 85 := ⟨by decide +kernel, ⟨by decide, by decide⟩, rfl, pw_185, (fun h => absurd h (by decide)), by decide⟩
theorem pw_307 : (Cond.code ⟨"MembraneRounds$Chooser", "isOpen", "(LMembraneRounds$Rule;LMembraneRounds$Configuration;I)Z"⟩ prog_3_method_8_code 3 (some .boolean) : Cond) ∈ lw_gd := lw_gd_in (List.mem_of_getElem? (i := 553) (by decide +kernel)) (by decide +kernel)
theorem pC_86 : gCode pP pN 86 := Or.inl ⟨rfl, pw_307⟩
theorem pNa_86 : gName pP pN 86 := ⟨by decide +kernel, ⟨by decide, by decide⟩, rfl, pw_185, (fun h => absurd h (by decide)), by decide⟩
theorem pw_308 : (Cond.code ⟨"MembraneRounds$Chooser", "search", "(IJIZ)V"⟩ prog_3_method_9_code 11 none : Cond) ∈ lw_gd := lw_gd_in (List.mem_of_getElem? (i := 644) (by decide +kernel)) (by decide +kernel)
theorem pC_87 : gCode pP pN 87 := Or.inl ⟨rfl, pw_308⟩
theorem pNa_87 : gName pP pN 87 := ⟨by decide +kernel, ⟨by decide, by decide⟩, rfl, pw_185, (fun h => absurd h (by decide)), by decide⟩
theorem pw_309 : (Cond.code ⟨"MembraneRounds$Chooser", "canBecomeMaximal", "(IJZ)Z"⟩ prog_3_method_10_code 12 (some .boolean) : Cond) ∈ lw_gd := lw_gd_in (List.mem_of_getElem? (i := 648) (by decide +kernel)) (by decide +kernel)
theorem pC_88 : gCode pP pN 88 := Or.inl ⟨rfl, pw_309⟩
theorem pNa_88 : gName pP pN 88 := ⟨by decide +kernel, ⟨by decide, by decide⟩, rfl, pw_185, (fun h => absurd h (by decide)), by decide⟩
theorem pw_310 : (Cond.code ⟨"MembraneRounds$Configuration", "<init>", "()V"⟩ prog_4_method_1_code 1 none : Cond) ∈ lw_gd := lw_gd_in (List.mem_of_getElem? (i := 206) (by decide +kernel)) (by decide +kernel)
theorem pC_89 : gCode pP pN 89 := Or.inl ⟨rfl, pw_310⟩
theorem pNa_89 : gName pP pN 89 := ⟨by decide +kernel, ⟨by decide, by decide⟩, rfl, pw_197, fun _ => rfl, by decide⟩
theorem pw_311 : (Cond.code ⟨"MembraneRounds$Configuration", "reset", "(I)V"⟩ prog_4_method_2_code 3 none : Cond) ∈ lw_gd := lw_gd_in (List.mem_of_getElem? (i := 267) (by decide +kernel)) (by decide +kernel)
theorem pC_90 : gCode pP pN 90 := Or.inl ⟨rfl, pw_311⟩
theorem pNa_90 : gName pP pN 90 := ⟨by decide +kernel, ⟨by decide, by decide⟩, rfl, pw_197, (fun h => absurd h (by decide)), by decide⟩
theorem pw_312 : (Cond.code ⟨"MembraneRounds$Configuration", "open", "(IIIJ)V"⟩ prog_4_method_3_code 6 none : Cond) ∈ lw_gd := lw_gd_in (List.mem_of_getElem? (i := 275) (by decide +kernel)) (by decide +kernel)
theorem pC_91 : gCode pP pN 91 := Or.inl ⟨rfl, pw_312⟩
theorem pNa_91 : gName pP pN 91 := ⟨by decide +kernel, ⟨by decide, by decide⟩, rfl, pw_197, (fun h => absurd h (by decide)), by decide⟩
theorem pw_313 : (Cond.code ⟨"MembraneRounds$Configuration", "close", "(I)V"⟩ prog_4_method_4_code 2 none : Cond) ∈ lw_gd := lw_gd_in (List.mem_of_getElem? (i := 271) (by decide +kernel)) (by decide +kernel)
theorem pC_92 : gCode pP pN 92 := Or.inl ⟨rfl, pw_313⟩
theorem pNa_92 : gName pP pN 92 := ⟨by decide +kernel, ⟨by decide, by decide⟩, rfl, pw_197, (fun h => absurd h (by decide)), by decide⟩
theorem pw_314 : (Cond.code ⟨"MembraneRounds$Configuration", "copy", "(LMembraneRounds$Configuration;)V"⟩ prog_4_method_5_code 2 none : Cond) ∈ lw_gd := lw_gd_in (List.mem_of_getElem? (i := 581) (by decide +kernel)) (by decide +kernel)
theorem pC_93 : gCode pP pN 93 := Or.inl ⟨rfl, pw_314⟩
theorem pNa_93 : gName pP pN 93 := ⟨by decide +kernel, ⟨by decide, by decide⟩, rfl, pw_197, (fun h => absurd h (by decide)), by decide⟩
theorem pw_315 : (Cond.code ⟨"MembraneRounds$Configuration", "isSame", "(LMembraneRounds$Configuration;)Z"⟩ prog_4_method_6_code 3 (some .boolean) : Cond) ∈ lw_gd := lw_gd_in (List.mem_of_getElem? (i := 708) (by decide +kernel)) (by decide +kernel)
theorem pC_94 : gCode pP pN 94 := Or.inl ⟨rfl, pw_315⟩
theorem pNa_94 : gName pP pN 94 := ⟨by decide +kernel, ⟨by decide, by decide⟩, rfl, pw_197, (fun h => absurd h (by decide)), by decide⟩
theorem pw_316 : (Cond.code ⟨"MembraneRounds$Configuration", "has", "(I)Z"⟩ prog_4_method_7_code 2 (some .boolean) : Cond) ∈ lw_gd := lw_gd_in (List.mem_of_getElem? (i := 308) (by decide +kernel)) (by decide +kernel)
theorem pC_95 : gCode pP pN 95 := Or.inl ⟨rfl, pw_316⟩
theorem pNa_95 : gName pP pN 95 := ⟨by decide +kernel, ⟨by decide, by decide⟩, rfl, pw_197, (fun h => absurd h (by decide)), by decide⟩
theorem pw_317 : (Cond.code ⟨"MembraneRounds$Configuration", "leastFree", "()I"⟩ prog_4_method_8_code 2 (some .int) : Cond) ∈ lw_gd := lw_gd_in (List.mem_of_getElem? (i := 440) (by decide +kernel)) (by decide +kernel)
theorem pC_96 : gCode pP pN 96 := Or.inl ⟨rfl, pw_317⟩
theorem pNa_96 : gName pP pN 96 := ⟨by decide +kernel, ⟨by decide, by decide⟩, rfl, pw_197, (fun h => absurd h (by decide)), by decide⟩
theorem pw_318 : (Cond.code ⟨"MembraneRounds$Configuration", "countChildren", "(I)I"⟩ prog_4_method_9_code 4 (some .int) : Cond) ∈ lw_gd := lw_gd_in (List.mem_of_getElem? (i := 558) (by decide +kernel)) (by decide +kernel)
theorem pC_97 : gCode pP pN 97 := Or.inl ⟨rfl, pw_318⟩
theorem pNa_97 : gName pP pN 97 := ⟨by decide +kernel, ⟨by decide, by decide⟩, rfl, pw_197, (fun h => absurd h (by decide)), by decide⟩
theorem pw_319 : (Cond.code ⟨"MembraneRounds$Configuration", "firstChildWith", "(II)I"⟩ prog_4_method_10_code 4 (some .int) : Cond) ∈ lw_gd := lw_gd_in (List.mem_of_getElem? (i := 562) (by decide +kernel)) (by decide +kernel)
theorem pC_98 : gCode pP pN 98 := Or.inl ⟨rfl, pw_319⟩
theorem pNa_98 : gName pP pN 98 := ⟨by decide +kernel, ⟨by decide, by decide⟩, rfl, pw_197, (fun h => absurd h (by decide)), by decide⟩
theorem pw_320 : (Cond.code ⟨"MembraneRounds$Configuration", "isTooMuch", "()Z"⟩ prog_4_method_11_code 2 (some .boolean) : Cond) ∈ lw_gd := lw_gd_in (List.mem_of_getElem? (i := 613) (by decide +kernel)) (by decide +kernel)
theorem pC_99 : gCode pP pN 99 := Or.inl ⟨rfl, pw_320⟩
theorem pNa_99 : gName pP pN 99 := ⟨by decide +kernel, ⟨by decide, by decide⟩, rfl, pw_197, (fun h => absurd h (by decide)), by decide⟩
theorem pw_321 : (Cond.code ⟨"MembraneRounds$Heap", "ofHandful", "(I)J"⟩ prog_5_method_2_code 6 (some .long) : Cond) ∈ lw_gd := lw_gd_in (List.mem_of_getElem? (i := 471) (by decide +kernel)) (by decide +kernel)
theorem pC_100 : gCode pP pN 100 := Or.inl ⟨rfl, pw_321⟩
theorem pw_322 : (Cond.initialized "MembraneRounds$Heap" : Cond) ∈ lw_gd := lw_gd_in (List.mem_of_getElem? (i := 58) (by decide +kernel)) (by decide +kernel)
theorem pNa_100 : gName pP pN 100 := ⟨by decide +kernel, ⟨by decide, by decide⟩, rfl, pw_322, (fun h => absurd h (by decide)), by decide⟩
theorem pw_323 : (Cond.code ⟨"MembraneRounds$Heap", "count", "(JI)I"⟩ prog_5_method_3_code 3 (some .int) : Cond) ∈ lw_gd := lw_gd_in (List.mem_of_getElem? (i := 327) (by decide +kernel)) (by decide +kernel)
theorem pC_101 : gCode pP pN 101 := Or.inl ⟨rfl, pw_323⟩
theorem pNa_101 : gName pP pN 101 := ⟨by decide +kernel, ⟨by decide, by decide⟩, rfl, pw_322, (fun h => absurd h (by decide)), by decide⟩
theorem pw_324 : (Cond.code ⟨"MembraneRounds$Heap", "holds", "(JJ)Z"⟩ prog_5_method_4_code 4 (some .boolean) : Cond) ∈ lw_gd := lw_gd_in (List.mem_of_getElem? (i := 479) (by decide +kernel)) (by decide +kernel)
theorem pC_102 : gCode pP pN 102 := Or.inl ⟨rfl, pw_324⟩
theorem pNa_102 : gName pP pN 102 := ⟨by decide +kernel, ⟨by decide, by decide⟩, rfl, pw_322, (fun h => absurd h (by decide)), by decide⟩
theorem pw_325 : (Cond.code ⟨"MembraneRounds$Heap", "within", "(JJ)Z"⟩ prog_5_method_5_code 4 (some .boolean) : Cond) ∈ lw_gd := lw_gd_in (List.mem_of_getElem? (i := 475) (by decide +kernel)) (by decide +kernel)
theorem pC_103 : gCode pP pN 103 := Or.inl ⟨rfl, pw_325⟩
theorem pNa_103 : gName pP pN 103 := ⟨by decide +kernel, ⟨by decide, by decide⟩, rfl, pw_322, (fun h => absurd h (by decide)), by decide⟩
theorem pw_326 : (Cond.code ⟨"MembraneRounds$Heap", "kindsOf", "(J)J"⟩ prog_5_method_6_code 5 (some .long) : Cond) ∈ lw_gd := lw_gd_in (List.mem_of_getElem? (i := 499) (by decide +kernel)) (by decide +kernel)
theorem pC_104 : gCode pP pN 104 := Or.inl ⟨rfl, pw_326⟩
theorem pNa_104 : gName pP pN 104 := ⟨by decide +kernel, ⟨by decide, by decide⟩, rfl, pw_322, (fun h => absurd h (by decide)), by decide⟩
theorem pw_327 : (Cond.code ⟨"MembraneRounds$Judge", "<init>", "()V"⟩ prog_6_method_1_code 2 none : Cond) ∈ lw_gd := lw_gd_in (List.mem_of_getElem? (i := 199) (by decide +kernel)) (by decide +kernel)
theorem pC_105 : gCode pP pN 105 := Or.inl ⟨rfl, pw_327⟩
theorem pNa_105 : gName pP pN 105 := ⟨by decide +kernel, ⟨by decide, by decide⟩, rfl, pw_191, fun _ => rfl, by decide⟩
theorem pw_328 : (Cond.code ⟨"MembraneRounds$Judge", "begin", "(LMembraneRounds$Configuration;)V"⟩ prog_6_method_2_code 2 none : Cond) ∈ lw_gd := lw_gd_in (List.mem_of_getElem? (i := 685) (by decide +kernel)) (by decide +kernel)
theorem pC_106 : gCode pP pN 106 := Or.inl ⟨rfl, pw_328⟩
theorem pNa_106 : gName pP pN 106 := ⟨by decide +kernel, ⟨by decide, by decide⟩, rfl, pw_191, (fun h => absurd h (by decide)), by decide⟩
theorem pw_329 : (Cond.code ⟨"MembraneRounds$Judge", "goOn", "(LMembraneRounds$RuleBook;LMembraneRounds$Chooser;LMembraneRounds$Worker;)Z"⟩ prog_6_method_3_code 10 (some .boolean) : Cond) ∈ lw_gd := lw_gd_in (List.mem_of_getElem? (i := 690) (by decide +kernel)) (by decide +kernel)
theorem pC_107 : gCode pP pN 107 := Or.inl ⟨rfl, pw_329⟩
theorem pNa_107 : gName pP pN 107 := ⟨by decide +kernel, ⟨by decide, by decide⟩, rfl, pw_191, (fun h => absurd h (by decide)), by decide⟩
theorem pw_330 : (Cond.code ⟨"MembraneRounds$Judge", "keep", "(LMembraneRounds$Configuration;)Z"⟩ prog_6_method_4_code 3 (some .boolean) : Cond) ∈ lw_gd := lw_gd_in (List.mem_of_getElem? (i := 704) (by decide +kernel)) (by decide +kernel)
theorem pC_108 : gCode pP pN 108 := Or.inl ⟨rfl, pw_330⟩
theorem pNa_108 : gName pP pN 108 := ⟨by decide +kernel, ⟨by decide, by decide⟩, rfl, pw_191, (fun h => absurd h (by decide)), by decide⟩
theorem pw_331 : (Cond.code ⟨"MembraneRounds$Rule", "<init>", "(I)V"⟩ prog_7_method_1_code 2 none : Cond) ∈ lw_gd := lw_gd_in (List.mem_of_getElem? (i := 81) (by decide +kernel)) (by decide +kernel)
theorem pC_109 : gCode pP pN 109 := Or.inl ⟨rfl, pw_331⟩
theorem pNa_109 : gName pP pN 109 := ⟨by decide +kernel, ⟨by decide, by decide⟩, rfl, pw_208, fun _ => rfl, by decide⟩
theorem pw_332 : (Cond.code ⟨"MembraneRounds$Rule", "isOnce", "()Z"⟩ prog_7_method_2_code 1 (some .boolean) : Cond) ∈ lw_gd := lw_gd_in (List.mem_of_getElem? (i := 527) (by decide +kernel)) (by decide +kernel)
theorem pC_110 : gCode pP pN 110 := Or.inl ⟨rfl, pw_332⟩
theorem pNa_110 : gName pP pN 110 := ⟨by decide +kernel, ⟨by decide, by decide⟩, rfl, pw_208, (fun h => absurd h (by decide)), by decide⟩
theorem pw_333 : (Cond.code ⟨"MembraneRounds$Rule", "mostUses", "(JZ)I"⟩ prog_7_method_3_code 8 (some .int) : Cond) ∈ lw_gd := lw_gd_in (List.mem_of_getElem? (i := 566) (by decide +kernel)) (by decide +kernel)
theorem pC_111 : gCode pP pN 111 := Or.inl ⟨rfl, pw_333⟩
theorem pNa_111 : gName pP pN 111 := ⟨by decide +kernel, ⟨by decide, by decide⟩, rfl, pw_208, (fun h => absurd h (by decide)), by decide⟩
theorem pw_334 : (Cond.code ⟨"MembraneRounds$RuleBook", "<init>", "()V"⟩ prog_8_method_1_code 2 none : Cond) ∈ lw_gd := lw_gd_in (List.mem_of_getElem? (i := 74) (by decide +kernel)) (by decide +kernel)
theorem pC_112 : gCode pP pN 112 := Or.inl ⟨rfl, pw_334⟩
theorem pNa_112 : gName pP pN 112 := ⟨by decide +kernel, ⟨by decide, by decide⟩, rfl, pw_182, fun _ => rfl, by decide⟩
theorem pw_335 : (Cond.code ⟨"MembraneRounds$RuleBook", "add", "(IJJJ)I"⟩ prog_8_method_2_code 9 (some .int) : Cond) ∈ lw_gd := lw_gd_in (List.mem_of_getElem? (i := 496) (by decide +kernel)) (by decide +kernel)
theorem pC_113 : gCode pP pN 113 := Or.inl ⟨rfl, pw_335⟩
theorem pNa_113 : gName pP pN 113 := ⟨by decide +kernel, ⟨by decide, by decide⟩, rfl, pw_182, (fun h => absurd h (by decide)), by decide⟩
theorem pw_336 : (Cond.code ⟨"MembraneRounds$Scribe", "<init>", "()V"⟩ prog_9_method_1_code 1 none : Cond) ∈ lw_gd := lw_gd_in (List.mem_of_getElem? (i := 252) (by decide +kernel)) (by decide +kernel)
theorem pC_114 : gCode pP pN 114 := Or.inl ⟨rfl, pw_336⟩
theorem pNa_114 : gName pP pN 114 := ⟨by decide +kernel, ⟨by decide, by decide⟩, rfl, pw_194, fun _ => rfl, by decide⟩
theorem pw_337 : (Cond.code ⟨"MembraneRounds$Scribe", "character", "(LMembraneRounds$Configuration;I)I"⟩ prog_9_method_2_code 3 (some .int) : Cond) ∈ lw_gd := lw_gd_in (List.mem_of_getElem? (i := 316) (by decide +kernel)) (by decide +kernel)
theorem pC_115 : gCode pP pN 115 := Or.inl ⟨rfl, pw_337⟩
theorem pNa_115 : gName pP pN 115 := ⟨by decide +kernel, ⟨by decide, by decide⟩, rfl, pw_194, (fun h => absurd h (by decide)), by decide⟩
theorem pw_338 : (Cond.code ⟨"MembraneRounds$Scribe", "writeMembrane", "(LMembraneRounds$Configuration;II)V"⟩ prog_9_method_3_code 7 none : Cond) ∈ lw_gd := lw_gd_in (List.mem_of_getElem? (i := 320) (by decide +kernel)) (by decide +kernel)
theorem pC_116 : gCode pP pN 116 := Or.inl ⟨rfl, pw_338⟩
theorem pNa_116 : gName pP pN 116 := ⟨by decide +kernel, ⟨by decide, by decide⟩, rfl, pw_194, (fun h => absurd h (by decide)), by decide⟩
theorem pw_339 : (Cond.code ⟨"MembraneRounds$Scribe", "add", "(C)V"⟩ prog_9_method_4_code 2 none : Cond) ∈ lw_gd := lw_gd_in (List.mem_of_getElem? (i := 324) (by decide +kernel)) (by decide +kernel)
theorem pC_117 : gCode pP pN 117 := Or.inl ⟨rfl, pw_339⟩
theorem pNa_117 : gName pP pN 117 := ⟨by decide +kernel, ⟨by decide, by decide⟩, rfl, pw_194, (fun h => absurd h (by decide)), by decide⟩
theorem pw_340 : (Cond.code ⟨"MembraneRounds$Worker", "<init>", "()V"⟩ prog_10_method_1_code 1 none : Cond) ∈ lw_gd := lw_gd_in (List.mem_of_getElem? (i := 188) (by decide +kernel)) (by decide +kernel)
theorem pC_118 : gCode pP pN 118 := Or.inl ⟨rfl, pw_340⟩
theorem pNa_118 : gName pP pN 118 := ⟨by decide +kernel, ⟨by decide, by decide⟩, rfl, pw_188, fun _ => rfl, by decide⟩
theorem pw_341 : (Cond.code ⟨"MembraneRounds$Worker", "carryOut", "(LMembraneRounds$RuleBook;LMembraneRounds$Configuration;[I)Z"⟩ prog_10_method_2_code 7 (some .boolean) : Cond) ∈ lw_gd := lw_gd_in (List.mem_of_getElem? (i := 588) (by decide +kernel)) (by decide +kernel)
theorem pC_119 : gCode pP pN 119 := Or.inl ⟨rfl, pw_341⟩
theorem pNa_119 : gName pP pN 119 := ⟨by decide +kernel, ⟨by decide, by decide⟩, rfl, pw_188, (fun h => absurd h (by decide)), by decide⟩
theorem pw_342 : (Cond.code ⟨"MembraneRounds$Worker", "takeAndMake", "(LMembraneRounds$Configuration;ILMembraneRounds$Rule;I)V"⟩ prog_10_method_3_code 6 none : Cond) ∈ lw_gd := lw_gd_in (List.mem_of_getElem? (i := 593) (by decide +kernel)) (by decide +kernel)
theorem pC_120 : gCode pP pN 120 := Or.inl ⟨rfl, pw_342⟩
theorem pNa_120 : gName pP pN 120 := ⟨by decide +kernel, ⟨by decide, by decide⟩, rfl, pw_188, (fun h => absurd h (by decide)), by decide⟩
theorem pw_343 : (Cond.code ⟨"MembraneRounds$Worker", "splitAll", "(LMembraneRounds$Configuration;)Z"⟩ prog_10_method_4_code 5 (some .boolean) : Cond) ∈ lw_gd := lw_gd_in (List.mem_of_getElem? (i := 599) (by decide +kernel)) (by decide +kernel)
theorem pC_121 : gCode pP pN 121 := Or.inl ⟨rfl, pw_343⟩
theorem pNa_121 : gName pP pN 121 := ⟨by decide +kernel, ⟨by decide, by decide⟩, rfl, pw_188, (fun h => absurd h (by decide)), by decide⟩
theorem pw_344 : (Cond.code ⟨"MembraneRounds$Worker", "meltAll", "(LMembraneRounds$Configuration;)V"⟩ prog_10_method_5_code 4 none : Cond) ∈ lw_gd := lw_gd_in (List.mem_of_getElem? (i := 605) (by decide +kernel)) (by decide +kernel)
theorem pC_122 : gCode pP pN 122 := Or.inl ⟨rfl, pw_344⟩
theorem pNa_122 : gName pP pN 122 := ⟨by decide +kernel, ⟨by decide, by decide⟩, rfl, pw_188, (fun h => absurd h (by decide)), by decide⟩
theorem pw_345 : (Cond.code ⟨"MembraneRounds$Worker", "melt", "(LMembraneRounds$Configuration;I)V"⟩ prog_10_method_6_code 4 none : Cond) ∈ lw_gd := lw_gd_in (List.mem_of_getElem? (i := 608) (by decide +kernel)) (by decide +kernel)
theorem pC_123 : gCode pP pN 123 := Or.inl ⟨rfl, pw_345⟩
theorem pNa_123 : gName pP pN 123 := ⟨by decide +kernel, ⟨by decide, by decide⟩, rfl, pw_188, (fun h => absurd h (by decide)), by decide⟩
theorem pw_346 : (Cond.codeWith ⟨"MembraneRoundsLaw", "clear", "(LMembraneRounds;I)I"⟩ method_3_code 3 (some .int) [(0, 5, 8, 13)] : Cond) ∈ lw_gd := lw_gd_in (List.mem_of_getElem? (i := 331) (by decide +kernel)) (by decide +kernel)
theorem pC_124 : gCode pP pN 124 := Or.inr ⟨by decide, _, pw_346⟩
theorem pw_347 : (Cond.initialized "MembraneRoundsLaw" : Cond) ∈ lw_gd := lw_gd_in (List.mem_of_getElem? (i := 42) (by decide +kernel)) (by decide +kernel)
theorem pNa_124 : gName pP pN 124 := ⟨by decide +kernel, ⟨by decide, by decide⟩, rfl, pw_347, (fun h => absurd h (by decide)), by decide⟩
theorem pw_348 : (Cond.codeWith ⟨"MembraneRoundsLaw", "membrane", "(LMembraneRounds;II[J)I"⟩ method_4_code 5 (some .int) [(0, 10, 13, 19), (0, 10, 17, 13), (0, 10, 21, 21)] : Cond) ∈ lw_gd := lw_gd_in (List.mem_of_getElem? (i := 410) (by decide +kernel)) (by decide +kernel)
theorem pC_125 : gCode pP pN 125 := Or.inr ⟨by decide, _, pw_348⟩
theorem pNa_125 : gName pP pN 125 := ⟨by decide +kernel, ⟨by decide, by decide⟩, rfl, pw_347, (fun h => absurd h (by decide)), by decide⟩
theorem pw_349 : (Cond.codeWith ⟨"MembraneRoundsLaw", "put", "(LMembraneRounds;II)I"⟩ method_5_code 4 (some .int) [(0, 6, 9, 19), (0, 6, 12, 13), (0, 6, 15, 21)] : Cond) ∈ lw_gd := lw_gd_in (List.mem_of_getElem? (i := 460) (by decide +kernel)) (by decide +kernel)
theorem pC_126 : gCode pP pN 126 := Or.inr ⟨by decide, _, pw_349⟩
theorem pNa_126 : gName pP pN 126 := ⟨by decide +kernel, ⟨by decide, by decide⟩, rfl, pw_347, (fun h => absurd h (by decide)), by decide⟩
theorem pw_350 : (Cond.codeWith ⟨"MembraneRoundsLaw", "rule", "(LMembraneRounds;IIII[J)I"⟩ method_6_code 7 (some .int) [(0, 14, 17, 13), (0, 14, 21, 21)] : Cond) ∈ lw_gd := lw_gd_in (List.mem_of_getElem? (i := 483) (by decide +kernel)) (by decide +kernel)
theorem pC_127 : gCode pP pN 127 := Or.inr ⟨by decide, _, pw_350⟩
theorem pNa_127 : gName pP pN 127 := ⟨by decide +kernel, ⟨by decide, by decide⟩, rfl, pw_347, (fun h => absurd h (by decide)), by decide⟩
theorem pw_351 : (Cond.codeWith ⟨"MembraneRoundsLaw", "into", "(LMembraneRounds;III)I"⟩ method_7_code 5 (some .int) [(0, 7, 10, 19), (0, 7, 14, 13)] : Cond) ∈ lw_gd := lw_gd_in (List.mem_of_getElem? (i := 503) (by decide +kernel)) (by decide +kernel)
theorem pC_128 : gCode pP pN 128 := Or.inr ⟨by decide, _, pw_351⟩
theorem pNa_128 : gName pP pN 128 := ⟨by decide +kernel, ⟨by decide, by decide⟩, rfl, pw_347, (fun h => absurd h (by decide)), by decide⟩
theorem pw_352 : (Cond.codeWith ⟨"MembraneRoundsLaw", "dissolve", "(LMembraneRounds;I)I"⟩ method_8_code 3 (some .int) [(0, 5, 8, 19), (0, 5, 11, 21)] : Cond) ∈ lw_gd := lw_gd_in (List.mem_of_getElem? (i := 515) (by decide +kernel)) (by decide +kernel)
theorem pC_129 : gCode pP pN 129 := Or.inr ⟨by decide, _, pw_352⟩
theorem pNa_129 : gName pP pN 129 := ⟨by decide +kernel, ⟨by decide, by decide⟩, rfl, pw_347, (fun h => absurd h (by decide)), by decide⟩
theorem pw_353 : (Cond.codeWith ⟨"MembraneRoundsLaw", "divide", "(LMembraneRounds;II)I"⟩ method_9_code 4 (some .int) [(0, 6, 9, 19), (0, 6, 12, 13), (0, 6, 15, 21)] : Cond) ∈ lw_gd := lw_gd_in (List.mem_of_getElem? (i := 531) (by decide +kernel)) (by decide +kernel)
theorem pC_130 : gCode pP pN 130 := Or.inr ⟨by decide, _, pw_353⟩
theorem pNa_130 : gName pP pN 130 := ⟨by decide +kernel, ⟨by decide, by decide⟩, rfl, pw_347, (fun h => absurd h (by decide)), by decide⟩
theorem pw_354 : (Cond.codeWith ⟨"MembraneRoundsLaw", "round", "(LMembraneRounds;[J)I"⟩ method_10_code 3 (some .int) [(0, 8, 11, 21)] : Cond) ∈ lw_gd := lw_gd_in (List.mem_of_getElem? (i := 538) (by decide +kernel)) (by decide +kernel)
theorem pC_131 : gCode pP pN 131 := Or.inr ⟨by decide, _, pw_354⟩
theorem pNa_131 : gName pP pN 131 := ⟨by decide +kernel, ⟨by decide, by decide⟩, rfl, pw_347, (fun h => absurd h (by decide)), by decide⟩
theorem pw_355 : (Cond.codeWith ⟨"MembraneRoundsLaw", "uses", "(LMembraneRounds;II[J)I"⟩ method_11_code 5 (some .int) [(0, 10, 13, 19)] : Cond) ∈ lw_gd := lw_gd_in (List.mem_of_getElem? (i := 620) (by decide +kernel)) (by decide +kernel)
theorem pC_132 : gCode pP pN 132 := Or.inr ⟨by decide, _, pw_355⟩
theorem pNa_132 : gName pP pN 132 := ⟨by decide +kernel, ⟨by decide, by decide⟩, rfl, pw_347, (fun h => absurd h (by decide)), by decide⟩
theorem pw_356 : (Cond.codeWith ⟨"MembraneRoundsLaw", "choices", "(LMembraneRounds;I[J)I"⟩ method_12_code 4 (some .int) [(0, 9, 12, 19)] : Cond) ∈ lw_gd := lw_gd_in (List.mem_of_getElem? (i := 628) (by decide +kernel)) (by decide +kernel)
theorem pC_133 : gCode pP pN 133 := Or.inr ⟨by decide, _, pw_356⟩
theorem pNa_133 : gName pP pN 133 := ⟨by decide +kernel, ⟨by decide, by decide⟩, rfl, pw_347, (fun h => absurd h (by decide)), by decide⟩
theorem pw_357 : (Cond.codeWith ⟨"MembraneRoundsLaw", "at", "(LMembraneRounds;II[J)I"⟩ method_13_code 5 (some .int) [(0, 10, 13, 19), (0, 10, 17, 13)] : Cond) ∈ lw_gd := lw_gd_in (List.mem_of_getElem? (i := 655) (by decide +kernel)) (by decide +kernel)
theorem pC_134 : gCode pP pN 134 := Or.inr ⟨by decide, _, pw_357⟩
theorem pNa_134 : gName pP pN 134 := ⟨by decide +kernel, ⟨by decide, by decide⟩, rfl, pw_347, (fun h => absurd h (by decide)), by decide⟩
theorem pw_358 : (Cond.codeWith ⟨"MembraneRoundsLaw", "outside", "(LMembraneRounds;I[J)I"⟩ method_14_code 4 (some .int) [(0, 9, 12, 19)] : Cond) ∈ lw_gd := lw_gd_in (List.mem_of_getElem? (i := 668) (by decide +kernel)) (by decide +kernel)
theorem pC_135 : gCode pP pN 135 := Or.inr ⟨by decide, _, pw_358⟩
theorem pNa_135 : gName pP pN 135 := ⟨by decide +kernel, ⟨by decide, by decide⟩, rfl, pw_347, (fun h => absurd h (by decide)), by decide⟩
theorem pw_359 : (Cond.codeWith ⟨"MembraneRoundsLaw", "outcomes", "(LMembraneRounds;I[J)I"⟩ method_15_code 4 (some .int) [(0, 9, 12, 13)] : Cond) ∈ lw_gd := lw_gd_in (List.mem_of_getElem? (i := 676) (by decide +kernel)) (by decide +kernel)
theorem pC_136 : gCode pP pN 136 := Or.inr ⟨by decide, _, pw_359⟩
theorem pNa_136 : gName pP pN 136 := ⟨by decide +kernel, ⟨by decide, by decide⟩, rfl, pw_347, (fun h => absurd h (by decide)), by decide⟩
theorem pw_360 : (Cond.codeWith ⟨"MembraneRoundsLaw", "outcome", "(LMembraneRounds;III[J)I"⟩ method_16_code 6 (some .int) [(0, 12, 15, 19), (0, 12, 19, 13)] : Cond) ∈ lw_gd := lw_gd_in (List.mem_of_getElem? (i := 711) (by decide +kernel)) (by decide +kernel)
theorem pC_137 : gCode pP pN 137 := Or.inr ⟨by decide, _, pw_360⟩
theorem pNa_137 : gName pP pN 137 := ⟨by decide +kernel, ⟨by decide, by decide⟩, rfl, pw_347, (fun h => absurd h (by decide)), by decide⟩
theorem pw_361 : (Cond.codeWith ⟨"MembraneRoundsLaw", "adopt", "(LMembraneRounds;I)I"⟩ method_17_code 3 (some .int) [(0, 5, 8, 19)] : Cond) ∈ lw_gd := lw_gd_in (List.mem_of_getElem? (i := 723) (by decide +kernel)) (by decide +kernel)
theorem pC_138 : gCode pP pN 138 := Or.inr ⟨by decide, _, pw_361⟩
theorem pNa_138 : gName pP pN 138 := ⟨by decide +kernel, ⟨by decide, by decide⟩, rfl, pw_347, (fun h => absurd h (by decide)), by decide⟩
def pmML : List (Nat × Nat × Nat × Nat × Nat) := [(0, 3, (3, 0, 1)), (0, 11, (2, 112, 1)), (0, 18, (2, 79, 1)), (0, 25, (2, 118, 1)), (0, 32, (2, 105, 1)), (0, 39, (2, 114, 1)), (0, 50, (2, 89, 1)), (0, 58, (1, 90, 2)), (0, 62, (0, 21, 1)), (0, 70, (1, 18, 2)), (0, 73, (1, 96, 1)), (0, 84, (1, 91, 5)), (0, 88, (0, 22, 1)), (0, 95, (0, 100, 1)), (0, 103, (0, 103, 2)), (0, 109, (0, 23, 1)), (0, 114, (1, 113, 5)), (0, 118, (1, 19, 2)), (0, 134, (1, 25, 2)), (0, 147, (1, 80, 4)), (0, 151, (0, 78, 1)), (0, 157, (1, 93, 2)), (0, 161, (1, 119, 4)), (0, 167, (0, 77, 2)), (0, 171, (1, 81, 4)), (0, 173, (5, 0, 2)), (0, 178, (0, 24, 2)), (0, 188, (1, 97, 2)), (0, 191, (0, 101, 2)), (0, 194, (1, 95, 2)), (0, 208, (1, 106, 2)), (0, 211, (1, 107, 4)), (0, 215, (1, 20, 2)), (0, 224, (1, 115, 3)), (0, 240, (1, 110, 1)), (1, 1, (3, 0, 1)), (1, 61, (1, 34, 2)), (1, 69, (1, 29, 4)), (1, 73, (1, 30, 5)), (1, 83, (0, 28, 2)), (1, 87, (1, 31, 3)), (1, 91, (1, 38, 2)), (1, 95, (0, 41, 1)), (1, 99, (1, 35, 5)), (1, 102, (1, 44, 2)), (1, 109, (1, 37, 4)), (1, 112, (1, 36, 3)), (1, 115, (1, 49, 2)), (1, 118, (0, 52, 2)), (1, 121, (1, 48, 3)), (1, 125, (1, 50, 4)), (1, 128, (1, 51, 3)), (1, 131, (1, 53, 1)), (1, 135, (1, 56, 5)), (1, 139, (1, 57, 4)), (1, 146, (1, 32, 3)), (1, 149, (0, 54, 2)), (1, 152, (1, 60, 2)), (1, 155, (1, 55, 3)), (1, 158, (1, 59, 2)), (1, 161, (1, 58, 4)), (1, 167, (1, 33, 3)), (1, 170, (1, 67, 1)), (1, 174, (1, 68, 2)), (1, 186, (1, 72, 2)), (1, 189, (1, 73, 2)), (1, 192, (1, 74, 3)), (2, 3, (3, 0, 1)), (2, 27, (1, 85, 4)), (2, 41, (1, 111, 3)), (2, 49, (1, 110, 1)), (2, 56, (0, 76, 3)), (2, 65, (1, 84, 4)), (2, 71, (5, 0, 2)), (2, 77, (1, 87, 5)), (2, 95, (0, 86, 3)), (2, 103, (1, 97, 2)), (2, 113, (1, 98, 3)), (2, 116, (1, 88, 4)), (2, 123, (0, 102, 2)), (3, 3, (3, 0, 1)), (3, 22, (1, 92, 2)), (3, 26, (1, 91, 5)), (3, 30, (6, 0, 5)), (3, 40, (0, 103, 2)), (4, 3, (3, 0, 1)), (4, 20, (2, 89, 1)), (4, 29, (1, 93, 2)), (4, 37, (1, 82, 3)), (4, 43, (1, 83, 2)), (4, 47, (1, 119, 4)), (4, 53, (1, 108, 2)), (4, 57, (1, 94, 2)), (5, 3, (3, 0, 1)), (5, 22, (1, 110, 1)), (5, 30, (0, 102, 2)), (6, 3, (3, 0, 1)), (6, 17, (2, 109, 2)), (6, 31, (0, 104, 1)), (7, 3, (3, 0, 1)), (7, 19, (1, 116, 4)), (7, 29, (1, 117, 2)), (7, 37, (0, 101, 2)), (8, 3, (3, 0, 1)), (8, 23, (0, 77, 2)), (8, 32, (1, 120, 5)), (8, 36, (1, 121, 2)), (8, 40, (1, 122, 2)), (8, 44, (1, 99, 1)), (8, 78, (1, 98, 3)), (8, 81, (1, 110, 1)), (8, 84, (1, 96, 1)), (8, 94, (1, 91, 5)), (8, 101, (0, 123, 2)), (8, 105, (1, 92, 2)), (12, 11, (0, 77, 2)), (13, 15, (0, 102, 2)), (13, 19, (0, 101, 2)), (14, 7, (1, 1, 2)), (14, 15, (1, 2, 3)), (14, 23, (1, 3, 3)), (14, 27, (1, 4, 5)), (14, 31, (1, 5, 4)), (14, 35, (1, 6, 2)), (14, 38, (1, 7, 3)), (14, 41, (1, 8, 1)), (14, 45, (1, 9, 3)), (14, 48, (1, 10, 2)), (14, 52, (1, 11, 3)), (14, 55, (1, 13, 2)), (14, 58, (1, 14, 2)), (14, 61, (1, 15, 4)), (14, 65, (1, 16, 2)), (14, 68, (2, 0, 1)), (14, 71, (2, 26, 1)), (14, 72, (0, 124, 2)), (14, 77, (1, 39, 2)), (14, 78, (1, 27, 1)), (14, 81, (0, 125, 4)), (14, 84, (1, 40, 3)), (14, 85, (0, 126, 3)), (14, 88, (1, 42, 3)), (14, 89, (0, 127, 6)), (14, 92, (1, 43, 5)), (14, 93, (0, 128, 4)), (14, 96, (1, 45, 4)), (14, 97, (0, 129, 2)), (14, 99, (1, 46, 2)), (14, 100, (0, 130, 3)), (14, 102, (1, 47, 3)), (14, 103, (0, 131, 2)), (14, 106, (1, 61, 1)), (14, 107, (0, 132, 4)), (14, 109, (1, 62, 3)), (14, 110, (0, 133, 3)), (14, 113, (1, 63, 2)), (14, 114, (0, 134, 4)), (14, 116, (1, 64, 3)), (14, 117, (1, 12, 2)), (14, 121, (1, 65, 2)), (14, 122, (0, 135, 3)), (14, 124, (1, 66, 2)), (14, 125, (0, 136, 3)), (14, 127, (1, 69, 2)), (14, 128, (0, 137, 5)), (14, 131, (1, 70, 4)), (14, 132, (0, 138, 2)), (14, 134, (1, 71, 2)), (14, 135, (1, 17, 2)), (14, 138, (1, 75, 2))]
theorem pmM_mem : ∀ o, o < 16 → ∀ i, i < 512 → (match pMth o i with | none => true | some v => decide ((o, i, v) ∈ pmML)) = true := by decide +kernel
theorem pmM_in {o i : Nat} {v : Nat × Nat × Nat} (h : pMth o i = some v) : (o, i, v) ∈ pmML := by
  obtain ⟨h1, h2, -⟩ := eB2_some (show eB2 o i _ = some _ from h)
  have h3 := pmM_mem o h1 i h2
  rw [h] at h3
  simpa using h3
def pMQ (z : Nat × Nat × Nat × Nat × Nat) : Prop := 
  (z.2.2.1 < 3 → gCode pP pN z.2.2.2.1 ∧ gName pP pN z.2.2.2.1) ∧ (z.2.2.1 < 2 → Cond.methodLink (pN.cn z.1) z.2.1 (pN.mn z.2.2.2.1) ∈ lw_gd) ∧
  (z.2.2.1 = 0 → Cond.static (pN.mn z.2.2.2.1) ∈ lw_gd ∧ (parseMethodDescriptor (pN.mn z.2.2.2.1).desc).map (fun d => d.parameters.length) = some z.2.2.2.2) ∧
  (z.2.2.1 = 1 → Cond.instanceMethod (pN.mn z.2.2.2.1) ∈ lw_gd ∧ Cond.selects (pN.mn z.2.2.2.1).cls (pN.mn z.2.2.2.1) (pN.mn z.2.2.2.1) ∈ lw_gd ∧ eHs pP z.2.2.2.1 = [] ∧ (parseMethodDescriptor (pN.mn z.2.2.2.1).desc).map (fun d => d.parameters.length + 1) = some z.2.2.2.2) ∧
  (z.2.2.1 = 2 → Cond.instanceMethod (pN.mn z.2.2.2.1) ∈ lw_gd ∧ (pN.mn z.2.2.2.1).name = "<init>" ∧ pP.ini z.2.2.2.1 = true ∧ eHs pP z.2.2.2.1 = [] ∧ eRt pP z.2.2.2.1 = none ∧ (parseMethodDescriptor (pN.mn z.2.2.2.1).desc).map (fun d => d.parameters.length + 1) = some z.2.2.2.2) ∧
  (z.2.2.1 = 3 → z.2.2.2.2 = 1 ∧ Cond.methodLink (pN.cn z.1) z.2.1 Lib.objectInit ∈ lw_gd ∧ Cond.instanceMethod Lib.objectInit ∈ lw_gd ∧ Cond.code Lib.objectInit ⟨#[0xb1]⟩ 1 none ∈ lw_gd) ∧
  (z.2.2.1 = 5 → z.2.2.2.2 = 2 ∧ Cond.methodLink (pN.cn z.1) z.2.1 Lib.Math.min.name ∈ lw_gd ∧ Cond.static Lib.Math.min.name ∈ lw_gd ∧ Cond.initialized "java/lang/Math" ∈ lw_gd ∧ Cond.code Lib.Math.min.name Lib.Math.min.code 2 (some .int) ∈ lw_gd) ∧
  (z.2.2.1 = 6 → z.2.2.2.2 = 5 ∧ Cond.methodLink (pN.cn z.1) z.2.1 arraycopyName ∈ lw_gd ∧ Cond.native arraycopyName ∈ lw_gd ∧ Cond.static arraycopyName ∈ lw_gd ∧ Cond.initialized "java/lang/System" ∈ lw_gd)
theorem pw_362 : (Cond.methodLink "MembraneRounds" 3 Lib.objectInit : Cond) ∈ lw_gd := lw_gd_in (List.mem_of_getElem? (i := 67) (by decide +kernel)) (by decide +kernel)
theorem pw_363 : (Cond.instanceMethod Lib.objectInit : Cond) ∈ lw_gd := lw_gd_in (List.mem_of_getElem? (i := 68) (by decide +kernel)) (by decide +kernel)
theorem pw_364 : (Cond.code Lib.objectInit ⟨#[0xb1]⟩ 1 none : Cond) ∈ lw_gd := lw_gd_in (List.mem_of_getElem? (i := 69) (by decide +kernel)) (by decide +kernel)
theorem pmE_0 : pMQ (0, 3, (3, 0, 1)) := ⟨fun h => absurd h (by decide), fun h => absurd h (by decide), fun h => absurd h (by decide), fun h => absurd h (by decide), fun h => absurd h (by decide), fun _ => ⟨rfl, pw_362, pw_363, pw_364⟩, fun h => absurd h (by decide), fun h => absurd h (by decide)⟩
theorem pw_365 : (Cond.instanceMethod ⟨"MembraneRounds$RuleBook", "<init>", "()V"⟩ : Cond) ∈ lw_gd := lw_gd_in (List.mem_of_getElem? (i := 73) (by decide +kernel)) (by decide +kernel)
theorem pmE_1 : pMQ (0, 11, (2, 112, 1)) := ⟨fun _ => ⟨pC_112, pNa_112⟩, fun h => absurd h (by decide), fun h => absurd h (by decide), fun h => absurd h (by decide), fun _ => ⟨pw_365, rfl, rfl, rfl, rfl, by decide +kernel⟩, fun h => absurd h (by decide), fun h => absurd h (by decide), fun h => absurd h (by decide)⟩
theorem pw_366 : (Cond.instanceMethod ⟨"MembraneRounds$Chooser", "<init>", "()V"⟩ : Cond) ∈ lw_gd := lw_gd_in (List.mem_of_getElem? (i := 157) (by decide +kernel)) (by decide +kernel)
theorem pmE_2 : pMQ (0, 18, (2, 79, 1)) := ⟨fun _ => ⟨pC_79, pNa_79⟩, fun h => absurd h (by decide), fun h => absurd h (by decide), fun h => absurd h (by decide), fun _ => ⟨pw_366, rfl, rfl, rfl, rfl, by decide +kernel⟩, fun h => absurd h (by decide), fun h => absurd h (by decide), fun h => absurd h (by decide)⟩
theorem pw_367 : (Cond.instanceMethod ⟨"MembraneRounds$Worker", "<init>", "()V"⟩ : Cond) ∈ lw_gd := lw_gd_in (List.mem_of_getElem? (i := 187) (by decide +kernel)) (by decide +kernel)
theorem pmE_3 : pMQ (0, 25, (2, 118, 1)) := ⟨fun _ => ⟨pC_118, pNa_118⟩, fun h => absurd h (by decide), fun h => absurd h (by decide), fun h => absurd h (by decide), fun _ => ⟨pw_367, rfl, rfl, rfl, rfl, by decide +kernel⟩, fun h => absurd h (by decide), fun h => absurd h (by decide), fun h => absurd h (by decide)⟩
theorem pw_368 : (Cond.instanceMethod ⟨"MembraneRounds$Judge", "<init>", "()V"⟩ : Cond) ∈ lw_gd := lw_gd_in (List.mem_of_getElem? (i := 198) (by decide +kernel)) (by decide +kernel)
theorem pmE_4 : pMQ (0, 32, (2, 105, 1)) := ⟨fun _ => ⟨pC_105, pNa_105⟩, fun h => absurd h (by decide), fun h => absurd h (by decide), fun h => absurd h (by decide), fun _ => ⟨pw_368, rfl, rfl, rfl, rfl, by decide +kernel⟩, fun h => absurd h (by decide), fun h => absurd h (by decide), fun h => absurd h (by decide)⟩
theorem pw_369 : (Cond.instanceMethod ⟨"MembraneRounds$Scribe", "<init>", "()V"⟩ : Cond) ∈ lw_gd := lw_gd_in (List.mem_of_getElem? (i := 251) (by decide +kernel)) (by decide +kernel)
theorem pmE_5 : pMQ (0, 39, (2, 114, 1)) := ⟨fun _ => ⟨pC_114, pNa_114⟩, fun h => absurd h (by decide), fun h => absurd h (by decide), fun h => absurd h (by decide), fun _ => ⟨pw_369, rfl, rfl, rfl, rfl, by decide +kernel⟩, fun h => absurd h (by decide), fun h => absurd h (by decide), fun h => absurd h (by decide)⟩
theorem pw_370 : (Cond.instanceMethod ⟨"MembraneRounds$Configuration", "<init>", "()V"⟩ : Cond) ∈ lw_gd := lw_gd_in (List.mem_of_getElem? (i := 205) (by decide +kernel)) (by decide +kernel)
theorem pmE_6 : pMQ (0, 50, (2, 89, 1)) := ⟨fun _ => ⟨pC_89, pNa_89⟩, fun h => absurd h (by decide), fun h => absurd h (by decide), fun h => absurd h (by decide), fun _ => ⟨pw_370, rfl, rfl, rfl, rfl, by decide +kernel⟩, fun h => absurd h (by decide), fun h => absurd h (by decide), fun h => absurd h (by decide)⟩
theorem pw_371 : (Cond.methodLink "MembraneRounds" 58 ⟨"MembraneRounds$Configuration", "reset", "(I)V"⟩ : Cond) ∈ lw_gd := lw_gd_in (List.mem_of_getElem? (i := 264) (by decide +kernel)) (by decide +kernel)
theorem pw_372 : (Cond.instanceMethod ⟨"MembraneRounds$Configuration", "reset", "(I)V"⟩ : Cond) ∈ lw_gd := lw_gd_in (List.mem_of_getElem? (i := 265) (by decide +kernel)) (by decide +kernel)
theorem pw_373 : (Cond.selects "MembraneRounds$Configuration" ⟨"MembraneRounds$Configuration", "reset", "(I)V"⟩ ⟨"MembraneRounds$Configuration", "reset", "(I)V"⟩ : Cond) ∈ lw_gd := lw_gd_in (List.mem_of_getElem? (i := 266) (by decide +kernel)) (by decide +kernel)
theorem pmE_7 : pMQ (0, 58, (1, 90, 2)) := ⟨fun _ => ⟨pC_90, pNa_90⟩, fun _ => pw_371, fun h => absurd h (by decide), fun _ => ⟨pw_372, pw_373, rfl, by decide +kernel⟩, fun h => absurd h (by decide), fun h => absurd h (by decide), fun h => absurd h (by decide), fun h => absurd h (by decide)⟩
theorem pw_374 : (Cond.methodLink "MembraneRounds" 62 ⟨"MembraneRounds", "checkLabel", "(I)V"⟩ : Cond) ∈ lw_gd := lw_gd_in (List.mem_of_getElem? (i := 337) (by decide +kernel)) (by decide +kernel)
theorem pw_375 : (Cond.static ⟨"MembraneRounds", "checkLabel", "(I)V"⟩ : Cond) ∈ lw_gd := lw_gd_in (List.mem_of_getElem? (i := 338) (by decide +kernel)) (by decide +kernel)
theorem pmE_8 : pMQ (0, 62, (0, 21, 1)) := ⟨fun _ => ⟨pC_21, pNa_21⟩, fun _ => pw_374, fun _ => ⟨pw_375, by decide +kernel⟩, fun h => absurd h (by decide), fun h => absurd h (by decide), fun h => absurd h (by decide), fun h => absurd h (by decide), fun h => absurd h (by decide)⟩
theorem pw_376 : (Cond.methodLink "MembraneRounds" 70 ⟨"MembraneRounds", "checkMembrane", "(I)V"⟩ : Cond) ∈ lw_gd := lw_gd_in (List.mem_of_getElem? (i := 417) (by decide +kernel)) (by decide +kernel)
theorem pw_377 : (Cond.instanceMethod ⟨"MembraneRounds", "checkMembrane", "(I)V"⟩ : Cond) ∈ lw_gd := lw_gd_in (List.mem_of_getElem? (i := 419) (by decide +kernel)) (by decide +kernel)
theorem pw_378 : (Cond.selects "MembraneRounds" ⟨"MembraneRounds", "checkMembrane", "(I)V"⟩ ⟨"MembraneRounds", "checkMembrane", "(I)V"⟩ : Cond) ∈ lw_gd := lw_gd_in (List.mem_of_getElem? (i := 3) (by decide +kernel)) (by decide +kernel)
theorem pmE_9 : pMQ (0, 70, (1, 18, 2)) := ⟨fun _ => ⟨pC_18, pNa_18⟩, fun _ => pw_376, fun h => absurd h (by decide), fun _ => ⟨pw_377, pw_378, rfl, by decide +kernel⟩, fun h => absurd h (by decide), fun h => absurd h (by decide), fun h => absurd h (by decide), fun h => absurd h (by decide)⟩
theorem pw_379 : (Cond.methodLink "MembraneRounds" 73 ⟨"MembraneRounds$Configuration", "leastFree", "()I"⟩ : Cond) ∈ lw_gd := lw_gd_in (List.mem_of_getElem? (i := 437) (by decide +kernel)) (by decide +kernel)
theorem pw_380 : (Cond.instanceMethod ⟨"MembraneRounds$Configuration", "leastFree", "()I"⟩ : Cond) ∈ lw_gd := lw_gd_in (List.mem_of_getElem? (i := 438) (by decide +kernel)) (by decide +kernel)
theorem pw_381 : (Cond.selects "MembraneRounds$Configuration" ⟨"MembraneRounds$Configuration", "leastFree", "()I"⟩ ⟨"MembraneRounds$Configuration", "leastFree", "()I"⟩ : Cond) ∈ lw_gd := lw_gd_in (List.mem_of_getElem? (i := 439) (by decide +kernel)) (by decide +kernel)
theorem pmE_10 : pMQ (0, 73, (1, 96, 1)) := ⟨fun _ => ⟨pC_96, pNa_96⟩, fun _ => pw_379, fun h => absurd h (by decide), fun _ => ⟨pw_380, pw_381, rfl, by decide +kernel⟩, fun h => absurd h (by decide), fun h => absurd h (by decide), fun h => absurd h (by decide), fun h => absurd h (by decide)⟩
theorem pw_382 : (Cond.methodLink "MembraneRounds" 84 ⟨"MembraneRounds$Configuration", "open", "(IIIJ)V"⟩ : Cond) ∈ lw_gd := lw_gd_in (List.mem_of_getElem? (i := 457) (by decide +kernel)) (by decide +kernel)
theorem pw_383 : (Cond.instanceMethod ⟨"MembraneRounds$Configuration", "open", "(IIIJ)V"⟩ : Cond) ∈ lw_gd := lw_gd_in (List.mem_of_getElem? (i := 273) (by decide +kernel)) (by decide +kernel)
theorem pw_384 : (Cond.selects "MembraneRounds$Configuration" ⟨"MembraneRounds$Configuration", "open", "(IIIJ)V"⟩ ⟨"MembraneRounds$Configuration", "open", "(IIIJ)V"⟩ : Cond) ∈ lw_gd := lw_gd_in (List.mem_of_getElem? (i := 274) (by decide +kernel)) (by decide +kernel)
theorem pmE_11 : pMQ (0, 84, (1, 91, 5)) := ⟨fun _ => ⟨pC_91, pNa_91⟩, fun _ => pw_382, fun h => absurd h (by decide), fun _ => ⟨pw_383, pw_384, rfl, by decide +kernel⟩, fun h => absurd h (by decide), fun h => absurd h (by decide), fun h => absurd h (by decide), fun h => absurd h (by decide)⟩
theorem pw_385 : (Cond.methodLink "MembraneRounds" 88 ⟨"MembraneRounds", "checkHandful", "(I)V"⟩ : Cond) ∈ lw_gd := lw_gd_in (List.mem_of_getElem? (i := 465) (by decide +kernel)) (by decide +kernel)
theorem pw_386 : (Cond.static ⟨"MembraneRounds", "checkHandful", "(I)V"⟩ : Cond) ∈ lw_gd := lw_gd_in (List.mem_of_getElem? (i := 466) (by decide +kernel)) (by decide +kernel)
theorem pmE_12 : pMQ (0, 88, (0, 22, 1)) := ⟨fun _ => ⟨pC_22, pNa_22⟩, fun _ => pw_385, fun _ => ⟨pw_386, by decide +kernel⟩, fun h => absurd h (by decide), fun h => absurd h (by decide), fun h => absurd h (by decide), fun h => absurd h (by decide), fun h => absurd h (by decide)⟩
theorem pw_387 : (Cond.methodLink "MembraneRounds" 95 ⟨"MembraneRounds$Heap", "ofHandful", "(I)J"⟩ : Cond) ∈ lw_gd := lw_gd_in (List.mem_of_getElem? (i := 469) (by decide +kernel)) (by decide +kernel)
theorem pw_388 : (Cond.static ⟨"MembraneRounds$Heap", "ofHandful", "(I)J"⟩ : Cond) ∈ lw_gd := lw_gd_in (List.mem_of_getElem? (i := 470) (by decide +kernel)) (by decide +kernel)
theorem pmE_13 : pMQ (0, 95, (0, 100, 1)) := ⟨fun _ => ⟨pC_100, pNa_100⟩, fun _ => pw_387, fun _ => ⟨pw_388, by decide +kernel⟩, fun h => absurd h (by decide), fun h => absurd h (by decide), fun h => absurd h (by decide), fun h => absurd h (by decide), fun h => absurd h (by decide)⟩
theorem pw_389 : (Cond.methodLink "MembraneRounds" 103 ⟨"MembraneRounds$Heap", "within", "(JJ)Z"⟩ : Cond) ∈ lw_gd := lw_gd_in (List.mem_of_getElem? (i := 473) (by decide +kernel)) (by decide +kernel)
theorem pw_390 : (Cond.static ⟨"MembraneRounds$Heap", "within", "(JJ)Z"⟩ : Cond) ∈ lw_gd := lw_gd_in (List.mem_of_getElem? (i := 474) (by decide +kernel)) (by decide +kernel)
theorem pmE_14 : pMQ (0, 103, (0, 103, 2)) := ⟨fun _ => ⟨pC_103, pNa_103⟩, fun _ => pw_389, fun _ => ⟨pw_390, by decide +kernel⟩, fun h => absurd h (by decide), fun h => absurd h (by decide), fun h => absurd h (by decide), fun h => absurd h (by decide), fun h => absurd h (by decide)⟩
theorem pw_391 : (Cond.methodLink "MembraneRounds" 109 ⟨"MembraneRounds", "checkNotEmpty", "(I)V"⟩ : Cond) ∈ lw_gd := lw_gd_in (List.mem_of_getElem? (i := 488) (by decide +kernel)) (by decide +kernel)
theorem pw_392 : (Cond.static ⟨"MembraneRounds", "checkNotEmpty", "(I)V"⟩ : Cond) ∈ lw_gd := lw_gd_in (List.mem_of_getElem? (i := 489) (by decide +kernel)) (by decide +kernel)
theorem pmE_15 : pMQ (0, 109, (0, 23, 1)) := ⟨fun _ => ⟨pC_23, pNa_23⟩, fun _ => pw_391, fun _ => ⟨pw_392, by decide +kernel⟩, fun h => absurd h (by decide), fun h => absurd h (by decide), fun h => absurd h (by decide), fun h => absurd h (by decide), fun h => absurd h (by decide)⟩
theorem pw_393 : (Cond.methodLink "MembraneRounds" 114 ⟨"MembraneRounds$RuleBook", "add", "(IJJJ)I"⟩ : Cond) ∈ lw_gd := lw_gd_in (List.mem_of_getElem? (i := 493) (by decide +kernel)) (by decide +kernel)
theorem pw_394 : (Cond.instanceMethod ⟨"MembraneRounds$RuleBook", "add", "(IJJJ)I"⟩ : Cond) ∈ lw_gd := lw_gd_in (List.mem_of_getElem? (i := 494) (by decide +kernel)) (by decide +kernel)
theorem pw_395 : (Cond.selects "MembraneRounds$RuleBook" ⟨"MembraneRounds$RuleBook", "add", "(IJJJ)I"⟩ ⟨"MembraneRounds$RuleBook", "add", "(IJJJ)I"⟩ : Cond) ∈ lw_gd := lw_gd_in (List.mem_of_getElem? (i := 495) (by decide +kernel)) (by decide +kernel)
theorem pmE_16 : pMQ (0, 114, (1, 113, 5)) := ⟨fun _ => ⟨pC_113, pNa_113⟩, fun _ => pw_393, fun h => absurd h (by decide), fun _ => ⟨pw_394, pw_395, rfl, by decide +kernel⟩, fun h => absurd h (by decide), fun h => absurd h (by decide), fun h => absurd h (by decide), fun h => absurd h (by decide)⟩
theorem pw_396 : (Cond.methodLink "MembraneRounds" 118 ⟨"MembraneRounds", "checkRule", "(I)V"⟩ : Cond) ∈ lw_gd := lw_gd_in (List.mem_of_getElem? (i := 508) (by decide +kernel)) (by decide +kernel)
theorem pw_397 : (Cond.instanceMethod ⟨"MembraneRounds", "checkRule", "(I)V"⟩ : Cond) ∈ lw_gd := lw_gd_in (List.mem_of_getElem? (i := 510) (by decide +kernel)) (by decide +kernel)
theorem pw_398 : (Cond.selects "MembraneRounds" ⟨"MembraneRounds", "checkRule", "(I)V"⟩ ⟨"MembraneRounds", "checkRule", "(I)V"⟩ : Cond) ∈ lw_gd := lw_gd_in (List.mem_of_getElem? (i := 4) (by decide +kernel)) (by decide +kernel)
theorem pmE_17 : pMQ (0, 118, (1, 19, 2)) := ⟨fun _ => ⟨pC_19, pNa_19⟩, fun _ => pw_396, fun h => absurd h (by decide), fun _ => ⟨pw_397, pw_398, rfl, by decide +kernel⟩, fun h => absurd h (by decide), fun h => absurd h (by decide), fun h => absurd h (by decide), fun h => absurd h (by decide)⟩
theorem pw_399 : (Cond.methodLink "MembraneRounds" 134 ⟨"MembraneRounds", "checkEndsNothing", "(I)V"⟩ : Cond) ∈ lw_gd := lw_gd_in (List.mem_of_getElem? (i := 520) (by decide +kernel)) (by decide +kernel)
theorem pw_400 : (Cond.instanceMethod ⟨"MembraneRounds", "checkEndsNothing", "(I)V"⟩ : Cond) ∈ lw_gd := lw_gd_in (List.mem_of_getElem? (i := 522) (by decide +kernel)) (by decide +kernel)
theorem pw_401 : (Cond.selects "MembraneRounds" ⟨"MembraneRounds", "checkEndsNothing", "(I)V"⟩ ⟨"MembraneRounds", "checkEndsNothing", "(I)V"⟩ : Cond) ∈ lw_gd := lw_gd_in (List.mem_of_getElem? (i := 5) (by decide +kernel)) (by decide +kernel)
theorem pmE_18 : pMQ (0, 134, (1, 25, 2)) := ⟨fun _ => ⟨pC_25, pNa_25⟩, fun _ => pw_399, fun h => absurd h (by decide), fun _ => ⟨pw_400, pw_401, rfl, by decide +kernel⟩, fun h => absurd h (by decide), fun h => absurd h (by decide), fun h => absurd h (by decide), fun h => absurd h (by decide)⟩
theorem pw_402 : (Cond.methodLink "MembraneRounds" 147 ⟨"MembraneRounds$Chooser", "machineChoice", "(LMembraneRounds$RuleBook;LMembraneRounds$Configuration;I)I"⟩ : Cond) ∈ lw_gd := lw_gd_in (List.mem_of_getElem? (i := 543) (by decide +kernel)) (by decide +kernel)
theorem pw_403 : (Cond.instanceMethod ⟨"MembraneRounds$Chooser", "machineChoice", "(LMembraneRounds$RuleBook;LMembraneRounds$Configuration;I)I"⟩ : Cond) ∈ lw_gd := lw_gd_in (List.mem_of_getElem? (i := 544) (by decide +kernel)) (by decide +kernel)
theorem pw_404 : (Cond.selects "MembraneRounds$Chooser" ⟨"MembraneRounds$Chooser", "machineChoice", "(LMembraneRounds$RuleBook;LMembraneRounds$Configuration;I)I"⟩ ⟨"MembraneRounds$Chooser", "machineChoice", "(LMembraneRounds$RuleBook;LMembraneRounds$Configuration;I)I"⟩ : Cond) ∈ lw_gd := lw_gd_in (List.mem_of_getElem? (i := 545) (by decide +kernel)) (by decide +kernel)
theorem pmE_19 : pMQ (0, 147, (1, 80, 4)) := ⟨fun _ => ⟨pC_80, pNa_80⟩, fun _ => pw_402, fun h => absurd h (by decide), fun _ => ⟨pw_403, pw_404, rfl, by decide +kernel⟩, fun h => absurd h (by decide), fun h => absurd h (by decide), fun h => absurd h (by decide), fun h => absurd h (by decide)⟩
theorem pw_405 : (Cond.methodLink "MembraneRounds" 151 ⟨"MembraneRounds$Choice", "usesTogether", "(I)I"⟩ : Cond) ∈ lw_gd := lw_gd_in (List.mem_of_getElem? (i := 572) (by decide +kernel)) (by decide +kernel)
theorem pw_406 : (Cond.static ⟨"MembraneRounds$Choice", "usesTogether", "(I)I"⟩ : Cond) ∈ lw_gd := lw_gd_in (List.mem_of_getElem? (i := 573) (by decide +kernel)) (by decide +kernel)
theorem pmE_20 : pMQ (0, 151, (0, 78, 1)) := ⟨fun _ => ⟨pC_78, pNa_78⟩, fun _ => pw_405, fun _ => ⟨pw_406, by decide +kernel⟩, fun h => absurd h (by decide), fun h => absurd h (by decide), fun h => absurd h (by decide), fun h => absurd h (by decide), fun h => absurd h (by decide)⟩
theorem pw_407 : (Cond.methodLink "MembraneRounds" 157 ⟨"MembraneRounds$Configuration", "copy", "(LMembraneRounds$Configuration;)V"⟩ : Cond) ∈ lw_gd := lw_gd_in (List.mem_of_getElem? (i := 578) (by decide +kernel)) (by decide +kernel)
theorem pw_408 : (Cond.instanceMethod ⟨"MembraneRounds$Configuration", "copy", "(LMembraneRounds$Configuration;)V"⟩ : Cond) ∈ lw_gd := lw_gd_in (List.mem_of_getElem? (i := 579) (by decide +kernel)) (by decide +kernel)
theorem pw_409 : (Cond.selects "MembraneRounds$Configuration" ⟨"MembraneRounds$Configuration", "copy", "(LMembraneRounds$Configuration;)V"⟩ ⟨"MembraneRounds$Configuration", "copy", "(LMembraneRounds$Configuration;)V"⟩ : Cond) ∈ lw_gd := lw_gd_in (List.mem_of_getElem? (i := 580) (by decide +kernel)) (by decide +kernel)
theorem pmE_21 : pMQ (0, 157, (1, 93, 2)) := ⟨fun _ => ⟨pC_93, pNa_93⟩, fun _ => pw_407, fun h => absurd h (by decide), fun _ => ⟨pw_408, pw_409, rfl, by decide +kernel⟩, fun h => absurd h (by decide), fun h => absurd h (by decide), fun h => absurd h (by decide), fun h => absurd h (by decide)⟩
theorem pw_410 : (Cond.methodLink "MembraneRounds" 161 ⟨"MembraneRounds$Worker", "carryOut", "(LMembraneRounds$RuleBook;LMembraneRounds$Configuration;[I)Z"⟩ : Cond) ∈ lw_gd := lw_gd_in (List.mem_of_getElem? (i := 585) (by decide +kernel)) (by decide +kernel)
theorem pw_411 : (Cond.instanceMethod ⟨"MembraneRounds$Worker", "carryOut", "(LMembraneRounds$RuleBook;LMembraneRounds$Configuration;[I)Z"⟩ : Cond) ∈ lw_gd := lw_gd_in (List.mem_of_getElem? (i := 586) (by decide +kernel)) (by decide +kernel)
theorem pw_412 : (Cond.selects "MembraneRounds$Worker" ⟨"MembraneRounds$Worker", "carryOut", "(LMembraneRounds$RuleBook;LMembraneRounds$Configuration;[I)Z"⟩ ⟨"MembraneRounds$Worker", "carryOut", "(LMembraneRounds$RuleBook;LMembraneRounds$Configuration;[I)Z"⟩ : Cond) ∈ lw_gd := lw_gd_in (List.mem_of_getElem? (i := 587) (by decide +kernel)) (by decide +kernel)
theorem pmE_22 : pMQ (0, 161, (1, 119, 4)) := ⟨fun _ => ⟨pC_119, pNa_119⟩, fun _ => pw_410, fun h => absurd h (by decide), fun _ => ⟨pw_411, pw_412, rfl, by decide +kernel⟩, fun h => absurd h (by decide), fun h => absurd h (by decide), fun h => absurd h (by decide), fun h => absurd h (by decide)⟩
theorem pw_413 : (Cond.methodLink "MembraneRounds" 167 ⟨"MembraneRounds$Choice", "usesOf", "(II)I"⟩ : Cond) ∈ lw_gd := lw_gd_in (List.mem_of_getElem? (i := 625) (by decide +kernel)) (by decide +kernel)
theorem pw_414 : (Cond.static ⟨"MembraneRounds$Choice", "usesOf", "(II)I"⟩ : Cond) ∈ lw_gd := lw_gd_in (List.mem_of_getElem? (i := 576) (by decide +kernel)) (by decide +kernel)
theorem pmE_23 : pMQ (0, 167, (0, 77, 2)) := ⟨fun _ => ⟨pC_77, pNa_77⟩, fun _ => pw_413, fun _ => ⟨pw_414, by decide +kernel⟩, fun h => absurd h (by decide), fun h => absurd h (by decide), fun h => absurd h (by decide), fun h => absurd h (by decide), fun h => absurd h (by decide)⟩
theorem pw_415 : (Cond.methodLink "MembraneRounds" 171 ⟨"MembraneRounds$Chooser", "count", "(LMembraneRounds$RuleBook;LMembraneRounds$Configuration;I)I"⟩ : Cond) ∈ lw_gd := lw_gd_in (List.mem_of_getElem? (i := 633) (by decide +kernel)) (by decide +kernel)
theorem pw_416 : (Cond.instanceMethod ⟨"MembraneRounds$Chooser", "count", "(LMembraneRounds$RuleBook;LMembraneRounds$Configuration;I)I"⟩ : Cond) ∈ lw_gd := lw_gd_in (List.mem_of_getElem? (i := 634) (by decide +kernel)) (by decide +kernel)
theorem pw_417 : (Cond.selects "MembraneRounds$Chooser" ⟨"MembraneRounds$Chooser", "count", "(LMembraneRounds$RuleBook;LMembraneRounds$Configuration;I)I"⟩ ⟨"MembraneRounds$Chooser", "count", "(LMembraneRounds$RuleBook;LMembraneRounds$Configuration;I)I"⟩ : Cond) ∈ lw_gd := lw_gd_in (List.mem_of_getElem? (i := 635) (by decide +kernel)) (by decide +kernel)
theorem pmE_24 : pMQ (0, 171, (1, 81, 4)) := ⟨fun _ => ⟨pC_81, pNa_81⟩, fun _ => pw_415, fun h => absurd h (by decide), fun _ => ⟨pw_416, pw_417, rfl, by decide +kernel⟩, fun h => absurd h (by decide), fun h => absurd h (by decide), fun h => absurd h (by decide), fun h => absurd h (by decide)⟩
theorem pw_418 : (Cond.methodLink "MembraneRounds" 173 Lib.Math.min.name : Cond) ∈ lw_gd := lw_gd_in (List.mem_of_getElem? (i := 650) (by decide +kernel)) (by decide +kernel)
theorem pw_419 : (Cond.static Lib.Math.min.name : Cond) ∈ lw_gd := lw_gd_in (List.mem_of_getElem? (i := 651) (by decide +kernel)) (by decide +kernel)
theorem pw_420 : (Cond.initialized "java/lang/Math" : Cond) ∈ lw_gd := lw_gd_in (List.mem_of_getElem? (i := 61) (by decide +kernel)) (by decide +kernel)
theorem pw_421 : (Cond.code Lib.Math.min.name Lib.Math.min.code 2 (some .int) : Cond) ∈ lw_gd := lw_gd_in (List.mem_of_getElem? (i := 652) (by decide +kernel)) (by decide +kernel)
theorem pmE_25 : pMQ (0, 173, (5, 0, 2)) := ⟨fun h => absurd h (by decide), fun h => absurd h (by decide), fun h => absurd h (by decide), fun h => absurd h (by decide), fun h => absurd h (by decide), fun h => absurd h (by decide), fun _ => ⟨rfl, pw_418, pw_419, pw_420, pw_421⟩, fun h => absurd h (by decide)⟩
theorem pw_422 : (Cond.methodLink "MembraneRounds" 178 ⟨"MembraneRounds", "checkWhat", "(II)V"⟩ : Cond) ∈ lw_gd := lw_gd_in (List.mem_of_getElem? (i := 660) (by decide +kernel)) (by decide +kernel)
theorem pw_423 : (Cond.static ⟨"MembraneRounds", "checkWhat", "(II)V"⟩ : Cond) ∈ lw_gd := lw_gd_in (List.mem_of_getElem? (i := 661) (by decide +kernel)) (by decide +kernel)
theorem pmE_26 : pMQ (0, 178, (0, 24, 2)) := ⟨fun _ => ⟨pC_24, pNa_24⟩, fun _ => pw_422, fun _ => ⟨pw_423, by decide +kernel⟩, fun h => absurd h (by decide), fun h => absurd h (by decide), fun h => absurd h (by decide), fun h => absurd h (by decide), fun h => absurd h (by decide)⟩
theorem pw_424 : (Cond.methodLink "MembraneRounds" 188 ⟨"MembraneRounds$Configuration", "countChildren", "(I)I"⟩ : Cond) ∈ lw_gd := lw_gd_in (List.mem_of_getElem? (i := 664) (by decide +kernel)) (by decide +kernel)
theorem pw_425 : (Cond.instanceMethod ⟨"MembraneRounds$Configuration", "countChildren", "(I)I"⟩ : Cond) ∈ lw_gd := lw_gd_in (List.mem_of_getElem? (i := 556) (by decide +kernel)) (by decide +kernel)
theorem pw_426 : (Cond.selects "MembraneRounds$Configuration" ⟨"MembraneRounds$Configuration", "countChildren", "(I)I"⟩ ⟨"MembraneRounds$Configuration", "countChildren", "(I)I"⟩ : Cond) ∈ lw_gd := lw_gd_in (List.mem_of_getElem? (i := 557) (by decide +kernel)) (by decide +kernel)
theorem pmE_27 : pMQ (0, 188, (1, 97, 2)) := ⟨fun _ => ⟨pC_97, pNa_97⟩, fun _ => pw_424, fun h => absurd h (by decide), fun _ => ⟨pw_425, pw_426, rfl, by decide +kernel⟩, fun h => absurd h (by decide), fun h => absurd h (by decide), fun h => absurd h (by decide), fun h => absurd h (by decide)⟩
theorem pw_427 : (Cond.methodLink "MembraneRounds" 191 ⟨"MembraneRounds$Heap", "count", "(JI)I"⟩ : Cond) ∈ lw_gd := lw_gd_in (List.mem_of_getElem? (i := 665) (by decide +kernel)) (by decide +kernel)
theorem pw_428 : (Cond.static ⟨"MembraneRounds$Heap", "count", "(JI)I"⟩ : Cond) ∈ lw_gd := lw_gd_in (List.mem_of_getElem? (i := 326) (by decide +kernel)) (by decide +kernel)
theorem pmE_28 : pMQ (0, 191, (0, 101, 2)) := ⟨fun _ => ⟨pC_101, pNa_101⟩, fun _ => pw_427, fun _ => ⟨pw_428, by decide +kernel⟩, fun h => absurd h (by decide), fun h => absurd h (by decide), fun h => absurd h (by decide), fun h => absurd h (by decide), fun h => absurd h (by decide)⟩
theorem pw_429 : (Cond.methodLink "MembraneRounds" 194 ⟨"MembraneRounds$Configuration", "has", "(I)Z"⟩ : Cond) ∈ lw_gd := lw_gd_in (List.mem_of_getElem? (i := 305) (by decide +kernel)) (by decide +kernel)
theorem pw_430 : (Cond.instanceMethod ⟨"MembraneRounds$Configuration", "has", "(I)Z"⟩ : Cond) ∈ lw_gd := lw_gd_in (List.mem_of_getElem? (i := 306) (by decide +kernel)) (by decide +kernel)
theorem pw_431 : (Cond.selects "MembraneRounds$Configuration" ⟨"MembraneRounds$Configuration", "has", "(I)Z"⟩ ⟨"MembraneRounds$Configuration", "has", "(I)Z"⟩ : Cond) ∈ lw_gd := lw_gd_in (List.mem_of_getElem? (i := 307) (by decide +kernel)) (by decide +kernel)
theorem pmE_29 : pMQ (0, 194, (1, 95, 2)) := ⟨fun _ => ⟨pC_95, pNa_95⟩, fun _ => pw_429, fun h => absurd h (by decide), fun _ => ⟨pw_430, pw_431, rfl, by decide +kernel⟩, fun h => absurd h (by decide), fun h => absurd h (by decide), fun h => absurd h (by decide), fun h => absurd h (by decide)⟩
theorem pw_432 : (Cond.methodLink "MembraneRounds" 208 ⟨"MembraneRounds$Judge", "begin", "(LMembraneRounds$Configuration;)V"⟩ : Cond) ∈ lw_gd := lw_gd_in (List.mem_of_getElem? (i := 682) (by decide +kernel)) (by decide +kernel)
theorem pw_433 : (Cond.instanceMethod ⟨"MembraneRounds$Judge", "begin", "(LMembraneRounds$Configuration;)V"⟩ : Cond) ∈ lw_gd := lw_gd_in (List.mem_of_getElem? (i := 683) (by decide +kernel)) (by decide +kernel)
theorem pw_434 : (Cond.selects "MembraneRounds$Judge" ⟨"MembraneRounds$Judge", "begin", "(LMembraneRounds$Configuration;)V"⟩ ⟨"MembraneRounds$Judge", "begin", "(LMembraneRounds$Configuration;)V"⟩ : Cond) ∈ lw_gd := lw_gd_in (List.mem_of_getElem? (i := 684) (by decide +kernel)) (by decide +kernel)
theorem pmE_30 : pMQ (0, 208, (1, 106, 2)) := ⟨fun _ => ⟨pC_106, pNa_106⟩, fun _ => pw_432, fun h => absurd h (by decide), fun _ => ⟨pw_433, pw_434, rfl, by decide +kernel⟩, fun h => absurd h (by decide), fun h => absurd h (by decide), fun h => absurd h (by decide), fun h => absurd h (by decide)⟩
theorem pw_435 : (Cond.methodLink "MembraneRounds" 211 ⟨"MembraneRounds$Judge", "goOn", "(LMembraneRounds$RuleBook;LMembraneRounds$Chooser;LMembraneRounds$Worker;)Z"⟩ : Cond) ∈ lw_gd := lw_gd_in (List.mem_of_getElem? (i := 687) (by decide +kernel)) (by decide +kernel)
theorem pw_436 : (Cond.instanceMethod ⟨"MembraneRounds$Judge", "goOn", "(LMembraneRounds$RuleBook;LMembraneRounds$Chooser;LMembraneRounds$Worker;)Z"⟩ : Cond) ∈ lw_gd := lw_gd_in (List.mem_of_getElem? (i := 688) (by decide +kernel)) (by decide +kernel)
theorem pw_437 : (Cond.selects "MembraneRounds$Judge" ⟨"MembraneRounds$Judge", "goOn", "(LMembraneRounds$RuleBook;LMembraneRounds$Chooser;LMembraneRounds$Worker;)Z"⟩ ⟨"MembraneRounds$Judge", "goOn", "(LMembraneRounds$RuleBook;LMembraneRounds$Chooser;LMembraneRounds$Worker;)Z"⟩ : Cond) ∈ lw_gd := lw_gd_in (List.mem_of_getElem? (i := 689) (by decide +kernel)) (by decide +kernel)
theorem pmE_31 : pMQ (0, 211, (1, 107, 4)) := ⟨fun _ => ⟨pC_107, pNa_107⟩, fun _ => pw_435, fun h => absurd h (by decide), fun _ => ⟨pw_436, pw_437, rfl, by decide +kernel⟩, fun h => absurd h (by decide), fun h => absurd h (by decide), fun h => absurd h (by decide), fun h => absurd h (by decide)⟩
theorem pw_438 : (Cond.methodLink "MembraneRounds" 215 ⟨"MembraneRounds", "checkOutcome", "(I)V"⟩ : Cond) ∈ lw_gd := lw_gd_in (List.mem_of_getElem? (i := 716) (by decide +kernel)) (by decide +kernel)
theorem pw_439 : (Cond.instanceMethod ⟨"MembraneRounds", "checkOutcome", "(I)V"⟩ : Cond) ∈ lw_gd := lw_gd_in (List.mem_of_getElem? (i := 718) (by decide +kernel)) (by decide +kernel)
theorem pw_440 : (Cond.selects "MembraneRounds" ⟨"MembraneRounds", "checkOutcome", "(I)V"⟩ ⟨"MembraneRounds", "checkOutcome", "(I)V"⟩ : Cond) ∈ lw_gd := lw_gd_in (List.mem_of_getElem? (i := 14) (by decide +kernel)) (by decide +kernel)
theorem pmE_32 : pMQ (0, 215, (1, 20, 2)) := ⟨fun _ => ⟨pC_20, pNa_20⟩, fun _ => pw_438, fun h => absurd h (by decide), fun _ => ⟨pw_439, pw_440, rfl, by decide +kernel⟩, fun h => absurd h (by decide), fun h => absurd h (by decide), fun h => absurd h (by decide), fun h => absurd h (by decide)⟩
theorem pw_441 : (Cond.methodLink "MembraneRounds" 224 ⟨"MembraneRounds$Scribe", "character", "(LMembraneRounds$Configuration;I)I"⟩ : Cond) ∈ lw_gd := lw_gd_in (List.mem_of_getElem? (i := 313) (by decide +kernel)) (by decide +kernel)
theorem pw_442 : (Cond.instanceMethod ⟨"MembraneRounds$Scribe", "character", "(LMembraneRounds$Configuration;I)I"⟩ : Cond) ∈ lw_gd := lw_gd_in (List.mem_of_getElem? (i := 314) (by decide +kernel)) (by decide +kernel)
theorem pw_443 : (Cond.selects "MembraneRounds$Scribe" ⟨"MembraneRounds$Scribe", "character", "(LMembraneRounds$Configuration;I)I"⟩ ⟨"MembraneRounds$Scribe", "character", "(LMembraneRounds$Configuration;I)I"⟩ : Cond) ∈ lw_gd := lw_gd_in (List.mem_of_getElem? (i := 315) (by decide +kernel)) (by decide +kernel)
theorem pmE_33 : pMQ (0, 224, (1, 115, 3)) := ⟨fun _ => ⟨pC_115, pNa_115⟩, fun _ => pw_441, fun h => absurd h (by decide), fun _ => ⟨pw_442, pw_443, rfl, by decide +kernel⟩, fun h => absurd h (by decide), fun h => absurd h (by decide), fun h => absurd h (by decide), fun h => absurd h (by decide)⟩
theorem pw_444 : (Cond.methodLink "MembraneRounds" 240 ⟨"MembraneRounds$Rule", "isOnce", "()Z"⟩ : Cond) ∈ lw_gd := lw_gd_in (List.mem_of_getElem? (i := 524) (by decide +kernel)) (by decide +kernel)
theorem pw_445 : (Cond.instanceMethod ⟨"MembraneRounds$Rule", "isOnce", "()Z"⟩ : Cond) ∈ lw_gd := lw_gd_in (List.mem_of_getElem? (i := 525) (by decide +kernel)) (by decide +kernel)
theorem pw_446 : (Cond.selects "MembraneRounds$Rule" ⟨"MembraneRounds$Rule", "isOnce", "()Z"⟩ ⟨"MembraneRounds$Rule", "isOnce", "()Z"⟩ : Cond) ∈ lw_gd := lw_gd_in (List.mem_of_getElem? (i := 526) (by decide +kernel)) (by decide +kernel)
theorem pmE_34 : pMQ (0, 240, (1, 110, 1)) := ⟨fun _ => ⟨pC_110, pNa_110⟩, fun _ => pw_444, fun h => absurd h (by decide), fun _ => ⟨pw_445, pw_446, rfl, by decide +kernel⟩, fun h => absurd h (by decide), fun h => absurd h (by decide), fun h => absurd h (by decide), fun h => absurd h (by decide)⟩
theorem pw_447 : (Cond.methodLink "MembraneRoundsModel" 1 Lib.objectInit : Cond) ∈ lw_gd := lw_gd_in (List.mem_of_getElem? (i := 733) (by decide +kernel)) (by decide +kernel)
theorem pmE_35 : pMQ (1, 1, (3, 0, 1)) := ⟨fun h => absurd h (by decide), fun h => absurd h (by decide), fun h => absurd h (by decide), fun h => absurd h (by decide), fun h => absurd h (by decide), fun _ => ⟨rfl, pw_447, pw_363, pw_364⟩, fun h => absurd h (by decide), fun h => absurd h (by decide)⟩
theorem pw_448 : (Cond.methodLink "MembraneRoundsModel" 61 ⟨"MembraneRoundsModel", "empty", "(I)V"⟩ : Cond) ∈ lw_gd := lw_gd_in (List.mem_of_getElem? (i := 734) (by decide +kernel)) (by decide +kernel)
theorem pw_449 : (Cond.instanceMethod ⟨"MembraneRoundsModel", "empty", "(I)V"⟩ : Cond) ∈ lw_gd := lw_gd_in (List.mem_of_getElem? (i := 736) (by decide +kernel)) (by decide +kernel)
theorem pw_450 : (Cond.selects "MembraneRoundsModel" ⟨"MembraneRoundsModel", "empty", "(I)V"⟩ ⟨"MembraneRoundsModel", "empty", "(I)V"⟩ : Cond) ∈ lw_gd := lw_gd_in (List.mem_of_getElem? (i := 15) (by decide +kernel)) (by decide +kernel)
theorem pmE_36 : pMQ (1, 61, (1, 34, 2)) := ⟨fun _ => ⟨pC_34, pNa_34⟩, fun _ => pw_448, fun h => absurd h (by decide), fun _ => ⟨pw_449, pw_450, rfl, by decide +kernel⟩, fun h => absurd h (by decide), fun h => absurd h (by decide), fun h => absurd h (by decide), fun h => absurd h (by decide)⟩
theorem pw_451 : (Cond.methodLink "MembraneRoundsModel" 69 ⟨"MembraneRoundsModel", "cell", "(III)I"⟩ : Cond) ∈ lw_gd := lw_gd_in (List.mem_of_getElem? (i := 841) (by decide +kernel)) (by decide +kernel)
theorem pw_452 : (Cond.instanceMethod ⟨"MembraneRoundsModel", "cell", "(III)I"⟩ : Cond) ∈ lw_gd := lw_gd_in (List.mem_of_getElem? (i := 843) (by decide +kernel)) (by decide +kernel)
theorem pw_453 : (Cond.selects "MembraneRoundsModel" ⟨"MembraneRoundsModel", "cell", "(III)I"⟩ ⟨"MembraneRoundsModel", "cell", "(III)I"⟩ : Cond) ∈ lw_gd := lw_gd_in (List.mem_of_getElem? (i := 19) (by decide +kernel)) (by decide +kernel)
theorem pmE_37 : pMQ (1, 69, (1, 29, 4)) := ⟨fun _ => ⟨pC_29, pNa_29⟩, fun _ => pw_451, fun h => absurd h (by decide), fun _ => ⟨pw_452, pw_453, rfl, by decide +kernel⟩, fun h => absurd h (by decide), fun h => absurd h (by decide), fun h => absurd h (by decide), fun h => absurd h (by decide)⟩
theorem pw_454 : (Cond.methodLink "MembraneRoundsModel" 73 ⟨"MembraneRoundsModel", "set", "(IIII)V"⟩ : Cond) ∈ lw_gd := lw_gd_in (List.mem_of_getElem? (i := 738) (by decide +kernel)) (by decide +kernel)
theorem pw_455 : (Cond.instanceMethod ⟨"MembraneRoundsModel", "set", "(IIII)V"⟩ : Cond) ∈ lw_gd := lw_gd_in (List.mem_of_getElem? (i := 740) (by decide +kernel)) (by decide +kernel)
theorem pw_456 : (Cond.selects "MembraneRoundsModel" ⟨"MembraneRoundsModel", "set", "(IIII)V"⟩ ⟨"MembraneRoundsModel", "set", "(IIII)V"⟩ : Cond) ∈ lw_gd := lw_gd_in (List.mem_of_getElem? (i := 16) (by decide +kernel)) (by decide +kernel)
theorem pmE_38 : pMQ (1, 73, (1, 30, 5)) := ⟨fun _ => ⟨pC_30, pNa_30⟩, fun _ => pw_454, fun h => absurd h (by decide), fun _ => ⟨pw_455, pw_456, rfl, by decide +kernel⟩, fun h => absurd h (by decide), fun h => absurd h (by decide), fun h => absurd h (by decide), fun h => absurd h (by decide)⟩
theorem pw_457 : (Cond.methodLink "MembraneRoundsModel" 83 ⟨"MembraneRoundsModel", "of", "(II)I"⟩ : Cond) ∈ lw_gd := lw_gd_in (List.mem_of_getElem? (i := 852) (by decide +kernel)) (by decide +kernel)
theorem pw_458 : (Cond.static ⟨"MembraneRoundsModel", "of", "(II)I"⟩ : Cond) ∈ lw_gd := lw_gd_in (List.mem_of_getElem? (i := 853) (by decide +kernel)) (by decide +kernel)
theorem pmE_39 : pMQ (1, 83, (0, 28, 2)) := ⟨fun _ => ⟨pC_28, pNa_28⟩, fun _ => pw_457, fun _ => ⟨pw_458, by decide +kernel⟩, fun h => absurd h (by decide), fun h => absurd h (by decide), fun h => absurd h (by decide), fun h => absurd h (by decide), fun h => absurd h (by decide)⟩
theorem pw_459 : (Cond.methodLink "MembraneRoundsModel" 87 ⟨"MembraneRoundsModel", "has", "(II)Z"⟩ : Cond) ∈ lw_gd := lw_gd_in (List.mem_of_getElem? (i := 837) (by decide +kernel)) (by decide +kernel)
theorem pw_460 : (Cond.instanceMethod ⟨"MembraneRoundsModel", "has", "(II)Z"⟩ : Cond) ∈ lw_gd := lw_gd_in (List.mem_of_getElem? (i := 839) (by decide +kernel)) (by decide +kernel)
theorem pw_461 : (Cond.selects "MembraneRoundsModel" ⟨"MembraneRoundsModel", "has", "(II)Z"⟩ ⟨"MembraneRoundsModel", "has", "(II)Z"⟩ : Cond) ∈ lw_gd := lw_gd_in (List.mem_of_getElem? (i := 18) (by decide +kernel)) (by decide +kernel)
theorem pmE_40 : pMQ (1, 87, (1, 31, 3)) := ⟨fun _ => ⟨pC_31, pNa_31⟩, fun _ => pw_459, fun h => absurd h (by decide), fun _ => ⟨pw_460, pw_461, rfl, by decide +kernel⟩, fun h => absurd h (by decide), fun h => absurd h (by decide), fun h => absurd h (by decide), fun h => absurd h (by decide)⟩
theorem pw_462 : (Cond.methodLink "MembraneRoundsModel" 91 ⟨"MembraneRoundsModel", "free", "(I)I"⟩ : Cond) ∈ lw_gd := lw_gd_in (List.mem_of_getElem? (i := 833) (by decide +kernel)) (by decide +kernel)
theorem pw_463 : (Cond.instanceMethod ⟨"MembraneRoundsModel", "free", "(I)I"⟩ : Cond) ∈ lw_gd := lw_gd_in (List.mem_of_getElem? (i := 835) (by decide +kernel)) (by decide +kernel)
theorem pw_464 : (Cond.selects "MembraneRoundsModel" ⟨"MembraneRoundsModel", "free", "(I)I"⟩ ⟨"MembraneRoundsModel", "free", "(I)I"⟩ : Cond) ∈ lw_gd := lw_gd_in (List.mem_of_getElem? (i := 17) (by decide +kernel)) (by decide +kernel)
theorem pmE_41 : pMQ (1, 91, (1, 38, 2)) := ⟨fun _ => ⟨pC_38, pNa_38⟩, fun _ => pw_462, fun h => absurd h (by decide), fun _ => ⟨pw_463, pw_464, rfl, by decide +kernel⟩, fun h => absurd h (by decide), fun h => absurd h (by decide), fun h => absurd h (by decide), fun h => absurd h (by decide)⟩
theorem pw_465 : (Cond.methodLink "MembraneRoundsModel" 95 ⟨"MembraneRoundsModel", "noHandful", "(I)Z"⟩ : Cond) ∈ lw_gd := lw_gd_in (List.mem_of_getElem? (i := 849) (by decide +kernel)) (by decide +kernel)
theorem pw_466 : (Cond.static ⟨"MembraneRoundsModel", "noHandful", "(I)Z"⟩ : Cond) ∈ lw_gd := lw_gd_in (List.mem_of_getElem? (i := 850) (by decide +kernel)) (by decide +kernel)
theorem pmE_42 : pMQ (1, 95, (0, 41, 1)) := ⟨fun _ => ⟨pC_41, pNa_41⟩, fun _ => pw_465, fun _ => ⟨pw_466, by decide +kernel⟩, fun h => absurd h (by decide), fun h => absurd h (by decide), fun h => absurd h (by decide), fun h => absurd h (by decide), fun h => absurd h (by decide)⟩
theorem pw_467 : (Cond.methodLink "MembraneRoundsModel" 99 ⟨"MembraneRoundsModel", "give", "(IIII)V"⟩ : Cond) ∈ lw_gd := lw_gd_in (List.mem_of_getElem? (i := 855) (by decide +kernel)) (by decide +kernel)
theorem pw_468 : (Cond.instanceMethod ⟨"MembraneRoundsModel", "give", "(IIII)V"⟩ : Cond) ∈ lw_gd := lw_gd_in (List.mem_of_getElem? (i := 857) (by decide +kernel)) (by decide +kernel)
theorem pw_469 : (Cond.selects "MembraneRoundsModel" ⟨"MembraneRoundsModel", "give", "(IIII)V"⟩ ⟨"MembraneRoundsModel", "give", "(IIII)V"⟩ : Cond) ∈ lw_gd := lw_gd_in (List.mem_of_getElem? (i := 20) (by decide +kernel)) (by decide +kernel)
theorem pmE_43 : pMQ (1, 99, (1, 35, 5)) := ⟨fun _ => ⟨pC_35, pNa_35⟩, fun _ => pw_467, fun h => absurd h (by decide), fun _ => ⟨pw_468, pw_469, rfl, by decide +kernel⟩, fun h => absurd h (by decide), fun h => absurd h (by decide), fun h => absurd h (by decide), fun h => absurd h (by decide)⟩
theorem pw_470 : (Cond.methodLink "MembraneRoundsModel" 102 ⟨"MembraneRoundsModel", "noRule", "(I)Z"⟩ : Cond) ∈ lw_gd := lw_gd_in (List.mem_of_getElem? (i := 867) (by decide +kernel)) (by decide +kernel)
theorem pw_471 : (Cond.instanceMethod ⟨"MembraneRoundsModel", "noRule", "(I)Z"⟩ : Cond) ∈ lw_gd := lw_gd_in (List.mem_of_getElem? (i := 869) (by decide +kernel)) (by decide +kernel)
theorem pw_472 : (Cond.selects "MembraneRoundsModel" ⟨"MembraneRoundsModel", "noRule", "(I)Z"⟩ ⟨"MembraneRoundsModel", "noRule", "(I)Z"⟩ : Cond) ∈ lw_gd := lw_gd_in (List.mem_of_getElem? (i := 21) (by decide +kernel)) (by decide +kernel)
theorem pmE_44 : pMQ (1, 102, (1, 44, 2)) := ⟨fun _ => ⟨pC_44, pNa_44⟩, fun _ => pw_470, fun h => absurd h (by decide), fun _ => ⟨pw_471, pw_472, rfl, by decide +kernel⟩, fun h => absurd h (by decide), fun h => absurd h (by decide), fun h => absurd h (by decide), fun h => absurd h (by decide)⟩
theorem pw_473 : (Cond.methodLink "MembraneRoundsModel" 109 ⟨"MembraneRoundsModel", "childOf", "(III)I"⟩ : Cond) ∈ lw_gd := lw_gd_in (List.mem_of_getElem? (i := 895) (by decide +kernel)) (by decide +kernel)
theorem pw_474 : (Cond.instanceMethod ⟨"MembraneRoundsModel", "childOf", "(III)I"⟩ : Cond) ∈ lw_gd := lw_gd_in (List.mem_of_getElem? (i := 897) (by decide +kernel)) (by decide +kernel)
theorem pw_475 : (Cond.selects "MembraneRoundsModel" ⟨"MembraneRoundsModel", "childOf", "(III)I"⟩ ⟨"MembraneRoundsModel", "childOf", "(III)I"⟩ : Cond) ∈ lw_gd := lw_gd_in (List.mem_of_getElem? (i := 25) (by decide +kernel)) (by decide +kernel)
theorem pmE_45 : pMQ (1, 109, (1, 37, 4)) := ⟨fun _ => ⟨pC_37, pNa_37⟩, fun _ => pw_473, fun h => absurd h (by decide), fun _ => ⟨pw_474, pw_475, rfl, by decide +kernel⟩, fun h => absurd h (by decide), fun h => absurd h (by decide), fun h => absurd h (by decide), fun h => absurd h (by decide)⟩
theorem pw_476 : (Cond.methodLink "MembraneRoundsModel" 112 ⟨"MembraneRoundsModel", "children", "(II)I"⟩ : Cond) ∈ lw_gd := lw_gd_in (List.mem_of_getElem? (i := 899) (by decide +kernel)) (by decide +kernel)
theorem pw_477 : (Cond.instanceMethod ⟨"MembraneRoundsModel", "children", "(II)I"⟩ : Cond) ∈ lw_gd := lw_gd_in (List.mem_of_getElem? (i := 901) (by decide +kernel)) (by decide +kernel)
theorem pw_478 : (Cond.selects "MembraneRoundsModel" ⟨"MembraneRoundsModel", "children", "(II)I"⟩ ⟨"MembraneRoundsModel", "children", "(II)I"⟩ : Cond) ∈ lw_gd := lw_gd_in (List.mem_of_getElem? (i := 26) (by decide +kernel)) (by decide +kernel)
theorem pmE_46 : pMQ (1, 112, (1, 36, 3)) := ⟨fun _ => ⟨pC_36, pNa_36⟩, fun _ => pw_476, fun h => absurd h (by decide), fun _ => ⟨pw_477, pw_478, rfl, by decide +kernel⟩, fun h => absurd h (by decide), fun h => absurd h (by decide), fun h => absurd h (by decide), fun h => absurd h (by decide)⟩
theorem pw_479 : (Cond.methodLink "MembraneRoundsModel" 115 ⟨"MembraneRoundsModel", "times", "(I)I"⟩ : Cond) ∈ lw_gd := lw_gd_in (List.mem_of_getElem? (i := 903) (by decide +kernel)) (by decide +kernel)
theorem pw_480 : (Cond.instanceMethod ⟨"MembraneRoundsModel", "times", "(I)I"⟩ : Cond) ∈ lw_gd := lw_gd_in (List.mem_of_getElem? (i := 905) (by decide +kernel)) (by decide +kernel)
theorem pw_481 : (Cond.selects "MembraneRoundsModel" ⟨"MembraneRoundsModel", "times", "(I)I"⟩ ⟨"MembraneRoundsModel", "times", "(I)I"⟩ : Cond) ∈ lw_gd := lw_gd_in (List.mem_of_getElem? (i := 27) (by decide +kernel)) (by decide +kernel)
theorem pmE_47 : pMQ (1, 115, (1, 49, 2)) := ⟨fun _ => ⟨pC_49, pNa_49⟩, fun _ => pw_479, fun h => absurd h (by decide), fun _ => ⟨pw_480, pw_481, rfl, by decide +kernel⟩, fun h => absurd h (by decide), fun h => absurd h (by decide), fun h => absurd h (by decide), fun h => absurd h (by decide)⟩
theorem pw_482 : (Cond.methodLink "MembraneRoundsModel" 118 ⟨"MembraneRoundsModel", "packed", "(II)I"⟩ : Cond) ∈ lw_gd := lw_gd_in (List.mem_of_getElem? (i := 915) (by decide +kernel)) (by decide +kernel)
theorem pw_483 : (Cond.static ⟨"MembraneRoundsModel", "packed", "(II)I"⟩ : Cond) ∈ lw_gd := lw_gd_in (List.mem_of_getElem? (i := 916) (by decide +kernel)) (by decide +kernel)
theorem pmE_48 : pMQ (1, 118, (0, 52, 2)) := ⟨fun _ => ⟨pC_52, pNa_52⟩, fun _ => pw_482, fun _ => ⟨pw_483, by decide +kernel⟩, fun h => absurd h (by decide), fun h => absurd h (by decide), fun h => absurd h (by decide), fun h => absurd h (by decide), fun h => absurd h (by decide)⟩
theorem pw_484 : (Cond.methodLink "MembraneRoundsModel" 121 ⟨"MembraneRoundsModel", "begin", "(II)V"⟩ : Cond) ∈ lw_gd := lw_gd_in (List.mem_of_getElem? (i := 887) (by decide +kernel)) (by decide +kernel)
theorem pw_485 : (Cond.instanceMethod ⟨"MembraneRoundsModel", "begin", "(II)V"⟩ : Cond) ∈ lw_gd := lw_gd_in (List.mem_of_getElem? (i := 889) (by decide +kernel)) (by decide +kernel)
theorem pw_486 : (Cond.selects "MembraneRoundsModel" ⟨"MembraneRoundsModel", "begin", "(II)V"⟩ ⟨"MembraneRoundsModel", "begin", "(II)V"⟩ : Cond) ∈ lw_gd := lw_gd_in (List.mem_of_getElem? (i := 23) (by decide +kernel)) (by decide +kernel)
theorem pmE_49 : pMQ (1, 121, (1, 48, 3)) := ⟨fun _ => ⟨pC_48, pNa_48⟩, fun _ => pw_484, fun h => absurd h (by decide), fun _ => ⟨pw_485, pw_486, rfl, by decide +kernel⟩, fun h => absurd h (by decide), fun h => absurd h (by decide), fun h => absurd h (by decide), fun h => absurd h (by decide)⟩
theorem pw_487 : (Cond.methodLink "MembraneRoundsModel" 125 ⟨"MembraneRoundsModel", "allowed", "(III)I"⟩ : Cond) ∈ lw_gd := lw_gd_in (List.mem_of_getElem? (i := 891) (by decide +kernel)) (by decide +kernel)
theorem pw_488 : (Cond.instanceMethod ⟨"MembraneRoundsModel", "allowed", "(III)I"⟩ : Cond) ∈ lw_gd := lw_gd_in (List.mem_of_getElem? (i := 893) (by decide +kernel)) (by decide +kernel)
theorem pw_489 : (Cond.selects "MembraneRoundsModel" ⟨"MembraneRoundsModel", "allowed", "(III)I"⟩ ⟨"MembraneRoundsModel", "allowed", "(III)I"⟩ : Cond) ∈ lw_gd := lw_gd_in (List.mem_of_getElem? (i := 24) (by decide +kernel)) (by decide +kernel)
theorem pmE_50 : pMQ (1, 125, (1, 50, 4)) := ⟨fun _ => ⟨pC_50, pNa_50⟩, fun _ => pw_487, fun h => absurd h (by decide), fun _ => ⟨pw_488, pw_489, rfl, by decide +kernel⟩, fun h => absurd h (by decide), fun h => absurd h (by decide), fun h => absurd h (by decide), fun h => absurd h (by decide)⟩
theorem pw_490 : (Cond.methodLink "MembraneRoundsModel" 128 ⟨"MembraneRoundsModel", "take", "(II)V"⟩ : Cond) ∈ lw_gd := lw_gd_in (List.mem_of_getElem? (i := 907) (by decide +kernel)) (by decide +kernel)
theorem pw_491 : (Cond.instanceMethod ⟨"MembraneRoundsModel", "take", "(II)V"⟩ : Cond) ∈ lw_gd := lw_gd_in (List.mem_of_getElem? (i := 909) (by decide +kernel)) (by decide +kernel)
theorem pw_492 : (Cond.selects "MembraneRoundsModel" ⟨"MembraneRoundsModel", "take", "(II)V"⟩ ⟨"MembraneRoundsModel", "take", "(II)V"⟩ : Cond) ∈ lw_gd := lw_gd_in (List.mem_of_getElem? (i := 28) (by decide +kernel)) (by decide +kernel)
theorem pmE_51 : pMQ (1, 128, (1, 51, 3)) := ⟨fun _ => ⟨pC_51, pNa_51⟩, fun _ => pw_490, fun h => absurd h (by decide), fun _ => ⟨pw_491, pw_492, rfl, by decide +kernel⟩, fun h => absurd h (by decide), fun h => absurd h (by decide), fun h => absurd h (by decide), fun h => absurd h (by decide)⟩
theorem pw_493 : (Cond.methodLink "MembraneRoundsModel" 131 ⟨"MembraneRoundsModel", "pack", "()I"⟩ : Cond) ∈ lw_gd := lw_gd_in (List.mem_of_getElem? (i := 911) (by decide +kernel)) (by decide +kernel)
theorem pw_494 : (Cond.instanceMethod ⟨"MembraneRoundsModel", "pack", "()I"⟩ : Cond) ∈ lw_gd := lw_gd_in (List.mem_of_getElem? (i := 913) (by decide +kernel)) (by decide +kernel)
theorem pw_495 : (Cond.selects "MembraneRoundsModel" ⟨"MembraneRoundsModel", "pack", "()I"⟩ ⟨"MembraneRoundsModel", "pack", "()I"⟩ : Cond) ∈ lw_gd := lw_gd_in (List.mem_of_getElem? (i := 29) (by decide +kernel)) (by decide +kernel)
theorem pmE_52 : pMQ (1, 131, (1, 53, 1)) := ⟨fun _ => ⟨pC_53, pNa_53⟩, fun _ => pw_493, fun h => absurd h (by decide), fun _ => ⟨pw_494, pw_495, rfl, by decide +kernel⟩, fun h => absurd h (by decide), fun h => absurd h (by decide), fun h => absurd h (by decide), fun h => absurd h (by decide)⟩
theorem pw_496 : (Cond.methodLink "MembraneRoundsModel" 135 ⟨"MembraneRoundsModel", "greed", "(IIII)I"⟩ : Cond) ∈ lw_gd := lw_gd_in (List.mem_of_getElem? (i := 949) (by decide +kernel)) (by decide +kernel)
theorem pw_497 : (Cond.instanceMethod ⟨"MembraneRoundsModel", "greed", "(IIII)I"⟩ : Cond) ∈ lw_gd := lw_gd_in (List.mem_of_getElem? (i := 951) (by decide +kernel)) (by decide +kernel)
theorem pw_498 : (Cond.selects "MembraneRoundsModel" ⟨"MembraneRoundsModel", "greed", "(IIII)I"⟩ ⟨"MembraneRoundsModel", "greed", "(IIII)I"⟩ : Cond) ∈ lw_gd := lw_gd_in (List.mem_of_getElem? (i := 35) (by decide +kernel)) (by decide +kernel)
theorem pmE_53 : pMQ (1, 135, (1, 56, 5)) := ⟨fun _ => ⟨pC_56, pNa_56⟩, fun _ => pw_496, fun h => absurd h (by decide), fun _ => ⟨pw_497, pw_498, rfl, by decide +kernel⟩, fun h => absurd h (by decide), fun h => absurd h (by decide), fun h => absurd h (by decide), fun h => absurd h (by decide)⟩
theorem pw_499 : (Cond.methodLink "MembraneRoundsModel" 139 ⟨"MembraneRoundsModel", "stuck", "(III)Z"⟩ : Cond) ∈ lw_gd := lw_gd_in (List.mem_of_getElem? (i := 945) (by decide +kernel)) (by decide +kernel)
theorem pw_500 : (Cond.instanceMethod ⟨"MembraneRoundsModel", "stuck", "(III)Z"⟩ : Cond) ∈ lw_gd := lw_gd_in (List.mem_of_getElem? (i := 947) (by decide +kernel)) (by decide +kernel)
theorem pw_501 : (Cond.selects "MembraneRoundsModel" ⟨"MembraneRoundsModel", "stuck", "(III)Z"⟩ ⟨"MembraneRoundsModel", "stuck", "(III)Z"⟩ : Cond) ∈ lw_gd := lw_gd_in (List.mem_of_getElem? (i := 34) (by decide +kernel)) (by decide +kernel)
theorem pmE_54 : pMQ (1, 139, (1, 57, 4)) := ⟨fun _ => ⟨pC_57, pNa_57⟩, fun _ => pw_499, fun h => absurd h (by decide), fun _ => ⟨pw_500, pw_501, rfl, by decide +kernel⟩, fun h => absurd h (by decide), fun h => absurd h (by decide), fun h => absurd h (by decide), fun h => absurd h (by decide)⟩
theorem pw_502 : (Cond.methodLink "MembraneRoundsModel" 146 ⟨"MembraneRoundsModel", "copy", "(II)V"⟩ : Cond) ∈ lw_gd := lw_gd_in (List.mem_of_getElem? (i := 925) (by decide +kernel)) (by decide +kernel)
theorem pw_503 : (Cond.instanceMethod ⟨"MembraneRoundsModel", "copy", "(II)V"⟩ : Cond) ∈ lw_gd := lw_gd_in (List.mem_of_getElem? (i := 927) (by decide +kernel)) (by decide +kernel)
theorem pw_504 : (Cond.selects "MembraneRoundsModel" ⟨"MembraneRoundsModel", "copy", "(II)V"⟩ ⟨"MembraneRoundsModel", "copy", "(II)V"⟩ : Cond) ∈ lw_gd := lw_gd_in (List.mem_of_getElem? (i := 31) (by decide +kernel)) (by decide +kernel)
theorem pmE_55 : pMQ (1, 146, (1, 32, 3)) := ⟨fun _ => ⟨pC_32, pNa_32⟩, fun _ => pw_502, fun h => absurd h (by decide), fun _ => ⟨pw_503, pw_504, rfl, by decide +kernel⟩, fun h => absurd h (by decide), fun h => absurd h (by decide), fun h => absurd h (by decide), fun h => absurd h (by decide)⟩
theorem pw_505 : (Cond.methodLink "MembraneRoundsModel" 149 ⟨"MembraneRoundsModel", "used", "(II)I"⟩ : Cond) ∈ lw_gd := lw_gd_in (List.mem_of_getElem? (i := 918) (by decide +kernel)) (by decide +kernel)
theorem pw_506 : (Cond.static ⟨"MembraneRoundsModel", "used", "(II)I"⟩ : Cond) ∈ lw_gd := lw_gd_in (List.mem_of_getElem? (i := 919) (by decide +kernel)) (by decide +kernel)
theorem pmE_56 : pMQ (1, 149, (0, 54, 2)) := ⟨fun _ => ⟨pC_54, pNa_54⟩, fun _ => pw_505, fun _ => ⟨pw_506, by decide +kernel⟩, fun h => absurd h (by decide), fun h => absurd h (by decide), fun h => absurd h (by decide), fun h => absurd h (by decide), fun h => absurd h (by decide)⟩
theorem pw_507 : (Cond.methodLink "MembraneRoundsModel" 152 ⟨"MembraneRoundsModel", "melt", "(I)V"⟩ : Cond) ∈ lw_gd := lw_gd_in (List.mem_of_getElem? (i := 929) (by decide +kernel)) (by decide +kernel)
theorem pw_508 : (Cond.instanceMethod ⟨"MembraneRoundsModel", "melt", "(I)V"⟩ : Cond) ∈ lw_gd := lw_gd_in (List.mem_of_getElem? (i := 931) (by decide +kernel)) (by decide +kernel)
theorem pw_509 : (Cond.selects "MembraneRoundsModel" ⟨"MembraneRoundsModel", "melt", "(I)V"⟩ ⟨"MembraneRoundsModel", "melt", "(I)V"⟩ : Cond) ∈ lw_gd := lw_gd_in (List.mem_of_getElem? (i := 32) (by decide +kernel)) (by decide +kernel)
theorem pmE_57 : pMQ (1, 152, (1, 60, 2)) := ⟨fun _ => ⟨pC_60, pNa_60⟩, fun _ => pw_507, fun h => absurd h (by decide), fun _ => ⟨pw_508, pw_509, rfl, by decide +kernel⟩, fun h => absurd h (by decide), fun h => absurd h (by decide), fun h => absurd h (by decide), fun h => absurd h (by decide)⟩
theorem pw_510 : (Cond.methodLink "MembraneRoundsModel" 155 ⟨"MembraneRoundsModel", "greedy", "(II)I"⟩ : Cond) ∈ lw_gd := lw_gd_in (List.mem_of_getElem? (i := 883) (by decide +kernel)) (by decide +kernel)
theorem pw_511 : (Cond.instanceMethod ⟨"MembraneRoundsModel", "greedy", "(II)I"⟩ : Cond) ∈ lw_gd := lw_gd_in (List.mem_of_getElem? (i := 885) (by decide +kernel)) (by decide +kernel)
theorem pw_512 : (Cond.selects "MembraneRoundsModel" ⟨"MembraneRoundsModel", "greedy", "(II)I"⟩ ⟨"MembraneRoundsModel", "greedy", "(II)I"⟩ : Cond) ∈ lw_gd := lw_gd_in (List.mem_of_getElem? (i := 22) (by decide +kernel)) (by decide +kernel)
theorem pmE_58 : pMQ (1, 155, (1, 55, 3)) := ⟨fun _ => ⟨pC_55, pNa_55⟩, fun _ => pw_510, fun h => absurd h (by decide), fun _ => ⟨pw_511, pw_512, rfl, by decide +kernel⟩, fun h => absurd h (by decide), fun h => absurd h (by decide), fun h => absurd h (by decide), fun h => absurd h (by decide)⟩
theorem pw_513 : (Cond.methodLink "MembraneRoundsModel" 158 ⟨"MembraneRoundsModel", "step", "(I)Z"⟩ : Cond) ∈ lw_gd := lw_gd_in (List.mem_of_getElem? (i := 921) (by decide +kernel)) (by decide +kernel)
theorem pw_514 : (Cond.instanceMethod ⟨"MembraneRoundsModel", "step", "(I)Z"⟩ : Cond) ∈ lw_gd := lw_gd_in (List.mem_of_getElem? (i := 923) (by decide +kernel)) (by decide +kernel)
theorem pw_515 : (Cond.selects "MembraneRoundsModel" ⟨"MembraneRoundsModel", "step", "(I)Z"⟩ ⟨"MembraneRoundsModel", "step", "(I)Z"⟩ : Cond) ∈ lw_gd := lw_gd_in (List.mem_of_getElem? (i := 30) (by decide +kernel)) (by decide +kernel)
theorem pmE_59 : pMQ (1, 158, (1, 59, 2)) := ⟨fun _ => ⟨pC_59, pNa_59⟩, fun _ => pw_513, fun h => absurd h (by decide), fun _ => ⟨pw_514, pw_515, rfl, by decide +kernel⟩, fun h => absurd h (by decide), fun h => absurd h (by decide), fun h => absurd h (by decide), fun h => absurd h (by decide)⟩
theorem pw_516 : (Cond.methodLink "MembraneRoundsModel" 161 ⟨"MembraneRoundsModel", "write", "(III)I"⟩ : Cond) ∈ lw_gd := lw_gd_in (List.mem_of_getElem? (i := 941) (by decide +kernel)) (by decide +kernel)
theorem pw_517 : (Cond.instanceMethod ⟨"MembraneRoundsModel", "write", "(III)I"⟩ : Cond) ∈ lw_gd := lw_gd_in (List.mem_of_getElem? (i := 943) (by decide +kernel)) (by decide +kernel)
theorem pw_518 : (Cond.selects "MembraneRoundsModel" ⟨"MembraneRoundsModel", "write", "(III)I"⟩ ⟨"MembraneRoundsModel", "write", "(III)I"⟩ : Cond) ∈ lw_gd := lw_gd_in (List.mem_of_getElem? (i := 33) (by decide +kernel)) (by decide +kernel)
theorem pmE_60 : pMQ (1, 161, (1, 58, 4)) := ⟨fun _ => ⟨pC_58, pNa_58⟩, fun _ => pw_516, fun h => absurd h (by decide), fun _ => ⟨pw_517, pw_518, rfl, by decide +kernel⟩, fun h => absurd h (by decide), fun h => absurd h (by decide), fun h => absurd h (by decide), fun h => absurd h (by decide)⟩
theorem pw_519 : (Cond.methodLink "MembraneRoundsModel" 167 ⟨"MembraneRoundsModel", "same", "(II)Z"⟩ : Cond) ∈ lw_gd := lw_gd_in (List.mem_of_getElem? (i := 977) (by decide +kernel)) (by decide +kernel)
theorem pw_520 : (Cond.instanceMethod ⟨"MembraneRoundsModel", "same", "(II)Z"⟩ : Cond) ∈ lw_gd := lw_gd_in (List.mem_of_getElem? (i := 979) (by decide +kernel)) (by decide +kernel)
theorem pw_521 : (Cond.selects "MembraneRoundsModel" ⟨"MembraneRoundsModel", "same", "(II)Z"⟩ ⟨"MembraneRoundsModel", "same", "(II)Z"⟩ : Cond) ∈ lw_gd := lw_gd_in (List.mem_of_getElem? (i := 38) (by decide +kernel)) (by decide +kernel)
theorem pmE_61 : pMQ (1, 167, (1, 33, 3)) := ⟨fun _ => ⟨pC_33, pNa_33⟩, fun _ => pw_519, fun h => absurd h (by decide), fun _ => ⟨pw_520, pw_521, rfl, by decide +kernel⟩, fun h => absurd h (by decide), fun h => absurd h (by decide), fun h => absurd h (by decide), fun h => absurd h (by decide)⟩
theorem pw_522 : (Cond.methodLink "MembraneRoundsModel" 170 ⟨"MembraneRoundsModel", "add", "()Z"⟩ : Cond) ∈ lw_gd := lw_gd_in (List.mem_of_getElem? (i := 973) (by decide +kernel)) (by decide +kernel)
theorem pw_523 : (Cond.instanceMethod ⟨"MembraneRoundsModel", "add", "()Z"⟩ : Cond) ∈ lw_gd := lw_gd_in (List.mem_of_getElem? (i := 975) (by decide +kernel)) (by decide +kernel)
theorem pw_524 : (Cond.selects "MembraneRoundsModel" ⟨"MembraneRoundsModel", "add", "()Z"⟩ ⟨"MembraneRoundsModel", "add", "()Z"⟩ : Cond) ∈ lw_gd := lw_gd_in (List.mem_of_getElem? (i := 37) (by decide +kernel)) (by decide +kernel)
theorem pmE_62 : pMQ (1, 170, (1, 67, 1)) := ⟨fun _ => ⟨pC_67, pNa_67⟩, fun _ => pw_522, fun h => absurd h (by decide), fun _ => ⟨pw_523, pw_524, rfl, by decide +kernel⟩, fun h => absurd h (by decide), fun h => absurd h (by decide), fun h => absurd h (by decide), fun h => absurd h (by decide)⟩
theorem pw_525 : (Cond.methodLink "MembraneRoundsModel" 174 ⟨"MembraneRoundsModel", "spread", "(I)Z"⟩ : Cond) ∈ lw_gd := lw_gd_in (List.mem_of_getElem? (i := 969) (by decide +kernel)) (by decide +kernel)
theorem pw_526 : (Cond.instanceMethod ⟨"MembraneRoundsModel", "spread", "(I)Z"⟩ : Cond) ∈ lw_gd := lw_gd_in (List.mem_of_getElem? (i := 971) (by decide +kernel)) (by decide +kernel)
theorem pw_527 : (Cond.selects "MembraneRoundsModel" ⟨"MembraneRoundsModel", "spread", "(I)Z"⟩ ⟨"MembraneRoundsModel", "spread", "(I)Z"⟩ : Cond) ∈ lw_gd := lw_gd_in (List.mem_of_getElem? (i := 36) (by decide +kernel)) (by decide +kernel)
theorem pmE_63 : pMQ (1, 174, (1, 68, 2)) := ⟨fun _ => ⟨pC_68, pNa_68⟩, fun _ => pw_525, fun h => absurd h (by decide), fun _ => ⟨pw_526, pw_527, rfl, by decide +kernel⟩, fun h => absurd h (by decide), fun h => absurd h (by decide), fun h => absurd h (by decide), fun h => absurd h (by decide)⟩
theorem pw_528 : (Cond.methodLink "MembraneRoundsModel" 186 ⟨"MembraneRoundsModel", "append", "(I)V"⟩ : Cond) ∈ lw_gd := lw_gd_in (List.mem_of_getElem? (i := 997) (by decide +kernel)) (by decide +kernel)
theorem pw_529 : (Cond.instanceMethod ⟨"MembraneRoundsModel", "append", "(I)V"⟩ : Cond) ∈ lw_gd := lw_gd_in (List.mem_of_getElem? (i := 999) (by decide +kernel)) (by decide +kernel)
theorem pw_530 : (Cond.selects "MembraneRoundsModel" ⟨"MembraneRoundsModel", "append", "(I)V"⟩ ⟨"MembraneRoundsModel", "append", "(I)V"⟩ : Cond) ∈ lw_gd := lw_gd_in (List.mem_of_getElem? (i := 40) (by decide +kernel)) (by decide +kernel)
theorem pmE_64 : pMQ (1, 186, (1, 72, 2)) := ⟨fun _ => ⟨pC_72, pNa_72⟩, fun _ => pw_528, fun h => absurd h (by decide), fun _ => ⟨pw_529, pw_530, rfl, by decide +kernel⟩, fun h => absurd h (by decide), fun h => absurd h (by decide), fun h => absurd h (by decide), fun h => absurd h (by decide)⟩
theorem pw_531 : (Cond.methodLink "MembraneRoundsModel" 189 ⟨"MembraneRoundsModel", "appendInner", "(I)V"⟩ : Cond) ∈ lw_gd := lw_gd_in (List.mem_of_getElem? (i := 993) (by decide +kernel)) (by decide +kernel)
theorem pw_532 : (Cond.instanceMethod ⟨"MembraneRoundsModel", "appendInner", "(I)V"⟩ : Cond) ∈ lw_gd := lw_gd_in (List.mem_of_getElem? (i := 995) (by decide +kernel)) (by decide +kernel)
theorem pw_533 : (Cond.selects "MembraneRoundsModel" ⟨"MembraneRoundsModel", "appendInner", "(I)V"⟩ ⟨"MembraneRoundsModel", "appendInner", "(I)V"⟩ : Cond) ∈ lw_gd := lw_gd_in (List.mem_of_getElem? (i := 39) (by decide +kernel)) (by decide +kernel)
theorem pmE_65 : pMQ (1, 189, (1, 73, 2)) := ⟨fun _ => ⟨pC_73, pNa_73⟩, fun _ => pw_531, fun h => absurd h (by decide), fun _ => ⟨pw_532, pw_533, rfl, by decide +kernel⟩, fun h => absurd h (by decide), fun h => absurd h (by decide), fun h => absurd h (by decide), fun h => absurd h (by decide)⟩
theorem pw_534 : (Cond.methodLink "MembraneRoundsModel" 192 ⟨"MembraneRoundsModel", "nextChild", "(II)I"⟩ : Cond) ∈ lw_gd := lw_gd_in (List.mem_of_getElem? (i := 1001) (by decide +kernel)) (by decide +kernel)
theorem pw_535 : (Cond.instanceMethod ⟨"MembraneRoundsModel", "nextChild", "(II)I"⟩ : Cond) ∈ lw_gd := lw_gd_in (List.mem_of_getElem? (i := 1003) (by decide +kernel)) (by decide +kernel)
theorem pw_536 : (Cond.selects "MembraneRoundsModel" ⟨"MembraneRoundsModel", "nextChild", "(II)I"⟩ ⟨"MembraneRoundsModel", "nextChild", "(II)I"⟩ : Cond) ∈ lw_gd := lw_gd_in (List.mem_of_getElem? (i := 41) (by decide +kernel)) (by decide +kernel)
theorem pmE_66 : pMQ (1, 192, (1, 74, 3)) := ⟨fun _ => ⟨pC_74, pNa_74⟩, fun _ => pw_534, fun h => absurd h (by decide), fun _ => ⟨pw_535, pw_536, rfl, by decide +kernel⟩, fun h => absurd h (by decide), fun h => absurd h (by decide), fun h => absurd h (by decide), fun h => absurd h (by decide)⟩
theorem pw_537 : (Cond.methodLink "MembraneRounds$Chooser" 3 Lib.objectInit : Cond) ∈ lw_gd := lw_gd_in (List.mem_of_getElem? (i := 159) (by decide +kernel)) (by decide +kernel)
theorem pmE_67 : pMQ (2, 3, (3, 0, 1)) := ⟨fun h => absurd h (by decide), fun h => absurd h (by decide), fun h => absurd h (by decide), fun h => absurd h (by decide), fun h => absurd h (by decide), fun _ => ⟨rfl, pw_537, pw_363, pw_364⟩, fun h => absurd h (by decide), fun h => absurd h (by decide)⟩
theorem pw_538 : (Cond.methodLink "MembraneRounds$Chooser" 27 ⟨"MembraneRounds$Chooser", "gatherOpen", "(LMembraneRounds$RuleBook;LMembraneRounds$Configuration;I)V"⟩ : Cond) ∈ lw_gd := lw_gd_in (List.mem_of_getElem? (i := 547) (by decide +kernel)) (by decide +kernel)
theorem pw_539 : (Cond.instanceMethod ⟨"MembraneRounds$Chooser", "gatherOpen", "(LMembraneRounds$RuleBook;LMembraneRounds$Configuration;I)V"⟩ : Cond) ∈ lw_gd := lw_gd_in (List.mem_of_getElem? (i := 549) (by decide +kernel)) (by decide +kernel)
theorem pw_540 : (Cond.selects "MembraneRounds$Chooser" ⟨"MembraneRounds$Chooser", "gatherOpen", "(LMembraneRounds$RuleBook;LMembraneRounds$Configuration;I)V"⟩ ⟨"MembraneRounds$Chooser", "gatherOpen", "(LMembraneRounds$RuleBook;LMembraneRounds$Configuration;I)V"⟩ : Cond) ∈ lw_gd := lw_gd_in (List.mem_of_getElem? (i := 6) (by decide +kernel)) (by decide +kernel)
theorem pmE_68 : pMQ (2, 27, (1, 85, 4)) := ⟨fun _ => ⟨pC_85, pNa_85⟩, fun _ => pw_538, fun h => absurd h (by decide), fun _ => ⟨pw_539, pw_540, rfl, by decide +kernel⟩, fun h => absurd h (by decide), fun h => absurd h (by decide), fun h => absurd h (by decide), fun h => absurd h (by decide)⟩
theorem pw_541 : (Cond.methodLink "MembraneRounds$Chooser" 41 ⟨"MembraneRounds$Rule", "mostUses", "(JZ)I"⟩ : Cond) ∈ lw_gd := lw_gd_in (List.mem_of_getElem? (i := 563) (by decide +kernel)) (by decide +kernel)
theorem pw_542 : (Cond.instanceMethod ⟨"MembraneRounds$Rule", "mostUses", "(JZ)I"⟩ : Cond) ∈ lw_gd := lw_gd_in (List.mem_of_getElem? (i := 564) (by decide +kernel)) (by decide +kernel)
theorem pw_543 : (Cond.selects "MembraneRounds$Rule" ⟨"MembraneRounds$Rule", "mostUses", "(JZ)I"⟩ ⟨"MembraneRounds$Rule", "mostUses", "(JZ)I"⟩ : Cond) ∈ lw_gd := lw_gd_in (List.mem_of_getElem? (i := 565) (by decide +kernel)) (by decide +kernel)
theorem pmE_69 : pMQ (2, 41, (1, 111, 3)) := ⟨fun _ => ⟨pC_111, pNa_111⟩, fun _ => pw_541, fun h => absurd h (by decide), fun _ => ⟨pw_542, pw_543, rfl, by decide +kernel⟩, fun h => absurd h (by decide), fun h => absurd h (by decide), fun h => absurd h (by decide), fun h => absurd h (by decide)⟩
theorem pw_544 : (Cond.methodLink "MembraneRounds$Chooser" 49 ⟨"MembraneRounds$Rule", "isOnce", "()Z"⟩ : Cond) ∈ lw_gd := lw_gd_in (List.mem_of_getElem? (i := 554) (by decide +kernel)) (by decide +kernel)
theorem pmE_70 : pMQ (2, 49, (1, 110, 1)) := ⟨fun _ => ⟨pC_110, pNa_110⟩, fun _ => pw_544, fun h => absurd h (by decide), fun _ => ⟨pw_445, pw_446, rfl, by decide +kernel⟩, fun h => absurd h (by decide), fun h => absurd h (by decide), fun h => absurd h (by decide), fun h => absurd h (by decide)⟩
theorem pw_545 : (Cond.methodLink "MembraneRounds$Chooser" 56 ⟨"MembraneRounds$Choice", "with", "(III)I"⟩ : Cond) ∈ lw_gd := lw_gd_in (List.mem_of_getElem? (i := 569) (by decide +kernel)) (by decide +kernel)
theorem pw_546 : (Cond.static ⟨"MembraneRounds$Choice", "with", "(III)I"⟩ : Cond) ∈ lw_gd := lw_gd_in (List.mem_of_getElem? (i := 570) (by decide +kernel)) (by decide +kernel)
theorem pmE_71 : pMQ (2, 56, (0, 76, 3)) := ⟨fun _ => ⟨pC_76, pNa_76⟩, fun _ => pw_545, fun _ => ⟨pw_546, by decide +kernel⟩, fun h => absurd h (by decide), fun h => absurd h (by decide), fun h => absurd h (by decide), fun h => absurd h (by decide), fun h => absurd h (by decide)⟩
theorem pw_547 : (Cond.methodLink "MembraneRounds$Chooser" 65 ⟨"MembraneRounds$Chooser", "list", "(LMembraneRounds$RuleBook;LMembraneRounds$Configuration;I)V"⟩ : Cond) ∈ lw_gd := lw_gd_in (List.mem_of_getElem? (i := 637) (by decide +kernel)) (by decide +kernel)
theorem pw_548 : (Cond.instanceMethod ⟨"MembraneRounds$Chooser", "list", "(LMembraneRounds$RuleBook;LMembraneRounds$Configuration;I)V"⟩ : Cond) ∈ lw_gd := lw_gd_in (List.mem_of_getElem? (i := 639) (by decide +kernel)) (by decide +kernel)
theorem pw_549 : (Cond.selects "MembraneRounds$Chooser" ⟨"MembraneRounds$Chooser", "list", "(LMembraneRounds$RuleBook;LMembraneRounds$Configuration;I)V"⟩ ⟨"MembraneRounds$Chooser", "list", "(LMembraneRounds$RuleBook;LMembraneRounds$Configuration;I)V"⟩ : Cond) ∈ lw_gd := lw_gd_in (List.mem_of_getElem? (i := 10) (by decide +kernel)) (by decide +kernel)
theorem pmE_72 : pMQ (2, 65, (1, 84, 4)) := ⟨fun _ => ⟨pC_84, pNa_84⟩, fun _ => pw_547, fun h => absurd h (by decide), fun _ => ⟨pw_548, pw_549, rfl, by decide +kernel⟩, fun h => absurd h (by decide), fun h => absurd h (by decide), fun h => absurd h (by decide), fun h => absurd h (by decide)⟩
theorem pw_550 : (Cond.methodLink "MembraneRounds$Chooser" 71 Lib.Math.min.name : Cond) ∈ lw_gd := lw_gd_in (List.mem_of_getElem? (i := 695) (by decide +kernel)) (by decide +kernel)
theorem pmE_73 : pMQ (2, 71, (5, 0, 2)) := ⟨fun h => absurd h (by decide), fun h => absurd h (by decide), fun h => absurd h (by decide), fun h => absurd h (by decide), fun h => absurd h (by decide), fun h => absurd h (by decide), fun _ => ⟨rfl, pw_550, pw_419, pw_420, pw_421⟩, fun h => absurd h (by decide)⟩
theorem pw_551 : (Cond.methodLink "MembraneRounds$Chooser" 77 ⟨"MembraneRounds$Chooser", "search", "(IJIZ)V"⟩ : Cond) ∈ lw_gd := lw_gd_in (List.mem_of_getElem? (i := 641) (by decide +kernel)) (by decide +kernel)
theorem pw_552 : (Cond.instanceMethod ⟨"MembraneRounds$Chooser", "search", "(IJIZ)V"⟩ : Cond) ∈ lw_gd := lw_gd_in (List.mem_of_getElem? (i := 643) (by decide +kernel)) (by decide +kernel)
theorem pw_553 : (Cond.selects "MembraneRounds$Chooser" ⟨"MembraneRounds$Chooser", "search", "(IJIZ)V"⟩ ⟨"MembraneRounds$Chooser", "search", "(IJIZ)V"⟩ : Cond) ∈ lw_gd := lw_gd_in (List.mem_of_getElem? (i := 11) (by decide +kernel)) (by decide +kernel)
theorem pmE_74 : pMQ (2, 77, (1, 87, 5)) := ⟨fun _ => ⟨pC_87, pNa_87⟩, fun _ => pw_551, fun h => absurd h (by decide), fun _ => ⟨pw_552, pw_553, rfl, by decide +kernel⟩, fun h => absurd h (by decide), fun h => absurd h (by decide), fun h => absurd h (by decide), fun h => absurd h (by decide)⟩
theorem pw_554 : (Cond.methodLink "MembraneRounds$Chooser" 95 ⟨"MembraneRounds$Chooser", "isOpen", "(LMembraneRounds$Rule;LMembraneRounds$Configuration;I)Z"⟩ : Cond) ∈ lw_gd := lw_gd_in (List.mem_of_getElem? (i := 551) (by decide +kernel)) (by decide +kernel)
theorem pw_555 : (Cond.static ⟨"MembraneRounds$Chooser", "isOpen", "(LMembraneRounds$Rule;LMembraneRounds$Configuration;I)Z"⟩ : Cond) ∈ lw_gd := lw_gd_in (List.mem_of_getElem? (i := 552) (by decide +kernel)) (by decide +kernel)
theorem pmE_75 : pMQ (2, 95, (0, 86, 3)) := ⟨fun _ => ⟨pC_86, pNa_86⟩, fun _ => pw_554, fun _ => ⟨pw_555, by decide +kernel⟩, fun h => absurd h (by decide), fun h => absurd h (by decide), fun h => absurd h (by decide), fun h => absurd h (by decide), fun h => absurd h (by decide)⟩
theorem pw_556 : (Cond.methodLink "MembraneRounds$Chooser" 103 ⟨"MembraneRounds$Configuration", "countChildren", "(I)I"⟩ : Cond) ∈ lw_gd := lw_gd_in (List.mem_of_getElem? (i := 555) (by decide +kernel)) (by decide +kernel)
theorem pmE_76 : pMQ (2, 103, (1, 97, 2)) := ⟨fun _ => ⟨pC_97, pNa_97⟩, fun _ => pw_556, fun h => absurd h (by decide), fun _ => ⟨pw_425, pw_426, rfl, by decide +kernel⟩, fun h => absurd h (by decide), fun h => absurd h (by decide), fun h => absurd h (by decide), fun h => absurd h (by decide)⟩
theorem pw_557 : (Cond.methodLink "MembraneRounds$Chooser" 113 ⟨"MembraneRounds$Configuration", "firstChildWith", "(II)I"⟩ : Cond) ∈ lw_gd := lw_gd_in (List.mem_of_getElem? (i := 559) (by decide +kernel)) (by decide +kernel)
theorem pw_558 : (Cond.instanceMethod ⟨"MembraneRounds$Configuration", "firstChildWith", "(II)I"⟩ : Cond) ∈ lw_gd := lw_gd_in (List.mem_of_getElem? (i := 560) (by decide +kernel)) (by decide +kernel)
theorem pw_559 : (Cond.selects "MembraneRounds$Configuration" ⟨"MembraneRounds$Configuration", "firstChildWith", "(II)I"⟩ ⟨"MembraneRounds$Configuration", "firstChildWith", "(II)I"⟩ : Cond) ∈ lw_gd := lw_gd_in (List.mem_of_getElem? (i := 561) (by decide +kernel)) (by decide +kernel)
theorem pmE_77 : pMQ (2, 113, (1, 98, 3)) := ⟨fun _ => ⟨pC_98, pNa_98⟩, fun _ => pw_557, fun h => absurd h (by decide), fun _ => ⟨pw_558, pw_559, rfl, by decide +kernel⟩, fun h => absurd h (by decide), fun h => absurd h (by decide), fun h => absurd h (by decide), fun h => absurd h (by decide)⟩
theorem pw_560 : (Cond.methodLink "MembraneRounds$Chooser" 116 ⟨"MembraneRounds$Chooser", "canBecomeMaximal", "(IJZ)Z"⟩ : Cond) ∈ lw_gd := lw_gd_in (List.mem_of_getElem? (i := 645) (by decide +kernel)) (by decide +kernel)
theorem pw_561 : (Cond.instanceMethod ⟨"MembraneRounds$Chooser", "canBecomeMaximal", "(IJZ)Z"⟩ : Cond) ∈ lw_gd := lw_gd_in (List.mem_of_getElem? (i := 647) (by decide +kernel)) (by decide +kernel)
theorem pw_562 : (Cond.selects "MembraneRounds$Chooser" ⟨"MembraneRounds$Chooser", "canBecomeMaximal", "(IJZ)Z"⟩ ⟨"MembraneRounds$Chooser", "canBecomeMaximal", "(IJZ)Z"⟩ : Cond) ∈ lw_gd := lw_gd_in (List.mem_of_getElem? (i := 12) (by decide +kernel)) (by decide +kernel)
theorem pmE_78 : pMQ (2, 116, (1, 88, 4)) := ⟨fun _ => ⟨pC_88, pNa_88⟩, fun _ => pw_560, fun h => absurd h (by decide), fun _ => ⟨pw_561, pw_562, rfl, by decide +kernel⟩, fun h => absurd h (by decide), fun h => absurd h (by decide), fun h => absurd h (by decide), fun h => absurd h (by decide)⟩
theorem pw_563 : (Cond.methodLink "MembraneRounds$Chooser" 123 ⟨"MembraneRounds$Heap", "holds", "(JJ)Z"⟩ : Cond) ∈ lw_gd := lw_gd_in (List.mem_of_getElem? (i := 649) (by decide +kernel)) (by decide +kernel)
theorem pw_564 : (Cond.static ⟨"MembraneRounds$Heap", "holds", "(JJ)Z"⟩ : Cond) ∈ lw_gd := lw_gd_in (List.mem_of_getElem? (i := 478) (by decide +kernel)) (by decide +kernel)
theorem pmE_79 : pMQ (2, 123, (0, 102, 2)) := ⟨fun _ => ⟨pC_102, pNa_102⟩, fun _ => pw_563, fun _ => ⟨pw_564, by decide +kernel⟩, fun h => absurd h (by decide), fun h => absurd h (by decide), fun h => absurd h (by decide), fun h => absurd h (by decide), fun h => absurd h (by decide)⟩
theorem pw_565 : (Cond.methodLink "MembraneRounds$Configuration" 3 Lib.objectInit : Cond) ∈ lw_gd := lw_gd_in (List.mem_of_getElem? (i := 207) (by decide +kernel)) (by decide +kernel)
theorem pmE_80 : pMQ (3, 3, (3, 0, 1)) := ⟨fun h => absurd h (by decide), fun h => absurd h (by decide), fun h => absurd h (by decide), fun h => absurd h (by decide), fun h => absurd h (by decide), fun _ => ⟨rfl, pw_565, pw_363, pw_364⟩, fun h => absurd h (by decide), fun h => absurd h (by decide)⟩
theorem pw_566 : (Cond.methodLink "MembraneRounds$Configuration" 22 ⟨"MembraneRounds$Configuration", "close", "(I)V"⟩ : Cond) ∈ lw_gd := lw_gd_in (List.mem_of_getElem? (i := 268) (by decide +kernel)) (by decide +kernel)
theorem pw_567 : (Cond.instanceMethod ⟨"MembraneRounds$Configuration", "close", "(I)V"⟩ : Cond) ∈ lw_gd := lw_gd_in (List.mem_of_getElem? (i := 269) (by decide +kernel)) (by decide +kernel)
theorem pw_568 : (Cond.selects "MembraneRounds$Configuration" ⟨"MembraneRounds$Configuration", "close", "(I)V"⟩ ⟨"MembraneRounds$Configuration", "close", "(I)V"⟩ : Cond) ∈ lw_gd := lw_gd_in (List.mem_of_getElem? (i := 270) (by decide +kernel)) (by decide +kernel)
theorem pmE_81 : pMQ (3, 22, (1, 92, 2)) := ⟨fun _ => ⟨pC_92, pNa_92⟩, fun _ => pw_566, fun h => absurd h (by decide), fun _ => ⟨pw_567, pw_568, rfl, by decide +kernel⟩, fun h => absurd h (by decide), fun h => absurd h (by decide), fun h => absurd h (by decide), fun h => absurd h (by decide)⟩
theorem pw_569 : (Cond.methodLink "MembraneRounds$Configuration" 26 ⟨"MembraneRounds$Configuration", "open", "(IIIJ)V"⟩ : Cond) ∈ lw_gd := lw_gd_in (List.mem_of_getElem? (i := 272) (by decide +kernel)) (by decide +kernel)
theorem pmE_82 : pMQ (3, 26, (1, 91, 5)) := ⟨fun _ => ⟨pC_91, pNa_91⟩, fun _ => pw_569, fun h => absurd h (by decide), fun _ => ⟨pw_383, pw_384, rfl, by decide +kernel⟩, fun h => absurd h (by decide), fun h => absurd h (by decide), fun h => absurd h (by decide), fun h => absurd h (by decide)⟩
theorem pw_570 : (Cond.methodLink "MembraneRounds$Configuration" 30 arraycopyName : Cond) ∈ lw_gd := lw_gd_in (List.mem_of_getElem? (i := 582) (by decide +kernel)) (by decide +kernel)
theorem pw_571 : (Cond.native arraycopyName : Cond) ∈ lw_gd := lw_gd_in (List.mem_of_getElem? (i := 584) (by decide +kernel)) (by decide +kernel)
theorem pw_572 : (Cond.static arraycopyName : Cond) ∈ lw_gd := lw_gd_in (List.mem_of_getElem? (i := 583) (by decide +kernel)) (by decide +kernel)
theorem pw_573 : (Cond.initialized "java/lang/System" : Cond) ∈ lw_gd := lw_gd_in (List.mem_of_getElem? (i := 60) (by decide +kernel)) (by decide +kernel)
theorem pmE_83 : pMQ (3, 30, (6, 0, 5)) := ⟨fun h => absurd h (by decide), fun h => absurd h (by decide), fun h => absurd h (by decide), fun h => absurd h (by decide), fun h => absurd h (by decide), fun h => absurd h (by decide), fun h => absurd h (by decide), fun _ => ⟨rfl, pw_570, pw_571, pw_572, pw_573⟩⟩
theorem pw_574 : (Cond.methodLink "MembraneRounds$Configuration" 40 ⟨"MembraneRounds$Heap", "within", "(JJ)Z"⟩ : Cond) ∈ lw_gd := lw_gd_in (List.mem_of_getElem? (i := 615) (by decide +kernel)) (by decide +kernel)
theorem pmE_84 : pMQ (3, 40, (0, 103, 2)) := ⟨fun _ => ⟨pC_103, pNa_103⟩, fun _ => pw_574, fun _ => ⟨pw_390, by decide +kernel⟩, fun h => absurd h (by decide), fun h => absurd h (by decide), fun h => absurd h (by decide), fun h => absurd h (by decide), fun h => absurd h (by decide)⟩
theorem pw_575 : (Cond.methodLink "MembraneRounds$Judge" 3 Lib.objectInit : Cond) ∈ lw_gd := lw_gd_in (List.mem_of_getElem? (i := 200) (by decide +kernel)) (by decide +kernel)
theorem pmE_85 : pMQ (4, 3, (3, 0, 1)) := ⟨fun h => absurd h (by decide), fun h => absurd h (by decide), fun h => absurd h (by decide), fun h => absurd h (by decide), fun h => absurd h (by decide), fun _ => ⟨rfl, pw_575, pw_363, pw_364⟩, fun h => absurd h (by decide), fun h => absurd h (by decide)⟩
theorem pmE_86 : pMQ (4, 20, (2, 89, 1)) := ⟨fun _ => ⟨pC_89, pNa_89⟩, fun h => absurd h (by decide), fun h => absurd h (by decide), fun h => absurd h (by decide), fun _ => ⟨pw_370, rfl, rfl, rfl, rfl, by decide +kernel⟩, fun h => absurd h (by decide), fun h => absurd h (by decide), fun h => absurd h (by decide)⟩
theorem pw_576 : (Cond.methodLink "MembraneRounds$Judge" 29 ⟨"MembraneRounds$Configuration", "copy", "(LMembraneRounds$Configuration;)V"⟩ : Cond) ∈ lw_gd := lw_gd_in (List.mem_of_getElem? (i := 686) (by decide +kernel)) (by decide +kernel)
theorem pmE_87 : pMQ (4, 29, (1, 93, 2)) := ⟨fun _ => ⟨pC_93, pNa_93⟩, fun _ => pw_576, fun h => absurd h (by decide), fun _ => ⟨pw_408, pw_409, rfl, by decide +kernel⟩, fun h => absurd h (by decide), fun h => absurd h (by decide), fun h => absurd h (by decide), fun h => absurd h (by decide)⟩
theorem pw_577 : (Cond.methodLink "MembraneRounds$Judge" 37 ⟨"MembraneRounds$Chooser", "countAll", "(LMembraneRounds$RuleBook;LMembraneRounds$Configuration;)I"⟩ : Cond) ∈ lw_gd := lw_gd_in (List.mem_of_getElem? (i := 691) (by decide +kernel)) (by decide +kernel)
theorem pw_578 : (Cond.instanceMethod ⟨"MembraneRounds$Chooser", "countAll", "(LMembraneRounds$RuleBook;LMembraneRounds$Configuration;)I"⟩ : Cond) ∈ lw_gd := lw_gd_in (List.mem_of_getElem? (i := 692) (by decide +kernel)) (by decide +kernel)
theorem pw_579 : (Cond.selects "MembraneRounds$Chooser" ⟨"MembraneRounds$Chooser", "countAll", "(LMembraneRounds$RuleBook;LMembraneRounds$Configuration;)I"⟩ ⟨"MembraneRounds$Chooser", "countAll", "(LMembraneRounds$RuleBook;LMembraneRounds$Configuration;)I"⟩ : Cond) ∈ lw_gd := lw_gd_in (List.mem_of_getElem? (i := 693) (by decide +kernel)) (by decide +kernel)
theorem pmE_88 : pMQ (4, 37, (1, 82, 3)) := ⟨fun _ => ⟨pC_82, pNa_82⟩, fun _ => pw_577, fun h => absurd h (by decide), fun _ => ⟨pw_578, pw_579, rfl, by decide +kernel⟩, fun h => absurd h (by decide), fun h => absurd h (by decide), fun h => absurd h (by decide), fun h => absurd h (by decide)⟩
theorem pw_580 : (Cond.methodLink "MembraneRounds$Judge" 43 ⟨"MembraneRounds$Chooser", "takeNext", "([I)V"⟩ : Cond) ∈ lw_gd := lw_gd_in (List.mem_of_getElem? (i := 696) (by decide +kernel)) (by decide +kernel)
theorem pw_581 : (Cond.instanceMethod ⟨"MembraneRounds$Chooser", "takeNext", "([I)V"⟩ : Cond) ∈ lw_gd := lw_gd_in (List.mem_of_getElem? (i := 697) (by decide +kernel)) (by decide +kernel)
theorem pw_582 : (Cond.selects "MembraneRounds$Chooser" ⟨"MembraneRounds$Chooser", "takeNext", "([I)V"⟩ ⟨"MembraneRounds$Chooser", "takeNext", "([I)V"⟩ : Cond) ∈ lw_gd := lw_gd_in (List.mem_of_getElem? (i := 698) (by decide +kernel)) (by decide +kernel)
theorem pmE_89 : pMQ (4, 43, (1, 83, 2)) := ⟨fun _ => ⟨pC_83, pNa_83⟩, fun _ => pw_580, fun h => absurd h (by decide), fun _ => ⟨pw_581, pw_582, rfl, by decide +kernel⟩, fun h => absurd h (by decide), fun h => absurd h (by decide), fun h => absurd h (by decide), fun h => absurd h (by decide)⟩
theorem pw_583 : (Cond.methodLink "MembraneRounds$Judge" 47 ⟨"MembraneRounds$Worker", "carryOut", "(LMembraneRounds$RuleBook;LMembraneRounds$Configuration;[I)Z"⟩ : Cond) ∈ lw_gd := lw_gd_in (List.mem_of_getElem? (i := 700) (by decide +kernel)) (by decide +kernel)
theorem pmE_90 : pMQ (4, 47, (1, 119, 4)) := ⟨fun _ => ⟨pC_119, pNa_119⟩, fun _ => pw_583, fun h => absurd h (by decide), fun _ => ⟨pw_411, pw_412, rfl, by decide +kernel⟩, fun h => absurd h (by decide), fun h => absurd h (by decide), fun h => absurd h (by decide), fun h => absurd h (by decide)⟩
theorem pw_584 : (Cond.methodLink "MembraneRounds$Judge" 53 ⟨"MembraneRounds$Judge", "keep", "(LMembraneRounds$Configuration;)Z"⟩ : Cond) ∈ lw_gd := lw_gd_in (List.mem_of_getElem? (i := 701) (by decide +kernel)) (by decide +kernel)
theorem pw_585 : (Cond.instanceMethod ⟨"MembraneRounds$Judge", "keep", "(LMembraneRounds$Configuration;)Z"⟩ : Cond) ∈ lw_gd := lw_gd_in (List.mem_of_getElem? (i := 703) (by decide +kernel)) (by decide +kernel)
theorem pw_586 : (Cond.selects "MembraneRounds$Judge" ⟨"MembraneRounds$Judge", "keep", "(LMembraneRounds$Configuration;)Z"⟩ ⟨"MembraneRounds$Judge", "keep", "(LMembraneRounds$Configuration;)Z"⟩ : Cond) ∈ lw_gd := lw_gd_in (List.mem_of_getElem? (i := 13) (by decide +kernel)) (by decide +kernel)
theorem pmE_91 : pMQ (4, 53, (1, 108, 2)) := ⟨fun _ => ⟨pC_108, pNa_108⟩, fun _ => pw_584, fun h => absurd h (by decide), fun _ => ⟨pw_585, pw_586, rfl, by decide +kernel⟩, fun h => absurd h (by decide), fun h => absurd h (by decide), fun h => absurd h (by decide), fun h => absurd h (by decide)⟩
theorem pw_587 : (Cond.methodLink "MembraneRounds$Judge" 57 ⟨"MembraneRounds$Configuration", "isSame", "(LMembraneRounds$Configuration;)Z"⟩ : Cond) ∈ lw_gd := lw_gd_in (List.mem_of_getElem? (i := 705) (by decide +kernel)) (by decide +kernel)
theorem pw_588 : (Cond.instanceMethod ⟨"MembraneRounds$Configuration", "isSame", "(LMembraneRounds$Configuration;)Z"⟩ : Cond) ∈ lw_gd := lw_gd_in (List.mem_of_getElem? (i := 706) (by decide +kernel)) (by decide +kernel)
theorem pw_589 : (Cond.selects "MembraneRounds$Configuration" ⟨"MembraneRounds$Configuration", "isSame", "(LMembraneRounds$Configuration;)Z"⟩ ⟨"MembraneRounds$Configuration", "isSame", "(LMembraneRounds$Configuration;)Z"⟩ : Cond) ∈ lw_gd := lw_gd_in (List.mem_of_getElem? (i := 707) (by decide +kernel)) (by decide +kernel)
theorem pmE_92 : pMQ (4, 57, (1, 94, 2)) := ⟨fun _ => ⟨pC_94, pNa_94⟩, fun _ => pw_587, fun h => absurd h (by decide), fun _ => ⟨pw_588, pw_589, rfl, by decide +kernel⟩, fun h => absurd h (by decide), fun h => absurd h (by decide), fun h => absurd h (by decide), fun h => absurd h (by decide)⟩
theorem pw_590 : (Cond.methodLink "MembraneRounds$Rule" 3 Lib.objectInit : Cond) ∈ lw_gd := lw_gd_in (List.mem_of_getElem? (i := 82) (by decide +kernel)) (by decide +kernel)
theorem pmE_93 : pMQ (5, 3, (3, 0, 1)) := ⟨fun h => absurd h (by decide), fun h => absurd h (by decide), fun h => absurd h (by decide), fun h => absurd h (by decide), fun h => absurd h (by decide), fun _ => ⟨rfl, pw_590, pw_363, pw_364⟩, fun h => absurd h (by decide), fun h => absurd h (by decide)⟩
theorem pw_591 : (Cond.methodLink "MembraneRounds$Rule" 22 ⟨"MembraneRounds$Rule", "isOnce", "()Z"⟩ : Cond) ∈ lw_gd := lw_gd_in (List.mem_of_getElem? (i := 567) (by decide +kernel)) (by decide +kernel)
theorem pmE_94 : pMQ (5, 22, (1, 110, 1)) := ⟨fun _ => ⟨pC_110, pNa_110⟩, fun _ => pw_591, fun h => absurd h (by decide), fun _ => ⟨pw_445, pw_446, rfl, by decide +kernel⟩, fun h => absurd h (by decide), fun h => absurd h (by decide), fun h => absurd h (by decide), fun h => absurd h (by decide)⟩
theorem pw_592 : (Cond.methodLink "MembraneRounds$Rule" 30 ⟨"MembraneRounds$Heap", "holds", "(JJ)Z"⟩ : Cond) ∈ lw_gd := lw_gd_in (List.mem_of_getElem? (i := 568) (by decide +kernel)) (by decide +kernel)
theorem pmE_95 : pMQ (5, 30, (0, 102, 2)) := ⟨fun _ => ⟨pC_102, pNa_102⟩, fun _ => pw_592, fun _ => ⟨pw_564, by decide +kernel⟩, fun h => absurd h (by decide), fun h => absurd h (by decide), fun h => absurd h (by decide), fun h => absurd h (by decide), fun h => absurd h (by decide)⟩
theorem pw_593 : (Cond.methodLink "MembraneRounds$RuleBook" 3 Lib.objectInit : Cond) ∈ lw_gd := lw_gd_in (List.mem_of_getElem? (i := 75) (by decide +kernel)) (by decide +kernel)
theorem pmE_96 : pMQ (6, 3, (3, 0, 1)) := ⟨fun h => absurd h (by decide), fun h => absurd h (by decide), fun h => absurd h (by decide), fun h => absurd h (by decide), fun h => absurd h (by decide), fun _ => ⟨rfl, pw_593, pw_363, pw_364⟩, fun h => absurd h (by decide), fun h => absurd h (by decide)⟩
theorem pw_594 : (Cond.instanceMethod ⟨"MembraneRounds$Rule", "<init>", "(I)V"⟩ : Cond) ∈ lw_gd := lw_gd_in (List.mem_of_getElem? (i := 80) (by decide +kernel)) (by decide +kernel)
theorem pmE_97 : pMQ (6, 17, (2, 109, 2)) := ⟨fun _ => ⟨pC_109, pNa_109⟩, fun h => absurd h (by decide), fun h => absurd h (by decide), fun h => absurd h (by decide), fun _ => ⟨pw_594, rfl, rfl, rfl, rfl, by decide +kernel⟩, fun h => absurd h (by decide), fun h => absurd h (by decide), fun h => absurd h (by decide)⟩
theorem pw_595 : (Cond.methodLink "MembraneRounds$RuleBook" 31 ⟨"MembraneRounds$Heap", "kindsOf", "(J)J"⟩ : Cond) ∈ lw_gd := lw_gd_in (List.mem_of_getElem? (i := 497) (by decide +kernel)) (by decide +kernel)
theorem pw_596 : (Cond.static ⟨"MembraneRounds$Heap", "kindsOf", "(J)J"⟩ : Cond) ∈ lw_gd := lw_gd_in (List.mem_of_getElem? (i := 498) (by decide +kernel)) (by decide +kernel)
theorem pmE_98 : pMQ (6, 31, (0, 104, 1)) := ⟨fun _ => ⟨pC_104, pNa_104⟩, fun _ => pw_595, fun _ => ⟨pw_596, by decide +kernel⟩, fun h => absurd h (by decide), fun h => absurd h (by decide), fun h => absurd h (by decide), fun h => absurd h (by decide), fun h => absurd h (by decide)⟩
theorem pw_597 : (Cond.methodLink "MembraneRounds$Scribe" 3 Lib.objectInit : Cond) ∈ lw_gd := lw_gd_in (List.mem_of_getElem? (i := 253) (by decide +kernel)) (by decide +kernel)
theorem pmE_99 : pMQ (7, 3, (3, 0, 1)) := ⟨fun h => absurd h (by decide), fun h => absurd h (by decide), fun h => absurd h (by decide), fun h => absurd h (by decide), fun h => absurd h (by decide), fun _ => ⟨rfl, pw_597, pw_363, pw_364⟩, fun h => absurd h (by decide), fun h => absurd h (by decide)⟩
theorem pw_598 : (Cond.methodLink "MembraneRounds$Scribe" 19 ⟨"MembraneRounds$Scribe", "writeMembrane", "(LMembraneRounds$Configuration;II)V"⟩ : Cond) ∈ lw_gd := lw_gd_in (List.mem_of_getElem? (i := 317) (by decide +kernel)) (by decide +kernel)
theorem pw_599 : (Cond.instanceMethod ⟨"MembraneRounds$Scribe", "writeMembrane", "(LMembraneRounds$Configuration;II)V"⟩ : Cond) ∈ lw_gd := lw_gd_in (List.mem_of_getElem? (i := 319) (by decide +kernel)) (by decide +kernel)
theorem pw_600 : (Cond.selects "MembraneRounds$Scribe" ⟨"MembraneRounds$Scribe", "writeMembrane", "(LMembraneRounds$Configuration;II)V"⟩ ⟨"MembraneRounds$Scribe", "writeMembrane", "(LMembraneRounds$Configuration;II)V"⟩ : Cond) ∈ lw_gd := lw_gd_in (List.mem_of_getElem? (i := 0) (by decide +kernel)) (by decide +kernel)
theorem pmE_100 : pMQ (7, 19, (1, 116, 4)) := ⟨fun _ => ⟨pC_116, pNa_116⟩, fun _ => pw_598, fun h => absurd h (by decide), fun _ => ⟨pw_599, pw_600, rfl, by decide +kernel⟩, fun h => absurd h (by decide), fun h => absurd h (by decide), fun h => absurd h (by decide), fun h => absurd h (by decide)⟩
theorem pw_601 : (Cond.methodLink "MembraneRounds$Scribe" 29 ⟨"MembraneRounds$Scribe", "add", "(C)V"⟩ : Cond) ∈ lw_gd := lw_gd_in (List.mem_of_getElem? (i := 321) (by decide +kernel)) (by decide +kernel)
theorem pw_602 : (Cond.instanceMethod ⟨"MembraneRounds$Scribe", "add", "(C)V"⟩ : Cond) ∈ lw_gd := lw_gd_in (List.mem_of_getElem? (i := 323) (by decide +kernel)) (by decide +kernel)
theorem pw_603 : (Cond.selects "MembraneRounds$Scribe" ⟨"MembraneRounds$Scribe", "add", "(C)V"⟩ ⟨"MembraneRounds$Scribe", "add", "(C)V"⟩ : Cond) ∈ lw_gd := lw_gd_in (List.mem_of_getElem? (i := 1) (by decide +kernel)) (by decide +kernel)
theorem pmE_101 : pMQ (7, 29, (1, 117, 2)) := ⟨fun _ => ⟨pC_117, pNa_117⟩, fun _ => pw_601, fun h => absurd h (by decide), fun _ => ⟨pw_602, pw_603, rfl, by decide +kernel⟩, fun h => absurd h (by decide), fun h => absurd h (by decide), fun h => absurd h (by decide), fun h => absurd h (by decide)⟩
theorem pw_604 : (Cond.methodLink "MembraneRounds$Scribe" 37 ⟨"MembraneRounds$Heap", "count", "(JI)I"⟩ : Cond) ∈ lw_gd := lw_gd_in (List.mem_of_getElem? (i := 325) (by decide +kernel)) (by decide +kernel)
theorem pmE_102 : pMQ (7, 37, (0, 101, 2)) := ⟨fun _ => ⟨pC_101, pNa_101⟩, fun _ => pw_604, fun _ => ⟨pw_428, by decide +kernel⟩, fun h => absurd h (by decide), fun h => absurd h (by decide), fun h => absurd h (by decide), fun h => absurd h (by decide), fun h => absurd h (by decide)⟩
theorem pw_605 : (Cond.methodLink "MembraneRounds$Worker" 3 Lib.objectInit : Cond) ∈ lw_gd := lw_gd_in (List.mem_of_getElem? (i := 189) (by decide +kernel)) (by decide +kernel)
theorem pmE_103 : pMQ (8, 3, (3, 0, 1)) := ⟨fun h => absurd h (by decide), fun h => absurd h (by decide), fun h => absurd h (by decide), fun h => absurd h (by decide), fun h => absurd h (by decide), fun _ => ⟨rfl, pw_605, pw_363, pw_364⟩, fun h => absurd h (by decide), fun h => absurd h (by decide)⟩
theorem pw_606 : (Cond.methodLink "MembraneRounds$Worker" 23 ⟨"MembraneRounds$Choice", "usesOf", "(II)I"⟩ : Cond) ∈ lw_gd := lw_gd_in (List.mem_of_getElem? (i := 589) (by decide +kernel)) (by decide +kernel)
theorem pmE_104 : pMQ (8, 23, (0, 77, 2)) := ⟨fun _ => ⟨pC_77, pNa_77⟩, fun _ => pw_606, fun _ => ⟨pw_414, by decide +kernel⟩, fun h => absurd h (by decide), fun h => absurd h (by decide), fun h => absurd h (by decide), fun h => absurd h (by decide), fun h => absurd h (by decide)⟩
theorem pw_607 : (Cond.methodLink "MembraneRounds$Worker" 32 ⟨"MembraneRounds$Worker", "takeAndMake", "(LMembraneRounds$Configuration;ILMembraneRounds$Rule;I)V"⟩ : Cond) ∈ lw_gd := lw_gd_in (List.mem_of_getElem? (i := 590) (by decide +kernel)) (by decide +kernel)
theorem pw_608 : (Cond.instanceMethod ⟨"MembraneRounds$Worker", "takeAndMake", "(LMembraneRounds$Configuration;ILMembraneRounds$Rule;I)V"⟩ : Cond) ∈ lw_gd := lw_gd_in (List.mem_of_getElem? (i := 592) (by decide +kernel)) (by decide +kernel)
theorem pw_609 : (Cond.selects "MembraneRounds$Worker" ⟨"MembraneRounds$Worker", "takeAndMake", "(LMembraneRounds$Configuration;ILMembraneRounds$Rule;I)V"⟩ ⟨"MembraneRounds$Worker", "takeAndMake", "(LMembraneRounds$Configuration;ILMembraneRounds$Rule;I)V"⟩ : Cond) ∈ lw_gd := lw_gd_in (List.mem_of_getElem? (i := 7) (by decide +kernel)) (by decide +kernel)
theorem pmE_105 : pMQ (8, 32, (1, 120, 5)) := ⟨fun _ => ⟨pC_120, pNa_120⟩, fun _ => pw_607, fun h => absurd h (by decide), fun _ => ⟨pw_608, pw_609, rfl, by decide +kernel⟩, fun h => absurd h (by decide), fun h => absurd h (by decide), fun h => absurd h (by decide), fun h => absurd h (by decide)⟩
theorem pw_610 : (Cond.methodLink "MembraneRounds$Worker" 36 ⟨"MembraneRounds$Worker", "splitAll", "(LMembraneRounds$Configuration;)Z"⟩ : Cond) ∈ lw_gd := lw_gd_in (List.mem_of_getElem? (i := 596) (by decide +kernel)) (by decide +kernel)
theorem pw_611 : (Cond.instanceMethod ⟨"MembraneRounds$Worker", "splitAll", "(LMembraneRounds$Configuration;)Z"⟩ : Cond) ∈ lw_gd := lw_gd_in (List.mem_of_getElem? (i := 598) (by decide +kernel)) (by decide +kernel)
theorem pw_612 : (Cond.selects "MembraneRounds$Worker" ⟨"MembraneRounds$Worker", "splitAll", "(LMembraneRounds$Configuration;)Z"⟩ ⟨"MembraneRounds$Worker", "splitAll", "(LMembraneRounds$Configuration;)Z"⟩ : Cond) ∈ lw_gd := lw_gd_in (List.mem_of_getElem? (i := 8) (by decide +kernel)) (by decide +kernel)
theorem pmE_106 : pMQ (8, 36, (1, 121, 2)) := ⟨fun _ => ⟨pC_121, pNa_121⟩, fun _ => pw_610, fun h => absurd h (by decide), fun _ => ⟨pw_611, pw_612, rfl, by decide +kernel⟩, fun h => absurd h (by decide), fun h => absurd h (by decide), fun h => absurd h (by decide), fun h => absurd h (by decide)⟩
theorem pw_613 : (Cond.methodLink "MembraneRounds$Worker" 40 ⟨"MembraneRounds$Worker", "meltAll", "(LMembraneRounds$Configuration;)V"⟩ : Cond) ∈ lw_gd := lw_gd_in (List.mem_of_getElem? (i := 602) (by decide +kernel)) (by decide +kernel)
theorem pw_614 : (Cond.instanceMethod ⟨"MembraneRounds$Worker", "meltAll", "(LMembraneRounds$Configuration;)V"⟩ : Cond) ∈ lw_gd := lw_gd_in (List.mem_of_getElem? (i := 604) (by decide +kernel)) (by decide +kernel)
theorem pw_615 : (Cond.selects "MembraneRounds$Worker" ⟨"MembraneRounds$Worker", "meltAll", "(LMembraneRounds$Configuration;)V"⟩ ⟨"MembraneRounds$Worker", "meltAll", "(LMembraneRounds$Configuration;)V"⟩ : Cond) ∈ lw_gd := lw_gd_in (List.mem_of_getElem? (i := 9) (by decide +kernel)) (by decide +kernel)
theorem pmE_107 : pMQ (8, 40, (1, 122, 2)) := ⟨fun _ => ⟨pC_122, pNa_122⟩, fun _ => pw_613, fun h => absurd h (by decide), fun _ => ⟨pw_614, pw_615, rfl, by decide +kernel⟩, fun h => absurd h (by decide), fun h => absurd h (by decide), fun h => absurd h (by decide), fun h => absurd h (by decide)⟩
theorem pw_616 : (Cond.methodLink "MembraneRounds$Worker" 44 ⟨"MembraneRounds$Configuration", "isTooMuch", "()Z"⟩ : Cond) ∈ lw_gd := lw_gd_in (List.mem_of_getElem? (i := 610) (by decide +kernel)) (by decide +kernel)
theorem pw_617 : (Cond.instanceMethod ⟨"MembraneRounds$Configuration", "isTooMuch", "()Z"⟩ : Cond) ∈ lw_gd := lw_gd_in (List.mem_of_getElem? (i := 611) (by decide +kernel)) (by decide +kernel)
theorem pw_618 : (Cond.selects "MembraneRounds$Configuration" ⟨"MembraneRounds$Configuration", "isTooMuch", "()Z"⟩ ⟨"MembraneRounds$Configuration", "isTooMuch", "()Z"⟩ : Cond) ∈ lw_gd := lw_gd_in (List.mem_of_getElem? (i := 612) (by decide +kernel)) (by decide +kernel)
theorem pmE_108 : pMQ (8, 44, (1, 99, 1)) := ⟨fun _ => ⟨pC_99, pNa_99⟩, fun _ => pw_616, fun h => absurd h (by decide), fun _ => ⟨pw_617, pw_618, rfl, by decide +kernel⟩, fun h => absurd h (by decide), fun h => absurd h (by decide), fun h => absurd h (by decide), fun h => absurd h (by decide)⟩
theorem pw_619 : (Cond.methodLink "MembraneRounds$Worker" 78 ⟨"MembraneRounds$Configuration", "firstChildWith", "(II)I"⟩ : Cond) ∈ lw_gd := lw_gd_in (List.mem_of_getElem? (i := 594) (by decide +kernel)) (by decide +kernel)
theorem pmE_109 : pMQ (8, 78, (1, 98, 3)) := ⟨fun _ => ⟨pC_98, pNa_98⟩, fun _ => pw_619, fun h => absurd h (by decide), fun _ => ⟨pw_558, pw_559, rfl, by decide +kernel⟩, fun h => absurd h (by decide), fun h => absurd h (by decide), fun h => absurd h (by decide), fun h => absurd h (by decide)⟩
theorem pw_620 : (Cond.methodLink "MembraneRounds$Worker" 81 ⟨"MembraneRounds$Rule", "isOnce", "()Z"⟩ : Cond) ∈ lw_gd := lw_gd_in (List.mem_of_getElem? (i := 595) (by decide +kernel)) (by decide +kernel)
theorem pmE_110 : pMQ (8, 81, (1, 110, 1)) := ⟨fun _ => ⟨pC_110, pNa_110⟩, fun _ => pw_620, fun h => absurd h (by decide), fun _ => ⟨pw_445, pw_446, rfl, by decide +kernel⟩, fun h => absurd h (by decide), fun h => absurd h (by decide), fun h => absurd h (by decide), fun h => absurd h (by decide)⟩
theorem pw_621 : (Cond.methodLink "MembraneRounds$Worker" 84 ⟨"MembraneRounds$Configuration", "leastFree", "()I"⟩ : Cond) ∈ lw_gd := lw_gd_in (List.mem_of_getElem? (i := 600) (by decide +kernel)) (by decide +kernel)
theorem pmE_111 : pMQ (8, 84, (1, 96, 1)) := ⟨fun _ => ⟨pC_96, pNa_96⟩, fun _ => pw_621, fun h => absurd h (by decide), fun _ => ⟨pw_380, pw_381, rfl, by decide +kernel⟩, fun h => absurd h (by decide), fun h => absurd h (by decide), fun h => absurd h (by decide), fun h => absurd h (by decide)⟩
theorem pw_622 : (Cond.methodLink "MembraneRounds$Worker" 94 ⟨"MembraneRounds$Configuration", "open", "(IIIJ)V"⟩ : Cond) ∈ lw_gd := lw_gd_in (List.mem_of_getElem? (i := 601) (by decide +kernel)) (by decide +kernel)
theorem pmE_112 : pMQ (8, 94, (1, 91, 5)) := ⟨fun _ => ⟨pC_91, pNa_91⟩, fun _ => pw_622, fun h => absurd h (by decide), fun _ => ⟨pw_383, pw_384, rfl, by decide +kernel⟩, fun h => absurd h (by decide), fun h => absurd h (by decide), fun h => absurd h (by decide), fun h => absurd h (by decide)⟩
theorem pw_623 : (Cond.methodLink "MembraneRounds$Worker" 101 ⟨"MembraneRounds$Worker", "melt", "(LMembraneRounds$Configuration;I)V"⟩ : Cond) ∈ lw_gd := lw_gd_in (List.mem_of_getElem? (i := 606) (by decide +kernel)) (by decide +kernel)
theorem pw_624 : (Cond.static ⟨"MembraneRounds$Worker", "melt", "(LMembraneRounds$Configuration;I)V"⟩ : Cond) ∈ lw_gd := lw_gd_in (List.mem_of_getElem? (i := 607) (by decide +kernel)) (by decide +kernel)
theorem pmE_113 : pMQ (8, 101, (0, 123, 2)) := ⟨fun _ => ⟨pC_123, pNa_123⟩, fun _ => pw_623, fun _ => ⟨pw_624, by decide +kernel⟩, fun h => absurd h (by decide), fun h => absurd h (by decide), fun h => absurd h (by decide), fun h => absurd h (by decide), fun h => absurd h (by decide)⟩
theorem pw_625 : (Cond.methodLink "MembraneRounds$Worker" 105 ⟨"MembraneRounds$Configuration", "close", "(I)V"⟩ : Cond) ∈ lw_gd := lw_gd_in (List.mem_of_getElem? (i := 609) (by decide +kernel)) (by decide +kernel)
theorem pmE_114 : pMQ (8, 105, (1, 92, 2)) := ⟨fun _ => ⟨pC_92, pNa_92⟩, fun _ => pw_625, fun h => absurd h (by decide), fun _ => ⟨pw_567, pw_568, rfl, by decide +kernel⟩, fun h => absurd h (by decide), fun h => absurd h (by decide), fun h => absurd h (by decide), fun h => absurd h (by decide)⟩
theorem pw_626 : (Cond.methodLink "MembraneRounds$Choice" 11 ⟨"MembraneRounds$Choice", "usesOf", "(II)I"⟩ : Cond) ∈ lw_gd := lw_gd_in (List.mem_of_getElem? (i := 575) (by decide +kernel)) (by decide +kernel)
theorem pmE_115 : pMQ (12, 11, (0, 77, 2)) := ⟨fun _ => ⟨pC_77, pNa_77⟩, fun _ => pw_626, fun _ => ⟨pw_414, by decide +kernel⟩, fun h => absurd h (by decide), fun h => absurd h (by decide), fun h => absurd h (by decide), fun h => absurd h (by decide), fun h => absurd h (by decide)⟩
theorem pw_627 : (Cond.methodLink "MembraneRounds$Heap" 15 ⟨"MembraneRounds$Heap", "holds", "(JJ)Z"⟩ : Cond) ∈ lw_gd := lw_gd_in (List.mem_of_getElem? (i := 477) (by decide +kernel)) (by decide +kernel)
theorem pmE_116 : pMQ (13, 15, (0, 102, 2)) := ⟨fun _ => ⟨pC_102, pNa_102⟩, fun _ => pw_627, fun _ => ⟨pw_564, by decide +kernel⟩, fun h => absurd h (by decide), fun h => absurd h (by decide), fun h => absurd h (by decide), fun h => absurd h (by decide), fun h => absurd h (by decide)⟩
theorem pw_628 : (Cond.methodLink "MembraneRounds$Heap" 19 ⟨"MembraneRounds$Heap", "count", "(JI)I"⟩ : Cond) ∈ lw_gd := lw_gd_in (List.mem_of_getElem? (i := 500) (by decide +kernel)) (by decide +kernel)
theorem pmE_117 : pMQ (13, 19, (0, 101, 2)) := ⟨fun _ => ⟨pC_101, pNa_101⟩, fun _ => pw_628, fun _ => ⟨pw_428, by decide +kernel⟩, fun h => absurd h (by decide), fun h => absurd h (by decide), fun h => absurd h (by decide), fun h => absurd h (by decide), fun h => absurd h (by decide)⟩
theorem pw_629 : (Cond.methodLink "MembraneRoundsLaw" 7 ⟨"MembraneRounds", "clear", "(I)V"⟩ : Cond) ∈ lw_gd := lw_gd_in (List.mem_of_getElem? (i := 333) (by decide +kernel)) (by decide +kernel)
theorem pw_630 : (Cond.instanceMethod ⟨"MembraneRounds", "clear", "(I)V"⟩ : Cond) ∈ lw_gd := lw_gd_in (List.mem_of_getElem? (i := 334) (by decide +kernel)) (by decide +kernel)
theorem pw_631 : (Cond.selects "MembraneRounds" ⟨"MembraneRounds", "clear", "(I)V"⟩ ⟨"MembraneRounds", "clear", "(I)V"⟩ : Cond) ∈ lw_gd := lw_gd_in (List.mem_of_getElem? (i := 335) (by decide +kernel)) (by decide +kernel)
theorem pmE_118 : pMQ (14, 7, (1, 1, 2)) := ⟨fun _ => ⟨pC_1, pNa_1⟩, fun _ => pw_629, fun h => absurd h (by decide), fun _ => ⟨pw_630, pw_631, rfl, by decide +kernel⟩, fun h => absurd h (by decide), fun h => absurd h (by decide), fun h => absurd h (by decide), fun h => absurd h (by decide)⟩
theorem pw_632 : (Cond.methodLink "MembraneRoundsLaw" 15 ⟨"MembraneRounds", "membrane", "(II)I"⟩ : Cond) ∈ lw_gd := lw_gd_in (List.mem_of_getElem? (i := 413) (by decide +kernel)) (by decide +kernel)
theorem pw_633 : (Cond.instanceMethod ⟨"MembraneRounds", "membrane", "(II)I"⟩ : Cond) ∈ lw_gd := lw_gd_in (List.mem_of_getElem? (i := 414) (by decide +kernel)) (by decide +kernel)
theorem pw_634 : (Cond.selects "MembraneRounds" ⟨"MembraneRounds", "membrane", "(II)I"⟩ ⟨"MembraneRounds", "membrane", "(II)I"⟩ : Cond) ∈ lw_gd := lw_gd_in (List.mem_of_getElem? (i := 415) (by decide +kernel)) (by decide +kernel)
theorem pmE_119 : pMQ (14, 15, (1, 2, 3)) := ⟨fun _ => ⟨pC_2, pNa_2⟩, fun _ => pw_632, fun h => absurd h (by decide), fun _ => ⟨pw_633, pw_634, rfl, by decide +kernel⟩, fun h => absurd h (by decide), fun h => absurd h (by decide), fun h => absurd h (by decide), fun h => absurd h (by decide)⟩
theorem pw_635 : (Cond.methodLink "MembraneRoundsLaw" 23 ⟨"MembraneRounds", "put", "(II)V"⟩ : Cond) ∈ lw_gd := lw_gd_in (List.mem_of_getElem? (i := 461) (by decide +kernel)) (by decide +kernel)
theorem pw_636 : (Cond.instanceMethod ⟨"MembraneRounds", "put", "(II)V"⟩ : Cond) ∈ lw_gd := lw_gd_in (List.mem_of_getElem? (i := 462) (by decide +kernel)) (by decide +kernel)
theorem pw_637 : (Cond.selects "MembraneRounds" ⟨"MembraneRounds", "put", "(II)V"⟩ ⟨"MembraneRounds", "put", "(II)V"⟩ : Cond) ∈ lw_gd := lw_gd_in (List.mem_of_getElem? (i := 463) (by decide +kernel)) (by decide +kernel)
theorem pmE_120 : pMQ (14, 23, (1, 3, 3)) := ⟨fun _ => ⟨pC_3, pNa_3⟩, fun _ => pw_635, fun h => absurd h (by decide), fun _ => ⟨pw_636, pw_637, rfl, by decide +kernel⟩, fun h => absurd h (by decide), fun h => absurd h (by decide), fun h => absurd h (by decide), fun h => absurd h (by decide)⟩
theorem pw_638 : (Cond.methodLink "MembraneRoundsLaw" 27 ⟨"MembraneRounds", "rule", "(IIII)I"⟩ : Cond) ∈ lw_gd := lw_gd_in (List.mem_of_getElem? (i := 484) (by decide +kernel)) (by decide +kernel)
theorem pw_639 : (Cond.instanceMethod ⟨"MembraneRounds", "rule", "(IIII)I"⟩ : Cond) ∈ lw_gd := lw_gd_in (List.mem_of_getElem? (i := 485) (by decide +kernel)) (by decide +kernel)
theorem pw_640 : (Cond.selects "MembraneRounds" ⟨"MembraneRounds", "rule", "(IIII)I"⟩ ⟨"MembraneRounds", "rule", "(IIII)I"⟩ : Cond) ∈ lw_gd := lw_gd_in (List.mem_of_getElem? (i := 486) (by decide +kernel)) (by decide +kernel)
theorem pmE_121 : pMQ (14, 27, (1, 4, 5)) := ⟨fun _ => ⟨pC_4, pNa_4⟩, fun _ => pw_638, fun h => absurd h (by decide), fun _ => ⟨pw_639, pw_640, rfl, by decide +kernel⟩, fun h => absurd h (by decide), fun h => absurd h (by decide), fun h => absurd h (by decide), fun h => absurd h (by decide)⟩
theorem pw_641 : (Cond.methodLink "MembraneRoundsLaw" 31 ⟨"MembraneRounds", "into", "(III)V"⟩ : Cond) ∈ lw_gd := lw_gd_in (List.mem_of_getElem? (i := 504) (by decide +kernel)) (by decide +kernel)
theorem pw_642 : (Cond.instanceMethod ⟨"MembraneRounds", "into", "(III)V"⟩ : Cond) ∈ lw_gd := lw_gd_in (List.mem_of_getElem? (i := 505) (by decide +kernel)) (by decide +kernel)
theorem pw_643 : (Cond.selects "MembraneRounds" ⟨"MembraneRounds", "into", "(III)V"⟩ ⟨"MembraneRounds", "into", "(III)V"⟩ : Cond) ∈ lw_gd := lw_gd_in (List.mem_of_getElem? (i := 506) (by decide +kernel)) (by decide +kernel)
theorem pmE_122 : pMQ (14, 31, (1, 5, 4)) := ⟨fun _ => ⟨pC_5, pNa_5⟩, fun _ => pw_641, fun h => absurd h (by decide), fun _ => ⟨pw_642, pw_643, rfl, by decide +kernel⟩, fun h => absurd h (by decide), fun h => absurd h (by decide), fun h => absurd h (by decide), fun h => absurd h (by decide)⟩
theorem pw_644 : (Cond.methodLink "MembraneRoundsLaw" 35 ⟨"MembraneRounds", "dissolve", "(I)V"⟩ : Cond) ∈ lw_gd := lw_gd_in (List.mem_of_getElem? (i := 516) (by decide +kernel)) (by decide +kernel)
theorem pw_645 : (Cond.instanceMethod ⟨"MembraneRounds", "dissolve", "(I)V"⟩ : Cond) ∈ lw_gd := lw_gd_in (List.mem_of_getElem? (i := 517) (by decide +kernel)) (by decide +kernel)
theorem pw_646 : (Cond.selects "MembraneRounds" ⟨"MembraneRounds", "dissolve", "(I)V"⟩ ⟨"MembraneRounds", "dissolve", "(I)V"⟩ : Cond) ∈ lw_gd := lw_gd_in (List.mem_of_getElem? (i := 518) (by decide +kernel)) (by decide +kernel)
theorem pmE_123 : pMQ (14, 35, (1, 6, 2)) := ⟨fun _ => ⟨pC_6, pNa_6⟩, fun _ => pw_644, fun h => absurd h (by decide), fun _ => ⟨pw_645, pw_646, rfl, by decide +kernel⟩, fun h => absurd h (by decide), fun h => absurd h (by decide), fun h => absurd h (by decide), fun h => absurd h (by decide)⟩
theorem pw_647 : (Cond.methodLink "MembraneRoundsLaw" 38 ⟨"MembraneRounds", "divide", "(II)V"⟩ : Cond) ∈ lw_gd := lw_gd_in (List.mem_of_getElem? (i := 532) (by decide +kernel)) (by decide +kernel)
theorem pw_648 : (Cond.instanceMethod ⟨"MembraneRounds", "divide", "(II)V"⟩ : Cond) ∈ lw_gd := lw_gd_in (List.mem_of_getElem? (i := 533) (by decide +kernel)) (by decide +kernel)
theorem pw_649 : (Cond.selects "MembraneRounds" ⟨"MembraneRounds", "divide", "(II)V"⟩ ⟨"MembraneRounds", "divide", "(II)V"⟩ : Cond) ∈ lw_gd := lw_gd_in (List.mem_of_getElem? (i := 534) (by decide +kernel)) (by decide +kernel)
theorem pmE_124 : pMQ (14, 38, (1, 7, 3)) := ⟨fun _ => ⟨pC_7, pNa_7⟩, fun _ => pw_647, fun h => absurd h (by decide), fun _ => ⟨pw_648, pw_649, rfl, by decide +kernel⟩, fun h => absurd h (by decide), fun h => absurd h (by decide), fun h => absurd h (by decide), fun h => absurd h (by decide)⟩
theorem pw_650 : (Cond.methodLink "MembraneRoundsLaw" 41 ⟨"MembraneRounds", "round", "()I"⟩ : Cond) ∈ lw_gd := lw_gd_in (List.mem_of_getElem? (i := 539) (by decide +kernel)) (by decide +kernel)
theorem pw_651 : (Cond.instanceMethod ⟨"MembraneRounds", "round", "()I"⟩ : Cond) ∈ lw_gd := lw_gd_in (List.mem_of_getElem? (i := 540) (by decide +kernel)) (by decide +kernel)
theorem pw_652 : (Cond.selects "MembraneRounds" ⟨"MembraneRounds", "round", "()I"⟩ ⟨"MembraneRounds", "round", "()I"⟩ : Cond) ∈ lw_gd := lw_gd_in (List.mem_of_getElem? (i := 541) (by decide +kernel)) (by decide +kernel)
theorem pmE_125 : pMQ (14, 41, (1, 8, 1)) := ⟨fun _ => ⟨pC_8, pNa_8⟩, fun _ => pw_650, fun h => absurd h (by decide), fun _ => ⟨pw_651, pw_652, rfl, by decide +kernel⟩, fun h => absurd h (by decide), fun h => absurd h (by decide), fun h => absurd h (by decide), fun h => absurd h (by decide)⟩
theorem pw_653 : (Cond.methodLink "MembraneRoundsLaw" 45 ⟨"MembraneRounds", "uses", "(II)I"⟩ : Cond) ∈ lw_gd := lw_gd_in (List.mem_of_getElem? (i := 621) (by decide +kernel)) (by decide +kernel)
theorem pw_654 : (Cond.instanceMethod ⟨"MembraneRounds", "uses", "(II)I"⟩ : Cond) ∈ lw_gd := lw_gd_in (List.mem_of_getElem? (i := 622) (by decide +kernel)) (by decide +kernel)
theorem pw_655 : (Cond.selects "MembraneRounds" ⟨"MembraneRounds", "uses", "(II)I"⟩ ⟨"MembraneRounds", "uses", "(II)I"⟩ : Cond) ∈ lw_gd := lw_gd_in (List.mem_of_getElem? (i := 623) (by decide +kernel)) (by decide +kernel)
theorem pmE_126 : pMQ (14, 45, (1, 9, 3)) := ⟨fun _ => ⟨pC_9, pNa_9⟩, fun _ => pw_653, fun h => absurd h (by decide), fun _ => ⟨pw_654, pw_655, rfl, by decide +kernel⟩, fun h => absurd h (by decide), fun h => absurd h (by decide), fun h => absurd h (by decide), fun h => absurd h (by decide)⟩
theorem pw_656 : (Cond.methodLink "MembraneRoundsLaw" 48 ⟨"MembraneRounds", "choices", "(I)I"⟩ : Cond) ∈ lw_gd := lw_gd_in (List.mem_of_getElem? (i := 629) (by decide +kernel)) (by decide +kernel)
theorem pw_657 : (Cond.instanceMethod ⟨"MembraneRounds", "choices", "(I)I"⟩ : Cond) ∈ lw_gd := lw_gd_in (List.mem_of_getElem? (i := 630) (by decide +kernel)) (by decide +kernel)
theorem pw_658 : (Cond.selects "MembraneRounds" ⟨"MembraneRounds", "choices", "(I)I"⟩ ⟨"MembraneRounds", "choices", "(I)I"⟩ : Cond) ∈ lw_gd := lw_gd_in (List.mem_of_getElem? (i := 631) (by decide +kernel)) (by decide +kernel)
theorem pmE_127 : pMQ (14, 48, (1, 10, 2)) := ⟨fun _ => ⟨pC_10, pNa_10⟩, fun _ => pw_656, fun h => absurd h (by decide), fun _ => ⟨pw_657, pw_658, rfl, by decide +kernel⟩, fun h => absurd h (by decide), fun h => absurd h (by decide), fun h => absurd h (by decide), fun h => absurd h (by decide)⟩
theorem pw_659 : (Cond.methodLink "MembraneRoundsLaw" 52 ⟨"MembraneRounds", "at", "(II)I"⟩ : Cond) ∈ lw_gd := lw_gd_in (List.mem_of_getElem? (i := 656) (by decide +kernel)) (by decide +kernel)
theorem pw_660 : (Cond.instanceMethod ⟨"MembraneRounds", "at", "(II)I"⟩ : Cond) ∈ lw_gd := lw_gd_in (List.mem_of_getElem? (i := 657) (by decide +kernel)) (by decide +kernel)
theorem pw_661 : (Cond.selects "MembraneRounds" ⟨"MembraneRounds", "at", "(II)I"⟩ ⟨"MembraneRounds", "at", "(II)I"⟩ : Cond) ∈ lw_gd := lw_gd_in (List.mem_of_getElem? (i := 658) (by decide +kernel)) (by decide +kernel)
theorem pmE_128 : pMQ (14, 52, (1, 11, 3)) := ⟨fun _ => ⟨pC_11, pNa_11⟩, fun _ => pw_659, fun h => absurd h (by decide), fun _ => ⟨pw_660, pw_661, rfl, by decide +kernel⟩, fun h => absurd h (by decide), fun h => absurd h (by decide), fun h => absurd h (by decide), fun h => absurd h (by decide)⟩
theorem pw_662 : (Cond.methodLink "MembraneRoundsLaw" 55 ⟨"MembraneRounds", "outside", "(I)I"⟩ : Cond) ∈ lw_gd := lw_gd_in (List.mem_of_getElem? (i := 669) (by decide +kernel)) (by decide +kernel)
theorem pw_663 : (Cond.instanceMethod ⟨"MembraneRounds", "outside", "(I)I"⟩ : Cond) ∈ lw_gd := lw_gd_in (List.mem_of_getElem? (i := 670) (by decide +kernel)) (by decide +kernel)
theorem pw_664 : (Cond.selects "MembraneRounds" ⟨"MembraneRounds", "outside", "(I)I"⟩ ⟨"MembraneRounds", "outside", "(I)I"⟩ : Cond) ∈ lw_gd := lw_gd_in (List.mem_of_getElem? (i := 671) (by decide +kernel)) (by decide +kernel)
theorem pmE_129 : pMQ (14, 55, (1, 13, 2)) := ⟨fun _ => ⟨pC_13, pNa_13⟩, fun _ => pw_662, fun h => absurd h (by decide), fun _ => ⟨pw_663, pw_664, rfl, by decide +kernel⟩, fun h => absurd h (by decide), fun h => absurd h (by decide), fun h => absurd h (by decide), fun h => absurd h (by decide)⟩
theorem pw_665 : (Cond.methodLink "MembraneRoundsLaw" 58 ⟨"MembraneRounds", "outcomes", "(I)I"⟩ : Cond) ∈ lw_gd := lw_gd_in (List.mem_of_getElem? (i := 677) (by decide +kernel)) (by decide +kernel)
theorem pw_666 : (Cond.instanceMethod ⟨"MembraneRounds", "outcomes", "(I)I"⟩ : Cond) ∈ lw_gd := lw_gd_in (List.mem_of_getElem? (i := 678) (by decide +kernel)) (by decide +kernel)
theorem pw_667 : (Cond.selects "MembraneRounds" ⟨"MembraneRounds", "outcomes", "(I)I"⟩ ⟨"MembraneRounds", "outcomes", "(I)I"⟩ : Cond) ∈ lw_gd := lw_gd_in (List.mem_of_getElem? (i := 679) (by decide +kernel)) (by decide +kernel)
theorem pmE_130 : pMQ (14, 58, (1, 14, 2)) := ⟨fun _ => ⟨pC_14, pNa_14⟩, fun _ => pw_665, fun h => absurd h (by decide), fun _ => ⟨pw_666, pw_667, rfl, by decide +kernel⟩, fun h => absurd h (by decide), fun h => absurd h (by decide), fun h => absurd h (by decide), fun h => absurd h (by decide)⟩
theorem pw_668 : (Cond.methodLink "MembraneRoundsLaw" 61 ⟨"MembraneRounds", "outcome", "(III)I"⟩ : Cond) ∈ lw_gd := lw_gd_in (List.mem_of_getElem? (i := 712) (by decide +kernel)) (by decide +kernel)
theorem pw_669 : (Cond.instanceMethod ⟨"MembraneRounds", "outcome", "(III)I"⟩ : Cond) ∈ lw_gd := lw_gd_in (List.mem_of_getElem? (i := 713) (by decide +kernel)) (by decide +kernel)
theorem pw_670 : (Cond.selects "MembraneRounds" ⟨"MembraneRounds", "outcome", "(III)I"⟩ ⟨"MembraneRounds", "outcome", "(III)I"⟩ : Cond) ∈ lw_gd := lw_gd_in (List.mem_of_getElem? (i := 714) (by decide +kernel)) (by decide +kernel)
theorem pmE_131 : pMQ (14, 61, (1, 15, 4)) := ⟨fun _ => ⟨pC_15, pNa_15⟩, fun _ => pw_668, fun h => absurd h (by decide), fun _ => ⟨pw_669, pw_670, rfl, by decide +kernel⟩, fun h => absurd h (by decide), fun h => absurd h (by decide), fun h => absurd h (by decide), fun h => absurd h (by decide)⟩
theorem pw_671 : (Cond.methodLink "MembraneRoundsLaw" 65 ⟨"MembraneRounds", "adopt", "(I)V"⟩ : Cond) ∈ lw_gd := lw_gd_in (List.mem_of_getElem? (i := 724) (by decide +kernel)) (by decide +kernel)
theorem pw_672 : (Cond.instanceMethod ⟨"MembraneRounds", "adopt", "(I)V"⟩ : Cond) ∈ lw_gd := lw_gd_in (List.mem_of_getElem? (i := 725) (by decide +kernel)) (by decide +kernel)
theorem pw_673 : (Cond.selects "MembraneRounds" ⟨"MembraneRounds", "adopt", "(I)V"⟩ ⟨"MembraneRounds", "adopt", "(I)V"⟩ : Cond) ∈ lw_gd := lw_gd_in (List.mem_of_getElem? (i := 726) (by decide +kernel)) (by decide +kernel)
theorem pmE_132 : pMQ (14, 65, (1, 16, 2)) := ⟨fun _ => ⟨pC_16, pNa_16⟩, fun _ => pw_671, fun h => absurd h (by decide), fun _ => ⟨pw_672, pw_673, rfl, by decide +kernel⟩, fun h => absurd h (by decide), fun h => absurd h (by decide), fun h => absurd h (by decide), fun h => absurd h (by decide)⟩
theorem pw_674 : (Cond.instanceMethod ⟨"MembraneRounds", "<init>", "()V"⟩ : Cond) ∈ lw_gd := lw_gd_in (List.mem_of_getElem? (i := 65) (by decide +kernel)) (by decide +kernel)
theorem pmE_133 : pMQ (14, 68, (2, 0, 1)) := ⟨fun _ => ⟨pC_0, pNa_0⟩, fun h => absurd h (by decide), fun h => absurd h (by decide), fun h => absurd h (by decide), fun _ => ⟨pw_674, rfl, rfl, rfl, rfl, by decide +kernel⟩, fun h => absurd h (by decide), fun h => absurd h (by decide), fun h => absurd h (by decide)⟩
theorem pw_675 : (Cond.instanceMethod ⟨"MembraneRoundsModel", "<init>", "()V"⟩ : Cond) ∈ lw_gd := lw_gd_in (List.mem_of_getElem? (i := 731) (by decide +kernel)) (by decide +kernel)
theorem pmE_134 : pMQ (14, 71, (2, 26, 1)) := ⟨fun _ => ⟨pC_26, pNa_26⟩, fun h => absurd h (by decide), fun h => absurd h (by decide), fun h => absurd h (by decide), fun _ => ⟨pw_675, rfl, rfl, rfl, rfl, by decide +kernel⟩, fun h => absurd h (by decide), fun h => absurd h (by decide), fun h => absurd h (by decide)⟩
theorem pw_676 : (Cond.methodLink "MembraneRoundsLaw" 72 ⟨"MembraneRoundsLaw", "clear", "(LMembraneRounds;I)I"⟩ : Cond) ∈ lw_gd := lw_gd_in (List.mem_of_getElem? (i := 329) (by decide +kernel)) (by decide +kernel)
theorem pw_677 : (Cond.static ⟨"MembraneRoundsLaw", "clear", "(LMembraneRounds;I)I"⟩ : Cond) ∈ lw_gd := lw_gd_in (List.mem_of_getElem? (i := 330) (by decide +kernel)) (by decide +kernel)
theorem pmE_135 : pMQ (14, 72, (0, 124, 2)) := ⟨fun _ => ⟨pC_124, pNa_124⟩, fun _ => pw_676, fun _ => ⟨pw_677, by decide +kernel⟩, fun h => absurd h (by decide), fun h => absurd h (by decide), fun h => absurd h (by decide), fun h => absurd h (by decide), fun h => absurd h (by decide)⟩
theorem pw_678 : (Cond.methodLink "MembraneRoundsLaw" 77 ⟨"MembraneRoundsModel", "clear", "(I)V"⟩ : Cond) ∈ lw_gd := lw_gd_in (List.mem_of_getElem? (i := 825) (by decide +kernel)) (by decide +kernel)
theorem pw_679 : (Cond.instanceMethod ⟨"MembraneRoundsModel", "clear", "(I)V"⟩ : Cond) ∈ lw_gd := lw_gd_in (List.mem_of_getElem? (i := 826) (by decide +kernel)) (by decide +kernel)
theorem pw_680 : (Cond.selects "MembraneRoundsModel" ⟨"MembraneRoundsModel", "clear", "(I)V"⟩ ⟨"MembraneRoundsModel", "clear", "(I)V"⟩ : Cond) ∈ lw_gd := lw_gd_in (List.mem_of_getElem? (i := 827) (by decide +kernel)) (by decide +kernel)
theorem pmE_136 : pMQ (14, 77, (1, 39, 2)) := ⟨fun _ => ⟨pC_39, pNa_39⟩, fun _ => pw_678, fun h => absurd h (by decide), fun _ => ⟨pw_679, pw_680, rfl, by decide +kernel⟩, fun h => absurd h (by decide), fun h => absurd h (by decide), fun h => absurd h (by decide), fun h => absurd h (by decide)⟩
theorem pw_681 : (Cond.methodLink "MembraneRoundsLaw" 78 ⟨"MembraneRoundsModel", "thrown", "()I"⟩ : Cond) ∈ lw_gd := lw_gd_in (List.mem_of_getElem? (i := 821) (by decide +kernel)) (by decide +kernel)
theorem pw_682 : (Cond.instanceMethod ⟨"MembraneRoundsModel", "thrown", "()I"⟩ : Cond) ∈ lw_gd := lw_gd_in (List.mem_of_getElem? (i := 822) (by decide +kernel)) (by decide +kernel)
theorem pw_683 : (Cond.selects "MembraneRoundsModel" ⟨"MembraneRoundsModel", "thrown", "()I"⟩ ⟨"MembraneRoundsModel", "thrown", "()I"⟩ : Cond) ∈ lw_gd := lw_gd_in (List.mem_of_getElem? (i := 823) (by decide +kernel)) (by decide +kernel)
theorem pmE_137 : pMQ (14, 78, (1, 27, 1)) := ⟨fun _ => ⟨pC_27, pNa_27⟩, fun _ => pw_681, fun h => absurd h (by decide), fun _ => ⟨pw_682, pw_683, rfl, by decide +kernel⟩, fun h => absurd h (by decide), fun h => absurd h (by decide), fun h => absurd h (by decide), fun h => absurd h (by decide)⟩
theorem pw_684 : (Cond.methodLink "MembraneRoundsLaw" 81 ⟨"MembraneRoundsLaw", "membrane", "(LMembraneRounds;II[J)I"⟩ : Cond) ∈ lw_gd := lw_gd_in (List.mem_of_getElem? (i := 408) (by decide +kernel)) (by decide +kernel)
theorem pw_685 : (Cond.static ⟨"MembraneRoundsLaw", "membrane", "(LMembraneRounds;II[J)I"⟩ : Cond) ∈ lw_gd := lw_gd_in (List.mem_of_getElem? (i := 409) (by decide +kernel)) (by decide +kernel)
theorem pmE_138 : pMQ (14, 81, (0, 125, 4)) := ⟨fun _ => ⟨pC_125, pNa_125⟩, fun _ => pw_684, fun _ => ⟨pw_685, by decide +kernel⟩, fun h => absurd h (by decide), fun h => absurd h (by decide), fun h => absurd h (by decide), fun h => absurd h (by decide), fun h => absurd h (by decide)⟩
theorem pw_686 : (Cond.methodLink "MembraneRoundsLaw" 84 ⟨"MembraneRoundsModel", "membrane", "(II)I"⟩ : Cond) ∈ lw_gd := lw_gd_in (List.mem_of_getElem? (i := 829) (by decide +kernel)) (by decide +kernel)
theorem pw_687 : (Cond.instanceMethod ⟨"MembraneRoundsModel", "membrane", "(II)I"⟩ : Cond) ∈ lw_gd := lw_gd_in (List.mem_of_getElem? (i := 830) (by decide +kernel)) (by decide +kernel)
theorem pw_688 : (Cond.selects "MembraneRoundsModel" ⟨"MembraneRoundsModel", "membrane", "(II)I"⟩ ⟨"MembraneRoundsModel", "membrane", "(II)I"⟩ : Cond) ∈ lw_gd := lw_gd_in (List.mem_of_getElem? (i := 831) (by decide +kernel)) (by decide +kernel)
theorem pmE_139 : pMQ (14, 84, (1, 40, 3)) := ⟨fun _ => ⟨pC_40, pNa_40⟩, fun _ => pw_686, fun h => absurd h (by decide), fun _ => ⟨pw_687, pw_688, rfl, by decide +kernel⟩, fun h => absurd h (by decide), fun h => absurd h (by decide), fun h => absurd h (by decide), fun h => absurd h (by decide)⟩
theorem pw_689 : (Cond.methodLink "MembraneRoundsLaw" 85 ⟨"MembraneRoundsLaw", "put", "(LMembraneRounds;II)I"⟩ : Cond) ∈ lw_gd := lw_gd_in (List.mem_of_getElem? (i := 458) (by decide +kernel)) (by decide +kernel)
theorem pw_690 : (Cond.static ⟨"MembraneRoundsLaw", "put", "(LMembraneRounds;II)I"⟩ : Cond) ∈ lw_gd := lw_gd_in (List.mem_of_getElem? (i := 459) (by decide +kernel)) (by decide +kernel)
theorem pmE_140 : pMQ (14, 85, (0, 126, 3)) := ⟨fun _ => ⟨pC_126, pNa_126⟩, fun _ => pw_689, fun _ => ⟨pw_690, by decide +kernel⟩, fun h => absurd h (by decide), fun h => absurd h (by decide), fun h => absurd h (by decide), fun h => absurd h (by decide), fun h => absurd h (by decide)⟩
theorem pw_691 : (Cond.methodLink "MembraneRoundsLaw" 88 ⟨"MembraneRoundsModel", "put", "(II)V"⟩ : Cond) ∈ lw_gd := lw_gd_in (List.mem_of_getElem? (i := 845) (by decide +kernel)) (by decide +kernel)
theorem pw_692 : (Cond.instanceMethod ⟨"MembraneRoundsModel", "put", "(II)V"⟩ : Cond) ∈ lw_gd := lw_gd_in (List.mem_of_getElem? (i := 846) (by decide +kernel)) (by decide +kernel)
theorem pw_693 : (Cond.selects "MembraneRoundsModel" ⟨"MembraneRoundsModel", "put", "(II)V"⟩ ⟨"MembraneRoundsModel", "put", "(II)V"⟩ : Cond) ∈ lw_gd := lw_gd_in (List.mem_of_getElem? (i := 847) (by decide +kernel)) (by decide +kernel)
theorem pmE_141 : pMQ (14, 88, (1, 42, 3)) := ⟨fun _ => ⟨pC_42, pNa_42⟩, fun _ => pw_691, fun h => absurd h (by decide), fun _ => ⟨pw_692, pw_693, rfl, by decide +kernel⟩, fun h => absurd h (by decide), fun h => absurd h (by decide), fun h => absurd h (by decide), fun h => absurd h (by decide)⟩
theorem pw_694 : (Cond.methodLink "MembraneRoundsLaw" 89 ⟨"MembraneRoundsLaw", "rule", "(LMembraneRounds;IIII[J)I"⟩ : Cond) ∈ lw_gd := lw_gd_in (List.mem_of_getElem? (i := 481) (by decide +kernel)) (by decide +kernel)
theorem pw_695 : (Cond.static ⟨"MembraneRoundsLaw", "rule", "(LMembraneRounds;IIII[J)I"⟩ : Cond) ∈ lw_gd := lw_gd_in (List.mem_of_getElem? (i := 482) (by decide +kernel)) (by decide +kernel)
theorem pmE_142 : pMQ (14, 89, (0, 127, 6)) := ⟨fun _ => ⟨pC_127, pNa_127⟩, fun _ => pw_694, fun _ => ⟨pw_695, by decide +kernel⟩, fun h => absurd h (by decide), fun h => absurd h (by decide), fun h => absurd h (by decide), fun h => absurd h (by decide), fun h => absurd h (by decide)⟩
theorem pw_696 : (Cond.methodLink "MembraneRoundsLaw" 92 ⟨"MembraneRoundsModel", "rule", "(IIII)I"⟩ : Cond) ∈ lw_gd := lw_gd_in (List.mem_of_getElem? (i := 859) (by decide +kernel)) (by decide +kernel)
theorem pw_697 : (Cond.instanceMethod ⟨"MembraneRoundsModel", "rule", "(IIII)I"⟩ : Cond) ∈ lw_gd := lw_gd_in (List.mem_of_getElem? (i := 860) (by decide +kernel)) (by decide +kernel)
theorem pw_698 : (Cond.selects "MembraneRoundsModel" ⟨"MembraneRoundsModel", "rule", "(IIII)I"⟩ ⟨"MembraneRoundsModel", "rule", "(IIII)I"⟩ : Cond) ∈ lw_gd := lw_gd_in (List.mem_of_getElem? (i := 861) (by decide +kernel)) (by decide +kernel)
theorem pmE_143 : pMQ (14, 92, (1, 43, 5)) := ⟨fun _ => ⟨pC_43, pNa_43⟩, fun _ => pw_696, fun h => absurd h (by decide), fun _ => ⟨pw_697, pw_698, rfl, by decide +kernel⟩, fun h => absurd h (by decide), fun h => absurd h (by decide), fun h => absurd h (by decide), fun h => absurd h (by decide)⟩
theorem pw_699 : (Cond.methodLink "MembraneRoundsLaw" 93 ⟨"MembraneRoundsLaw", "into", "(LMembraneRounds;III)I"⟩ : Cond) ∈ lw_gd := lw_gd_in (List.mem_of_getElem? (i := 501) (by decide +kernel)) (by decide +kernel)
theorem pw_700 : (Cond.static ⟨"MembraneRoundsLaw", "into", "(LMembraneRounds;III)I"⟩ : Cond) ∈ lw_gd := lw_gd_in (List.mem_of_getElem? (i := 502) (by decide +kernel)) (by decide +kernel)
theorem pmE_144 : pMQ (14, 93, (0, 128, 4)) := ⟨fun _ => ⟨pC_128, pNa_128⟩, fun _ => pw_699, fun _ => ⟨pw_700, by decide +kernel⟩, fun h => absurd h (by decide), fun h => absurd h (by decide), fun h => absurd h (by decide), fun h => absurd h (by decide), fun h => absurd h (by decide)⟩
theorem pw_701 : (Cond.methodLink "MembraneRoundsLaw" 96 ⟨"MembraneRoundsModel", "into", "(III)V"⟩ : Cond) ∈ lw_gd := lw_gd_in (List.mem_of_getElem? (i := 863) (by decide +kernel)) (by decide +kernel)
theorem pw_702 : (Cond.instanceMethod ⟨"MembraneRoundsModel", "into", "(III)V"⟩ : Cond) ∈ lw_gd := lw_gd_in (List.mem_of_getElem? (i := 864) (by decide +kernel)) (by decide +kernel)
theorem pw_703 : (Cond.selects "MembraneRoundsModel" ⟨"MembraneRoundsModel", "into", "(III)V"⟩ ⟨"MembraneRoundsModel", "into", "(III)V"⟩ : Cond) ∈ lw_gd := lw_gd_in (List.mem_of_getElem? (i := 865) (by decide +kernel)) (by decide +kernel)
theorem pmE_145 : pMQ (14, 96, (1, 45, 4)) := ⟨fun _ => ⟨pC_45, pNa_45⟩, fun _ => pw_701, fun h => absurd h (by decide), fun _ => ⟨pw_702, pw_703, rfl, by decide +kernel⟩, fun h => absurd h (by decide), fun h => absurd h (by decide), fun h => absurd h (by decide), fun h => absurd h (by decide)⟩
theorem pw_704 : (Cond.methodLink "MembraneRoundsLaw" 97 ⟨"MembraneRoundsLaw", "dissolve", "(LMembraneRounds;I)I"⟩ : Cond) ∈ lw_gd := lw_gd_in (List.mem_of_getElem? (i := 513) (by decide +kernel)) (by decide +kernel)
theorem pw_705 : (Cond.static ⟨"MembraneRoundsLaw", "dissolve", "(LMembraneRounds;I)I"⟩ : Cond) ∈ lw_gd := lw_gd_in (List.mem_of_getElem? (i := 514) (by decide +kernel)) (by decide +kernel)
theorem pmE_146 : pMQ (14, 97, (0, 129, 2)) := ⟨fun _ => ⟨pC_129, pNa_129⟩, fun _ => pw_704, fun _ => ⟨pw_705, by decide +kernel⟩, fun h => absurd h (by decide), fun h => absurd h (by decide), fun h => absurd h (by decide), fun h => absurd h (by decide), fun h => absurd h (by decide)⟩
theorem pw_706 : (Cond.methodLink "MembraneRoundsLaw" 99 ⟨"MembraneRoundsModel", "dissolve", "(I)V"⟩ : Cond) ∈ lw_gd := lw_gd_in (List.mem_of_getElem? (i := 871) (by decide +kernel)) (by decide +kernel)
theorem pw_707 : (Cond.instanceMethod ⟨"MembraneRoundsModel", "dissolve", "(I)V"⟩ : Cond) ∈ lw_gd := lw_gd_in (List.mem_of_getElem? (i := 872) (by decide +kernel)) (by decide +kernel)
theorem pw_708 : (Cond.selects "MembraneRoundsModel" ⟨"MembraneRoundsModel", "dissolve", "(I)V"⟩ ⟨"MembraneRoundsModel", "dissolve", "(I)V"⟩ : Cond) ∈ lw_gd := lw_gd_in (List.mem_of_getElem? (i := 873) (by decide +kernel)) (by decide +kernel)
theorem pmE_147 : pMQ (14, 99, (1, 46, 2)) := ⟨fun _ => ⟨pC_46, pNa_46⟩, fun _ => pw_706, fun h => absurd h (by decide), fun _ => ⟨pw_707, pw_708, rfl, by decide +kernel⟩, fun h => absurd h (by decide), fun h => absurd h (by decide), fun h => absurd h (by decide), fun h => absurd h (by decide)⟩
theorem pw_709 : (Cond.methodLink "MembraneRoundsLaw" 100 ⟨"MembraneRoundsLaw", "divide", "(LMembraneRounds;II)I"⟩ : Cond) ∈ lw_gd := lw_gd_in (List.mem_of_getElem? (i := 529) (by decide +kernel)) (by decide +kernel)
theorem pw_710 : (Cond.static ⟨"MembraneRoundsLaw", "divide", "(LMembraneRounds;II)I"⟩ : Cond) ∈ lw_gd := lw_gd_in (List.mem_of_getElem? (i := 530) (by decide +kernel)) (by decide +kernel)
theorem pmE_148 : pMQ (14, 100, (0, 130, 3)) := ⟨fun _ => ⟨pC_130, pNa_130⟩, fun _ => pw_709, fun _ => ⟨pw_710, by decide +kernel⟩, fun h => absurd h (by decide), fun h => absurd h (by decide), fun h => absurd h (by decide), fun h => absurd h (by decide), fun h => absurd h (by decide)⟩
theorem pw_711 : (Cond.methodLink "MembraneRoundsLaw" 102 ⟨"MembraneRoundsModel", "divide", "(II)V"⟩ : Cond) ∈ lw_gd := lw_gd_in (List.mem_of_getElem? (i := 875) (by decide +kernel)) (by decide +kernel)
theorem pw_712 : (Cond.instanceMethod ⟨"MembraneRoundsModel", "divide", "(II)V"⟩ : Cond) ∈ lw_gd := lw_gd_in (List.mem_of_getElem? (i := 876) (by decide +kernel)) (by decide +kernel)
theorem pw_713 : (Cond.selects "MembraneRoundsModel" ⟨"MembraneRoundsModel", "divide", "(II)V"⟩ ⟨"MembraneRoundsModel", "divide", "(II)V"⟩ : Cond) ∈ lw_gd := lw_gd_in (List.mem_of_getElem? (i := 877) (by decide +kernel)) (by decide +kernel)
theorem pmE_149 : pMQ (14, 102, (1, 47, 3)) := ⟨fun _ => ⟨pC_47, pNa_47⟩, fun _ => pw_711, fun h => absurd h (by decide), fun _ => ⟨pw_712, pw_713, rfl, by decide +kernel⟩, fun h => absurd h (by decide), fun h => absurd h (by decide), fun h => absurd h (by decide), fun h => absurd h (by decide)⟩
theorem pw_714 : (Cond.methodLink "MembraneRoundsLaw" 103 ⟨"MembraneRoundsLaw", "round", "(LMembraneRounds;[J)I"⟩ : Cond) ∈ lw_gd := lw_gd_in (List.mem_of_getElem? (i := 536) (by decide +kernel)) (by decide +kernel)
theorem pw_715 : (Cond.static ⟨"MembraneRoundsLaw", "round", "(LMembraneRounds;[J)I"⟩ : Cond) ∈ lw_gd := lw_gd_in (List.mem_of_getElem? (i := 537) (by decide +kernel)) (by decide +kernel)
theorem pmE_150 : pMQ (14, 103, (0, 131, 2)) := ⟨fun _ => ⟨pC_131, pNa_131⟩, fun _ => pw_714, fun _ => ⟨pw_715, by decide +kernel⟩, fun h => absurd h (by decide), fun h => absurd h (by decide), fun h => absurd h (by decide), fun h => absurd h (by decide), fun h => absurd h (by decide)⟩
theorem pw_716 : (Cond.methodLink "MembraneRoundsLaw" 106 ⟨"MembraneRoundsModel", "round", "()I"⟩ : Cond) ∈ lw_gd := lw_gd_in (List.mem_of_getElem? (i := 879) (by decide +kernel)) (by decide +kernel)
theorem pw_717 : (Cond.instanceMethod ⟨"MembraneRoundsModel", "round", "()I"⟩ : Cond) ∈ lw_gd := lw_gd_in (List.mem_of_getElem? (i := 880) (by decide +kernel)) (by decide +kernel)
theorem pw_718 : (Cond.selects "MembraneRoundsModel" ⟨"MembraneRoundsModel", "round", "()I"⟩ ⟨"MembraneRoundsModel", "round", "()I"⟩ : Cond) ∈ lw_gd := lw_gd_in (List.mem_of_getElem? (i := 881) (by decide +kernel)) (by decide +kernel)
theorem pmE_151 : pMQ (14, 106, (1, 61, 1)) := ⟨fun _ => ⟨pC_61, pNa_61⟩, fun _ => pw_716, fun h => absurd h (by decide), fun _ => ⟨pw_717, pw_718, rfl, by decide +kernel⟩, fun h => absurd h (by decide), fun h => absurd h (by decide), fun h => absurd h (by decide), fun h => absurd h (by decide)⟩
theorem pw_719 : (Cond.methodLink "MembraneRoundsLaw" 107 ⟨"MembraneRoundsLaw", "uses", "(LMembraneRounds;II[J)I"⟩ : Cond) ∈ lw_gd := lw_gd_in (List.mem_of_getElem? (i := 618) (by decide +kernel)) (by decide +kernel)
theorem pw_720 : (Cond.static ⟨"MembraneRoundsLaw", "uses", "(LMembraneRounds;II[J)I"⟩ : Cond) ∈ lw_gd := lw_gd_in (List.mem_of_getElem? (i := 619) (by decide +kernel)) (by decide +kernel)
theorem pmE_152 : pMQ (14, 107, (0, 132, 4)) := ⟨fun _ => ⟨pC_132, pNa_132⟩, fun _ => pw_719, fun _ => ⟨pw_720, by decide +kernel⟩, fun h => absurd h (by decide), fun h => absurd h (by decide), fun h => absurd h (by decide), fun h => absurd h (by decide), fun h => absurd h (by decide)⟩
theorem pw_721 : (Cond.methodLink "MembraneRoundsLaw" 109 ⟨"MembraneRoundsModel", "uses", "(II)I"⟩ : Cond) ∈ lw_gd := lw_gd_in (List.mem_of_getElem? (i := 933) (by decide +kernel)) (by decide +kernel)
theorem pw_722 : (Cond.instanceMethod ⟨"MembraneRoundsModel", "uses", "(II)I"⟩ : Cond) ∈ lw_gd := lw_gd_in (List.mem_of_getElem? (i := 934) (by decide +kernel)) (by decide +kernel)
theorem pw_723 : (Cond.selects "MembraneRoundsModel" ⟨"MembraneRoundsModel", "uses", "(II)I"⟩ ⟨"MembraneRoundsModel", "uses", "(II)I"⟩ : Cond) ∈ lw_gd := lw_gd_in (List.mem_of_getElem? (i := 935) (by decide +kernel)) (by decide +kernel)
theorem pmE_153 : pMQ (14, 109, (1, 62, 3)) := ⟨fun _ => ⟨pC_62, pNa_62⟩, fun _ => pw_721, fun h => absurd h (by decide), fun _ => ⟨pw_722, pw_723, rfl, by decide +kernel⟩, fun h => absurd h (by decide), fun h => absurd h (by decide), fun h => absurd h (by decide), fun h => absurd h (by decide)⟩
theorem pw_724 : (Cond.methodLink "MembraneRoundsLaw" 110 ⟨"MembraneRoundsLaw", "choices", "(LMembraneRounds;I[J)I"⟩ : Cond) ∈ lw_gd := lw_gd_in (List.mem_of_getElem? (i := 626) (by decide +kernel)) (by decide +kernel)
theorem pw_725 : (Cond.static ⟨"MembraneRoundsLaw", "choices", "(LMembraneRounds;I[J)I"⟩ : Cond) ∈ lw_gd := lw_gd_in (List.mem_of_getElem? (i := 627) (by decide +kernel)) (by decide +kernel)
theorem pmE_154 : pMQ (14, 110, (0, 133, 3)) := ⟨fun _ => ⟨pC_133, pNa_133⟩, fun _ => pw_724, fun _ => ⟨pw_725, by decide +kernel⟩, fun h => absurd h (by decide), fun h => absurd h (by decide), fun h => absurd h (by decide), fun h => absurd h (by decide), fun h => absurd h (by decide)⟩
theorem pw_726 : (Cond.methodLink "MembraneRoundsLaw" 113 ⟨"MembraneRoundsModel", "choices", "(I)I"⟩ : Cond) ∈ lw_gd := lw_gd_in (List.mem_of_getElem? (i := 937) (by decide +kernel)) (by decide +kernel)
theorem pw_727 : (Cond.instanceMethod ⟨"MembraneRoundsModel", "choices", "(I)I"⟩ : Cond) ∈ lw_gd := lw_gd_in (List.mem_of_getElem? (i := 938) (by decide +kernel)) (by decide +kernel)
theorem pw_728 : (Cond.selects "MembraneRoundsModel" ⟨"MembraneRoundsModel", "choices", "(I)I"⟩ ⟨"MembraneRoundsModel", "choices", "(I)I"⟩ : Cond) ∈ lw_gd := lw_gd_in (List.mem_of_getElem? (i := 939) (by decide +kernel)) (by decide +kernel)
theorem pmE_155 : pMQ (14, 113, (1, 63, 2)) := ⟨fun _ => ⟨pC_63, pNa_63⟩, fun _ => pw_726, fun h => absurd h (by decide), fun _ => ⟨pw_727, pw_728, rfl, by decide +kernel⟩, fun h => absurd h (by decide), fun h => absurd h (by decide), fun h => absurd h (by decide), fun h => absurd h (by decide)⟩
theorem pw_729 : (Cond.methodLink "MembraneRoundsLaw" 114 ⟨"MembraneRoundsLaw", "at", "(LMembraneRounds;II[J)I"⟩ : Cond) ∈ lw_gd := lw_gd_in (List.mem_of_getElem? (i := 653) (by decide +kernel)) (by decide +kernel)
theorem pw_730 : (Cond.static ⟨"MembraneRoundsLaw", "at", "(LMembraneRounds;II[J)I"⟩ : Cond) ∈ lw_gd := lw_gd_in (List.mem_of_getElem? (i := 654) (by decide +kernel)) (by decide +kernel)
theorem pmE_156 : pMQ (14, 114, (0, 134, 4)) := ⟨fun _ => ⟨pC_134, pNa_134⟩, fun _ => pw_729, fun _ => ⟨pw_730, by decide +kernel⟩, fun h => absurd h (by decide), fun h => absurd h (by decide), fun h => absurd h (by decide), fun h => absurd h (by decide), fun h => absurd h (by decide)⟩
theorem pw_731 : (Cond.methodLink "MembraneRoundsLaw" 116 ⟨"MembraneRoundsModel", "at", "(II)I"⟩ : Cond) ∈ lw_gd := lw_gd_in (List.mem_of_getElem? (i := 953) (by decide +kernel)) (by decide +kernel)
theorem pw_732 : (Cond.instanceMethod ⟨"MembraneRoundsModel", "at", "(II)I"⟩ : Cond) ∈ lw_gd := lw_gd_in (List.mem_of_getElem? (i := 954) (by decide +kernel)) (by decide +kernel)
theorem pw_733 : (Cond.selects "MembraneRoundsModel" ⟨"MembraneRoundsModel", "at", "(II)I"⟩ ⟨"MembraneRoundsModel", "at", "(II)I"⟩ : Cond) ∈ lw_gd := lw_gd_in (List.mem_of_getElem? (i := 955) (by decide +kernel)) (by decide +kernel)
theorem pmE_157 : pMQ (14, 116, (1, 64, 3)) := ⟨fun _ => ⟨pC_64, pNa_64⟩, fun _ => pw_731, fun h => absurd h (by decide), fun _ => ⟨pw_732, pw_733, rfl, by decide +kernel⟩, fun h => absurd h (by decide), fun h => absurd h (by decide), fun h => absurd h (by decide), fun h => absurd h (by decide)⟩
theorem pw_734 : (Cond.methodLink "MembraneRoundsLaw" 117 ⟨"MembraneRounds", "there", "(I)Z"⟩ : Cond) ∈ lw_gd := lw_gd_in (List.mem_of_getElem? (i := 301) (by decide +kernel)) (by decide +kernel)
theorem pw_735 : (Cond.instanceMethod ⟨"MembraneRounds", "there", "(I)Z"⟩ : Cond) ∈ lw_gd := lw_gd_in (List.mem_of_getElem? (i := 302) (by decide +kernel)) (by decide +kernel)
theorem pw_736 : (Cond.selects "MembraneRounds" ⟨"MembraneRounds", "there", "(I)Z"⟩ ⟨"MembraneRounds", "there", "(I)Z"⟩ : Cond) ∈ lw_gd := lw_gd_in (List.mem_of_getElem? (i := 303) (by decide +kernel)) (by decide +kernel)
theorem pmE_158 : pMQ (14, 117, (1, 12, 2)) := ⟨fun _ => ⟨pC_12, pNa_12⟩, fun _ => pw_734, fun h => absurd h (by decide), fun _ => ⟨pw_735, pw_736, rfl, by decide +kernel⟩, fun h => absurd h (by decide), fun h => absurd h (by decide), fun h => absurd h (by decide), fun h => absurd h (by decide)⟩
theorem pw_737 : (Cond.methodLink "MembraneRoundsLaw" 121 ⟨"MembraneRoundsModel", "there", "(I)Z"⟩ : Cond) ∈ lw_gd := lw_gd_in (List.mem_of_getElem? (i := 957) (by decide +kernel)) (by decide +kernel)
theorem pw_738 : (Cond.instanceMethod ⟨"MembraneRoundsModel", "there", "(I)Z"⟩ : Cond) ∈ lw_gd := lw_gd_in (List.mem_of_getElem? (i := 958) (by decide +kernel)) (by decide +kernel)
theorem pw_739 : (Cond.selects "MembraneRoundsModel" ⟨"MembraneRoundsModel", "there", "(I)Z"⟩ ⟨"MembraneRoundsModel", "there", "(I)Z"⟩ : Cond) ∈ lw_gd := lw_gd_in (List.mem_of_getElem? (i := 959) (by decide +kernel)) (by decide +kernel)
theorem pmE_159 : pMQ (14, 121, (1, 65, 2)) := ⟨fun _ => ⟨pC_65, pNa_65⟩, fun _ => pw_737, fun h => absurd h (by decide), fun _ => ⟨pw_738, pw_739, rfl, by decide +kernel⟩, fun h => absurd h (by decide), fun h => absurd h (by decide), fun h => absurd h (by decide), fun h => absurd h (by decide)⟩
theorem pw_740 : (Cond.methodLink "MembraneRoundsLaw" 122 ⟨"MembraneRoundsLaw", "outside", "(LMembraneRounds;I[J)I"⟩ : Cond) ∈ lw_gd := lw_gd_in (List.mem_of_getElem? (i := 666) (by decide +kernel)) (by decide +kernel)
theorem pw_741 : (Cond.static ⟨"MembraneRoundsLaw", "outside", "(LMembraneRounds;I[J)I"⟩ : Cond) ∈ lw_gd := lw_gd_in (List.mem_of_getElem? (i := 667) (by decide +kernel)) (by decide +kernel)
theorem pmE_160 : pMQ (14, 122, (0, 135, 3)) := ⟨fun _ => ⟨pC_135, pNa_135⟩, fun _ => pw_740, fun _ => ⟨pw_741, by decide +kernel⟩, fun h => absurd h (by decide), fun h => absurd h (by decide), fun h => absurd h (by decide), fun h => absurd h (by decide), fun h => absurd h (by decide)⟩
theorem pw_742 : (Cond.methodLink "MembraneRoundsLaw" 124 ⟨"MembraneRoundsModel", "outside", "(I)I"⟩ : Cond) ∈ lw_gd := lw_gd_in (List.mem_of_getElem? (i := 961) (by decide +kernel)) (by decide +kernel)
theorem pw_743 : (Cond.instanceMethod ⟨"MembraneRoundsModel", "outside", "(I)I"⟩ : Cond) ∈ lw_gd := lw_gd_in (List.mem_of_getElem? (i := 962) (by decide +kernel)) (by decide +kernel)
theorem pw_744 : (Cond.selects "MembraneRoundsModel" ⟨"MembraneRoundsModel", "outside", "(I)I"⟩ ⟨"MembraneRoundsModel", "outside", "(I)I"⟩ : Cond) ∈ lw_gd := lw_gd_in (List.mem_of_getElem? (i := 963) (by decide +kernel)) (by decide +kernel)
theorem pmE_161 : pMQ (14, 124, (1, 66, 2)) := ⟨fun _ => ⟨pC_66, pNa_66⟩, fun _ => pw_742, fun h => absurd h (by decide), fun _ => ⟨pw_743, pw_744, rfl, by decide +kernel⟩, fun h => absurd h (by decide), fun h => absurd h (by decide), fun h => absurd h (by decide), fun h => absurd h (by decide)⟩
theorem pw_745 : (Cond.methodLink "MembraneRoundsLaw" 125 ⟨"MembraneRoundsLaw", "outcomes", "(LMembraneRounds;I[J)I"⟩ : Cond) ∈ lw_gd := lw_gd_in (List.mem_of_getElem? (i := 674) (by decide +kernel)) (by decide +kernel)
theorem pw_746 : (Cond.static ⟨"MembraneRoundsLaw", "outcomes", "(LMembraneRounds;I[J)I"⟩ : Cond) ∈ lw_gd := lw_gd_in (List.mem_of_getElem? (i := 675) (by decide +kernel)) (by decide +kernel)
theorem pmE_162 : pMQ (14, 125, (0, 136, 3)) := ⟨fun _ => ⟨pC_136, pNa_136⟩, fun _ => pw_745, fun _ => ⟨pw_746, by decide +kernel⟩, fun h => absurd h (by decide), fun h => absurd h (by decide), fun h => absurd h (by decide), fun h => absurd h (by decide), fun h => absurd h (by decide)⟩
theorem pw_747 : (Cond.methodLink "MembraneRoundsLaw" 127 ⟨"MembraneRoundsModel", "outcomes", "(I)I"⟩ : Cond) ∈ lw_gd := lw_gd_in (List.mem_of_getElem? (i := 965) (by decide +kernel)) (by decide +kernel)
theorem pw_748 : (Cond.instanceMethod ⟨"MembraneRoundsModel", "outcomes", "(I)I"⟩ : Cond) ∈ lw_gd := lw_gd_in (List.mem_of_getElem? (i := 966) (by decide +kernel)) (by decide +kernel)
theorem pw_749 : (Cond.selects "MembraneRoundsModel" ⟨"MembraneRoundsModel", "outcomes", "(I)I"⟩ ⟨"MembraneRoundsModel", "outcomes", "(I)I"⟩ : Cond) ∈ lw_gd := lw_gd_in (List.mem_of_getElem? (i := 967) (by decide +kernel)) (by decide +kernel)
theorem pmE_163 : pMQ (14, 127, (1, 69, 2)) := ⟨fun _ => ⟨pC_69, pNa_69⟩, fun _ => pw_747, fun h => absurd h (by decide), fun _ => ⟨pw_748, pw_749, rfl, by decide +kernel⟩, fun h => absurd h (by decide), fun h => absurd h (by decide), fun h => absurd h (by decide), fun h => absurd h (by decide)⟩
theorem pw_750 : (Cond.methodLink "MembraneRoundsLaw" 128 ⟨"MembraneRoundsLaw", "outcome", "(LMembraneRounds;III[J)I"⟩ : Cond) ∈ lw_gd := lw_gd_in (List.mem_of_getElem? (i := 709) (by decide +kernel)) (by decide +kernel)
theorem pw_751 : (Cond.static ⟨"MembraneRoundsLaw", "outcome", "(LMembraneRounds;III[J)I"⟩ : Cond) ∈ lw_gd := lw_gd_in (List.mem_of_getElem? (i := 710) (by decide +kernel)) (by decide +kernel)
theorem pmE_164 : pMQ (14, 128, (0, 137, 5)) := ⟨fun _ => ⟨pC_137, pNa_137⟩, fun _ => pw_750, fun _ => ⟨pw_751, by decide +kernel⟩, fun h => absurd h (by decide), fun h => absurd h (by decide), fun h => absurd h (by decide), fun h => absurd h (by decide), fun h => absurd h (by decide)⟩
theorem pw_752 : (Cond.methodLink "MembraneRoundsLaw" 131 ⟨"MembraneRoundsModel", "outcome", "(III)I"⟩ : Cond) ∈ lw_gd := lw_gd_in (List.mem_of_getElem? (i := 981) (by decide +kernel)) (by decide +kernel)
theorem pw_753 : (Cond.instanceMethod ⟨"MembraneRoundsModel", "outcome", "(III)I"⟩ : Cond) ∈ lw_gd := lw_gd_in (List.mem_of_getElem? (i := 982) (by decide +kernel)) (by decide +kernel)
theorem pw_754 : (Cond.selects "MembraneRoundsModel" ⟨"MembraneRoundsModel", "outcome", "(III)I"⟩ ⟨"MembraneRoundsModel", "outcome", "(III)I"⟩ : Cond) ∈ lw_gd := lw_gd_in (List.mem_of_getElem? (i := 983) (by decide +kernel)) (by decide +kernel)
theorem pmE_165 : pMQ (14, 131, (1, 70, 4)) := ⟨fun _ => ⟨pC_70, pNa_70⟩, fun _ => pw_752, fun h => absurd h (by decide), fun _ => ⟨pw_753, pw_754, rfl, by decide +kernel⟩, fun h => absurd h (by decide), fun h => absurd h (by decide), fun h => absurd h (by decide), fun h => absurd h (by decide)⟩
theorem pw_755 : (Cond.methodLink "MembraneRoundsLaw" 132 ⟨"MembraneRoundsLaw", "adopt", "(LMembraneRounds;I)I"⟩ : Cond) ∈ lw_gd := lw_gd_in (List.mem_of_getElem? (i := 721) (by decide +kernel)) (by decide +kernel)
theorem pw_756 : (Cond.static ⟨"MembraneRoundsLaw", "adopt", "(LMembraneRounds;I)I"⟩ : Cond) ∈ lw_gd := lw_gd_in (List.mem_of_getElem? (i := 722) (by decide +kernel)) (by decide +kernel)
theorem pmE_166 : pMQ (14, 132, (0, 138, 2)) := ⟨fun _ => ⟨pC_138, pNa_138⟩, fun _ => pw_755, fun _ => ⟨pw_756, by decide +kernel⟩, fun h => absurd h (by decide), fun h => absurd h (by decide), fun h => absurd h (by decide), fun h => absurd h (by decide), fun h => absurd h (by decide)⟩
theorem pw_757 : (Cond.methodLink "MembraneRoundsLaw" 134 ⟨"MembraneRoundsModel", "adopt", "(I)V"⟩ : Cond) ∈ lw_gd := lw_gd_in (List.mem_of_getElem? (i := 985) (by decide +kernel)) (by decide +kernel)
theorem pw_758 : (Cond.instanceMethod ⟨"MembraneRoundsModel", "adopt", "(I)V"⟩ : Cond) ∈ lw_gd := lw_gd_in (List.mem_of_getElem? (i := 986) (by decide +kernel)) (by decide +kernel)
theorem pw_759 : (Cond.selects "MembraneRoundsModel" ⟨"MembraneRoundsModel", "adopt", "(I)V"⟩ ⟨"MembraneRoundsModel", "adopt", "(I)V"⟩ : Cond) ∈ lw_gd := lw_gd_in (List.mem_of_getElem? (i := 987) (by decide +kernel)) (by decide +kernel)
theorem pmE_167 : pMQ (14, 134, (1, 71, 2)) := ⟨fun _ => ⟨pC_71, pNa_71⟩, fun _ => pw_757, fun h => absurd h (by decide), fun _ => ⟨pw_758, pw_759, rfl, by decide +kernel⟩, fun h => absurd h (by decide), fun h => absurd h (by decide), fun h => absurd h (by decide), fun h => absurd h (by decide)⟩
theorem pw_760 : (Cond.methodLink "MembraneRoundsLaw" 135 ⟨"MembraneRounds", "written", "(I)I"⟩ : Cond) ∈ lw_gd := lw_gd_in (List.mem_of_getElem? (i := 309) (by decide +kernel)) (by decide +kernel)
theorem pw_761 : (Cond.instanceMethod ⟨"MembraneRounds", "written", "(I)I"⟩ : Cond) ∈ lw_gd := lw_gd_in (List.mem_of_getElem? (i := 310) (by decide +kernel)) (by decide +kernel)
theorem pw_762 : (Cond.selects "MembraneRounds" ⟨"MembraneRounds", "written", "(I)I"⟩ ⟨"MembraneRounds", "written", "(I)I"⟩ : Cond) ∈ lw_gd := lw_gd_in (List.mem_of_getElem? (i := 311) (by decide +kernel)) (by decide +kernel)
theorem pmE_168 : pMQ (14, 135, (1, 17, 2)) := ⟨fun _ => ⟨pC_17, pNa_17⟩, fun _ => pw_760, fun h => absurd h (by decide), fun _ => ⟨pw_761, pw_762, rfl, by decide +kernel⟩, fun h => absurd h (by decide), fun h => absurd h (by decide), fun h => absurd h (by decide), fun h => absurd h (by decide)⟩
theorem pw_763 : (Cond.methodLink "MembraneRoundsLaw" 138 ⟨"MembraneRoundsModel", "written", "(I)I"⟩ : Cond) ∈ lw_gd := lw_gd_in (List.mem_of_getElem? (i := 989) (by decide +kernel)) (by decide +kernel)
theorem pw_764 : (Cond.instanceMethod ⟨"MembraneRoundsModel", "written", "(I)I"⟩ : Cond) ∈ lw_gd := lw_gd_in (List.mem_of_getElem? (i := 990) (by decide +kernel)) (by decide +kernel)
theorem pw_765 : (Cond.selects "MembraneRoundsModel" ⟨"MembraneRoundsModel", "written", "(I)I"⟩ ⟨"MembraneRoundsModel", "written", "(I)I"⟩ : Cond) ∈ lw_gd := lw_gd_in (List.mem_of_getElem? (i := 991) (by decide +kernel)) (by decide +kernel)
theorem pmE_169 : pMQ (14, 138, (1, 75, 2)) := ⟨fun _ => ⟨pC_75, pNa_75⟩, fun _ => pw_763, fun h => absurd h (by decide), fun _ => ⟨pw_764, pw_765, rfl, by decide +kernel⟩, fun h => absurd h (by decide), fun h => absurd h (by decide), fun h => absurd h (by decide), fun h => absurd h (by decide)⟩
theorem pmMR_0 : ∀ z ∈ ([(0, 3, (3, 0, 1)), (0, 11, (2, 112, 1)), (0, 18, (2, 79, 1)), (0, 25, (2, 118, 1)), (0, 32, (2, 105, 1)), (0, 39, (2, 114, 1)), (0, 50, (2, 89, 1)), (0, 58, (1, 90, 2)), (0, 62, (0, 21, 1)), (0, 70, (1, 18, 2)), (0, 73, (1, 96, 1)), (0, 84, (1, 91, 5)), (0, 88, (0, 22, 1)), (0, 95, (0, 100, 1)), (0, 103, (0, 103, 2)), (0, 109, (0, 23, 1)), (0, 114, (1, 113, 5)), (0, 118, (1, 19, 2)), (0, 134, (1, 25, 2)), (0, 147, (1, 80, 4)), (0, 151, (0, 78, 1)), (0, 157, (1, 93, 2)), (0, 161, (1, 119, 4)), (0, 167, (0, 77, 2)), (0, 171, (1, 81, 4)), (0, 173, (5, 0, 2)), (0, 178, (0, 24, 2)), (0, 188, (1, 97, 2)), (0, 191, (0, 101, 2)), (0, 194, (1, 95, 2))] : List (Nat × Nat × Nat × Nat × Nat)), pMQ z := List.forall_mem_cons.mpr ⟨pmE_0, List.forall_mem_cons.mpr ⟨pmE_1, List.forall_mem_cons.mpr ⟨pmE_2, List.forall_mem_cons.mpr ⟨pmE_3, List.forall_mem_cons.mpr ⟨pmE_4, List.forall_mem_cons.mpr ⟨pmE_5, List.forall_mem_cons.mpr ⟨pmE_6, List.forall_mem_cons.mpr ⟨pmE_7, List.forall_mem_cons.mpr ⟨pmE_8, List.forall_mem_cons.mpr ⟨pmE_9, List.forall_mem_cons.mpr ⟨pmE_10, List.forall_mem_cons.mpr ⟨pmE_11, List.forall_mem_cons.mpr ⟨pmE_12, List.forall_mem_cons.mpr ⟨pmE_13, List.forall_mem_cons.mpr ⟨pmE_14, List.forall_mem_cons.mpr ⟨pmE_15, List.forall_mem_cons.mpr ⟨pmE_16, List.forall_mem_cons.mpr ⟨pmE_17, List.forall_mem_cons.mpr ⟨pmE_18, List.forall_mem_cons.mpr ⟨pmE_19, List.forall_mem_cons.mpr ⟨pmE_20, List.forall_mem_cons.mpr ⟨pmE_21, List.forall_mem_cons.mpr ⟨pmE_22, List.forall_mem_cons.mpr ⟨pmE_23, List.forall_mem_cons.mpr ⟨pmE_24, List.forall_mem_cons.mpr ⟨pmE_25, List.forall_mem_cons.mpr ⟨pmE_26, List.forall_mem_cons.mpr ⟨pmE_27, List.forall_mem_cons.mpr ⟨pmE_28, List.forall_mem_cons.mpr ⟨pmE_29, fun _ h => absurd h List.not_mem_nil⟩⟩⟩⟩⟩⟩⟩⟩⟩⟩⟩⟩⟩⟩⟩⟩⟩⟩⟩⟩⟩⟩⟩⟩⟩⟩⟩⟩⟩⟩
theorem pmMR_1 : ∀ z ∈ ([(0, 208, (1, 106, 2)), (0, 211, (1, 107, 4)), (0, 215, (1, 20, 2)), (0, 224, (1, 115, 3)), (0, 240, (1, 110, 1)), (1, 1, (3, 0, 1)), (1, 61, (1, 34, 2)), (1, 69, (1, 29, 4)), (1, 73, (1, 30, 5)), (1, 83, (0, 28, 2)), (1, 87, (1, 31, 3)), (1, 91, (1, 38, 2)), (1, 95, (0, 41, 1)), (1, 99, (1, 35, 5)), (1, 102, (1, 44, 2)), (1, 109, (1, 37, 4)), (1, 112, (1, 36, 3)), (1, 115, (1, 49, 2)), (1, 118, (0, 52, 2)), (1, 121, (1, 48, 3)), (1, 125, (1, 50, 4)), (1, 128, (1, 51, 3)), (1, 131, (1, 53, 1)), (1, 135, (1, 56, 5)), (1, 139, (1, 57, 4)), (1, 146, (1, 32, 3)), (1, 149, (0, 54, 2)), (1, 152, (1, 60, 2)), (1, 155, (1, 55, 3)), (1, 158, (1, 59, 2))] : List (Nat × Nat × Nat × Nat × Nat)), pMQ z := List.forall_mem_cons.mpr ⟨pmE_30, List.forall_mem_cons.mpr ⟨pmE_31, List.forall_mem_cons.mpr ⟨pmE_32, List.forall_mem_cons.mpr ⟨pmE_33, List.forall_mem_cons.mpr ⟨pmE_34, List.forall_mem_cons.mpr ⟨pmE_35, List.forall_mem_cons.mpr ⟨pmE_36, List.forall_mem_cons.mpr ⟨pmE_37, List.forall_mem_cons.mpr ⟨pmE_38, List.forall_mem_cons.mpr ⟨pmE_39, List.forall_mem_cons.mpr ⟨pmE_40, List.forall_mem_cons.mpr ⟨pmE_41, List.forall_mem_cons.mpr ⟨pmE_42, List.forall_mem_cons.mpr ⟨pmE_43, List.forall_mem_cons.mpr ⟨pmE_44, List.forall_mem_cons.mpr ⟨pmE_45, List.forall_mem_cons.mpr ⟨pmE_46, List.forall_mem_cons.mpr ⟨pmE_47, List.forall_mem_cons.mpr ⟨pmE_48, List.forall_mem_cons.mpr ⟨pmE_49, List.forall_mem_cons.mpr ⟨pmE_50, List.forall_mem_cons.mpr ⟨pmE_51, List.forall_mem_cons.mpr ⟨pmE_52, List.forall_mem_cons.mpr ⟨pmE_53, List.forall_mem_cons.mpr ⟨pmE_54, List.forall_mem_cons.mpr ⟨pmE_55, List.forall_mem_cons.mpr ⟨pmE_56, List.forall_mem_cons.mpr ⟨pmE_57, List.forall_mem_cons.mpr ⟨pmE_58, List.forall_mem_cons.mpr ⟨pmE_59, fun _ h => absurd h List.not_mem_nil⟩⟩⟩⟩⟩⟩⟩⟩⟩⟩⟩⟩⟩⟩⟩⟩⟩⟩⟩⟩⟩⟩⟩⟩⟩⟩⟩⟩⟩⟩
theorem pmMR_2 : ∀ z ∈ ([(1, 161, (1, 58, 4)), (1, 167, (1, 33, 3)), (1, 170, (1, 67, 1)), (1, 174, (1, 68, 2)), (1, 186, (1, 72, 2)), (1, 189, (1, 73, 2)), (1, 192, (1, 74, 3)), (2, 3, (3, 0, 1)), (2, 27, (1, 85, 4)), (2, 41, (1, 111, 3)), (2, 49, (1, 110, 1)), (2, 56, (0, 76, 3)), (2, 65, (1, 84, 4)), (2, 71, (5, 0, 2)), (2, 77, (1, 87, 5)), (2, 95, (0, 86, 3)), (2, 103, (1, 97, 2)), (2, 113, (1, 98, 3)), (2, 116, (1, 88, 4)), (2, 123, (0, 102, 2)), (3, 3, (3, 0, 1)), (3, 22, (1, 92, 2)), (3, 26, (1, 91, 5)), (3, 30, (6, 0, 5)), (3, 40, (0, 103, 2)), (4, 3, (3, 0, 1)), (4, 20, (2, 89, 1)), (4, 29, (1, 93, 2)), (4, 37, (1, 82, 3)), (4, 43, (1, 83, 2))] : List (Nat × Nat × Nat × Nat × Nat)), pMQ z := List.forall_mem_cons.mpr ⟨pmE_60, List.forall_mem_cons.mpr ⟨pmE_61, List.forall_mem_cons.mpr ⟨pmE_62, List.forall_mem_cons.mpr ⟨pmE_63, List.forall_mem_cons.mpr ⟨pmE_64, List.forall_mem_cons.mpr ⟨pmE_65, List.forall_mem_cons.mpr ⟨pmE_66, List.forall_mem_cons.mpr ⟨pmE_67, List.forall_mem_cons.mpr ⟨pmE_68, List.forall_mem_cons.mpr ⟨pmE_69, List.forall_mem_cons.mpr ⟨pmE_70, List.forall_mem_cons.mpr ⟨pmE_71, List.forall_mem_cons.mpr ⟨pmE_72, List.forall_mem_cons.mpr ⟨pmE_73, List.forall_mem_cons.mpr ⟨pmE_74, List.forall_mem_cons.mpr ⟨pmE_75, List.forall_mem_cons.mpr ⟨pmE_76, List.forall_mem_cons.mpr ⟨pmE_77, List.forall_mem_cons.mpr ⟨pmE_78, List.forall_mem_cons.mpr ⟨pmE_79, List.forall_mem_cons.mpr ⟨pmE_80, List.forall_mem_cons.mpr ⟨pmE_81, List.forall_mem_cons.mpr ⟨pmE_82, List.forall_mem_cons.mpr ⟨pmE_83, List.forall_mem_cons.mpr ⟨pmE_84, List.forall_mem_cons.mpr ⟨pmE_85, List.forall_mem_cons.mpr ⟨pmE_86, List.forall_mem_cons.mpr ⟨pmE_87, List.forall_mem_cons.mpr ⟨pmE_88, List.forall_mem_cons.mpr ⟨pmE_89, fun _ h => absurd h List.not_mem_nil⟩⟩⟩⟩⟩⟩⟩⟩⟩⟩⟩⟩⟩⟩⟩⟩⟩⟩⟩⟩⟩⟩⟩⟩⟩⟩⟩⟩⟩⟩
theorem pmMR_3 : ∀ z ∈ ([(4, 47, (1, 119, 4)), (4, 53, (1, 108, 2)), (4, 57, (1, 94, 2)), (5, 3, (3, 0, 1)), (5, 22, (1, 110, 1)), (5, 30, (0, 102, 2)), (6, 3, (3, 0, 1)), (6, 17, (2, 109, 2)), (6, 31, (0, 104, 1)), (7, 3, (3, 0, 1)), (7, 19, (1, 116, 4)), (7, 29, (1, 117, 2)), (7, 37, (0, 101, 2)), (8, 3, (3, 0, 1)), (8, 23, (0, 77, 2)), (8, 32, (1, 120, 5)), (8, 36, (1, 121, 2)), (8, 40, (1, 122, 2)), (8, 44, (1, 99, 1)), (8, 78, (1, 98, 3)), (8, 81, (1, 110, 1)), (8, 84, (1, 96, 1)), (8, 94, (1, 91, 5)), (8, 101, (0, 123, 2)), (8, 105, (1, 92, 2)), (12, 11, (0, 77, 2)), (13, 15, (0, 102, 2)), (13, 19, (0, 101, 2)), (14, 7, (1, 1, 2)), (14, 15, (1, 2, 3))] : List (Nat × Nat × Nat × Nat × Nat)), pMQ z := List.forall_mem_cons.mpr ⟨pmE_90, List.forall_mem_cons.mpr ⟨pmE_91, List.forall_mem_cons.mpr ⟨pmE_92, List.forall_mem_cons.mpr ⟨pmE_93, List.forall_mem_cons.mpr ⟨pmE_94, List.forall_mem_cons.mpr ⟨pmE_95, List.forall_mem_cons.mpr ⟨pmE_96, List.forall_mem_cons.mpr ⟨pmE_97, List.forall_mem_cons.mpr ⟨pmE_98, List.forall_mem_cons.mpr ⟨pmE_99, List.forall_mem_cons.mpr ⟨pmE_100, List.forall_mem_cons.mpr ⟨pmE_101, List.forall_mem_cons.mpr ⟨pmE_102, List.forall_mem_cons.mpr ⟨pmE_103, List.forall_mem_cons.mpr ⟨pmE_104, List.forall_mem_cons.mpr ⟨pmE_105, List.forall_mem_cons.mpr ⟨pmE_106, List.forall_mem_cons.mpr ⟨pmE_107, List.forall_mem_cons.mpr ⟨pmE_108, List.forall_mem_cons.mpr ⟨pmE_109, List.forall_mem_cons.mpr ⟨pmE_110, List.forall_mem_cons.mpr ⟨pmE_111, List.forall_mem_cons.mpr ⟨pmE_112, List.forall_mem_cons.mpr ⟨pmE_113, List.forall_mem_cons.mpr ⟨pmE_114, List.forall_mem_cons.mpr ⟨pmE_115, List.forall_mem_cons.mpr ⟨pmE_116, List.forall_mem_cons.mpr ⟨pmE_117, List.forall_mem_cons.mpr ⟨pmE_118, List.forall_mem_cons.mpr ⟨pmE_119, fun _ h => absurd h List.not_mem_nil⟩⟩⟩⟩⟩⟩⟩⟩⟩⟩⟩⟩⟩⟩⟩⟩⟩⟩⟩⟩⟩⟩⟩⟩⟩⟩⟩⟩⟩⟩
theorem pmMR_4 : ∀ z ∈ ([(14, 23, (1, 3, 3)), (14, 27, (1, 4, 5)), (14, 31, (1, 5, 4)), (14, 35, (1, 6, 2)), (14, 38, (1, 7, 3)), (14, 41, (1, 8, 1)), (14, 45, (1, 9, 3)), (14, 48, (1, 10, 2)), (14, 52, (1, 11, 3)), (14, 55, (1, 13, 2)), (14, 58, (1, 14, 2)), (14, 61, (1, 15, 4)), (14, 65, (1, 16, 2)), (14, 68, (2, 0, 1)), (14, 71, (2, 26, 1)), (14, 72, (0, 124, 2)), (14, 77, (1, 39, 2)), (14, 78, (1, 27, 1)), (14, 81, (0, 125, 4)), (14, 84, (1, 40, 3)), (14, 85, (0, 126, 3)), (14, 88, (1, 42, 3)), (14, 89, (0, 127, 6)), (14, 92, (1, 43, 5)), (14, 93, (0, 128, 4)), (14, 96, (1, 45, 4)), (14, 97, (0, 129, 2)), (14, 99, (1, 46, 2)), (14, 100, (0, 130, 3)), (14, 102, (1, 47, 3))] : List (Nat × Nat × Nat × Nat × Nat)), pMQ z := List.forall_mem_cons.mpr ⟨pmE_120, List.forall_mem_cons.mpr ⟨pmE_121, List.forall_mem_cons.mpr ⟨pmE_122, List.forall_mem_cons.mpr ⟨pmE_123, List.forall_mem_cons.mpr ⟨pmE_124, List.forall_mem_cons.mpr ⟨pmE_125, List.forall_mem_cons.mpr ⟨pmE_126, List.forall_mem_cons.mpr ⟨pmE_127, List.forall_mem_cons.mpr ⟨pmE_128, List.forall_mem_cons.mpr ⟨pmE_129, List.forall_mem_cons.mpr ⟨pmE_130, List.forall_mem_cons.mpr ⟨pmE_131, List.forall_mem_cons.mpr ⟨pmE_132, List.forall_mem_cons.mpr ⟨pmE_133, List.forall_mem_cons.mpr ⟨pmE_134, List.forall_mem_cons.mpr ⟨pmE_135, List.forall_mem_cons.mpr ⟨pmE_136, List.forall_mem_cons.mpr ⟨pmE_137, List.forall_mem_cons.mpr ⟨pmE_138, List.forall_mem_cons.mpr ⟨pmE_139, List.forall_mem_cons.mpr ⟨pmE_140, List.forall_mem_cons.mpr ⟨pmE_141, List.forall_mem_cons.mpr ⟨pmE_142, List.forall_mem_cons.mpr ⟨pmE_143, List.forall_mem_cons.mpr ⟨pmE_144, List.forall_mem_cons.mpr ⟨pmE_145, List.forall_mem_cons.mpr ⟨pmE_146, List.forall_mem_cons.mpr ⟨pmE_147, List.forall_mem_cons.mpr ⟨pmE_148, List.forall_mem_cons.mpr ⟨pmE_149, fun _ h => absurd h List.not_mem_nil⟩⟩⟩⟩⟩⟩⟩⟩⟩⟩⟩⟩⟩⟩⟩⟩⟩⟩⟩⟩⟩⟩⟩⟩⟩⟩⟩⟩⟩⟩
theorem pmMR_5 : ∀ z ∈ ([(14, 103, (0, 131, 2)), (14, 106, (1, 61, 1)), (14, 107, (0, 132, 4)), (14, 109, (1, 62, 3)), (14, 110, (0, 133, 3)), (14, 113, (1, 63, 2)), (14, 114, (0, 134, 4)), (14, 116, (1, 64, 3)), (14, 117, (1, 12, 2)), (14, 121, (1, 65, 2)), (14, 122, (0, 135, 3)), (14, 124, (1, 66, 2)), (14, 125, (0, 136, 3)), (14, 127, (1, 69, 2)), (14, 128, (0, 137, 5)), (14, 131, (1, 70, 4)), (14, 132, (0, 138, 2)), (14, 134, (1, 71, 2)), (14, 135, (1, 17, 2)), (14, 138, (1, 75, 2))] : List (Nat × Nat × Nat × Nat × Nat)), pMQ z := List.forall_mem_cons.mpr ⟨pmE_150, List.forall_mem_cons.mpr ⟨pmE_151, List.forall_mem_cons.mpr ⟨pmE_152, List.forall_mem_cons.mpr ⟨pmE_153, List.forall_mem_cons.mpr ⟨pmE_154, List.forall_mem_cons.mpr ⟨pmE_155, List.forall_mem_cons.mpr ⟨pmE_156, List.forall_mem_cons.mpr ⟨pmE_157, List.forall_mem_cons.mpr ⟨pmE_158, List.forall_mem_cons.mpr ⟨pmE_159, List.forall_mem_cons.mpr ⟨pmE_160, List.forall_mem_cons.mpr ⟨pmE_161, List.forall_mem_cons.mpr ⟨pmE_162, List.forall_mem_cons.mpr ⟨pmE_163, List.forall_mem_cons.mpr ⟨pmE_164, List.forall_mem_cons.mpr ⟨pmE_165, List.forall_mem_cons.mpr ⟨pmE_166, List.forall_mem_cons.mpr ⟨pmE_167, List.forall_mem_cons.mpr ⟨pmE_168, List.forall_mem_cons.mpr ⟨pmE_169, fun _ h => absurd h List.not_mem_nil⟩⟩⟩⟩⟩⟩⟩⟩⟩⟩⟩⟩⟩⟩⟩⟩⟩⟩⟩⟩
theorem pmM_all : ∀ z ∈ pmML, pMQ z := by
  show ∀ z ∈ ([(0, 3, (3, 0, 1)), (0, 11, (2, 112, 1)), (0, 18, (2, 79, 1)), (0, 25, (2, 118, 1)), (0, 32, (2, 105, 1)), (0, 39, (2, 114, 1)), (0, 50, (2, 89, 1)), (0, 58, (1, 90, 2)), (0, 62, (0, 21, 1)), (0, 70, (1, 18, 2)), (0, 73, (1, 96, 1)), (0, 84, (1, 91, 5)), (0, 88, (0, 22, 1)), (0, 95, (0, 100, 1)), (0, 103, (0, 103, 2)), (0, 109, (0, 23, 1)), (0, 114, (1, 113, 5)), (0, 118, (1, 19, 2)), (0, 134, (1, 25, 2)), (0, 147, (1, 80, 4)), (0, 151, (0, 78, 1)), (0, 157, (1, 93, 2)), (0, 161, (1, 119, 4)), (0, 167, (0, 77, 2)), (0, 171, (1, 81, 4)), (0, 173, (5, 0, 2)), (0, 178, (0, 24, 2)), (0, 188, (1, 97, 2)), (0, 191, (0, 101, 2)), (0, 194, (1, 95, 2))] : List (Nat × Nat × Nat × Nat × Nat)) ++ (([(0, 208, (1, 106, 2)), (0, 211, (1, 107, 4)), (0, 215, (1, 20, 2)), (0, 224, (1, 115, 3)), (0, 240, (1, 110, 1)), (1, 1, (3, 0, 1)), (1, 61, (1, 34, 2)), (1, 69, (1, 29, 4)), (1, 73, (1, 30, 5)), (1, 83, (0, 28, 2)), (1, 87, (1, 31, 3)), (1, 91, (1, 38, 2)), (1, 95, (0, 41, 1)), (1, 99, (1, 35, 5)), (1, 102, (1, 44, 2)), (1, 109, (1, 37, 4)), (1, 112, (1, 36, 3)), (1, 115, (1, 49, 2)), (1, 118, (0, 52, 2)), (1, 121, (1, 48, 3)), (1, 125, (1, 50, 4)), (1, 128, (1, 51, 3)), (1, 131, (1, 53, 1)), (1, 135, (1, 56, 5)), (1, 139, (1, 57, 4)), (1, 146, (1, 32, 3)), (1, 149, (0, 54, 2)), (1, 152, (1, 60, 2)), (1, 155, (1, 55, 3)), (1, 158, (1, 59, 2))] : List (Nat × Nat × Nat × Nat × Nat)) ++ (([(1, 161, (1, 58, 4)), (1, 167, (1, 33, 3)), (1, 170, (1, 67, 1)), (1, 174, (1, 68, 2)), (1, 186, (1, 72, 2)), (1, 189, (1, 73, 2)), (1, 192, (1, 74, 3)), (2, 3, (3, 0, 1)), (2, 27, (1, 85, 4)), (2, 41, (1, 111, 3)), (2, 49, (1, 110, 1)), (2, 56, (0, 76, 3)), (2, 65, (1, 84, 4)), (2, 71, (5, 0, 2)), (2, 77, (1, 87, 5)), (2, 95, (0, 86, 3)), (2, 103, (1, 97, 2)), (2, 113, (1, 98, 3)), (2, 116, (1, 88, 4)), (2, 123, (0, 102, 2)), (3, 3, (3, 0, 1)), (3, 22, (1, 92, 2)), (3, 26, (1, 91, 5)), (3, 30, (6, 0, 5)), (3, 40, (0, 103, 2)), (4, 3, (3, 0, 1)), (4, 20, (2, 89, 1)), (4, 29, (1, 93, 2)), (4, 37, (1, 82, 3)), (4, 43, (1, 83, 2))] : List (Nat × Nat × Nat × Nat × Nat)) ++ (([(4, 47, (1, 119, 4)), (4, 53, (1, 108, 2)), (4, 57, (1, 94, 2)), (5, 3, (3, 0, 1)), (5, 22, (1, 110, 1)), (5, 30, (0, 102, 2)), (6, 3, (3, 0, 1)), (6, 17, (2, 109, 2)), (6, 31, (0, 104, 1)), (7, 3, (3, 0, 1)), (7, 19, (1, 116, 4)), (7, 29, (1, 117, 2)), (7, 37, (0, 101, 2)), (8, 3, (3, 0, 1)), (8, 23, (0, 77, 2)), (8, 32, (1, 120, 5)), (8, 36, (1, 121, 2)), (8, 40, (1, 122, 2)), (8, 44, (1, 99, 1)), (8, 78, (1, 98, 3)), (8, 81, (1, 110, 1)), (8, 84, (1, 96, 1)), (8, 94, (1, 91, 5)), (8, 101, (0, 123, 2)), (8, 105, (1, 92, 2)), (12, 11, (0, 77, 2)), (13, 15, (0, 102, 2)), (13, 19, (0, 101, 2)), (14, 7, (1, 1, 2)), (14, 15, (1, 2, 3))] : List (Nat × Nat × Nat × Nat × Nat)) ++ (([(14, 23, (1, 3, 3)), (14, 27, (1, 4, 5)), (14, 31, (1, 5, 4)), (14, 35, (1, 6, 2)), (14, 38, (1, 7, 3)), (14, 41, (1, 8, 1)), (14, 45, (1, 9, 3)), (14, 48, (1, 10, 2)), (14, 52, (1, 11, 3)), (14, 55, (1, 13, 2)), (14, 58, (1, 14, 2)), (14, 61, (1, 15, 4)), (14, 65, (1, 16, 2)), (14, 68, (2, 0, 1)), (14, 71, (2, 26, 1)), (14, 72, (0, 124, 2)), (14, 77, (1, 39, 2)), (14, 78, (1, 27, 1)), (14, 81, (0, 125, 4)), (14, 84, (1, 40, 3)), (14, 85, (0, 126, 3)), (14, 88, (1, 42, 3)), (14, 89, (0, 127, 6)), (14, 92, (1, 43, 5)), (14, 93, (0, 128, 4)), (14, 96, (1, 45, 4)), (14, 97, (0, 129, 2)), (14, 99, (1, 46, 2)), (14, 100, (0, 130, 3)), (14, 102, (1, 47, 3))] : List (Nat × Nat × Nat × Nat × Nat)) ++ (([(14, 103, (0, 131, 2)), (14, 106, (1, 61, 1)), (14, 107, (0, 132, 4)), (14, 109, (1, 62, 3)), (14, 110, (0, 133, 3)), (14, 113, (1, 63, 2)), (14, 114, (0, 134, 4)), (14, 116, (1, 64, 3)), (14, 117, (1, 12, 2)), (14, 121, (1, 65, 2)), (14, 122, (0, 135, 3)), (14, 124, (1, 66, 2)), (14, 125, (0, 136, 3)), (14, 127, (1, 69, 2)), (14, 128, (0, 137, 5)), (14, 131, (1, 70, 4)), (14, 132, (0, 138, 2)), (14, 134, (1, 71, 2)), (14, 135, (1, 17, 2)), (14, 138, (1, 75, 2))] : List (Nat × Nat × Nat × Nat × Nat))))))), pMQ z
  exact List.forall_mem_append.mpr ⟨pmMR_0, List.forall_mem_append.mpr ⟨pmMR_1, List.forall_mem_append.mpr ⟨pmMR_2, List.forall_mem_append.mpr ⟨pmMR_3, List.forall_mem_append.mpr ⟨pmMR_4, pmMR_5⟩⟩⟩⟩⟩
theorem pg_mth : gMth pP pN := fun o ix kind k n h => pmM_all (o, ix, kind, k, n) (pmM_in h)
theorem pg_all : gAll pP pN pCL := ⟨pg_ins, pg_fld, pg_ty, pg_cl, pg_new, pg_mth, pg_ci, pg_cl2⟩
def pHQ (k : Nat) : Prop := ∃ raw, Cond.codeWith (pN.mn k) (pN.cd k) (eNL pP k) (eRt pP k) raw ∈ lw_gd ∧ raw.length = (eHs pP k).length ∧ ∀ (j : Nat) (q g : Nat × Nat × Nat × Nat), raw[j]? = some q → (eHs pP k)[j]? = some g → q.1 = g.1 ∧ q.2.1 = g.2.1 ∧ q.2.2.1 = g.2.2.1 ∧ ¬ q.2.2.2 = 0 ∧ Cond.classLink (pN.cn (eOwn pP k)) q.2.2.2 (pN.cn g.2.2.2) ∈ lw_gd
theorem pw_766 : (Cond.classLink "MembraneRoundsLaw" 13 "java/lang/IllegalArgumentException" : Cond) ∈ lw_gd := lw_gd_in (List.mem_of_getElem? (i := 332) (by decide +kernel)) (by decide +kernel)
theorem pH_124 : pHQ 124 := ⟨_, pw_346, rfl, fun j q g h1 h2 => by
    match j with
    | 0 => cases h1; cases h2; exact ⟨rfl, rfl, rfl, by decide, pw_766⟩
    | j + 1 => cases h1⟩
theorem pw_767 : (Cond.classLink "MembraneRoundsLaw" 19 "java/lang/IndexOutOfBoundsException" : Cond) ∈ lw_gd := lw_gd_in (List.mem_of_getElem? (i := 411) (by decide +kernel)) (by decide +kernel)
theorem pw_768 : (Cond.classLink "MembraneRoundsLaw" 21 "java/lang/IllegalStateException" : Cond) ∈ lw_gd := lw_gd_in (List.mem_of_getElem? (i := 412) (by decide +kernel)) (by decide +kernel)
theorem pH_125 : pHQ 125 := ⟨_, pw_348, rfl, fun j q g h1 h2 => by
    match j with
    | 0 => cases h1; cases h2; exact ⟨rfl, rfl, rfl, by decide, pw_767⟩
    | 1 => cases h1; cases h2; exact ⟨rfl, rfl, rfl, by decide, pw_766⟩
    | 2 => cases h1; cases h2; exact ⟨rfl, rfl, rfl, by decide, pw_768⟩
    | j + 3 => cases h1⟩
theorem pH_126 : pHQ 126 := ⟨_, pw_349, rfl, fun j q g h1 h2 => by
    match j with
    | 0 => cases h1; cases h2; exact ⟨rfl, rfl, rfl, by decide, pw_767⟩
    | 1 => cases h1; cases h2; exact ⟨rfl, rfl, rfl, by decide, pw_766⟩
    | 2 => cases h1; cases h2; exact ⟨rfl, rfl, rfl, by decide, pw_768⟩
    | j + 3 => cases h1⟩
theorem pH_127 : pHQ 127 := ⟨_, pw_350, rfl, fun j q g h1 h2 => by
    match j with
    | 0 => cases h1; cases h2; exact ⟨rfl, rfl, rfl, by decide, pw_766⟩
    | 1 => cases h1; cases h2; exact ⟨rfl, rfl, rfl, by decide, pw_768⟩
    | j + 2 => cases h1⟩
theorem pH_128 : pHQ 128 := ⟨_, pw_351, rfl, fun j q g h1 h2 => by
    match j with
    | 0 => cases h1; cases h2; exact ⟨rfl, rfl, rfl, by decide, pw_767⟩
    | 1 => cases h1; cases h2; exact ⟨rfl, rfl, rfl, by decide, pw_766⟩
    | j + 2 => cases h1⟩
theorem pH_129 : pHQ 129 := ⟨_, pw_352, rfl, fun j q g h1 h2 => by
    match j with
    | 0 => cases h1; cases h2; exact ⟨rfl, rfl, rfl, by decide, pw_767⟩
    | 1 => cases h1; cases h2; exact ⟨rfl, rfl, rfl, by decide, pw_768⟩
    | j + 2 => cases h1⟩
theorem pH_130 : pHQ 130 := ⟨_, pw_353, rfl, fun j q g h1 h2 => by
    match j with
    | 0 => cases h1; cases h2; exact ⟨rfl, rfl, rfl, by decide, pw_767⟩
    | 1 => cases h1; cases h2; exact ⟨rfl, rfl, rfl, by decide, pw_766⟩
    | 2 => cases h1; cases h2; exact ⟨rfl, rfl, rfl, by decide, pw_768⟩
    | j + 3 => cases h1⟩
theorem pH_131 : pHQ 131 := ⟨_, pw_354, rfl, fun j q g h1 h2 => by
    match j with
    | 0 => cases h1; cases h2; exact ⟨rfl, rfl, rfl, by decide, pw_768⟩
    | j + 1 => cases h1⟩
theorem pH_132 : pHQ 132 := ⟨_, pw_355, rfl, fun j q g h1 h2 => by
    match j with
    | 0 => cases h1; cases h2; exact ⟨rfl, rfl, rfl, by decide, pw_767⟩
    | j + 1 => cases h1⟩
theorem pH_133 : pHQ 133 := ⟨_, pw_356, rfl, fun j q g h1 h2 => by
    match j with
    | 0 => cases h1; cases h2; exact ⟨rfl, rfl, rfl, by decide, pw_767⟩
    | j + 1 => cases h1⟩
theorem pH_134 : pHQ 134 := ⟨_, pw_357, rfl, fun j q g h1 h2 => by
    match j with
    | 0 => cases h1; cases h2; exact ⟨rfl, rfl, rfl, by decide, pw_767⟩
    | 1 => cases h1; cases h2; exact ⟨rfl, rfl, rfl, by decide, pw_766⟩
    | j + 2 => cases h1⟩
theorem pH_135 : pHQ 135 := ⟨_, pw_358, rfl, fun j q g h1 h2 => by
    match j with
    | 0 => cases h1; cases h2; exact ⟨rfl, rfl, rfl, by decide, pw_767⟩
    | j + 1 => cases h1⟩
theorem pH_136 : pHQ 136 := ⟨_, pw_359, rfl, fun j q g h1 h2 => by
    match j with
    | 0 => cases h1; cases h2; exact ⟨rfl, rfl, rfl, by decide, pw_766⟩
    | j + 1 => cases h1⟩
theorem pH_137 : pHQ 137 := ⟨_, pw_360, rfl, fun j q g h1 h2 => by
    match j with
    | 0 => cases h1; cases h2; exact ⟨rfl, rfl, rfl, by decide, pw_767⟩
    | 1 => cases h1; cases h2; exact ⟨rfl, rfl, rfl, by decide, pw_766⟩
    | j + 2 => cases h1⟩
theorem pH_138 : pHQ 138 := ⟨_, pw_361, rfl, fun j q g h1 h2 => by
    match j with
    | 0 => cases h1; cases h2; exact ⟨rfl, rfl, rfl, by decide, pw_767⟩
    | j + 1 => cases h1⟩
def phHL : List Nat := [124, 125, 126, 127, 128, 129, 130, 131, 132, 133, 134, 135, 136, 137, 138]
theorem phH_all : ∀ k ∈ phHL, pHQ k := by
  show ∀ k ∈ [124, 125, 126, 127, 128, 129, 130, 131, 132, 133, 134, 135, 136, 137, 138], pHQ k
  exact List.forall_mem_cons.mpr ⟨pH_124, List.forall_mem_cons.mpr ⟨pH_125, List.forall_mem_cons.mpr ⟨pH_126, List.forall_mem_cons.mpr ⟨pH_127, List.forall_mem_cons.mpr ⟨pH_128, List.forall_mem_cons.mpr ⟨pH_129, List.forall_mem_cons.mpr ⟨pH_130, List.forall_mem_cons.mpr ⟨pH_131, List.forall_mem_cons.mpr ⟨pH_132, List.forall_mem_cons.mpr ⟨pH_133, List.forall_mem_cons.mpr ⟨pH_134, List.forall_mem_cons.mpr ⟨pH_135, List.forall_mem_cons.mpr ⟨pH_136, List.forall_mem_cons.mpr ⟨pH_137, List.forall_mem_cons.mpr ⟨pH_138, fun _ h => absurd h List.not_mem_nil⟩⟩⟩⟩⟩⟩⟩⟩⟩⟩⟩⟩⟩⟩⟩
theorem pHs_small : ∀ k, k < 140 → eHs pP k = [] ∨ k ∈ phHL := by decide +kernel
theorem pHs_big (k : Nat) (h : ¬ k < 140) : eHs pP k = [] := by
  have hb : Nat.blt k 140 = false := by
    cases hz : Nat.blt k 140 with
    | false => rfl
    | true => exact absurd (Nat.le_of_ble_eq_true hz) h
  show (cond (Nat.blt k 140) _ _ : Nat × Nat × Option FieldType × List (Nat × Nat × Nat × Nat)).2.2.2 = []
  rw [hb]
  rfl
theorem pg_han : gHan pP pN := fun k hk => by
  by_cases h : k < 140
  · rcases pHs_small k h with h1 | h1
    · exact absurd h1 hk
    · exact phH_all k h1
  · exact absurd (pHs_big k h) hk
def ptTL : List (Nat × Nat × Nat × Nat × Nat × Nat) := [(2, 22, 11, 77, 79, 81), (3, 34, 11, 77, 107, 81), (4, 33, 11, 77, 112, 81), (8, 83, 11, 77, 165, 81), (13, 9, 10, 198, 200, 202), (14, 9, 9, 203, 205, 207), (15, 15, 10, 198, 218, 202), (18, 11, 10, 198, 218, 202), (19, 15, 10, 198, 228, 202), (20, 15, 10, 198, 230, 202), (21, 9, 9, 203, 232, 207), (22, 11, 9, 203, 234, 207), (23, 4, 9, 203, 236, 207), (24, 9, 9, 203, 238, 207), (25, 15, 11, 77, 244, 81)]
theorem ptT_mem : ∀ k, k < 140 → ∀ pc, pc < 200 → (match pThr k pc with | none => true | some v => decide ((k, pc, v) ∈ ptTL)) = true := by decide +kernel
theorem ptT_in {k pc : Nat} {v : Nat × Nat × Nat × Nat} (h : pThr k pc = some v) : (k, pc, v) ∈ ptTL := by
  obtain ⟨h1, h0⟩ := eB1_some (show eB1 k 140 _ = some _ from h)
  obtain ⟨h2, -⟩ := eB1_some h0
  have h3 := ptT_mem k h1 pc h2
  rw [h] at h3
  simpa using h3
theorem ptA_11 : ∀ w ∈ Bundle.ownAtoms "MembraneRounds" 81 "java/lang/IllegalStateException" ["java/lang/RuntimeException", "java/lang/Exception"], w ∈ lw_gd ∨ w ∈ exSp "java/lang/IllegalStateException" := by decide +kernel
theorem ptA_10 : ∀ w ∈ Bundle.ownAtoms "MembraneRounds" 202 "java/lang/IndexOutOfBoundsException" ["java/lang/RuntimeException", "java/lang/Exception"], w ∈ lw_gd ∨ w ∈ exSp "java/lang/IndexOutOfBoundsException" := by decide +kernel
theorem ptA_9 : ∀ w ∈ Bundle.ownAtoms "MembraneRounds" 207 "java/lang/IllegalArgumentException" ["java/lang/RuntimeException", "java/lang/Exception"], w ∈ lw_gd ∨ w ∈ exSp "java/lang/IllegalArgumentException" := by decide +kernel
def pTQ (z : Nat × Nat × Nat × Nat × Nat × Nat) : Prop := (decode (pCd z.1) z.2.1 = .ok (.new z.2.2.2.1, 3) ∧ decode (pCd z.1) (z.2.1 + 3) = .ok (.dup, 1) ∧ decode (pCd z.1) (z.2.1 + 4) = .ok (.ldc z.2.2.2.2.1, 2) ∧ decode (pCd z.1) (z.2.1 + 6) = .ok (.invokespecial z.2.2.2.2.2, 3) ∧ decode (pCd z.1) (z.2.1 + 9) = .ok (.athrow, 1)) ∧ pCls (eOwn pP z.1) z.2.2.2.1 = some z.2.2.1 ∧ Bundle.fit (pCn z.2.2.1) = true ∧ (∃ T, pCL[z.2.2.1]? = some (pCn z.2.2.1, T, 0)) ∧ ∀ w ∈ Bundle.ownAtoms (pCn (eOwn pP z.1)) z.2.2.2.2.2 (pCn z.2.2.1) ["java/lang/RuntimeException", "java/lang/Exception"], w ∈ lw_gd ∨ w ∈ exSp (pCn z.2.2.1)
theorem ptE_0 : pTQ (2, 22, 11, 77, 79, 81) := ⟨⟨by decide +kernel, by decide +kernel, by decide +kernel, by decide +kernel, by decide +kernel⟩, rfl, by decide +kernel, ⟨_, rfl⟩, ptA_11⟩
theorem ptE_1 : pTQ (3, 34, 11, 77, 107, 81) := ⟨⟨by decide +kernel, by decide +kernel, by decide +kernel, by decide +kernel, by decide +kernel⟩, rfl, by decide +kernel, ⟨_, rfl⟩, ptA_11⟩
theorem ptE_2 : pTQ (4, 33, 11, 77, 112, 81) := ⟨⟨by decide +kernel, by decide +kernel, by decide +kernel, by decide +kernel, by decide +kernel⟩, rfl, by decide +kernel, ⟨_, rfl⟩, ptA_11⟩
theorem ptE_3 : pTQ (8, 83, 11, 77, 165, 81) := ⟨⟨by decide +kernel, by decide +kernel, by decide +kernel, by decide +kernel, by decide +kernel⟩, rfl, by decide +kernel, ⟨_, rfl⟩, ptA_11⟩
theorem ptE_4 : pTQ (13, 9, 10, 198, 200, 202) := ⟨⟨by decide +kernel, by decide +kernel, by decide +kernel, by decide +kernel, by decide +kernel⟩, rfl, by decide +kernel, ⟨_, rfl⟩, ptA_10⟩
theorem ptE_5 : pTQ (14, 9, 9, 203, 205, 207) := ⟨⟨by decide +kernel, by decide +kernel, by decide +kernel, by decide +kernel, by decide +kernel⟩, rfl, by decide +kernel, ⟨_, rfl⟩, ptA_9⟩
theorem ptE_6 : pTQ (15, 15, 10, 198, 218, 202) := ⟨⟨by decide +kernel, by decide +kernel, by decide +kernel, by decide +kernel, by decide +kernel⟩, rfl, by decide +kernel, ⟨_, rfl⟩, ptA_10⟩
theorem ptE_7 : pTQ (18, 11, 10, 198, 218, 202) := ⟨⟨by decide +kernel, by decide +kernel, by decide +kernel, by decide +kernel, by decide +kernel⟩, rfl, by decide +kernel, ⟨_, rfl⟩, ptA_10⟩
theorem ptE_8 : pTQ (19, 15, 10, 198, 228, 202) := ⟨⟨by decide +kernel, by decide +kernel, by decide +kernel, by decide +kernel, by decide +kernel⟩, rfl, by decide +kernel, ⟨_, rfl⟩, ptA_10⟩
theorem ptE_9 : pTQ (20, 15, 10, 198, 230, 202) := ⟨⟨by decide +kernel, by decide +kernel, by decide +kernel, by decide +kernel, by decide +kernel⟩, rfl, by decide +kernel, ⟨_, rfl⟩, ptA_10⟩
theorem ptE_10 : pTQ (21, 9, 9, 203, 232, 207) := ⟨⟨by decide +kernel, by decide +kernel, by decide +kernel, by decide +kernel, by decide +kernel⟩, rfl, by decide +kernel, ⟨_, rfl⟩, ptA_9⟩
theorem ptE_11 : pTQ (22, 11, 9, 203, 234, 207) := ⟨⟨by decide +kernel, by decide +kernel, by decide +kernel, by decide +kernel, by decide +kernel⟩, rfl, by decide +kernel, ⟨_, rfl⟩, ptA_9⟩
theorem ptE_12 : pTQ (23, 4, 9, 203, 236, 207) := ⟨⟨by decide +kernel, by decide +kernel, by decide +kernel, by decide +kernel, by decide +kernel⟩, rfl, by decide +kernel, ⟨_, rfl⟩, ptA_9⟩
theorem ptE_13 : pTQ (24, 9, 9, 203, 238, 207) := ⟨⟨by decide +kernel, by decide +kernel, by decide +kernel, by decide +kernel, by decide +kernel⟩, rfl, by decide +kernel, ⟨_, rfl⟩, ptA_9⟩
theorem ptE_14 : pTQ (25, 15, 11, 77, 244, 81) := ⟨⟨by decide +kernel, by decide +kernel, by decide +kernel, by decide +kernel, by decide +kernel⟩, rfl, by decide +kernel, ⟨_, rfl⟩, ptA_11⟩
theorem ptTR_0 : ∀ z ∈ ([(2, 22, 11, 77, 79, 81), (3, 34, 11, 77, 107, 81), (4, 33, 11, 77, 112, 81), (8, 83, 11, 77, 165, 81), (13, 9, 10, 198, 200, 202), (14, 9, 9, 203, 205, 207), (15, 15, 10, 198, 218, 202), (18, 11, 10, 198, 218, 202), (19, 15, 10, 198, 228, 202), (20, 15, 10, 198, 230, 202), (21, 9, 9, 203, 232, 207), (22, 11, 9, 203, 234, 207), (23, 4, 9, 203, 236, 207), (24, 9, 9, 203, 238, 207), (25, 15, 11, 77, 244, 81)] : List (Nat × Nat × Nat × Nat × Nat × Nat)), pTQ z := List.forall_mem_cons.mpr ⟨ptE_0, List.forall_mem_cons.mpr ⟨ptE_1, List.forall_mem_cons.mpr ⟨ptE_2, List.forall_mem_cons.mpr ⟨ptE_3, List.forall_mem_cons.mpr ⟨ptE_4, List.forall_mem_cons.mpr ⟨ptE_5, List.forall_mem_cons.mpr ⟨ptE_6, List.forall_mem_cons.mpr ⟨ptE_7, List.forall_mem_cons.mpr ⟨ptE_8, List.forall_mem_cons.mpr ⟨ptE_9, List.forall_mem_cons.mpr ⟨ptE_10, List.forall_mem_cons.mpr ⟨ptE_11, List.forall_mem_cons.mpr ⟨ptE_12, List.forall_mem_cons.mpr ⟨ptE_13, List.forall_mem_cons.mpr ⟨ptE_14, fun _ h => absurd h List.not_mem_nil⟩⟩⟩⟩⟩⟩⟩⟩⟩⟩⟩⟩⟩⟩⟩
theorem ptT_all : ∀ z ∈ ptTL, pTQ z := by
  show ∀ z ∈ ([(2, 22, 11, 77, 79, 81), (3, 34, 11, 77, 107, 81), (4, 33, 11, 77, 112, 81), (8, 83, 11, 77, 165, 81), (13, 9, 10, 198, 200, 202), (14, 9, 9, 203, 205, 207), (15, 15, 10, 198, 218, 202), (18, 11, 10, 198, 218, 202), (19, 15, 10, 198, 228, 202), (20, 15, 10, 198, 230, 202), (21, 9, 9, 203, 232, 207), (22, 11, 9, 203, 234, 207), (23, 4, 9, 203, 236, 207), (24, 9, 9, 203, 238, 207), (25, 15, 11, 77, 244, 81)] : List (Nat × Nat × Nat × Nat × Nat × Nat)), pTQ z
  exact ptTR_0
theorem pg_thr : gThr pP pN pCL := fun k pc q h => ptT_all (k, pc, q) (ptT_in h)
