def psF : List Cond := flatC (Jvm.Cond.and given_1 narrow_1)
theorem ps_inst : ∀ (c : Nat) (q : vw_C), pCL[c]? = some q → ∃ n, Cond.instantiable q.1 n ∈ lw_gd ∧ ∀ w ∈ u_ws q.1 q.2.1 q.2.2, w ∈ lw_gd := fun c q h => by
  match c with
  | 0 => cases h; exact ⟨_, pw_210, pU_0⟩
  | 1 => cases h; exact ⟨_, pw_213, pU_1⟩
  | 2 => cases h; exact ⟨_, pw_184, pU_2⟩
  | 3 => cases h; exact ⟨_, pw_196, pU_3⟩
  | 4 => cases h; exact ⟨_, pw_190, pU_4⟩
  | 5 => cases h; exact ⟨_, pw_207, pU_5⟩
  | 6 => cases h; exact ⟨_, pw_181, pU_6⟩
  | 7 => cases h; exact ⟨_, pw_193, pU_7⟩
  | 8 => cases h; exact ⟨_, pw_187, pU_8⟩
  | 9 => cases h; exact ⟨_, pw_205, pU_9⟩
  | 10 => cases h; exact ⟨_, pw_202, pU_10⟩
  | 11 => cases h; exact ⟨_, pw_199, pU_11⟩
  | n + 12 => cases h
theorem ps_s_79 : (Cond.stringRef "MembraneRounds" 79 "all membranes are there" : Cond) ∈ lw_tbl := List.mem_of_getElem? (i := 450) (by decide +kernel)
theorem ps_x_79 : Cond.exactly (.string "MembraneRounds" 79) "java/lang/String" ∈ psF := by decide +kernel
theorem ps_s_107 : (Cond.stringRef "MembraneRounds" 107 "more than 12 of a kind" : Cond) ∈ lw_tbl := List.mem_of_getElem? (i := 480) (by decide +kernel)
theorem ps_x_107 : Cond.exactly (.string "MembraneRounds" 107) "java/lang/String" ∈ psF := by decide +kernel
theorem ps_s_112 : (Cond.stringRef "MembraneRounds" 112 "all rules are there" : Cond) ∈ lw_tbl := List.mem_of_getElem? (i := 492) (by decide +kernel)
theorem ps_x_112 : Cond.exactly (.string "MembraneRounds" 112) "java/lang/String" ∈ psF := by decide +kernel
theorem ps_s_165 : (Cond.stringRef "MembraneRounds" 165 "too much" : Cond) ∈ lw_tbl := List.mem_of_getElem? (i := 617) (by decide +kernel)
theorem ps_x_165 : Cond.exactly (.string "MembraneRounds" 165) "java/lang/String" ∈ psF := by decide +kernel
theorem ps_s_200 : (Cond.stringRef "MembraneRounds" 200 "no such kind" : Cond) ∈ lw_tbl := List.mem_of_getElem? (i := 673) (by decide +kernel)
theorem ps_x_200 : Cond.exactly (.string "MembraneRounds" 200) "java/lang/String" ∈ psF := by decide +kernel
theorem ps_s_205 : (Cond.stringRef "MembraneRounds" 205 "no such number of rounds" : Cond) ∈ lw_tbl := List.mem_of_getElem? (i := 681) (by decide +kernel)
theorem ps_x_205 : Cond.exactly (.string "MembraneRounds" 205) "java/lang/String" ∈ psF := by decide +kernel
theorem ps_s_218 : (Cond.stringRef "MembraneRounds" 218 "no such membrane" : Cond) ∈ lw_tbl := List.mem_of_getElem? (i := 430) (by decide +kernel)
theorem ps_x_218 : Cond.exactly (.string "MembraneRounds" 218) "java/lang/String" ∈ psF := by decide +kernel
theorem ps_s_228 : (Cond.stringRef "MembraneRounds" 228 "no such rule" : Cond) ∈ lw_tbl := List.mem_of_getElem? (i := 512) (by decide +kernel)
theorem ps_x_228 : Cond.exactly (.string "MembraneRounds" 228) "java/lang/String" ∈ psF := by decide +kernel
theorem ps_s_230 : (Cond.stringRef "MembraneRounds" 230 "no such outcome" : Cond) ∈ lw_tbl := List.mem_of_getElem? (i := 720) (by decide +kernel)
theorem ps_x_230 : Cond.exactly (.string "MembraneRounds" 230) "java/lang/String" ∈ psF := by decide +kernel
theorem ps_s_232 : (Cond.stringRef "MembraneRounds" 232 "no label" : Cond) ∈ lw_tbl := List.mem_of_getElem? (i := 381) (by decide +kernel)
theorem ps_x_232 : Cond.exactly (.string "MembraneRounds" 232) "java/lang/String" ∈ psF := by decide +kernel
theorem ps_s_234 : (Cond.stringRef "MembraneRounds" 234 "no handful" : Cond) ∈ lw_tbl := List.mem_of_getElem? (i := 468) (by decide +kernel)
theorem ps_x_234 : Cond.exactly (.string "MembraneRounds" 234) "java/lang/String" ∈ psF := by decide +kernel
theorem ps_s_236 : (Cond.stringRef "MembraneRounds" 236 "an empty handful" : Cond) ∈ lw_tbl := List.mem_of_getElem? (i := 491) (by decide +kernel)
theorem ps_x_236 : Cond.exactly (.string "MembraneRounds" 236) "java/lang/String" ∈ psF := by decide +kernel
theorem ps_s_238 : (Cond.stringRef "MembraneRounds" 238 "nothing that can be asked for" : Cond) ∈ lw_tbl := List.mem_of_getElem? (i := 663) (by decide +kernel)
theorem ps_x_238 : Cond.exactly (.string "MembraneRounds" 238) "java/lang/String" ∈ psF := by decide +kernel
theorem ps_s_244 : (Cond.stringRef "MembraneRounds" 244 "the rule dissolves or divides" : Cond) ∈ lw_tbl := List.mem_of_getElem? (i := 528) (by decide +kernel)
theorem ps_x_244 : Cond.exactly (.string "MembraneRounds" 244) "java/lang/String" ∈ psF := by decide +kernel
def psQ (z : Nat × Nat × Nat × Nat × Nat × Nat) : Prop := ∃ tx, Cond.stringRef (pCn (eOwn pP z.1)) z.2.2.2.2.1 tx ∈ lw_tbl ∧ Cond.exactly (.string (pCn (eOwn pP z.1)) z.2.2.2.2.1) "java/lang/String" ∈ psF
theorem ps_str : ∀ z ∈ ptTL, psQ z := by
  show ∀ z ∈ ([(2, 22, 11, 77, 79, 81), (3, 34, 11, 77, 107, 81), (4, 33, 11, 77, 112, 81), (8, 83, 11, 77, 165, 81), (13, 9, 10, 198, 200, 202), (14, 9, 9, 203, 205, 207), (15, 15, 10, 198, 218, 202), (18, 11, 10, 198, 218, 202), (19, 15, 10, 198, 228, 202), (20, 15, 10, 198, 230, 202), (21, 9, 9, 203, 232, 207), (22, 11, 9, 203, 234, 207), (23, 4, 9, 203, 236, 207), (24, 9, 9, 203, 238, 207), (25, 15, 11, 77, 244, 81)] : List (Nat × Nat × Nat × Nat × Nat × Nat)), psQ z
  exact List.forall_mem_cons.mpr ⟨⟨_, ps_s_79, ps_x_79⟩, List.forall_mem_cons.mpr ⟨⟨_, ps_s_107, ps_x_107⟩, List.forall_mem_cons.mpr ⟨⟨_, ps_s_112, ps_x_112⟩, List.forall_mem_cons.mpr ⟨⟨_, ps_s_165, ps_x_165⟩, List.forall_mem_cons.mpr ⟨⟨_, ps_s_200, ps_x_200⟩, List.forall_mem_cons.mpr ⟨⟨_, ps_s_205, ps_x_205⟩, List.forall_mem_cons.mpr ⟨⟨_, ps_s_218, ps_x_218⟩, List.forall_mem_cons.mpr ⟨⟨_, ps_s_218, ps_x_218⟩, List.forall_mem_cons.mpr ⟨⟨_, ps_s_228, ps_x_228⟩, List.forall_mem_cons.mpr ⟨⟨_, ps_s_230, ps_x_230⟩, List.forall_mem_cons.mpr ⟨⟨_, ps_s_232, ps_x_232⟩, List.forall_mem_cons.mpr ⟨⟨_, ps_s_234, ps_x_234⟩, List.forall_mem_cons.mpr ⟨⟨_, ps_s_236, ps_x_236⟩, List.forall_mem_cons.mpr ⟨⟨_, ps_s_238, ps_x_238⟩, List.forall_mem_cons.mpr ⟨⟨_, ps_s_244, ps_x_244⟩, fun _ h => absurd h List.not_mem_nil⟩⟩⟩⟩⟩⟩⟩⟩⟩⟩⟩⟩⟩⟩⟩
theorem ps_d_0 : (Cond.declares ⟨"java/lang/RuntimeException", "<init>", "(Ljava/lang/String;)V"⟩ : Cond) ∈ lw_tbl := List.mem_of_getElem? (i := 344) (by decide +kernel)
theorem ps_d_1 : (Cond.declares ⟨"java/lang/Exception", "<init>", "(Ljava/lang/String;)V"⟩ : Cond) ∈ lw_tbl := List.mem_of_getElem? (i := 346) (by decide +kernel)
theorem ps_d_2 : (Cond.declares ⟨"java/lang/Throwable", "<init>", "(Ljava/lang/String;)V"⟩ : Cond) ∈ lw_tbl := List.mem_of_getElem? (i := 348) (by decide +kernel)
theorem ps_l_0 : (Cond.laysStatic "java/lang/Throwable" "UNASSIGNED_STACK" "[Ljava/lang/StackTraceElement;" : Cond) ∈ lw_tbl := List.mem_of_getElem? (i := 367) (by decide +kernel)
theorem ps_l_1 : (Cond.laysStatic "java/lang/Throwable" "SUPPRESSED_SENTINEL" "Ljava/util/List;" : Cond) ∈ lw_tbl := List.mem_of_getElem? (i := 369) (by decide +kernel)
theorem ps_c_9 : (Cond.castable "java/lang/IllegalArgumentException" "java/lang/IllegalArgumentException" : Cond) ∈ lw_tbl := List.mem_of_getElem? (i := 342) (by decide +kernel)
theorem ps_c_10 : (Cond.castable "java/lang/IndexOutOfBoundsException" "java/lang/IndexOutOfBoundsException" : Cond) ∈ lw_tbl := List.mem_of_getElem? (i := 423) (by decide +kernel)
theorem ps_c_11 : (Cond.castable "java/lang/IllegalStateException" "java/lang/IllegalStateException" : Cond) ∈ lw_tbl := List.mem_of_getElem? (i := 443) (by decide +kernel)
theorem ps_r_0 : Cond.isRef (.static Bundle.tN "UNASSIGNED_STACK" Bundle.steD) ∈ psF := by decide +kernel
theorem ps_r_1 : Cond.isRef (.static Bundle.tN "SUPPRESSED_SENTINEL" Bundle.listD) ∈ psF := by decide +kernel
theorem ps_sp {C : String} (hC : Cond.castable C C ∈ lw_tbl) : ∀ w ∈ exSp C, w ∈ lw_tbl ∨ w ∈ psF := List.forall_mem_cons.mpr ⟨Or.inl ps_d_0, List.forall_mem_cons.mpr ⟨Or.inl ps_d_1, List.forall_mem_cons.mpr ⟨Or.inl ps_d_2, List.forall_mem_cons.mpr ⟨Or.inl hC, List.forall_mem_cons.mpr ⟨Or.inl ps_l_0, List.forall_mem_cons.mpr ⟨Or.inl ps_l_1, List.forall_mem_cons.mpr ⟨Or.inr ps_r_0, List.forall_mem_cons.mpr ⟨Or.inr ps_r_1, fun _ h => absurd h List.not_mem_nil⟩⟩⟩⟩⟩⟩⟩⟩
theorem ps_cc : ∀ z ∈ ptTL, Cond.castable (pCn z.2.2.1) (pCn z.2.2.1) ∈ lw_tbl := by
  show ∀ z ∈ ([(2, 22, 11, 77, 79, 81), (3, 34, 11, 77, 107, 81), (4, 33, 11, 77, 112, 81), (8, 83, 11, 77, 165, 81), (13, 9, 10, 198, 200, 202), (14, 9, 9, 203, 205, 207), (15, 15, 10, 198, 218, 202), (18, 11, 10, 198, 218, 202), (19, 15, 10, 198, 228, 202), (20, 15, 10, 198, 230, 202), (21, 9, 9, 203, 232, 207), (22, 11, 9, 203, 234, 207), (23, 4, 9, 203, 236, 207), (24, 9, 9, 203, 238, 207), (25, 15, 11, 77, 244, 81)] : List (Nat × Nat × Nat × Nat × Nat × Nat)), Cond.castable (pCn z.2.2.1) (pCn z.2.2.1) ∈ lw_tbl
  exact List.forall_mem_cons.mpr ⟨ps_c_11, List.forall_mem_cons.mpr ⟨ps_c_11, List.forall_mem_cons.mpr ⟨ps_c_11, List.forall_mem_cons.mpr ⟨ps_c_11, List.forall_mem_cons.mpr ⟨ps_c_10, List.forall_mem_cons.mpr ⟨ps_c_9, List.forall_mem_cons.mpr ⟨ps_c_10, List.forall_mem_cons.mpr ⟨ps_c_10, List.forall_mem_cons.mpr ⟨ps_c_10, List.forall_mem_cons.mpr ⟨ps_c_10, List.forall_mem_cons.mpr ⟨ps_c_9, List.forall_mem_cons.mpr ⟨ps_c_9, List.forall_mem_cons.mpr ⟨ps_c_9, List.forall_mem_cons.mpr ⟨ps_c_9, List.forall_mem_cons.mpr ⟨ps_c_11, fun _ h => absurd h List.not_mem_nil⟩⟩⟩⟩⟩⟩⟩⟩⟩⟩⟩⟩⟩⟩⟩
theorem ps_nc : ∀ c1, c1 < 12 → ∀ c2 ∈ [9, 10, 11], ¬ c2 = c1 → Cond.not (.castable (pCn c1) (pCn c2)) ∈ psF := by decide +kernel
theorem ps_hc0 : ∀ k, k < 140 → ∀ q ∈ eHs pP k, q.2.2.2 ∈ [9, 10, 11] := by decide +kernel
theorem ps_hc : ∀ k, ∀ q ∈ eHs pP k, q.2.2.2 ∈ [9, 10, 11] := fun k q hq => by
  by_cases h : k < 140
  · exact ps_hc0 k h q hq
  · rw [pHs_big k h] at hq
    exact absurd hq List.not_mem_nil
def pk2L : List (Nat × Nat × Nat × Nat × Nat) := [(0, 11, 2, 112, 1), (0, 18, 2, 79, 1), (0, 25, 2, 118, 1), (0, 32, 2, 105, 1), (0, 39, 2, 114, 1), (0, 50, 2, 89, 1), (4, 20, 2, 89, 1), (6, 17, 2, 109, 2), (14, 68, 2, 0, 1), (14, 71, 2, 26, 1)]
theorem pk2_in : ∀ z ∈ pmML, z.2.2.1 = 2 → z ∈ pk2L := by decide +kernel
def pkQ (z : Nat × Nat × Nat × Nat × Nat) : Prop := Cond.methodLink (pCn z.1) z.2.1 (pMn z.2.2.2.1) ∈ lw_gd ∨ ∃ host, Cond.methodLinkNest (pCn z.1) z.2.1 (pMn z.2.2.2.1) host ∈ lw_tbl
theorem pk_0 : Cond.methodLink "MembraneRounds" 11 ⟨"MembraneRounds$RuleBook", "<init>", "()V"⟩ ∈ lw_gd := lw_gd_in (List.mem_of_getElem? (i := 72) (by decide +kernel)) (by decide +kernel)
theorem pk_1 : (Cond.methodLinkNest "MembraneRounds" 18 ⟨"MembraneRounds$Chooser", "<init>", "()V"⟩ "MembraneRounds" : Cond) ∈ lw_tbl := List.mem_of_getElem? (i := 156) (by decide +kernel)
theorem pk_2 : (Cond.methodLinkNest "MembraneRounds" 25 ⟨"MembraneRounds$Worker", "<init>", "()V"⟩ "MembraneRounds" : Cond) ∈ lw_tbl := List.mem_of_getElem? (i := 186) (by decide +kernel)
theorem pk_3 : Cond.methodLink "MembraneRounds" 32 ⟨"MembraneRounds$Judge", "<init>", "()V"⟩ ∈ lw_gd := lw_gd_in (List.mem_of_getElem? (i := 197) (by decide +kernel)) (by decide +kernel)
theorem pk_4 : (Cond.methodLinkNest "MembraneRounds" 39 ⟨"MembraneRounds$Scribe", "<init>", "()V"⟩ "MembraneRounds" : Cond) ∈ lw_tbl := List.mem_of_getElem? (i := 250) (by decide +kernel)
theorem pk_5 : (Cond.methodLinkNest "MembraneRounds" 50 ⟨"MembraneRounds$Configuration", "<init>", "()V"⟩ "MembraneRounds" : Cond) ∈ lw_tbl := List.mem_of_getElem? (i := 263) (by decide +kernel)
theorem pk_6 : (Cond.methodLinkNest "MembraneRounds$Judge" 20 ⟨"MembraneRounds$Configuration", "<init>", "()V"⟩ "MembraneRounds" : Cond) ∈ lw_tbl := List.mem_of_getElem? (i := 204) (by decide +kernel)
theorem pk_7 : Cond.methodLink "MembraneRounds$RuleBook" 17 ⟨"MembraneRounds$Rule", "<init>", "(I)V"⟩ ∈ lw_gd := lw_gd_in (List.mem_of_getElem? (i := 79) (by decide +kernel)) (by decide +kernel)
theorem pk_8 : Cond.methodLink "MembraneRoundsLaw" 68 ⟨"MembraneRounds", "<init>", "()V"⟩ ∈ lw_gd := lw_gd_in (List.mem_of_getElem? (i := 64) (by decide +kernel)) (by decide +kernel)
theorem pk_9 : Cond.methodLink "MembraneRoundsLaw" 71 ⟨"MembraneRoundsModel", "<init>", "()V"⟩ ∈ lw_gd := lw_gd_in (List.mem_of_getElem? (i := 730) (by decide +kernel)) (by decide +kernel)
theorem pk2_all : ∀ z ∈ pk2L, pkQ z := by
  show ∀ z ∈ ([(0, 11, 2, 112, 1), (0, 18, 2, 79, 1), (0, 25, 2, 118, 1), (0, 32, 2, 105, 1), (0, 39, 2, 114, 1), (0, 50, 2, 89, 1), (4, 20, 2, 89, 1), (6, 17, 2, 109, 2), (14, 68, 2, 0, 1), (14, 71, 2, 26, 1)] : List (Nat × Nat × Nat × Nat × Nat)), pkQ z
  exact List.forall_mem_cons.mpr ⟨Or.inl pk_0, List.forall_mem_cons.mpr ⟨Or.inr ⟨_, pk_1⟩, List.forall_mem_cons.mpr ⟨Or.inr ⟨_, pk_2⟩, List.forall_mem_cons.mpr ⟨Or.inl pk_3, List.forall_mem_cons.mpr ⟨Or.inr ⟨_, pk_4⟩, List.forall_mem_cons.mpr ⟨Or.inr ⟨_, pk_5⟩, List.forall_mem_cons.mpr ⟨Or.inr ⟨_, pk_6⟩, List.forall_mem_cons.mpr ⟨Or.inl pk_7, List.forall_mem_cons.mpr ⟨Or.inl pk_8, List.forall_mem_cons.mpr ⟨Or.inl pk_9, fun _ h => absurd h List.not_mem_nil⟩⟩⟩⟩⟩⟩⟩⟩⟩⟩
theorem ps_a_3 : (Cond.arrayOver (.object "MembraneRounds$Rule") : Cond) ∈ lw_tbl := List.mem_of_getElem? (i := 77) (by decide +kernel)
theorem ps_a_4 : (Cond.arrayOver (.object "MembraneRounds$Configuration") : Cond) ∈ lw_tbl := List.mem_of_getElem? (i := 202) (by decide +kernel)
theorem ps_arr : ∀ (tt : Nat) (ty : FieldType), pTy[tt]? = some ty → Cond.arrayClass ty ∈ lw_gd ∨ ∃ C, ty = .object C ∧ Cond.arrayOver (.object C) ∈ lw_tbl := fun tt ty h => by
  match tt with
  | 0 => cases h; exact Or.inl pw_173
  | 1 => cases h; exact Or.inl pw_174
  | 2 => cases h; exact Or.inl pw_175
  | 3 => cases h; exact Or.inr ⟨_, rfl, ps_a_3⟩
  | 4 => cases h; exact Or.inr ⟨_, rfl, ps_a_4⟩
  | n + 5 => cases h
theorem ps_obj : ∀ z ∈ paAL, ∃ C, pTy[z.2.2]? = some (.object C) := by
  show ∀ z ∈ ([(2, 9, 3), (4, 9, 4), (6, 9, 3), (8, 9, 3)] : List (Nat × Nat × Nat)), _
  exact List.forall_mem_cons.mpr ⟨⟨_, rfl⟩, List.forall_mem_cons.mpr ⟨⟨_, rfl⟩, List.forall_mem_cons.mpr ⟨⟨_, rfl⟩, List.forall_mem_cons.mpr ⟨⟨_, rfl⟩, fun _ h => absurd h List.not_mem_nil⟩⟩⟩⟩
