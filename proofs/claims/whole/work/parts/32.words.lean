theorem pw_0 : (Cond.laysFinal "MembraneRounds" "MembraneRounds" "book" "LMembraneRounds$RuleBook;" : Cond) ∈ lw_gd := lw_gd_in (List.mem_of_getElem? (i := 284) (by decide +kernel)) (by decide +kernel)
theorem pw_1 : (Cond.laysFinal "MembraneRounds" "MembraneRounds" "chooser" "LMembraneRounds$Chooser;" : Cond) ∈ lw_gd := lw_gd_in (List.mem_of_getElem? (i := 286) (by decide +kernel)) (by decide +kernel)
theorem pw_2 : (Cond.laysFinal "MembraneRounds" "MembraneRounds" "worker" "LMembraneRounds$Worker;" : Cond) ∈ lw_gd := lw_gd_in (List.mem_of_getElem? (i := 288) (by decide +kernel)) (by decide +kernel)
theorem pw_3 : (Cond.laysFinal "MembraneRounds" "MembraneRounds" "judge" "LMembraneRounds$Judge;" : Cond) ∈ lw_gd := lw_gd_in (List.mem_of_getElem? (i := 290) (by decide +kernel)) (by decide +kernel)
theorem pw_4 : (Cond.laysFinal "MembraneRounds" "MembraneRounds" "scribe" "LMembraneRounds$Scribe;" : Cond) ∈ lw_gd := lw_gd_in (List.mem_of_getElem? (i := 292) (by decide +kernel)) (by decide +kernel)
theorem pw_5 : (Cond.laysFinal "MembraneRounds" "MembraneRounds" "chosen" "[I" : Cond) ∈ lw_gd := lw_gd_in (List.mem_of_getElem? (i := 294) (by decide +kernel)) (by decide +kernel)
theorem pw_6 : (Cond.lays "MembraneRounds" "MembraneRounds" "now" "LMembraneRounds$Configuration;" : Cond) ∈ lw_gd := lw_gd_in (List.mem_of_getElem? (i := 296) (by decide +kernel)) (by decide +kernel)
theorem pw_7 : (Cond.lays "MembraneRounds" "MembraneRounds" "trial" "LMembraneRounds$Configuration;" : Cond) ∈ lw_gd := lw_gd_in (List.mem_of_getElem? (i := 298) (by decide +kernel)) (by decide +kernel)
theorem pU_0 : ∀ w ∈ u_ws "MembraneRounds" pT_0 8, w ∈ lw_gd := by
  show ∀ w ∈ [(Cond.laysFinal "MembraneRounds" "MembraneRounds" "book" "LMembraneRounds$RuleBook;" : Cond), (Cond.laysFinal "MembraneRounds" "MembraneRounds" "chooser" "LMembraneRounds$Chooser;" : Cond), (Cond.laysFinal "MembraneRounds" "MembraneRounds" "worker" "LMembraneRounds$Worker;" : Cond), (Cond.laysFinal "MembraneRounds" "MembraneRounds" "judge" "LMembraneRounds$Judge;" : Cond), (Cond.laysFinal "MembraneRounds" "MembraneRounds" "scribe" "LMembraneRounds$Scribe;" : Cond), (Cond.laysFinal "MembraneRounds" "MembraneRounds" "chosen" "[I" : Cond), (Cond.lays "MembraneRounds" "MembraneRounds" "now" "LMembraneRounds$Configuration;" : Cond), (Cond.lays "MembraneRounds" "MembraneRounds" "trial" "LMembraneRounds$Configuration;" : Cond)], w ∈ lw_gd
  exact List.forall_mem_cons.mpr ⟨pw_0, List.forall_mem_cons.mpr ⟨pw_1, List.forall_mem_cons.mpr ⟨pw_2, List.forall_mem_cons.mpr ⟨pw_3, List.forall_mem_cons.mpr ⟨pw_4, List.forall_mem_cons.mpr ⟨pw_5, List.forall_mem_cons.mpr ⟨pw_6, List.forall_mem_cons.mpr ⟨pw_7, fun _ h => absurd h List.not_mem_nil⟩⟩⟩⟩⟩⟩⟩⟩
def pF_0 : Nat → FieldType := fun j => cond (Nat.blt j 4) (cond (Nat.blt j 2) (cond (Nat.blt j 1) (cond (Nat.beq j 0) (.object "MembraneRounds$RuleBook") .int) (cond (Nat.beq j 1) (.object "MembraneRounds$Chooser") .int)) (cond (Nat.blt j 3) (cond (Nat.beq j 2) (.object "MembraneRounds$Worker") .int) (cond (Nat.beq j 3) (.object "MembraneRounds$Judge") .int))) (cond (Nat.blt j 6) (cond (Nat.blt j 5) (cond (Nat.beq j 4) (.object "MembraneRounds$Scribe") .int) (cond (Nat.beq j 5) (.array .int) .int)) (cond (Nat.blt j 7) (cond (Nat.beq j 6) (.object "MembraneRounds$Configuration") .int) (cond (Nat.beq j 7) (.object "MembraneRounds$Configuration") .int)))
theorem pD_0 : ∀ k, k < 8 → parseFieldDescriptor (pT_0 k).2.2.1 = some (pF_0 k) := by decide +kernel
theorem pNm_0 : ∀ a, a < 8 → ∀ b, b < 8 → a ≠ b → (pT_0 a).2.1 ≠ (pT_0 b).2.1 := by decide +kernel
theorem pw_8 : (Cond.lays "MembraneRoundsModel" "MembraneRoundsModel" "code" "I" : Cond) ∈ lw_gd := lw_gd_in (List.mem_of_getElem? (i := 768) (by decide +kernel)) (by decide +kernel)
theorem pw_9 : (Cond.lays "MembraneRoundsModel" "MembraneRoundsModel" "rules" "I" : Cond) ∈ lw_gd := lw_gd_in (List.mem_of_getElem? (i := 770) (by decide +kernel)) (by decide +kernel)
theorem pw_10 : (Cond.laysFinal "MembraneRoundsModel" "MembraneRoundsModel" "labels" "[I" : Cond) ∈ lw_gd := lw_gd_in (List.mem_of_getElem? (i := 772) (by decide +kernel)) (by decide +kernel)
theorem pw_11 : (Cond.laysFinal "MembraneRoundsModel" "MembraneRoundsModel" "lefts" "[I" : Cond) ∈ lw_gd := lw_gd_in (List.mem_of_getElem? (i := 774) (by decide +kernel)) (by decide +kernel)
theorem pw_12 : (Cond.laysFinal "MembraneRoundsModel" "MembraneRoundsModel" "heres" "[I" : Cond) ∈ lw_gd := lw_gd_in (List.mem_of_getElem? (i := 776) (by decide +kernel)) (by decide +kernel)
theorem pw_13 : (Cond.laysFinal "MembraneRoundsModel" "MembraneRoundsModel" "outs" "[I" : Cond) ∈ lw_gd := lw_gd_in (List.mem_of_getElem? (i := 778) (by decide +kernel)) (by decide +kernel)
theorem pw_14 : (Cond.laysFinal "MembraneRoundsModel" "MembraneRoundsModel" "intos" "[I" : Cond) ∈ lw_gd := lw_gd_in (List.mem_of_getElem? (i := 780) (by decide +kernel)) (by decide +kernel)
theorem pw_15 : (Cond.laysFinal "MembraneRoundsModel" "MembraneRoundsModel" "targets" "[I" : Cond) ∈ lw_gd := lw_gd_in (List.mem_of_getElem? (i := 782) (by decide +kernel)) (by decide +kernel)
theorem pw_16 : (Cond.laysFinal "MembraneRoundsModel" "MembraneRoundsModel" "acts" "[I" : Cond) ∈ lw_gd := lw_gd_in (List.mem_of_getElem? (i := 784) (by decide +kernel)) (by decide +kernel)
theorem pw_17 : (Cond.laysFinal "MembraneRoundsModel" "MembraneRoundsModel" "others" "[I" : Cond) ∈ lw_gd := lw_gd_in (List.mem_of_getElem? (i := 786) (by decide +kernel)) (by decide +kernel)
theorem pw_18 : (Cond.laysFinal "MembraneRoundsModel" "MembraneRoundsModel" "cells" "[I" : Cond) ∈ lw_gd := lw_gd_in (List.mem_of_getElem? (i := 788) (by decide +kernel)) (by decide +kernel)
theorem pw_19 : (Cond.lays "MembraneRoundsModel" "MembraneRoundsModel" "found" "I" : Cond) ∈ lw_gd := lw_gd_in (List.mem_of_getElem? (i := 790) (by decide +kernel)) (by decide +kernel)
theorem pw_20 : (Cond.lays "MembraneRoundsModel" "MembraneRoundsModel" "more" "I" : Cond) ∈ lw_gd := lw_gd_in (List.mem_of_getElem? (i := 792) (by decide +kernel)) (by decide +kernel)
theorem pw_21 : (Cond.laysFinal "MembraneRoundsModel" "MembraneRoundsModel" "rest" "[I" : Cond) ∈ lw_gd := lw_gd_in (List.mem_of_getElem? (i := 794) (by decide +kernel)) (by decide +kernel)
theorem pw_22 : (Cond.laysFinal "MembraneRoundsModel" "MembraneRoundsModel" "uses" "[I" : Cond) ∈ lw_gd := lw_gd_in (List.mem_of_getElem? (i := 796) (by decide +kernel)) (by decide +kernel)
theorem pw_23 : (Cond.lays "MembraneRoundsModel" "MembraneRoundsModel" "acted" "Z" : Cond) ∈ lw_gd := lw_gd_in (List.mem_of_getElem? (i := 798) (by decide +kernel)) (by decide +kernel)
theorem pw_24 : (Cond.laysFinal "MembraneRoundsModel" "MembraneRoundsModel" "list" "[I" : Cond) ∈ lw_gd := lw_gd_in (List.mem_of_getElem? (i := 800) (by decide +kernel)) (by decide +kernel)
theorem pw_25 : (Cond.lays "MembraneRoundsModel" "MembraneRoundsModel" "listed" "I" : Cond) ∈ lw_gd := lw_gd_in (List.mem_of_getElem? (i := 802) (by decide +kernel)) (by decide +kernel)
theorem pw_26 : (Cond.laysFinal "MembraneRoundsModel" "MembraneRoundsModel" "begins" "[I" : Cond) ∈ lw_gd := lw_gd_in (List.mem_of_getElem? (i := 804) (by decide +kernel)) (by decide +kernel)
theorem pw_27 : (Cond.laysFinal "MembraneRoundsModel" "MembraneRoundsModel" "many" "[I" : Cond) ∈ lw_gd := lw_gd_in (List.mem_of_getElem? (i := 806) (by decide +kernel)) (by decide +kernel)
theorem pw_28 : (Cond.laysFinal "MembraneRoundsModel" "MembraneRoundsModel" "digits" "[I" : Cond) ∈ lw_gd := lw_gd_in (List.mem_of_getElem? (i := 808) (by decide +kernel)) (by decide +kernel)
theorem pw_29 : (Cond.laysFinal "MembraneRoundsModel" "MembraneRoundsModel" "chosen" "[I" : Cond) ∈ lw_gd := lw_gd_in (List.mem_of_getElem? (i := 810) (by decide +kernel)) (by decide +kernel)
theorem pw_30 : (Cond.lays "MembraneRoundsModel" "MembraneRoundsModel" "length" "I" : Cond) ∈ lw_gd := lw_gd_in (List.mem_of_getElem? (i := 812) (by decide +kernel)) (by decide +kernel)
theorem pw_31 : (Cond.lays "MembraneRoundsModel" "MembraneRoundsModel" "wanted" "I" : Cond) ∈ lw_gd := lw_gd_in (List.mem_of_getElem? (i := 814) (by decide +kernel)) (by decide +kernel)
theorem pw_32 : (Cond.lays "MembraneRoundsModel" "MembraneRoundsModel" "letter" "I" : Cond) ∈ lw_gd := lw_gd_in (List.mem_of_getElem? (i := 816) (by decide +kernel)) (by decide +kernel)
theorem pw_33 : (Cond.laysFinal "MembraneRoundsModel" "MembraneRoundsModel" "open" "[I" : Cond) ∈ lw_gd := lw_gd_in (List.mem_of_getElem? (i := 818) (by decide +kernel)) (by decide +kernel)
theorem pU_1 : ∀ w ∈ u_ws "MembraneRoundsModel" pT_1 26, w ∈ lw_gd := by
  show ∀ w ∈ [(Cond.lays "MembraneRoundsModel" "MembraneRoundsModel" "code" "I" : Cond), (Cond.lays "MembraneRoundsModel" "MembraneRoundsModel" "rules" "I" : Cond), (Cond.laysFinal "MembraneRoundsModel" "MembraneRoundsModel" "labels" "[I" : Cond), (Cond.laysFinal "MembraneRoundsModel" "MembraneRoundsModel" "lefts" "[I" : Cond), (Cond.laysFinal "MembraneRoundsModel" "MembraneRoundsModel" "heres" "[I" : Cond), (Cond.laysFinal "MembraneRoundsModel" "MembraneRoundsModel" "outs" "[I" : Cond), (Cond.laysFinal "MembraneRoundsModel" "MembraneRoundsModel" "intos" "[I" : Cond), (Cond.laysFinal "MembraneRoundsModel" "MembraneRoundsModel" "targets" "[I" : Cond), (Cond.laysFinal "MembraneRoundsModel" "MembraneRoundsModel" "acts" "[I" : Cond), (Cond.laysFinal "MembraneRoundsModel" "MembraneRoundsModel" "others" "[I" : Cond), (Cond.laysFinal "MembraneRoundsModel" "MembraneRoundsModel" "cells" "[I" : Cond), (Cond.lays "MembraneRoundsModel" "MembraneRoundsModel" "found" "I" : Cond), (Cond.lays "MembraneRoundsModel" "MembraneRoundsModel" "more" "I" : Cond), (Cond.laysFinal "MembraneRoundsModel" "MembraneRoundsModel" "rest" "[I" : Cond), (Cond.laysFinal "MembraneRoundsModel" "MembraneRoundsModel" "uses" "[I" : Cond), (Cond.lays "MembraneRoundsModel" "MembraneRoundsModel" "acted" "Z" : Cond), (Cond.laysFinal "MembraneRoundsModel" "MembraneRoundsModel" "list" "[I" : Cond), (Cond.lays "MembraneRoundsModel" "MembraneRoundsModel" "listed" "I" : Cond), (Cond.laysFinal "MembraneRoundsModel" "MembraneRoundsModel" "begins" "[I" : Cond), (Cond.laysFinal "MembraneRoundsModel" "MembraneRoundsModel" "many" "[I" : Cond), (Cond.laysFinal "MembraneRoundsModel" "MembraneRoundsModel" "digits" "[I" : Cond), (Cond.laysFinal "MembraneRoundsModel" "MembraneRoundsModel" "chosen" "[I" : Cond), (Cond.lays "MembraneRoundsModel" "MembraneRoundsModel" "length" "I" : Cond), (Cond.lays "MembraneRoundsModel" "MembraneRoundsModel" "wanted" "I" : Cond), (Cond.lays "MembraneRoundsModel" "MembraneRoundsModel" "letter" "I" : Cond), (Cond.laysFinal "MembraneRoundsModel" "MembraneRoundsModel" "open" "[I" : Cond)], w ∈ lw_gd
  exact List.forall_mem_cons.mpr ⟨pw_8, List.forall_mem_cons.mpr ⟨pw_9, List.forall_mem_cons.mpr ⟨pw_10, List.forall_mem_cons.mpr ⟨pw_11, List.forall_mem_cons.mpr ⟨pw_12, List.forall_mem_cons.mpr ⟨pw_13, List.forall_mem_cons.mpr ⟨pw_14, List.forall_mem_cons.mpr ⟨pw_15, List.forall_mem_cons.mpr ⟨pw_16, List.forall_mem_cons.mpr ⟨pw_17, List.forall_mem_cons.mpr ⟨pw_18, List.forall_mem_cons.mpr ⟨pw_19, List.forall_mem_cons.mpr ⟨pw_20, List.forall_mem_cons.mpr ⟨pw_21, List.forall_mem_cons.mpr ⟨pw_22, List.forall_mem_cons.mpr ⟨pw_23, List.forall_mem_cons.mpr ⟨pw_24, List.forall_mem_cons.mpr ⟨pw_25, List.forall_mem_cons.mpr ⟨pw_26, List.forall_mem_cons.mpr ⟨pw_27, List.forall_mem_cons.mpr ⟨pw_28, List.forall_mem_cons.mpr ⟨pw_29, List.forall_mem_cons.mpr ⟨pw_30, List.forall_mem_cons.mpr ⟨pw_31, List.forall_mem_cons.mpr ⟨pw_32, List.forall_mem_cons.mpr ⟨pw_33, fun _ h => absurd h List.not_mem_nil⟩⟩⟩⟩⟩⟩⟩⟩⟩⟩⟩⟩⟩⟩⟩⟩⟩⟩⟩⟩⟩⟩⟩⟩⟩⟩
def pF_1 : Nat → FieldType := fun j => cond (Nat.blt j 13) (cond (Nat.blt j 6) (cond (Nat.blt j 3) (cond (Nat.blt j 1) (cond (Nat.beq j 0) .int .int) (cond (Nat.blt j 2) (cond (Nat.beq j 1) .int .int) (cond (Nat.beq j 2) (.array .int) .int))) (cond (Nat.blt j 4) (cond (Nat.beq j 3) (.array .int) .int) (cond (Nat.blt j 5) (cond (Nat.beq j 4) (.array .int) .int) (cond (Nat.beq j 5) (.array .int) .int)))) (cond (Nat.blt j 9) (cond (Nat.blt j 7) (cond (Nat.beq j 6) (.array .int) .int) (cond (Nat.blt j 8) (cond (Nat.beq j 7) (.array .int) .int) (cond (Nat.beq j 8) (.array .int) .int))) (cond (Nat.blt j 11) (cond (Nat.blt j 10) (cond (Nat.beq j 9) (.array .int) .int) (cond (Nat.beq j 10) (.array .int) .int)) (cond (Nat.blt j 12) (cond (Nat.beq j 11) .int .int) (cond (Nat.beq j 12) .int .int))))) (cond (Nat.blt j 19) (cond (Nat.blt j 16) (cond (Nat.blt j 14) (cond (Nat.beq j 13) (.array .int) .int) (cond (Nat.blt j 15) (cond (Nat.beq j 14) (.array .int) .int) (cond (Nat.beq j 15) .boolean .int))) (cond (Nat.blt j 17) (cond (Nat.beq j 16) (.array .int) .int) (cond (Nat.blt j 18) (cond (Nat.beq j 17) .int .int) (cond (Nat.beq j 18) (.array .int) .int)))) (cond (Nat.blt j 22) (cond (Nat.blt j 20) (cond (Nat.beq j 19) (.array .int) .int) (cond (Nat.blt j 21) (cond (Nat.beq j 20) (.array .int) .int) (cond (Nat.beq j 21) (.array .int) .int))) (cond (Nat.blt j 24) (cond (Nat.blt j 23) (cond (Nat.beq j 22) .int .int) (cond (Nat.beq j 23) .int .int)) (cond (Nat.blt j 25) (cond (Nat.beq j 24) .int .int) (cond (Nat.beq j 25) (.array .int) .int)))))
theorem pD_1 : ∀ k, k < 26 → parseFieldDescriptor (pT_1 k).2.2.1 = some (pF_1 k) := by decide +kernel
theorem pNm_1 : ∀ a, a < 26 → ∀ b, b < 26 → a ≠ b → (pT_1 a).2.1 ≠ (pT_1 b).2.1 := by decide +kernel
theorem pw_34 : (Cond.laysFinal "MembraneRounds$Chooser" "MembraneRounds$Chooser" "open" "[LMembraneRounds$Rule;" : Cond) ∈ lw_gd := lw_gd_in (List.mem_of_getElem? (i := 168) (by decide +kernel)) (by decide +kernel)
theorem pw_35 : (Cond.lays "MembraneRounds$Chooser" "MembraneRounds$Chooser" "opens" "I" : Cond) ∈ lw_gd := lw_gd_in (List.mem_of_getElem? (i := 170) (by decide +kernel)) (by decide +kernel)
theorem pw_36 : (Cond.laysFinal "MembraneRounds$Chooser" "MembraneRounds$Chooser" "row" "[I" : Cond) ∈ lw_gd := lw_gd_in (List.mem_of_getElem? (i := 172) (by decide +kernel)) (by decide +kernel)
theorem pw_37 : (Cond.lays "MembraneRounds$Chooser" "MembraneRounds$Chooser" "start" "I" : Cond) ∈ lw_gd := lw_gd_in (List.mem_of_getElem? (i := 174) (by decide +kernel)) (by decide +kernel)
theorem pw_38 : (Cond.lays "MembraneRounds$Chooser" "MembraneRounds$Chooser" "end" "I" : Cond) ∈ lw_gd := lw_gd_in (List.mem_of_getElem? (i := 176) (by decide +kernel)) (by decide +kernel)
theorem pw_39 : (Cond.laysFinal "MembraneRounds$Chooser" "MembraneRounds$Chooser" "starts" "[I" : Cond) ∈ lw_gd := lw_gd_in (List.mem_of_getElem? (i := 178) (by decide +kernel)) (by decide +kernel)
theorem pw_40 : (Cond.laysFinal "MembraneRounds$Chooser" "MembraneRounds$Chooser" "places" "[I" : Cond) ∈ lw_gd := lw_gd_in (List.mem_of_getElem? (i := 180) (by decide +kernel)) (by decide +kernel)
theorem pU_2 : ∀ w ∈ u_ws "MembraneRounds$Chooser" pT_2 7, w ∈ lw_gd := by
  show ∀ w ∈ [(Cond.laysFinal "MembraneRounds$Chooser" "MembraneRounds$Chooser" "open" "[LMembraneRounds$Rule;" : Cond), (Cond.lays "MembraneRounds$Chooser" "MembraneRounds$Chooser" "opens" "I" : Cond), (Cond.laysFinal "MembraneRounds$Chooser" "MembraneRounds$Chooser" "row" "[I" : Cond), (Cond.lays "MembraneRounds$Chooser" "MembraneRounds$Chooser" "start" "I" : Cond), (Cond.lays "MembraneRounds$Chooser" "MembraneRounds$Chooser" "end" "I" : Cond), (Cond.laysFinal "MembraneRounds$Chooser" "MembraneRounds$Chooser" "starts" "[I" : Cond), (Cond.laysFinal "MembraneRounds$Chooser" "MembraneRounds$Chooser" "places" "[I" : Cond)], w ∈ lw_gd
  exact List.forall_mem_cons.mpr ⟨pw_34, List.forall_mem_cons.mpr ⟨pw_35, List.forall_mem_cons.mpr ⟨pw_36, List.forall_mem_cons.mpr ⟨pw_37, List.forall_mem_cons.mpr ⟨pw_38, List.forall_mem_cons.mpr ⟨pw_39, List.forall_mem_cons.mpr ⟨pw_40, fun _ h => absurd h List.not_mem_nil⟩⟩⟩⟩⟩⟩⟩
def pF_2 : Nat → FieldType := fun j => cond (Nat.blt j 3) (cond (Nat.blt j 1) (cond (Nat.beq j 0) (.array (.object "MembraneRounds$Rule")) .int) (cond (Nat.blt j 2) (cond (Nat.beq j 1) .int .int) (cond (Nat.beq j 2) (.array .int) .int))) (cond (Nat.blt j 5) (cond (Nat.blt j 4) (cond (Nat.beq j 3) .int .int) (cond (Nat.beq j 4) .int .int)) (cond (Nat.blt j 6) (cond (Nat.beq j 5) (.array .int) .int) (cond (Nat.beq j 6) (.array .int) .int)))
theorem pD_2 : ∀ k, k < 7 → parseFieldDescriptor (pT_2 k).2.2.1 = some (pF_2 k) := by decide +kernel
theorem pNm_2 : ∀ a, a < 7 → ∀ b, b < 7 → a ≠ b → (pT_2 a).2.1 ≠ (pT_2 b).2.1 := by decide +kernel
theorem pw_41 : (Cond.laysFinal "MembraneRounds$Configuration" "MembraneRounds$Configuration" "labels" "[I" : Cond) ∈ lw_gd := lw_gd_in (List.mem_of_getElem? (i := 222) (by decide +kernel)) (by decide +kernel)
theorem pw_42 : (Cond.laysFinal "MembraneRounds$Configuration" "MembraneRounds$Configuration" "parents" "[I" : Cond) ∈ lw_gd := lw_gd_in (List.mem_of_getElem? (i := 224) (by decide +kernel)) (by decide +kernel)
theorem pw_43 : (Cond.laysFinal "MembraneRounds$Configuration" "MembraneRounds$Configuration" "heaps" "[J" : Cond) ∈ lw_gd := lw_gd_in (List.mem_of_getElem? (i := 226) (by decide +kernel)) (by decide +kernel)
theorem pU_3 : ∀ w ∈ u_ws "MembraneRounds$Configuration" pT_3 3, w ∈ lw_gd := by
  show ∀ w ∈ [(Cond.laysFinal "MembraneRounds$Configuration" "MembraneRounds$Configuration" "labels" "[I" : Cond), (Cond.laysFinal "MembraneRounds$Configuration" "MembraneRounds$Configuration" "parents" "[I" : Cond), (Cond.laysFinal "MembraneRounds$Configuration" "MembraneRounds$Configuration" "heaps" "[J" : Cond)], w ∈ lw_gd
  exact List.forall_mem_cons.mpr ⟨pw_41, List.forall_mem_cons.mpr ⟨pw_42, List.forall_mem_cons.mpr ⟨pw_43, fun _ h => absurd h List.not_mem_nil⟩⟩⟩
def pF_3 : Nat → FieldType := fun j => cond (Nat.blt j 1) (cond (Nat.beq j 0) (.array .int) .int) (cond (Nat.blt j 2) (cond (Nat.beq j 1) (.array .int) .int) (cond (Nat.beq j 2) (.array .long) .int))
theorem pD_3 : ∀ k, k < 3 → parseFieldDescriptor (pT_3 k).2.2.1 = some (pF_3 k) := by decide +kernel
theorem pNm_3 : ∀ a, a < 3 → ∀ b, b < 3 → a ≠ b → (pT_3 a).2.1 ≠ (pT_3 b).2.1 := by decide +kernel
theorem pw_44 : (Cond.lays "MembraneRounds$Judge" "MembraneRounds$Judge" "found" "[LMembraneRounds$Configuration;" : Cond) ∈ lw_gd := lw_gd_in (List.mem_of_getElem? (i := 237) (by decide +kernel)) (by decide +kernel)
theorem pw_45 : (Cond.lays "MembraneRounds$Judge" "MembraneRounds$Judge" "count" "I" : Cond) ∈ lw_gd := lw_gd_in (List.mem_of_getElem? (i := 239) (by decide +kernel)) (by decide +kernel)
theorem pw_46 : (Cond.lays "MembraneRounds$Judge" "MembraneRounds$Judge" "before" "[LMembraneRounds$Configuration;" : Cond) ∈ lw_gd := lw_gd_in (List.mem_of_getElem? (i := 241) (by decide +kernel)) (by decide +kernel)
theorem pw_47 : (Cond.laysFinal "MembraneRounds$Judge" "MembraneRounds$Judge" "trial" "LMembraneRounds$Configuration;" : Cond) ∈ lw_gd := lw_gd_in (List.mem_of_getElem? (i := 243) (by decide +kernel)) (by decide +kernel)
theorem pw_48 : (Cond.laysFinal "MembraneRounds$Judge" "MembraneRounds$Judge" "chosen" "[I" : Cond) ∈ lw_gd := lw_gd_in (List.mem_of_getElem? (i := 245) (by decide +kernel)) (by decide +kernel)
theorem pU_4 : ∀ w ∈ u_ws "MembraneRounds$Judge" pT_4 5, w ∈ lw_gd := by
  show ∀ w ∈ [(Cond.lays "MembraneRounds$Judge" "MembraneRounds$Judge" "found" "[LMembraneRounds$Configuration;" : Cond), (Cond.lays "MembraneRounds$Judge" "MembraneRounds$Judge" "count" "I" : Cond), (Cond.lays "MembraneRounds$Judge" "MembraneRounds$Judge" "before" "[LMembraneRounds$Configuration;" : Cond), (Cond.laysFinal "MembraneRounds$Judge" "MembraneRounds$Judge" "trial" "LMembraneRounds$Configuration;" : Cond), (Cond.laysFinal "MembraneRounds$Judge" "MembraneRounds$Judge" "chosen" "[I" : Cond)], w ∈ lw_gd
  exact List.forall_mem_cons.mpr ⟨pw_44, List.forall_mem_cons.mpr ⟨pw_45, List.forall_mem_cons.mpr ⟨pw_46, List.forall_mem_cons.mpr ⟨pw_47, List.forall_mem_cons.mpr ⟨pw_48, fun _ h => absurd h List.not_mem_nil⟩⟩⟩⟩⟩
def pF_4 : Nat → FieldType := fun j => cond (Nat.blt j 2) (cond (Nat.blt j 1) (cond (Nat.beq j 0) (.array (.object "MembraneRounds$Configuration")) .int) (cond (Nat.beq j 1) .int .int)) (cond (Nat.blt j 3) (cond (Nat.beq j 2) (.array (.object "MembraneRounds$Configuration")) .int) (cond (Nat.blt j 4) (cond (Nat.beq j 3) (.object "MembraneRounds$Configuration") .int) (cond (Nat.beq j 4) (.array .int) .int)))
theorem pD_4 : ∀ k, k < 5 → parseFieldDescriptor (pT_4 k).2.2.1 = some (pF_4 k) := by decide +kernel
theorem pNm_4 : ∀ a, a < 5 → ∀ b, b < 5 → a ≠ b → (pT_4 a).2.1 ≠ (pT_4 b).2.1 := by decide +kernel
theorem pw_49 : (Cond.laysFinal "MembraneRounds$Rule" "MembraneRounds$Rule" "number" "I" : Cond) ∈ lw_gd := lw_gd_in (List.mem_of_getElem? (i := 118) (by decide +kernel)) (by decide +kernel)
theorem pw_50 : (Cond.lays "MembraneRounds$Rule" "MembraneRounds$Rule" "label" "I" : Cond) ∈ lw_gd := lw_gd_in (List.mem_of_getElem? (i := 120) (by decide +kernel)) (by decide +kernel)
theorem pw_51 : (Cond.lays "MembraneRounds$Rule" "MembraneRounds$Rule" "left" "J" : Cond) ∈ lw_gd := lw_gd_in (List.mem_of_getElem? (i := 122) (by decide +kernel)) (by decide +kernel)
theorem pw_52 : (Cond.lays "MembraneRounds$Rule" "MembraneRounds$Rule" "leftKinds" "J" : Cond) ∈ lw_gd := lw_gd_in (List.mem_of_getElem? (i := 124) (by decide +kernel)) (by decide +kernel)
theorem pw_53 : (Cond.lays "MembraneRounds$Rule" "MembraneRounds$Rule" "here" "J" : Cond) ∈ lw_gd := lw_gd_in (List.mem_of_getElem? (i := 126) (by decide +kernel)) (by decide +kernel)
theorem pw_54 : (Cond.lays "MembraneRounds$Rule" "MembraneRounds$Rule" "out" "J" : Cond) ∈ lw_gd := lw_gd_in (List.mem_of_getElem? (i := 128) (by decide +kernel)) (by decide +kernel)
theorem pw_55 : (Cond.lays "MembraneRounds$Rule" "MembraneRounds$Rule" "into" "J" : Cond) ∈ lw_gd := lw_gd_in (List.mem_of_getElem? (i := 130) (by decide +kernel)) (by decide +kernel)
theorem pw_56 : (Cond.lays "MembraneRounds$Rule" "MembraneRounds$Rule" "intoLabel" "I" : Cond) ∈ lw_gd := lw_gd_in (List.mem_of_getElem? (i := 132) (by decide +kernel)) (by decide +kernel)
theorem pw_57 : (Cond.lays "MembraneRounds$Rule" "MembraneRounds$Rule" "dissolves" "Z" : Cond) ∈ lw_gd := lw_gd_in (List.mem_of_getElem? (i := 134) (by decide +kernel)) (by decide +kernel)
theorem pw_58 : (Cond.lays "MembraneRounds$Rule" "MembraneRounds$Rule" "divides" "Z" : Cond) ∈ lw_gd := lw_gd_in (List.mem_of_getElem? (i := 136) (by decide +kernel)) (by decide +kernel)
theorem pw_59 : (Cond.lays "MembraneRounds$Rule" "MembraneRounds$Rule" "other" "J" : Cond) ∈ lw_gd := lw_gd_in (List.mem_of_getElem? (i := 138) (by decide +kernel)) (by decide +kernel)
theorem pU_5 : ∀ w ∈ u_ws "MembraneRounds$Rule" pT_5 11, w ∈ lw_gd := by
  show ∀ w ∈ [(Cond.laysFinal "MembraneRounds$Rule" "MembraneRounds$Rule" "number" "I" : Cond), (Cond.lays "MembraneRounds$Rule" "MembraneRounds$Rule" "label" "I" : Cond), (Cond.lays "MembraneRounds$Rule" "MembraneRounds$Rule" "left" "J" : Cond), (Cond.lays "MembraneRounds$Rule" "MembraneRounds$Rule" "leftKinds" "J" : Cond), (Cond.lays "MembraneRounds$Rule" "MembraneRounds$Rule" "here" "J" : Cond), (Cond.lays "MembraneRounds$Rule" "MembraneRounds$Rule" "out" "J" : Cond), (Cond.lays "MembraneRounds$Rule" "MembraneRounds$Rule" "into" "J" : Cond), (Cond.lays "MembraneRounds$Rule" "MembraneRounds$Rule" "intoLabel" "I" : Cond), (Cond.lays "MembraneRounds$Rule" "MembraneRounds$Rule" "dissolves" "Z" : Cond), (Cond.lays "MembraneRounds$Rule" "MembraneRounds$Rule" "divides" "Z" : Cond), (Cond.lays "MembraneRounds$Rule" "MembraneRounds$Rule" "other" "J" : Cond)], w ∈ lw_gd
  exact List.forall_mem_cons.mpr ⟨pw_49, List.forall_mem_cons.mpr ⟨pw_50, List.forall_mem_cons.mpr ⟨pw_51, List.forall_mem_cons.mpr ⟨pw_52, List.forall_mem_cons.mpr ⟨pw_53, List.forall_mem_cons.mpr ⟨pw_54, List.forall_mem_cons.mpr ⟨pw_55, List.forall_mem_cons.mpr ⟨pw_56, List.forall_mem_cons.mpr ⟨pw_57, List.forall_mem_cons.mpr ⟨pw_58, List.forall_mem_cons.mpr ⟨pw_59, fun _ h => absurd h List.not_mem_nil⟩⟩⟩⟩⟩⟩⟩⟩⟩⟩⟩
def pF_5 : Nat → FieldType := fun j => cond (Nat.blt j 5) (cond (Nat.blt j 2) (cond (Nat.blt j 1) (cond (Nat.beq j 0) .int .int) (cond (Nat.beq j 1) .int .int)) (cond (Nat.blt j 3) (cond (Nat.beq j 2) .long .int) (cond (Nat.blt j 4) (cond (Nat.beq j 3) .long .int) (cond (Nat.beq j 4) .long .int)))) (cond (Nat.blt j 8) (cond (Nat.blt j 6) (cond (Nat.beq j 5) .long .int) (cond (Nat.blt j 7) (cond (Nat.beq j 6) .long .int) (cond (Nat.beq j 7) .int .int))) (cond (Nat.blt j 9) (cond (Nat.beq j 8) .boolean .int) (cond (Nat.blt j 10) (cond (Nat.beq j 9) .boolean .int) (cond (Nat.beq j 10) .long .int))))
theorem pD_5 : ∀ k, k < 11 → parseFieldDescriptor (pT_5 k).2.2.1 = some (pF_5 k) := by decide +kernel
theorem pNm_5 : ∀ a, a < 11 → ∀ b, b < 11 → a ≠ b → (pT_5 a).2.1 ≠ (pT_5 b).2.1 := by decide +kernel
theorem pw_60 : (Cond.laysFinal "MembraneRounds$RuleBook" "MembraneRounds$RuleBook" "rules" "[LMembraneRounds$Rule;" : Cond) ∈ lw_gd := lw_gd_in (List.mem_of_getElem? (i := 149) (by decide +kernel)) (by decide +kernel)
theorem pw_61 : (Cond.lays "MembraneRounds$RuleBook" "MembraneRounds$RuleBook" "count" "I" : Cond) ∈ lw_gd := lw_gd_in (List.mem_of_getElem? (i := 151) (by decide +kernel)) (by decide +kernel)
theorem pU_6 : ∀ w ∈ u_ws "MembraneRounds$RuleBook" pT_6 2, w ∈ lw_gd := by
  show ∀ w ∈ [(Cond.laysFinal "MembraneRounds$RuleBook" "MembraneRounds$RuleBook" "rules" "[LMembraneRounds$Rule;" : Cond), (Cond.lays "MembraneRounds$RuleBook" "MembraneRounds$RuleBook" "count" "I" : Cond)], w ∈ lw_gd
  exact List.forall_mem_cons.mpr ⟨pw_60, List.forall_mem_cons.mpr ⟨pw_61, fun _ h => absurd h List.not_mem_nil⟩⟩
def pF_6 : Nat → FieldType := fun j => cond (Nat.blt j 1) (cond (Nat.beq j 0) (.array (.object "MembraneRounds$Rule")) .int) (cond (Nat.beq j 1) .int .int)
theorem pD_6 : ∀ k, k < 2 → parseFieldDescriptor (pT_6 k).2.2.1 = some (pF_6 k) := by decide +kernel
theorem pNm_6 : ∀ a, a < 2 → ∀ b, b < 2 → a ≠ b → (pT_6 a).2.1 ≠ (pT_6 b).2.1 := by decide +kernel
theorem pw_62 : (Cond.laysFinal "MembraneRounds$Scribe" "MembraneRounds$Scribe" "row" "[C" : Cond) ∈ lw_gd := lw_gd_in (List.mem_of_getElem? (i := 256) (by decide +kernel)) (by decide +kernel)
theorem pw_63 : (Cond.lays "MembraneRounds$Scribe" "MembraneRounds$Scribe" "length" "I" : Cond) ∈ lw_gd := lw_gd_in (List.mem_of_getElem? (i := 258) (by decide +kernel)) (by decide +kernel)
theorem pU_7 : ∀ w ∈ u_ws "MembraneRounds$Scribe" pT_7 2, w ∈ lw_gd := by
  show ∀ w ∈ [(Cond.laysFinal "MembraneRounds$Scribe" "MembraneRounds$Scribe" "row" "[C" : Cond), (Cond.lays "MembraneRounds$Scribe" "MembraneRounds$Scribe" "length" "I" : Cond)], w ∈ lw_gd
  exact List.forall_mem_cons.mpr ⟨pw_62, List.forall_mem_cons.mpr ⟨pw_63, fun _ h => absurd h List.not_mem_nil⟩⟩
def pF_7 : Nat → FieldType := fun j => cond (Nat.blt j 1) (cond (Nat.beq j 0) (.array .char) .int) (cond (Nat.beq j 1) .int .int)
theorem pD_7 : ∀ k, k < 2 → parseFieldDescriptor (pT_7 k).2.2.1 = some (pF_7 k) := by decide +kernel
theorem pNm_7 : ∀ a, a < 2 → ∀ b, b < 2 → a ≠ b → (pT_7 a).2.1 ≠ (pT_7 b).2.1 := by decide +kernel
theorem pw_64 : (Cond.laysFinal "MembraneRounds$Worker" "MembraneRounds$Worker" "onceUsed" "[LMembraneRounds$Rule;" : Cond) ∈ lw_gd := lw_gd_in (List.mem_of_getElem? (i := 192) (by decide +kernel)) (by decide +kernel)
theorem pU_8 : ∀ w ∈ u_ws "MembraneRounds$Worker" pT_8 1, w ∈ lw_gd := by
  show ∀ w ∈ [(Cond.laysFinal "MembraneRounds$Worker" "MembraneRounds$Worker" "onceUsed" "[LMembraneRounds$Rule;" : Cond)], w ∈ lw_gd
  exact List.forall_mem_cons.mpr ⟨pw_64, fun _ h => absurd h List.not_mem_nil⟩
def pF_8 : Nat → FieldType := fun j => cond (Nat.beq j 0) (.array (.object "MembraneRounds$Rule")) .int
theorem pD_8 : ∀ k, k < 1 → parseFieldDescriptor (pT_8 k).2.2.1 = some (pF_8 k) := by decide +kernel
theorem pNm_8 : ∀ a, a < 1 → ∀ b, b < 1 → a ≠ b → (pT_8 a).2.1 ≠ (pT_8 b).2.1 := by decide +kernel
theorem pU_9 : ∀ w ∈ u_ws "java/lang/IllegalArgumentException" pT_9 0, w ∈ lw_gd := by
  show ∀ w ∈ [], w ∈ lw_gd
  exact fun _ h => absurd h List.not_mem_nil
def pF_9 : Nat → FieldType := fun j => .int
theorem pD_9 : ∀ k, k < 0 → parseFieldDescriptor (pT_9 k).2.2.1 = some (pF_9 k) := by decide +kernel
theorem pNm_9 : ∀ a, a < 0 → ∀ b, b < 0 → a ≠ b → (pT_9 a).2.1 ≠ (pT_9 b).2.1 := by decide +kernel
theorem pU_10 : ∀ w ∈ u_ws "java/lang/IndexOutOfBoundsException" pT_10 0, w ∈ lw_gd := by
  show ∀ w ∈ [], w ∈ lw_gd
  exact fun _ h => absurd h List.not_mem_nil
def pF_10 : Nat → FieldType := fun j => .int
theorem pD_10 : ∀ k, k < 0 → parseFieldDescriptor (pT_10 k).2.2.1 = some (pF_10 k) := by decide +kernel
theorem pNm_10 : ∀ a, a < 0 → ∀ b, b < 0 → a ≠ b → (pT_10 a).2.1 ≠ (pT_10 b).2.1 := by decide +kernel
theorem pU_11 : ∀ w ∈ u_ws "java/lang/IllegalStateException" pT_11 0, w ∈ lw_gd := by
  show ∀ w ∈ [], w ∈ lw_gd
  exact fun _ h => absurd h List.not_mem_nil
def pF_11 : Nat → FieldType := fun j => .int
theorem pD_11 : ∀ k, k < 0 → parseFieldDescriptor (pT_11 k).2.2.1 = some (pF_11 k) := by decide +kernel
theorem pNm_11 : ∀ a, a < 0 → ∀ b, b < 0 → a ≠ b → (pT_11 a).2.1 ≠ (pT_11 b).2.1 := by decide +kernel
def pfFL : List (Nat × Nat × Nat × Nat × FieldType × Bool) := [(0, 12, (0, 0, (.object "MembraneRounds$RuleBook"), true)), (0, 19, (0, 1, (.object "MembraneRounds$Chooser"), true)), (0, 26, (0, 2, (.object "MembraneRounds$Worker"), true)), (0, 33, (0, 3, (.object "MembraneRounds$Judge"), true)), (0, 40, (0, 4, (.object "MembraneRounds$Scribe"), true)), (0, 44, (0, 5, (.array .int), true)), (0, 51, (0, 6, (.object "MembraneRounds$Configuration"), false)), (0, 55, (0, 7, (.object "MembraneRounds$Configuration"), false)), (0, 65, (6, 1, .int, false)), (0, 69, (4, 1, .int, false)), (0, 91, (3, 2, (.array .long), true)), (0, 121, (6, 0, (.array (.object "MembraneRounds$Rule")), true)), (0, 125, (5, 6, .long, false)), (0, 131, (5, 7, .int, false)), (0, 137, (5, 8, .boolean, false)), (0, 141, (5, 9, .boolean, false)), (0, 144, (5, 10, .long, false)), (0, 182, (3, 0, (.array .int), true)), (0, 185, (3, 1, (.array .int), true)), (0, 220, (4, 0, (.array (.object "MembraneRounds$Configuration")), false)), (1, 7, (1, 2, (.array .int), true)), (1, 13, (1, 3, (.array .int), true)), (1, 16, (1, 4, (.array .int), true)), (1, 19, (1, 5, (.array .int), true)), (1, 22, (1, 6, (.array .int), true)), (1, 25, (1, 7, (.array .int), true)), (1, 28, (1, 8, (.array .int), true)), (1, 31, (1, 9, (.array .int), true)), (1, 34, (1, 10, (.array .int), true)), (1, 37, (1, 13, (.array .int), true)), (1, 40, (1, 14, (.array .int), true)), (1, 43, (1, 16, (.array .int), true)), (1, 46, (1, 18, (.array .int), true)), (1, 49, (1, 19, (.array .int), true)), (1, 52, (1, 20, (.array .int), true)), (1, 55, (1, 21, (.array .int), true)), (1, 58, (1, 25, (.array .int), true)), (1, 65, (1, 0, .int, false)), (1, 77, (1, 1, .int, false)), (1, 80, (1, 11, .int, false)), (1, 105, (1, 15, .boolean, false)), (1, 143, (1, 17, .int, false)), (1, 164, (1, 12, .int, false)), (1, 177, (1, 22, .int, false)), (1, 180, (1, 23, .int, false)), (1, 183, (1, 24, .int, false)), (2, 11, (2, 0, (.array (.object "MembraneRounds$Rule")), true)), (2, 17, (2, 2, (.array .int), true)), (2, 21, (2, 5, (.array .int), true)), (2, 24, (2, 6, (.array .int), true)), (2, 31, (3, 2, (.array .long), true)), (2, 37, (2, 1, .int, false)), (2, 45, (5, 2, .long, false)), (2, 53, (5, 0, .int, true)), (2, 62, (2, 4, .int, false)), (2, 68, (2, 3, .int, false)), (2, 81, (6, 1, .int, false)), (2, 86, (6, 0, (.array (.object "MembraneRounds$Rule")), true)), (2, 89, (5, 1, .int, false)), (2, 92, (3, 0, (.array .int), true)), (2, 99, (5, 9, .boolean, false)), (2, 107, (5, 6, .long, false)), (2, 110, (5, 7, .int, false)), (2, 120, (5, 3, .long, false)), (3, 9, (3, 0, (.array .int), true)), (3, 15, (3, 1, (.array .int), true)), (3, 18, (3, 2, (.array .long), true)), (4, 11, (4, 0, (.array (.object "MembraneRounds$Configuration")), false)), (4, 17, (4, 2, (.array (.object "MembraneRounds$Configuration")), false)), (4, 21, (4, 3, (.object "MembraneRounds$Configuration"), true)), (4, 25, (4, 4, (.array .int), true)), (4, 33, (4, 1, .int, false)), (5, 9, (5, 0, .int, true)), (5, 15, (5, 8, .boolean, false)), (5, 19, (5, 9, .boolean, false)), (5, 26, (5, 2, .long, false)), (6, 11, (6, 0, (.array (.object "MembraneRounds$Rule")), true)), (6, 20, (6, 1, .int, false)), (6, 24, (5, 1, .int, false)), (6, 27, (5, 2, .long, false)), (6, 37, (5, 3, .long, false)), (6, 40, (5, 4, .long, false)), (6, 43, (5, 5, .long, false)), (6, 46, (5, 6, .long, false)), (6, 49, (5, 7, .int, false)), (6, 52, (5, 8, .boolean, false)), (6, 56, (5, 9, .boolean, false)), (6, 59, (5, 10, .long, false)), (6, 62, (5, 0, .int, true)), (7, 11, (7, 0, (.array .char), true)), (7, 15, (7, 1, .int, false)), (7, 23, (3, 0, (.array .int), true)), (7, 33, (3, 2, (.array .long), true)), (7, 43, (3, 1, (.array .int), true)), (8, 11, (8, 0, (.array (.object "MembraneRounds$Rule")), true)), (8, 17, (6, 1, .int, false)), (8, 29, (6, 0, (.array (.object "MembraneRounds$Rule")), true)), (8, 50, (3, 2, (.array .long), true)), (8, 54, (5, 2, .long, false)), (8, 58, (5, 9, .boolean, false)), (8, 62, (5, 4, .long, false)), (8, 65, (3, 1, (.array .int), true)), (8, 69, (5, 5, .long, false)), (8, 72, (5, 6, .long, false)), (8, 75, (5, 7, .int, false)), (8, 88, (3, 0, (.array .int), true)), (8, 91, (5, 10, .long, false)), (8, 98, (5, 8, .boolean, false))]
theorem pfF_mem : ∀ o, o < 16 → ∀ i, i < 512 → (match pFld o i with | none => true | some v => decide ((o, i, v) ∈ pfFL)) = true := by decide +kernel
theorem pfF_in {o i : Nat} {v : Nat × Nat × FieldType × Bool} (h : pFld o i = some v) : (o, i, v) ∈ pfFL := by
  obtain ⟨h1, h2, -⟩ := eB2_some (show eB2 o i _ = some _ from h)
  have h3 := pfF_mem o h1 i h2
  rw [h] at h3
  simpa using h3
def pFQ (z : Nat × Nat × Nat × Nat × FieldType × Bool) : Prop := ∃ (C : String) (T : u_T) (n : Nat) (ty0 : Nat → FieldType), pCL[z.2.2.1]? = some (C, T, n) ∧ z.2.2.2.1 < n ∧ C = pCn z.2.2.1 ∧ (T z.2.2.2.1).1 = C ∧
  Cond.fieldLink (pCn z.1) z.2.1 C (T z.2.2.2.1).2.1 (T z.2.2.2.1).2.2.1 ∈ lw_gd ∧ (∀ w ∈ u_ws C T n, w ∈ lw_gd) ∧ (T z.2.2.2.1).2.2.2 = z.2.2.2.2.2 ∧ parseFieldDescriptor (T z.2.2.2.1).2.2.1 = some z.2.2.2.2.1 ∧
  (∀ k, k < n → parseFieldDescriptor (T k).2.2.1 = some (ty0 k)) ∧ (∀ a, a < n → ∀ b, b < n → a ≠ b → (T a).2.1 ≠ (T b).2.1)
theorem pw_65 : (Cond.fieldLink "MembraneRounds" 12 "MembraneRounds" "book" "LMembraneRounds$RuleBook;" : Cond) ∈ lw_gd := lw_gd_in (List.mem_of_getElem? (i := 276) (by decide +kernel)) (by decide +kernel)
theorem pfE_0 : pFQ (0, 12, (0, 0, (.object "MembraneRounds$RuleBook"), true)) := ⟨"MembraneRounds", pT_0, 8, pF_0, rfl, by decide, rfl, rfl, pw_65, pU_0, rfl, by decide +kernel, pD_0, pNm_0⟩
theorem pw_66 : (Cond.fieldLink "MembraneRounds" 19 "MembraneRounds" "chooser" "LMembraneRounds$Chooser;" : Cond) ∈ lw_gd := lw_gd_in (List.mem_of_getElem? (i := 277) (by decide +kernel)) (by decide +kernel)
theorem pfE_1 : pFQ (0, 19, (0, 1, (.object "MembraneRounds$Chooser"), true)) := ⟨"MembraneRounds", pT_0, 8, pF_0, rfl, by decide, rfl, rfl, pw_66, pU_0, rfl, by decide +kernel, pD_0, pNm_0⟩
theorem pw_67 : (Cond.fieldLink "MembraneRounds" 26 "MembraneRounds" "worker" "LMembraneRounds$Worker;" : Cond) ∈ lw_gd := lw_gd_in (List.mem_of_getElem? (i := 278) (by decide +kernel)) (by decide +kernel)
theorem pfE_2 : pFQ (0, 26, (0, 2, (.object "MembraneRounds$Worker"), true)) := ⟨"MembraneRounds", pT_0, 8, pF_0, rfl, by decide, rfl, rfl, pw_67, pU_0, rfl, by decide +kernel, pD_0, pNm_0⟩
theorem pw_68 : (Cond.fieldLink "MembraneRounds" 33 "MembraneRounds" "judge" "LMembraneRounds$Judge;" : Cond) ∈ lw_gd := lw_gd_in (List.mem_of_getElem? (i := 279) (by decide +kernel)) (by decide +kernel)
theorem pfE_3 : pFQ (0, 33, (0, 3, (.object "MembraneRounds$Judge"), true)) := ⟨"MembraneRounds", pT_0, 8, pF_0, rfl, by decide, rfl, rfl, pw_68, pU_0, rfl, by decide +kernel, pD_0, pNm_0⟩
theorem pw_69 : (Cond.fieldLink "MembraneRounds" 40 "MembraneRounds" "scribe" "LMembraneRounds$Scribe;" : Cond) ∈ lw_gd := lw_gd_in (List.mem_of_getElem? (i := 280) (by decide +kernel)) (by decide +kernel)
theorem pfE_4 : pFQ (0, 40, (0, 4, (.object "MembraneRounds$Scribe"), true)) := ⟨"MembraneRounds", pT_0, 8, pF_0, rfl, by decide, rfl, rfl, pw_69, pU_0, rfl, by decide +kernel, pD_0, pNm_0⟩
theorem pw_70 : (Cond.fieldLink "MembraneRounds" 44 "MembraneRounds" "chosen" "[I" : Cond) ∈ lw_gd := lw_gd_in (List.mem_of_getElem? (i := 281) (by decide +kernel)) (by decide +kernel)
theorem pfE_5 : pFQ (0, 44, (0, 5, (.array .int), true)) := ⟨"MembraneRounds", pT_0, 8, pF_0, rfl, by decide, rfl, rfl, pw_70, pU_0, rfl, by decide +kernel, pD_0, pNm_0⟩
theorem pw_71 : (Cond.fieldLink "MembraneRounds" 51 "MembraneRounds" "now" "LMembraneRounds$Configuration;" : Cond) ∈ lw_gd := lw_gd_in (List.mem_of_getElem? (i := 282) (by decide +kernel)) (by decide +kernel)
theorem pfE_6 : pFQ (0, 51, (0, 6, (.object "MembraneRounds$Configuration"), false)) := ⟨"MembraneRounds", pT_0, 8, pF_0, rfl, by decide, rfl, rfl, pw_71, pU_0, rfl, by decide +kernel, pD_0, pNm_0⟩
theorem pw_72 : (Cond.fieldLink "MembraneRounds" 55 "MembraneRounds" "trial" "LMembraneRounds$Configuration;" : Cond) ∈ lw_gd := lw_gd_in (List.mem_of_getElem? (i := 283) (by decide +kernel)) (by decide +kernel)
theorem pfE_7 : pFQ (0, 55, (0, 7, (.object "MembraneRounds$Configuration"), false)) := ⟨"MembraneRounds", pT_0, 8, pF_0, rfl, by decide, rfl, rfl, pw_72, pU_0, rfl, by decide +kernel, pD_0, pNm_0⟩
theorem pw_73 : (Cond.fieldLink "MembraneRounds" 65 "MembraneRounds$RuleBook" "count" "I" : Cond) ∈ lw_gd := lw_gd_in (List.mem_of_getElem? (i := 146) (by decide +kernel)) (by decide +kernel)
theorem pfE_8 : pFQ (0, 65, (6, 1, .int, false)) := ⟨"MembraneRounds$RuleBook", pT_6, 2, pF_6, rfl, by decide, rfl, rfl, pw_73, pU_6, rfl, by decide +kernel, pD_6, pNm_6⟩
theorem pw_74 : (Cond.fieldLink "MembraneRounds" 69 "MembraneRounds$Judge" "count" "I" : Cond) ∈ lw_gd := lw_gd_in (List.mem_of_getElem? (i := 233) (by decide +kernel)) (by decide +kernel)
theorem pfE_9 : pFQ (0, 69, (4, 1, .int, false)) := ⟨"MembraneRounds$Judge", pT_4, 5, pF_4, rfl, by decide, rfl, rfl, pw_74, pU_4, rfl, by decide +kernel, pD_4, pNm_4⟩
theorem pw_75 : (Cond.fieldLink "MembraneRounds" 91 "MembraneRounds$Configuration" "heaps" "[J" : Cond) ∈ lw_gd := lw_gd_in (List.mem_of_getElem? (i := 221) (by decide +kernel)) (by decide +kernel)
theorem pfE_10 : pFQ (0, 91, (3, 2, (.array .long), true)) := ⟨"MembraneRounds$Configuration", pT_3, 3, pF_3, rfl, by decide, rfl, rfl, pw_75, pU_3, rfl, by decide +kernel, pD_3, pNm_3⟩
theorem pw_76 : (Cond.fieldLink "MembraneRounds" 121 "MembraneRounds$RuleBook" "rules" "[LMembraneRounds$Rule;" : Cond) ∈ lw_gd := lw_gd_in (List.mem_of_getElem? (i := 143) (by decide +kernel)) (by decide +kernel)
theorem pfE_11 : pFQ (0, 121, (6, 0, (.array (.object "MembraneRounds$Rule")), true)) := ⟨"MembraneRounds$RuleBook", pT_6, 2, pF_6, rfl, by decide, rfl, rfl, pw_76, pU_6, rfl, by decide +kernel, pD_6, pNm_6⟩
theorem pw_77 : (Cond.fieldLink "MembraneRounds" 125 "MembraneRounds$Rule" "into" "J" : Cond) ∈ lw_gd := lw_gd_in (List.mem_of_getElem? (i := 100) (by decide +kernel)) (by decide +kernel)
theorem pfE_12 : pFQ (0, 125, (5, 6, .long, false)) := ⟨"MembraneRounds$Rule", pT_5, 11, pF_5, rfl, by decide, rfl, rfl, pw_77, pU_5, rfl, by decide +kernel, pD_5, pNm_5⟩
theorem pw_78 : (Cond.fieldLink "MembraneRounds" 131 "MembraneRounds$Rule" "intoLabel" "I" : Cond) ∈ lw_gd := lw_gd_in (List.mem_of_getElem? (i := 104) (by decide +kernel)) (by decide +kernel)
theorem pfE_13 : pFQ (0, 131, (5, 7, .int, false)) := ⟨"MembraneRounds$Rule", pT_5, 11, pF_5, rfl, by decide, rfl, rfl, pw_78, pU_5, rfl, by decide +kernel, pD_5, pNm_5⟩
theorem pw_79 : (Cond.fieldLink "MembraneRounds" 137 "MembraneRounds$Rule" "dissolves" "Z" : Cond) ∈ lw_gd := lw_gd_in (List.mem_of_getElem? (i := 109) (by decide +kernel)) (by decide +kernel)
theorem pfE_14 : pFQ (0, 137, (5, 8, .boolean, false)) := ⟨"MembraneRounds$Rule", pT_5, 11, pF_5, rfl, by decide, rfl, rfl, pw_79, pU_5, rfl, by decide +kernel, pD_5, pNm_5⟩
theorem pw_80 : (Cond.fieldLink "MembraneRounds" 141 "MembraneRounds$Rule" "divides" "Z" : Cond) ∈ lw_gd := lw_gd_in (List.mem_of_getElem? (i := 114) (by decide +kernel)) (by decide +kernel)
theorem pfE_15 : pFQ (0, 141, (5, 9, .boolean, false)) := ⟨"MembraneRounds$Rule", pT_5, 11, pF_5, rfl, by decide, rfl, rfl, pw_80, pU_5, rfl, by decide +kernel, pD_5, pNm_5⟩
theorem pw_81 : (Cond.fieldLink "MembraneRounds" 144 "MembraneRounds$Rule" "other" "J" : Cond) ∈ lw_gd := lw_gd_in (List.mem_of_getElem? (i := 117) (by decide +kernel)) (by decide +kernel)
theorem pfE_16 : pFQ (0, 144, (5, 10, .long, false)) := ⟨"MembraneRounds$Rule", pT_5, 11, pF_5, rfl, by decide, rfl, rfl, pw_81, pU_5, rfl, by decide +kernel, pD_5, pNm_5⟩
theorem pw_82 : (Cond.fieldLink "MembraneRounds" 182 "MembraneRounds$Configuration" "labels" "[I" : Cond) ∈ lw_gd := lw_gd_in (List.mem_of_getElem? (i := 212) (by decide +kernel)) (by decide +kernel)
theorem pfE_17 : pFQ (0, 182, (3, 0, (.array .int), true)) := ⟨"MembraneRounds$Configuration", pT_3, 3, pF_3, rfl, by decide, rfl, rfl, pw_82, pU_3, rfl, by decide +kernel, pD_3, pNm_3⟩
theorem pw_83 : (Cond.fieldLink "MembraneRounds" 185 "MembraneRounds$Configuration" "parents" "[I" : Cond) ∈ lw_gd := lw_gd_in (List.mem_of_getElem? (i := 216) (by decide +kernel)) (by decide +kernel)
theorem pfE_18 : pFQ (0, 185, (3, 1, (.array .int), true)) := ⟨"MembraneRounds$Configuration", pT_3, 3, pF_3, rfl, by decide, rfl, rfl, pw_83, pU_3, rfl, by decide +kernel, pD_3, pNm_3⟩
theorem pw_84 : (Cond.fieldLink "MembraneRounds" 220 "MembraneRounds$Judge" "found" "[LMembraneRounds$Configuration;" : Cond) ∈ lw_gd := lw_gd_in (List.mem_of_getElem? (i := 231) (by decide +kernel)) (by decide +kernel)
theorem pfE_19 : pFQ (0, 220, (4, 0, (.array (.object "MembraneRounds$Configuration")), false)) := ⟨"MembraneRounds$Judge", pT_4, 5, pF_4, rfl, by decide, rfl, rfl, pw_84, pU_4, rfl, by decide +kernel, pD_4, pNm_4⟩
theorem pw_85 : (Cond.fieldLink "MembraneRoundsModel" 7 "MembraneRoundsModel" "labels" "[I" : Cond) ∈ lw_gd := lw_gd_in (List.mem_of_getElem? (i := 744) (by decide +kernel)) (by decide +kernel)
theorem pfE_20 : pFQ (1, 7, (1, 2, (.array .int), true)) := ⟨"MembraneRoundsModel", pT_1, 26, pF_1, rfl, by decide, rfl, rfl, pw_85, pU_1, rfl, by decide +kernel, pD_1, pNm_1⟩
theorem pw_86 : (Cond.fieldLink "MembraneRoundsModel" 13 "MembraneRoundsModel" "lefts" "[I" : Cond) ∈ lw_gd := lw_gd_in (List.mem_of_getElem? (i := 745) (by decide +kernel)) (by decide +kernel)
theorem pfE_21 : pFQ (1, 13, (1, 3, (.array .int), true)) := ⟨"MembraneRoundsModel", pT_1, 26, pF_1, rfl, by decide, rfl, rfl, pw_86, pU_1, rfl, by decide +kernel, pD_1, pNm_1⟩
theorem pw_87 : (Cond.fieldLink "MembraneRoundsModel" 16 "MembraneRoundsModel" "heres" "[I" : Cond) ∈ lw_gd := lw_gd_in (List.mem_of_getElem? (i := 746) (by decide +kernel)) (by decide +kernel)
theorem pfE_22 : pFQ (1, 16, (1, 4, (.array .int), true)) := ⟨"MembraneRoundsModel", pT_1, 26, pF_1, rfl, by decide, rfl, rfl, pw_87, pU_1, rfl, by decide +kernel, pD_1, pNm_1⟩
theorem pw_88 : (Cond.fieldLink "MembraneRoundsModel" 19 "MembraneRoundsModel" "outs" "[I" : Cond) ∈ lw_gd := lw_gd_in (List.mem_of_getElem? (i := 747) (by decide +kernel)) (by decide +kernel)
theorem pfE_23 : pFQ (1, 19, (1, 5, (.array .int), true)) := ⟨"MembraneRoundsModel", pT_1, 26, pF_1, rfl, by decide, rfl, rfl, pw_88, pU_1, rfl, by decide +kernel, pD_1, pNm_1⟩
theorem pw_89 : (Cond.fieldLink "MembraneRoundsModel" 22 "MembraneRoundsModel" "intos" "[I" : Cond) ∈ lw_gd := lw_gd_in (List.mem_of_getElem? (i := 748) (by decide +kernel)) (by decide +kernel)
theorem pfE_24 : pFQ (1, 22, (1, 6, (.array .int), true)) := ⟨"MembraneRoundsModel", pT_1, 26, pF_1, rfl, by decide, rfl, rfl, pw_89, pU_1, rfl, by decide +kernel, pD_1, pNm_1⟩
theorem pw_90 : (Cond.fieldLink "MembraneRoundsModel" 25 "MembraneRoundsModel" "targets" "[I" : Cond) ∈ lw_gd := lw_gd_in (List.mem_of_getElem? (i := 749) (by decide +kernel)) (by decide +kernel)
theorem pfE_25 : pFQ (1, 25, (1, 7, (.array .int), true)) := ⟨"MembraneRoundsModel", pT_1, 26, pF_1, rfl, by decide, rfl, rfl, pw_90, pU_1, rfl, by decide +kernel, pD_1, pNm_1⟩
theorem pw_91 : (Cond.fieldLink "MembraneRoundsModel" 28 "MembraneRoundsModel" "acts" "[I" : Cond) ∈ lw_gd := lw_gd_in (List.mem_of_getElem? (i := 750) (by decide +kernel)) (by decide +kernel)
theorem pfE_26 : pFQ (1, 28, (1, 8, (.array .int), true)) := ⟨"MembraneRoundsModel", pT_1, 26, pF_1, rfl, by decide, rfl, rfl, pw_91, pU_1, rfl, by decide +kernel, pD_1, pNm_1⟩
theorem pw_92 : (Cond.fieldLink "MembraneRoundsModel" 31 "MembraneRoundsModel" "others" "[I" : Cond) ∈ lw_gd := lw_gd_in (List.mem_of_getElem? (i := 751) (by decide +kernel)) (by decide +kernel)
theorem pfE_27 : pFQ (1, 31, (1, 9, (.array .int), true)) := ⟨"MembraneRoundsModel", pT_1, 26, pF_1, rfl, by decide, rfl, rfl, pw_92, pU_1, rfl, by decide +kernel, pD_1, pNm_1⟩
theorem pw_93 : (Cond.fieldLink "MembraneRoundsModel" 34 "MembraneRoundsModel" "cells" "[I" : Cond) ∈ lw_gd := lw_gd_in (List.mem_of_getElem? (i := 752) (by decide +kernel)) (by decide +kernel)
theorem pfE_28 : pFQ (1, 34, (1, 10, (.array .int), true)) := ⟨"MembraneRoundsModel", pT_1, 26, pF_1, rfl, by decide, rfl, rfl, pw_93, pU_1, rfl, by decide +kernel, pD_1, pNm_1⟩
theorem pw_94 : (Cond.fieldLink "MembraneRoundsModel" 37 "MembraneRoundsModel" "rest" "[I" : Cond) ∈ lw_gd := lw_gd_in (List.mem_of_getElem? (i := 755) (by decide +kernel)) (by decide +kernel)
theorem pfE_29 : pFQ (1, 37, (1, 13, (.array .int), true)) := ⟨"MembraneRoundsModel", pT_1, 26, pF_1, rfl, by decide, rfl, rfl, pw_94, pU_1, rfl, by decide +kernel, pD_1, pNm_1⟩
theorem pw_95 : (Cond.fieldLink "MembraneRoundsModel" 40 "MembraneRoundsModel" "uses" "[I" : Cond) ∈ lw_gd := lw_gd_in (List.mem_of_getElem? (i := 756) (by decide +kernel)) (by decide +kernel)
theorem pfE_30 : pFQ (1, 40, (1, 14, (.array .int), true)) := ⟨"MembraneRoundsModel", pT_1, 26, pF_1, rfl, by decide, rfl, rfl, pw_95, pU_1, rfl, by decide +kernel, pD_1, pNm_1⟩
theorem pw_96 : (Cond.fieldLink "MembraneRoundsModel" 43 "MembraneRoundsModel" "list" "[I" : Cond) ∈ lw_gd := lw_gd_in (List.mem_of_getElem? (i := 758) (by decide +kernel)) (by decide +kernel)
theorem pfE_31 : pFQ (1, 43, (1, 16, (.array .int), true)) := ⟨"MembraneRoundsModel", pT_1, 26, pF_1, rfl, by decide, rfl, rfl, pw_96, pU_1, rfl, by decide +kernel, pD_1, pNm_1⟩
theorem pw_97 : (Cond.fieldLink "MembraneRoundsModel" 46 "MembraneRoundsModel" "begins" "[I" : Cond) ∈ lw_gd := lw_gd_in (List.mem_of_getElem? (i := 760) (by decide +kernel)) (by decide +kernel)
theorem pfE_32 : pFQ (1, 46, (1, 18, (.array .int), true)) := ⟨"MembraneRoundsModel", pT_1, 26, pF_1, rfl, by decide, rfl, rfl, pw_97, pU_1, rfl, by decide +kernel, pD_1, pNm_1⟩
theorem pw_98 : (Cond.fieldLink "MembraneRoundsModel" 49 "MembraneRoundsModel" "many" "[I" : Cond) ∈ lw_gd := lw_gd_in (List.mem_of_getElem? (i := 761) (by decide +kernel)) (by decide +kernel)
theorem pfE_33 : pFQ (1, 49, (1, 19, (.array .int), true)) := ⟨"MembraneRoundsModel", pT_1, 26, pF_1, rfl, by decide, rfl, rfl, pw_98, pU_1, rfl, by decide +kernel, pD_1, pNm_1⟩
theorem pw_99 : (Cond.fieldLink "MembraneRoundsModel" 52 "MembraneRoundsModel" "digits" "[I" : Cond) ∈ lw_gd := lw_gd_in (List.mem_of_getElem? (i := 762) (by decide +kernel)) (by decide +kernel)
theorem pfE_34 : pFQ (1, 52, (1, 20, (.array .int), true)) := ⟨"MembraneRoundsModel", pT_1, 26, pF_1, rfl, by decide, rfl, rfl, pw_99, pU_1, rfl, by decide +kernel, pD_1, pNm_1⟩
theorem pw_100 : (Cond.fieldLink "MembraneRoundsModel" 55 "MembraneRoundsModel" "chosen" "[I" : Cond) ∈ lw_gd := lw_gd_in (List.mem_of_getElem? (i := 763) (by decide +kernel)) (by decide +kernel)
theorem pfE_35 : pFQ (1, 55, (1, 21, (.array .int), true)) := ⟨"MembraneRoundsModel", pT_1, 26, pF_1, rfl, by decide, rfl, rfl, pw_100, pU_1, rfl, by decide +kernel, pD_1, pNm_1⟩
theorem pw_101 : (Cond.fieldLink "MembraneRoundsModel" 58 "MembraneRoundsModel" "open" "[I" : Cond) ∈ lw_gd := lw_gd_in (List.mem_of_getElem? (i := 767) (by decide +kernel)) (by decide +kernel)
theorem pfE_36 : pFQ (1, 58, (1, 25, (.array .int), true)) := ⟨"MembraneRoundsModel", pT_1, 26, pF_1, rfl, by decide, rfl, rfl, pw_101, pU_1, rfl, by decide +kernel, pD_1, pNm_1⟩
theorem pw_102 : (Cond.fieldLink "MembraneRoundsModel" 65 "MembraneRoundsModel" "code" "I" : Cond) ∈ lw_gd := lw_gd_in (List.mem_of_getElem? (i := 742) (by decide +kernel)) (by decide +kernel)
theorem pfE_37 : pFQ (1, 65, (1, 0, .int, false)) := ⟨"MembraneRoundsModel", pT_1, 26, pF_1, rfl, by decide, rfl, rfl, pw_102, pU_1, rfl, by decide +kernel, pD_1, pNm_1⟩
theorem pw_103 : (Cond.fieldLink "MembraneRoundsModel" 77 "MembraneRoundsModel" "rules" "I" : Cond) ∈ lw_gd := lw_gd_in (List.mem_of_getElem? (i := 743) (by decide +kernel)) (by decide +kernel)
theorem pfE_38 : pFQ (1, 77, (1, 1, .int, false)) := ⟨"MembraneRoundsModel", pT_1, 26, pF_1, rfl, by decide, rfl, rfl, pw_103, pU_1, rfl, by decide +kernel, pD_1, pNm_1⟩
theorem pw_104 : (Cond.fieldLink "MembraneRoundsModel" 80 "MembraneRoundsModel" "found" "I" : Cond) ∈ lw_gd := lw_gd_in (List.mem_of_getElem? (i := 753) (by decide +kernel)) (by decide +kernel)
theorem pfE_39 : pFQ (1, 80, (1, 11, .int, false)) := ⟨"MembraneRoundsModel", pT_1, 26, pF_1, rfl, by decide, rfl, rfl, pw_104, pU_1, rfl, by decide +kernel, pD_1, pNm_1⟩
theorem pw_105 : (Cond.fieldLink "MembraneRoundsModel" 105 "MembraneRoundsModel" "acted" "Z" : Cond) ∈ lw_gd := lw_gd_in (List.mem_of_getElem? (i := 757) (by decide +kernel)) (by decide +kernel)
theorem pfE_40 : pFQ (1, 105, (1, 15, .boolean, false)) := ⟨"MembraneRoundsModel", pT_1, 26, pF_1, rfl, by decide, rfl, rfl, pw_105, pU_1, rfl, by decide +kernel, pD_1, pNm_1⟩
theorem pw_106 : (Cond.fieldLink "MembraneRoundsModel" 143 "MembraneRoundsModel" "listed" "I" : Cond) ∈ lw_gd := lw_gd_in (List.mem_of_getElem? (i := 759) (by decide +kernel)) (by decide +kernel)
theorem pfE_41 : pFQ (1, 143, (1, 17, .int, false)) := ⟨"MembraneRoundsModel", pT_1, 26, pF_1, rfl, by decide, rfl, rfl, pw_106, pU_1, rfl, by decide +kernel, pD_1, pNm_1⟩
theorem pw_107 : (Cond.fieldLink "MembraneRoundsModel" 164 "MembraneRoundsModel" "more" "I" : Cond) ∈ lw_gd := lw_gd_in (List.mem_of_getElem? (i := 754) (by decide +kernel)) (by decide +kernel)
theorem pfE_42 : pFQ (1, 164, (1, 12, .int, false)) := ⟨"MembraneRoundsModel", pT_1, 26, pF_1, rfl, by decide, rfl, rfl, pw_107, pU_1, rfl, by decide +kernel, pD_1, pNm_1⟩
theorem pw_108 : (Cond.fieldLink "MembraneRoundsModel" 177 "MembraneRoundsModel" "length" "I" : Cond) ∈ lw_gd := lw_gd_in (List.mem_of_getElem? (i := 764) (by decide +kernel)) (by decide +kernel)
theorem pfE_43 : pFQ (1, 177, (1, 22, .int, false)) := ⟨"MembraneRoundsModel", pT_1, 26, pF_1, rfl, by decide, rfl, rfl, pw_108, pU_1, rfl, by decide +kernel, pD_1, pNm_1⟩
theorem pw_109 : (Cond.fieldLink "MembraneRoundsModel" 180 "MembraneRoundsModel" "wanted" "I" : Cond) ∈ lw_gd := lw_gd_in (List.mem_of_getElem? (i := 765) (by decide +kernel)) (by decide +kernel)
theorem pfE_44 : pFQ (1, 180, (1, 23, .int, false)) := ⟨"MembraneRoundsModel", pT_1, 26, pF_1, rfl, by decide, rfl, rfl, pw_109, pU_1, rfl, by decide +kernel, pD_1, pNm_1⟩
theorem pw_110 : (Cond.fieldLink "MembraneRoundsModel" 183 "MembraneRoundsModel" "letter" "I" : Cond) ∈ lw_gd := lw_gd_in (List.mem_of_getElem? (i := 766) (by decide +kernel)) (by decide +kernel)
theorem pfE_45 : pFQ (1, 183, (1, 24, .int, false)) := ⟨"MembraneRoundsModel", pT_1, 26, pF_1, rfl, by decide, rfl, rfl, pw_110, pU_1, rfl, by decide +kernel, pD_1, pNm_1⟩
theorem pw_111 : (Cond.fieldLink "MembraneRounds$Chooser" 11 "MembraneRounds$Chooser" "open" "[LMembraneRounds$Rule;" : Cond) ∈ lw_gd := lw_gd_in (List.mem_of_getElem? (i := 161) (by decide +kernel)) (by decide +kernel)
theorem pfE_46 : pFQ (2, 11, (2, 0, (.array (.object "MembraneRounds$Rule")), true)) := ⟨"MembraneRounds$Chooser", pT_2, 7, pF_2, rfl, by decide, rfl, rfl, pw_111, pU_2, rfl, by decide +kernel, pD_2, pNm_2⟩
theorem pw_112 : (Cond.fieldLink "MembraneRounds$Chooser" 17 "MembraneRounds$Chooser" "row" "[I" : Cond) ∈ lw_gd := lw_gd_in (List.mem_of_getElem? (i := 163) (by decide +kernel)) (by decide +kernel)
theorem pfE_47 : pFQ (2, 17, (2, 2, (.array .int), true)) := ⟨"MembraneRounds$Chooser", pT_2, 7, pF_2, rfl, by decide, rfl, rfl, pw_112, pU_2, rfl, by decide +kernel, pD_2, pNm_2⟩
theorem pw_113 : (Cond.fieldLink "MembraneRounds$Chooser" 21 "MembraneRounds$Chooser" "starts" "[I" : Cond) ∈ lw_gd := lw_gd_in (List.mem_of_getElem? (i := 166) (by decide +kernel)) (by decide +kernel)
theorem pfE_48 : pFQ (2, 21, (2, 5, (.array .int), true)) := ⟨"MembraneRounds$Chooser", pT_2, 7, pF_2, rfl, by decide, rfl, rfl, pw_113, pU_2, rfl, by decide +kernel, pD_2, pNm_2⟩
theorem pw_114 : (Cond.fieldLink "MembraneRounds$Chooser" 24 "MembraneRounds$Chooser" "places" "[I" : Cond) ∈ lw_gd := lw_gd_in (List.mem_of_getElem? (i := 167) (by decide +kernel)) (by decide +kernel)
theorem pfE_49 : pFQ (2, 24, (2, 6, (.array .int), true)) := ⟨"MembraneRounds$Chooser", pT_2, 7, pF_2, rfl, by decide, rfl, rfl, pw_114, pU_2, rfl, by decide +kernel, pD_2, pNm_2⟩
theorem pw_115 : (Cond.fieldLink "MembraneRounds$Chooser" 31 "MembraneRounds$Configuration" "heaps" "[J" : Cond) ∈ lw_gd := lw_gd_in (List.mem_of_getElem? (i := 218) (by decide +kernel)) (by decide +kernel)
theorem pfE_50 : pFQ (2, 31, (3, 2, (.array .long), true)) := ⟨"MembraneRounds$Configuration", pT_3, 3, pF_3, rfl, by decide, rfl, rfl, pw_115, pU_3, rfl, by decide +kernel, pD_3, pNm_3⟩
theorem pw_116 : (Cond.fieldLink "MembraneRounds$Chooser" 37 "MembraneRounds$Chooser" "opens" "I" : Cond) ∈ lw_gd := lw_gd_in (List.mem_of_getElem? (i := 162) (by decide +kernel)) (by decide +kernel)
theorem pfE_51 : pFQ (2, 37, (2, 1, .int, false)) := ⟨"MembraneRounds$Chooser", pT_2, 7, pF_2, rfl, by decide, rfl, rfl, pw_116, pU_2, rfl, by decide +kernel, pD_2, pNm_2⟩
theorem pw_117 : (Cond.fieldLink "MembraneRounds$Chooser" 45 "MembraneRounds$Rule" "left" "J" : Cond) ∈ lw_gd := lw_gd_in (List.mem_of_getElem? (i := 89) (by decide +kernel)) (by decide +kernel)
theorem pfE_52 : pFQ (2, 45, (5, 2, .long, false)) := ⟨"MembraneRounds$Rule", pT_5, 11, pF_5, rfl, by decide, rfl, rfl, pw_117, pU_5, rfl, by decide +kernel, pD_5, pNm_5⟩
theorem pw_118 : (Cond.fieldLink "MembraneRounds$Chooser" 53 "MembraneRounds$Rule" "number" "I" : Cond) ∈ lw_gd := lw_gd_in (List.mem_of_getElem? (i := 85) (by decide +kernel)) (by decide +kernel)
theorem pfE_53 : pFQ (2, 53, (5, 0, .int, true)) := ⟨"MembraneRounds$Rule", pT_5, 11, pF_5, rfl, by decide, rfl, rfl, pw_118, pU_5, rfl, by decide +kernel, pD_5, pNm_5⟩
theorem pw_119 : (Cond.fieldLink "MembraneRounds$Chooser" 62 "MembraneRounds$Chooser" "end" "I" : Cond) ∈ lw_gd := lw_gd_in (List.mem_of_getElem? (i := 165) (by decide +kernel)) (by decide +kernel)
theorem pfE_54 : pFQ (2, 62, (2, 4, .int, false)) := ⟨"MembraneRounds$Chooser", pT_2, 7, pF_2, rfl, by decide, rfl, rfl, pw_119, pU_2, rfl, by decide +kernel, pD_2, pNm_2⟩
theorem pw_120 : (Cond.fieldLink "MembraneRounds$Chooser" 68 "MembraneRounds$Chooser" "start" "I" : Cond) ∈ lw_gd := lw_gd_in (List.mem_of_getElem? (i := 164) (by decide +kernel)) (by decide +kernel)
theorem pfE_55 : pFQ (2, 68, (2, 3, .int, false)) := ⟨"MembraneRounds$Chooser", pT_2, 7, pF_2, rfl, by decide, rfl, rfl, pw_120, pU_2, rfl, by decide +kernel, pD_2, pNm_2⟩
theorem pw_121 : (Cond.fieldLink "MembraneRounds$Chooser" 81 "MembraneRounds$RuleBook" "count" "I" : Cond) ∈ lw_gd := lw_gd_in (List.mem_of_getElem? (i := 148) (by decide +kernel)) (by decide +kernel)
theorem pfE_56 : pFQ (2, 81, (6, 1, .int, false)) := ⟨"MembraneRounds$RuleBook", pT_6, 2, pF_6, rfl, by decide, rfl, rfl, pw_121, pU_6, rfl, by decide +kernel, pD_6, pNm_6⟩
theorem pw_122 : (Cond.fieldLink "MembraneRounds$Chooser" 86 "MembraneRounds$RuleBook" "rules" "[LMembraneRounds$Rule;" : Cond) ∈ lw_gd := lw_gd_in (List.mem_of_getElem? (i := 144) (by decide +kernel)) (by decide +kernel)
theorem pfE_57 : pFQ (2, 86, (6, 0, (.array (.object "MembraneRounds$Rule")), true)) := ⟨"MembraneRounds$RuleBook", pT_6, 2, pF_6, rfl, by decide, rfl, rfl, pw_122, pU_6, rfl, by decide +kernel, pD_6, pNm_6⟩
theorem pw_123 : (Cond.fieldLink "MembraneRounds$Chooser" 89 "MembraneRounds$Rule" "label" "I" : Cond) ∈ lw_gd := lw_gd_in (List.mem_of_getElem? (i := 87) (by decide +kernel)) (by decide +kernel)
theorem pfE_58 : pFQ (2, 89, (5, 1, .int, false)) := ⟨"MembraneRounds$Rule", pT_5, 11, pF_5, rfl, by decide, rfl, rfl, pw_123, pU_5, rfl, by decide +kernel, pD_5, pNm_5⟩
theorem pw_124 : (Cond.fieldLink "MembraneRounds$Chooser" 92 "MembraneRounds$Configuration" "labels" "[I" : Cond) ∈ lw_gd := lw_gd_in (List.mem_of_getElem? (i := 211) (by decide +kernel)) (by decide +kernel)
theorem pfE_59 : pFQ (2, 92, (3, 0, (.array .int), true)) := ⟨"MembraneRounds$Configuration", pT_3, 3, pF_3, rfl, by decide, rfl, rfl, pw_124, pU_3, rfl, by decide +kernel, pD_3, pNm_3⟩
theorem pw_125 : (Cond.fieldLink "MembraneRounds$Chooser" 99 "MembraneRounds$Rule" "divides" "Z" : Cond) ∈ lw_gd := lw_gd_in (List.mem_of_getElem? (i := 113) (by decide +kernel)) (by decide +kernel)
theorem pfE_60 : pFQ (2, 99, (5, 9, .boolean, false)) := ⟨"MembraneRounds$Rule", pT_5, 11, pF_5, rfl, by decide, rfl, rfl, pw_125, pU_5, rfl, by decide +kernel, pD_5, pNm_5⟩
theorem pw_126 : (Cond.fieldLink "MembraneRounds$Chooser" 107 "MembraneRounds$Rule" "into" "J" : Cond) ∈ lw_gd := lw_gd_in (List.mem_of_getElem? (i := 101) (by decide +kernel)) (by decide +kernel)
theorem pfE_61 : pFQ (2, 107, (5, 6, .long, false)) := ⟨"MembraneRounds$Rule", pT_5, 11, pF_5, rfl, by decide, rfl, rfl, pw_126, pU_5, rfl, by decide +kernel, pD_5, pNm_5⟩
theorem pw_127 : (Cond.fieldLink "MembraneRounds$Chooser" 110 "MembraneRounds$Rule" "intoLabel" "I" : Cond) ∈ lw_gd := lw_gd_in (List.mem_of_getElem? (i := 105) (by decide +kernel)) (by decide +kernel)
theorem pfE_62 : pFQ (2, 110, (5, 7, .int, false)) := ⟨"MembraneRounds$Rule", pT_5, 11, pF_5, rfl, by decide, rfl, rfl, pw_127, pU_5, rfl, by decide +kernel, pD_5, pNm_5⟩
theorem pw_128 : (Cond.fieldLink "MembraneRounds$Chooser" 120 "MembraneRounds$Rule" "leftKinds" "J" : Cond) ∈ lw_gd := lw_gd_in (List.mem_of_getElem? (i := 93) (by decide +kernel)) (by decide +kernel)
theorem pfE_63 : pFQ (2, 120, (5, 3, .long, false)) := ⟨"MembraneRounds$Rule", pT_5, 11, pF_5, rfl, by decide, rfl, rfl, pw_128, pU_5, rfl, by decide +kernel, pD_5, pNm_5⟩
theorem pw_129 : (Cond.fieldLink "MembraneRounds$Configuration" 9 "MembraneRounds$Configuration" "labels" "[I" : Cond) ∈ lw_gd := lw_gd_in (List.mem_of_getElem? (i := 208) (by decide +kernel)) (by decide +kernel)
theorem pfE_64 : pFQ (3, 9, (3, 0, (.array .int), true)) := ⟨"MembraneRounds$Configuration", pT_3, 3, pF_3, rfl, by decide, rfl, rfl, pw_129, pU_3, rfl, by decide +kernel, pD_3, pNm_3⟩
theorem pw_130 : (Cond.fieldLink "MembraneRounds$Configuration" 15 "MembraneRounds$Configuration" "parents" "[I" : Cond) ∈ lw_gd := lw_gd_in (List.mem_of_getElem? (i := 213) (by decide +kernel)) (by decide +kernel)
theorem pfE_65 : pFQ (3, 15, (3, 1, (.array .int), true)) := ⟨"MembraneRounds$Configuration", pT_3, 3, pF_3, rfl, by decide, rfl, rfl, pw_130, pU_3, rfl, by decide +kernel, pD_3, pNm_3⟩
theorem pw_131 : (Cond.fieldLink "MembraneRounds$Configuration" 18 "MembraneRounds$Configuration" "heaps" "[J" : Cond) ∈ lw_gd := lw_gd_in (List.mem_of_getElem? (i := 217) (by decide +kernel)) (by decide +kernel)
theorem pfE_66 : pFQ (3, 18, (3, 2, (.array .long), true)) := ⟨"MembraneRounds$Configuration", pT_3, 3, pF_3, rfl, by decide, rfl, rfl, pw_131, pU_3, rfl, by decide +kernel, pD_3, pNm_3⟩
theorem pw_132 : (Cond.fieldLink "MembraneRounds$Judge" 11 "MembraneRounds$Judge" "found" "[LMembraneRounds$Configuration;" : Cond) ∈ lw_gd := lw_gd_in (List.mem_of_getElem? (i := 230) (by decide +kernel)) (by decide +kernel)
theorem pfE_67 : pFQ (4, 11, (4, 0, (.array (.object "MembraneRounds$Configuration")), false)) := ⟨"MembraneRounds$Judge", pT_4, 5, pF_4, rfl, by decide, rfl, rfl, pw_132, pU_4, rfl, by decide +kernel, pD_4, pNm_4⟩
theorem pw_133 : (Cond.fieldLink "MembraneRounds$Judge" 17 "MembraneRounds$Judge" "before" "[LMembraneRounds$Configuration;" : Cond) ∈ lw_gd := lw_gd_in (List.mem_of_getElem? (i := 234) (by decide +kernel)) (by decide +kernel)
theorem pfE_68 : pFQ (4, 17, (4, 2, (.array (.object "MembraneRounds$Configuration")), false)) := ⟨"MembraneRounds$Judge", pT_4, 5, pF_4, rfl, by decide, rfl, rfl, pw_133, pU_4, rfl, by decide +kernel, pD_4, pNm_4⟩
theorem pw_134 : (Cond.fieldLink "MembraneRounds$Judge" 21 "MembraneRounds$Judge" "trial" "LMembraneRounds$Configuration;" : Cond) ∈ lw_gd := lw_gd_in (List.mem_of_getElem? (i := 235) (by decide +kernel)) (by decide +kernel)
theorem pfE_69 : pFQ (4, 21, (4, 3, (.object "MembraneRounds$Configuration"), true)) := ⟨"MembraneRounds$Judge", pT_4, 5, pF_4, rfl, by decide, rfl, rfl, pw_134, pU_4, rfl, by decide +kernel, pD_4, pNm_4⟩
theorem pw_135 : (Cond.fieldLink "MembraneRounds$Judge" 25 "MembraneRounds$Judge" "chosen" "[I" : Cond) ∈ lw_gd := lw_gd_in (List.mem_of_getElem? (i := 236) (by decide +kernel)) (by decide +kernel)
theorem pfE_70 : pFQ (4, 25, (4, 4, (.array .int), true)) := ⟨"MembraneRounds$Judge", pT_4, 5, pF_4, rfl, by decide, rfl, rfl, pw_135, pU_4, rfl, by decide +kernel, pD_4, pNm_4⟩
theorem pw_136 : (Cond.fieldLink "MembraneRounds$Judge" 33 "MembraneRounds$Judge" "count" "I" : Cond) ∈ lw_gd := lw_gd_in (List.mem_of_getElem? (i := 232) (by decide +kernel)) (by decide +kernel)
theorem pfE_71 : pFQ (4, 33, (4, 1, .int, false)) := ⟨"MembraneRounds$Judge", pT_4, 5, pF_4, rfl, by decide, rfl, rfl, pw_136, pU_4, rfl, by decide +kernel, pD_4, pNm_4⟩
theorem pw_137 : (Cond.fieldLink "MembraneRounds$Rule" 9 "MembraneRounds$Rule" "number" "I" : Cond) ∈ lw_gd := lw_gd_in (List.mem_of_getElem? (i := 83) (by decide +kernel)) (by decide +kernel)
theorem pfE_72 : pFQ (5, 9, (5, 0, .int, true)) := ⟨"MembraneRounds$Rule", pT_5, 11, pF_5, rfl, by decide, rfl, rfl, pw_137, pU_5, rfl, by decide +kernel, pD_5, pNm_5⟩
theorem pw_138 : (Cond.fieldLink "MembraneRounds$Rule" 15 "MembraneRounds$Rule" "dissolves" "Z" : Cond) ∈ lw_gd := lw_gd_in (List.mem_of_getElem? (i := 106) (by decide +kernel)) (by decide +kernel)
theorem pfE_73 : pFQ (5, 15, (5, 8, .boolean, false)) := ⟨"MembraneRounds$Rule", pT_5, 11, pF_5, rfl, by decide, rfl, rfl, pw_138, pU_5, rfl, by decide +kernel, pD_5, pNm_5⟩
theorem pw_139 : (Cond.fieldLink "MembraneRounds$Rule" 19 "MembraneRounds$Rule" "divides" "Z" : Cond) ∈ lw_gd := lw_gd_in (List.mem_of_getElem? (i := 110) (by decide +kernel)) (by decide +kernel)
theorem pfE_74 : pFQ (5, 19, (5, 9, .boolean, false)) := ⟨"MembraneRounds$Rule", pT_5, 11, pF_5, rfl, by decide, rfl, rfl, pw_139, pU_5, rfl, by decide +kernel, pD_5, pNm_5⟩
theorem pw_140 : (Cond.fieldLink "MembraneRounds$Rule" 26 "MembraneRounds$Rule" "left" "J" : Cond) ∈ lw_gd := lw_gd_in (List.mem_of_getElem? (i := 91) (by decide +kernel)) (by decide +kernel)
theorem pfE_75 : pFQ (5, 26, (5, 2, .long, false)) := ⟨"MembraneRounds$Rule", pT_5, 11, pF_5, rfl, by decide, rfl, rfl, pw_140, pU_5, rfl, by decide +kernel, pD_5, pNm_5⟩
theorem pw_141 : (Cond.fieldLink "MembraneRounds$RuleBook" 11 "MembraneRounds$RuleBook" "rules" "[LMembraneRounds$Rule;" : Cond) ∈ lw_gd := lw_gd_in (List.mem_of_getElem? (i := 141) (by decide +kernel)) (by decide +kernel)
theorem pfE_76 : pFQ (6, 11, (6, 0, (.array (.object "MembraneRounds$Rule")), true)) := ⟨"MembraneRounds$RuleBook", pT_6, 2, pF_6, rfl, by decide, rfl, rfl, pw_141, pU_6, rfl, by decide +kernel, pD_6, pNm_6⟩
theorem pw_142 : (Cond.fieldLink "MembraneRounds$RuleBook" 20 "MembraneRounds$RuleBook" "count" "I" : Cond) ∈ lw_gd := lw_gd_in (List.mem_of_getElem? (i := 145) (by decide +kernel)) (by decide +kernel)
theorem pfE_77 : pFQ (6, 20, (6, 1, .int, false)) := ⟨"MembraneRounds$RuleBook", pT_6, 2, pF_6, rfl, by decide, rfl, rfl, pw_142, pU_6, rfl, by decide +kernel, pD_6, pNm_6⟩
theorem pw_143 : (Cond.fieldLink "MembraneRounds$RuleBook" 24 "MembraneRounds$Rule" "label" "I" : Cond) ∈ lw_gd := lw_gd_in (List.mem_of_getElem? (i := 86) (by decide +kernel)) (by decide +kernel)
theorem pfE_78 : pFQ (6, 24, (5, 1, .int, false)) := ⟨"MembraneRounds$Rule", pT_5, 11, pF_5, rfl, by decide, rfl, rfl, pw_143, pU_5, rfl, by decide +kernel, pD_5, pNm_5⟩
theorem pw_144 : (Cond.fieldLink "MembraneRounds$RuleBook" 27 "MembraneRounds$Rule" "left" "J" : Cond) ∈ lw_gd := lw_gd_in (List.mem_of_getElem? (i := 88) (by decide +kernel)) (by decide +kernel)
theorem pfE_79 : pFQ (6, 27, (5, 2, .long, false)) := ⟨"MembraneRounds$Rule", pT_5, 11, pF_5, rfl, by decide, rfl, rfl, pw_144, pU_5, rfl, by decide +kernel, pD_5, pNm_5⟩
theorem pw_145 : (Cond.fieldLink "MembraneRounds$RuleBook" 37 "MembraneRounds$Rule" "leftKinds" "J" : Cond) ∈ lw_gd := lw_gd_in (List.mem_of_getElem? (i := 92) (by decide +kernel)) (by decide +kernel)
theorem pfE_80 : pFQ (6, 37, (5, 3, .long, false)) := ⟨"MembraneRounds$Rule", pT_5, 11, pF_5, rfl, by decide, rfl, rfl, pw_145, pU_5, rfl, by decide +kernel, pD_5, pNm_5⟩
theorem pw_146 : (Cond.fieldLink "MembraneRounds$RuleBook" 40 "MembraneRounds$Rule" "here" "J" : Cond) ∈ lw_gd := lw_gd_in (List.mem_of_getElem? (i := 94) (by decide +kernel)) (by decide +kernel)
theorem pfE_81 : pFQ (6, 40, (5, 4, .long, false)) := ⟨"MembraneRounds$Rule", pT_5, 11, pF_5, rfl, by decide, rfl, rfl, pw_146, pU_5, rfl, by decide +kernel, pD_5, pNm_5⟩
theorem pw_147 : (Cond.fieldLink "MembraneRounds$RuleBook" 43 "MembraneRounds$Rule" "out" "J" : Cond) ∈ lw_gd := lw_gd_in (List.mem_of_getElem? (i := 96) (by decide +kernel)) (by decide +kernel)
theorem pfE_82 : pFQ (6, 43, (5, 5, .long, false)) := ⟨"MembraneRounds$Rule", pT_5, 11, pF_5, rfl, by decide, rfl, rfl, pw_147, pU_5, rfl, by decide +kernel, pD_5, pNm_5⟩
theorem pw_148 : (Cond.fieldLink "MembraneRounds$RuleBook" 46 "MembraneRounds$Rule" "into" "J" : Cond) ∈ lw_gd := lw_gd_in (List.mem_of_getElem? (i := 98) (by decide +kernel)) (by decide +kernel)
theorem pfE_83 : pFQ (6, 46, (5, 6, .long, false)) := ⟨"MembraneRounds$Rule", pT_5, 11, pF_5, rfl, by decide, rfl, rfl, pw_148, pU_5, rfl, by decide +kernel, pD_5, pNm_5⟩
theorem pw_149 : (Cond.fieldLink "MembraneRounds$RuleBook" 49 "MembraneRounds$Rule" "intoLabel" "I" : Cond) ∈ lw_gd := lw_gd_in (List.mem_of_getElem? (i := 102) (by decide +kernel)) (by decide +kernel)
theorem pfE_84 : pFQ (6, 49, (5, 7, .int, false)) := ⟨"MembraneRounds$Rule", pT_5, 11, pF_5, rfl, by decide, rfl, rfl, pw_149, pU_5, rfl, by decide +kernel, pD_5, pNm_5⟩
theorem pw_150 : (Cond.fieldLink "MembraneRounds$RuleBook" 52 "MembraneRounds$Rule" "dissolves" "Z" : Cond) ∈ lw_gd := lw_gd_in (List.mem_of_getElem? (i := 107) (by decide +kernel)) (by decide +kernel)
theorem pfE_85 : pFQ (6, 52, (5, 8, .boolean, false)) := ⟨"MembraneRounds$Rule", pT_5, 11, pF_5, rfl, by decide, rfl, rfl, pw_150, pU_5, rfl, by decide +kernel, pD_5, pNm_5⟩
theorem pw_151 : (Cond.fieldLink "MembraneRounds$RuleBook" 56 "MembraneRounds$Rule" "divides" "Z" : Cond) ∈ lw_gd := lw_gd_in (List.mem_of_getElem? (i := 111) (by decide +kernel)) (by decide +kernel)
theorem pfE_86 : pFQ (6, 56, (5, 9, .boolean, false)) := ⟨"MembraneRounds$Rule", pT_5, 11, pF_5, rfl, by decide, rfl, rfl, pw_151, pU_5, rfl, by decide +kernel, pD_5, pNm_5⟩
theorem pw_152 : (Cond.fieldLink "MembraneRounds$RuleBook" 59 "MembraneRounds$Rule" "other" "J" : Cond) ∈ lw_gd := lw_gd_in (List.mem_of_getElem? (i := 115) (by decide +kernel)) (by decide +kernel)
theorem pfE_87 : pFQ (6, 59, (5, 10, .long, false)) := ⟨"MembraneRounds$Rule", pT_5, 11, pF_5, rfl, by decide, rfl, rfl, pw_152, pU_5, rfl, by decide +kernel, pD_5, pNm_5⟩
theorem pw_153 : (Cond.fieldLink "MembraneRounds$RuleBook" 62 "MembraneRounds$Rule" "number" "I" : Cond) ∈ lw_gd := lw_gd_in (List.mem_of_getElem? (i := 84) (by decide +kernel)) (by decide +kernel)
theorem pfE_88 : pFQ (6, 62, (5, 0, .int, true)) := ⟨"MembraneRounds$Rule", pT_5, 11, pF_5, rfl, by decide, rfl, rfl, pw_153, pU_5, rfl, by decide +kernel, pD_5, pNm_5⟩
theorem pw_154 : (Cond.fieldLink "MembraneRounds$Scribe" 11 "MembraneRounds$Scribe" "row" "[C" : Cond) ∈ lw_gd := lw_gd_in (List.mem_of_getElem? (i := 254) (by decide +kernel)) (by decide +kernel)
theorem pfE_89 : pFQ (7, 11, (7, 0, (.array .char), true)) := ⟨"MembraneRounds$Scribe", pT_7, 2, pF_7, rfl, by decide, rfl, rfl, pw_154, pU_7, rfl, by decide +kernel, pD_7, pNm_7⟩
theorem pw_155 : (Cond.fieldLink "MembraneRounds$Scribe" 15 "MembraneRounds$Scribe" "length" "I" : Cond) ∈ lw_gd := lw_gd_in (List.mem_of_getElem? (i := 255) (by decide +kernel)) (by decide +kernel)
theorem pfE_90 : pFQ (7, 15, (7, 1, .int, false)) := ⟨"MembraneRounds$Scribe", pT_7, 2, pF_7, rfl, by decide, rfl, rfl, pw_155, pU_7, rfl, by decide +kernel, pD_7, pNm_7⟩
theorem pw_156 : (Cond.fieldLink "MembraneRounds$Scribe" 23 "MembraneRounds$Configuration" "labels" "[I" : Cond) ∈ lw_gd := lw_gd_in (List.mem_of_getElem? (i := 209) (by decide +kernel)) (by decide +kernel)
theorem pfE_91 : pFQ (7, 23, (3, 0, (.array .int), true)) := ⟨"MembraneRounds$Configuration", pT_3, 3, pF_3, rfl, by decide, rfl, rfl, pw_156, pU_3, rfl, by decide +kernel, pD_3, pNm_3⟩
theorem pw_157 : (Cond.fieldLink "MembraneRounds$Scribe" 33 "MembraneRounds$Configuration" "heaps" "[J" : Cond) ∈ lw_gd := lw_gd_in (List.mem_of_getElem? (i := 220) (by decide +kernel)) (by decide +kernel)
theorem pfE_92 : pFQ (7, 33, (3, 2, (.array .long), true)) := ⟨"MembraneRounds$Configuration", pT_3, 3, pF_3, rfl, by decide, rfl, rfl, pw_157, pU_3, rfl, by decide +kernel, pD_3, pNm_3⟩
theorem pw_158 : (Cond.fieldLink "MembraneRounds$Scribe" 43 "MembraneRounds$Configuration" "parents" "[I" : Cond) ∈ lw_gd := lw_gd_in (List.mem_of_getElem? (i := 215) (by decide +kernel)) (by decide +kernel)
theorem pfE_93 : pFQ (7, 43, (3, 1, (.array .int), true)) := ⟨"MembraneRounds$Configuration", pT_3, 3, pF_3, rfl, by decide, rfl, rfl, pw_158, pU_3, rfl, by decide +kernel, pD_3, pNm_3⟩
theorem pw_159 : (Cond.fieldLink "MembraneRounds$Worker" 11 "MembraneRounds$Worker" "onceUsed" "[LMembraneRounds$Rule;" : Cond) ∈ lw_gd := lw_gd_in (List.mem_of_getElem? (i := 191) (by decide +kernel)) (by decide +kernel)
theorem pfE_94 : pFQ (8, 11, (8, 0, (.array (.object "MembraneRounds$Rule")), true)) := ⟨"MembraneRounds$Worker", pT_8, 1, pF_8, rfl, by decide, rfl, rfl, pw_159, pU_8, rfl, by decide +kernel, pD_8, pNm_8⟩
theorem pw_160 : (Cond.fieldLink "MembraneRounds$Worker" 17 "MembraneRounds$RuleBook" "count" "I" : Cond) ∈ lw_gd := lw_gd_in (List.mem_of_getElem? (i := 147) (by decide +kernel)) (by decide +kernel)
theorem pfE_95 : pFQ (8, 17, (6, 1, .int, false)) := ⟨"MembraneRounds$RuleBook", pT_6, 2, pF_6, rfl, by decide, rfl, rfl, pw_160, pU_6, rfl, by decide +kernel, pD_6, pNm_6⟩
theorem pw_161 : (Cond.fieldLink "MembraneRounds$Worker" 29 "MembraneRounds$RuleBook" "rules" "[LMembraneRounds$Rule;" : Cond) ∈ lw_gd := lw_gd_in (List.mem_of_getElem? (i := 142) (by decide +kernel)) (by decide +kernel)
theorem pfE_96 : pFQ (8, 29, (6, 0, (.array (.object "MembraneRounds$Rule")), true)) := ⟨"MembraneRounds$RuleBook", pT_6, 2, pF_6, rfl, by decide, rfl, rfl, pw_161, pU_6, rfl, by decide +kernel, pD_6, pNm_6⟩
theorem pw_162 : (Cond.fieldLink "MembraneRounds$Worker" 50 "MembraneRounds$Configuration" "heaps" "[J" : Cond) ∈ lw_gd := lw_gd_in (List.mem_of_getElem? (i := 219) (by decide +kernel)) (by decide +kernel)
theorem pfE_97 : pFQ (8, 50, (3, 2, (.array .long), true)) := ⟨"MembraneRounds$Configuration", pT_3, 3, pF_3, rfl, by decide, rfl, rfl, pw_162, pU_3, rfl, by decide +kernel, pD_3, pNm_3⟩
theorem pw_163 : (Cond.fieldLink "MembraneRounds$Worker" 54 "MembraneRounds$Rule" "left" "J" : Cond) ∈ lw_gd := lw_gd_in (List.mem_of_getElem? (i := 90) (by decide +kernel)) (by decide +kernel)
theorem pfE_98 : pFQ (8, 54, (5, 2, .long, false)) := ⟨"MembraneRounds$Rule", pT_5, 11, pF_5, rfl, by decide, rfl, rfl, pw_163, pU_5, rfl, by decide +kernel, pD_5, pNm_5⟩
theorem pw_164 : (Cond.fieldLink "MembraneRounds$Worker" 58 "MembraneRounds$Rule" "divides" "Z" : Cond) ∈ lw_gd := lw_gd_in (List.mem_of_getElem? (i := 112) (by decide +kernel)) (by decide +kernel)
theorem pfE_99 : pFQ (8, 58, (5, 9, .boolean, false)) := ⟨"MembraneRounds$Rule", pT_5, 11, pF_5, rfl, by decide, rfl, rfl, pw_164, pU_5, rfl, by decide +kernel, pD_5, pNm_5⟩
theorem pw_165 : (Cond.fieldLink "MembraneRounds$Worker" 62 "MembraneRounds$Rule" "here" "J" : Cond) ∈ lw_gd := lw_gd_in (List.mem_of_getElem? (i := 95) (by decide +kernel)) (by decide +kernel)
theorem pfE_100 : pFQ (8, 62, (5, 4, .long, false)) := ⟨"MembraneRounds$Rule", pT_5, 11, pF_5, rfl, by decide, rfl, rfl, pw_165, pU_5, rfl, by decide +kernel, pD_5, pNm_5⟩
theorem pw_166 : (Cond.fieldLink "MembraneRounds$Worker" 65 "MembraneRounds$Configuration" "parents" "[I" : Cond) ∈ lw_gd := lw_gd_in (List.mem_of_getElem? (i := 214) (by decide +kernel)) (by decide +kernel)
theorem pfE_101 : pFQ (8, 65, (3, 1, (.array .int), true)) := ⟨"MembraneRounds$Configuration", pT_3, 3, pF_3, rfl, by decide, rfl, rfl, pw_166, pU_3, rfl, by decide +kernel, pD_3, pNm_3⟩
theorem pw_167 : (Cond.fieldLink "MembraneRounds$Worker" 69 "MembraneRounds$Rule" "out" "J" : Cond) ∈ lw_gd := lw_gd_in (List.mem_of_getElem? (i := 97) (by decide +kernel)) (by decide +kernel)
theorem pfE_102 : pFQ (8, 69, (5, 5, .long, false)) := ⟨"MembraneRounds$Rule", pT_5, 11, pF_5, rfl, by decide, rfl, rfl, pw_167, pU_5, rfl, by decide +kernel, pD_5, pNm_5⟩
theorem pw_168 : (Cond.fieldLink "MembraneRounds$Worker" 72 "MembraneRounds$Rule" "into" "J" : Cond) ∈ lw_gd := lw_gd_in (List.mem_of_getElem? (i := 99) (by decide +kernel)) (by decide +kernel)
theorem pfE_103 : pFQ (8, 72, (5, 6, .long, false)) := ⟨"MembraneRounds$Rule", pT_5, 11, pF_5, rfl, by decide, rfl, rfl, pw_168, pU_5, rfl, by decide +kernel, pD_5, pNm_5⟩
theorem pw_169 : (Cond.fieldLink "MembraneRounds$Worker" 75 "MembraneRounds$Rule" "intoLabel" "I" : Cond) ∈ lw_gd := lw_gd_in (List.mem_of_getElem? (i := 103) (by decide +kernel)) (by decide +kernel)
theorem pfE_104 : pFQ (8, 75, (5, 7, .int, false)) := ⟨"MembraneRounds$Rule", pT_5, 11, pF_5, rfl, by decide, rfl, rfl, pw_169, pU_5, rfl, by decide +kernel, pD_5, pNm_5⟩
theorem pw_170 : (Cond.fieldLink "MembraneRounds$Worker" 88 "MembraneRounds$Configuration" "labels" "[I" : Cond) ∈ lw_gd := lw_gd_in (List.mem_of_getElem? (i := 210) (by decide +kernel)) (by decide +kernel)
theorem pfE_105 : pFQ (8, 88, (3, 0, (.array .int), true)) := ⟨"MembraneRounds$Configuration", pT_3, 3, pF_3, rfl, by decide, rfl, rfl, pw_170, pU_3, rfl, by decide +kernel, pD_3, pNm_3⟩
theorem pw_171 : (Cond.fieldLink "MembraneRounds$Worker" 91 "MembraneRounds$Rule" "other" "J" : Cond) ∈ lw_gd := lw_gd_in (List.mem_of_getElem? (i := 116) (by decide +kernel)) (by decide +kernel)
theorem pfE_106 : pFQ (8, 91, (5, 10, .long, false)) := ⟨"MembraneRounds$Rule", pT_5, 11, pF_5, rfl, by decide, rfl, rfl, pw_171, pU_5, rfl, by decide +kernel, pD_5, pNm_5⟩
theorem pw_172 : (Cond.fieldLink "MembraneRounds$Worker" 98 "MembraneRounds$Rule" "dissolves" "Z" : Cond) ∈ lw_gd := lw_gd_in (List.mem_of_getElem? (i := 108) (by decide +kernel)) (by decide +kernel)
theorem pfE_107 : pFQ (8, 98, (5, 8, .boolean, false)) := ⟨"MembraneRounds$Rule", pT_5, 11, pF_5, rfl, by decide, rfl, rfl, pw_172, pU_5, rfl, by decide +kernel, pD_5, pNm_5⟩
theorem pfFR_0 : ∀ z ∈ ([(0, 12, (0, 0, (.object "MembraneRounds$RuleBook"), true)), (0, 19, (0, 1, (.object "MembraneRounds$Chooser"), true)), (0, 26, (0, 2, (.object "MembraneRounds$Worker"), true)), (0, 33, (0, 3, (.object "MembraneRounds$Judge"), true)), (0, 40, (0, 4, (.object "MembraneRounds$Scribe"), true)), (0, 44, (0, 5, (.array .int), true)), (0, 51, (0, 6, (.object "MembraneRounds$Configuration"), false)), (0, 55, (0, 7, (.object "MembraneRounds$Configuration"), false)), (0, 65, (6, 1, .int, false)), (0, 69, (4, 1, .int, false)), (0, 91, (3, 2, (.array .long), true)), (0, 121, (6, 0, (.array (.object "MembraneRounds$Rule")), true)), (0, 125, (5, 6, .long, false)), (0, 131, (5, 7, .int, false)), (0, 137, (5, 8, .boolean, false)), (0, 141, (5, 9, .boolean, false)), (0, 144, (5, 10, .long, false)), (0, 182, (3, 0, (.array .int), true)), (0, 185, (3, 1, (.array .int), true)), (0, 220, (4, 0, (.array (.object "MembraneRounds$Configuration")), false)), (1, 7, (1, 2, (.array .int), true)), (1, 13, (1, 3, (.array .int), true)), (1, 16, (1, 4, (.array .int), true)), (1, 19, (1, 5, (.array .int), true)), (1, 22, (1, 6, (.array .int), true)), (1, 25, (1, 7, (.array .int), true)), (1, 28, (1, 8, (.array .int), true)), (1, 31, (1, 9, (.array .int), true)), (1, 34, (1, 10, (.array .int), true)), (1, 37, (1, 13, (.array .int), true))] : List (Nat × Nat × Nat × Nat × FieldType × Bool)), pFQ z := List.forall_mem_cons.mpr ⟨pfE_0, List.forall_mem_cons.mpr ⟨pfE_1, List.forall_mem_cons.mpr ⟨pfE_2, List.forall_mem_cons.mpr ⟨pfE_3, List.forall_mem_cons.mpr ⟨pfE_4, List.forall_mem_cons.mpr ⟨pfE_5, List.forall_mem_cons.mpr ⟨pfE_6, List.forall_mem_cons.mpr ⟨pfE_7, List.forall_mem_cons.mpr ⟨pfE_8, List.forall_mem_cons.mpr ⟨pfE_9, List.forall_mem_cons.mpr ⟨pfE_10, List.forall_mem_cons.mpr ⟨pfE_11, List.forall_mem_cons.mpr ⟨pfE_12, List.forall_mem_cons.mpr ⟨pfE_13, List.forall_mem_cons.mpr ⟨pfE_14, List.forall_mem_cons.mpr ⟨pfE_15, List.forall_mem_cons.mpr ⟨pfE_16, List.forall_mem_cons.mpr ⟨pfE_17, List.forall_mem_cons.mpr ⟨pfE_18, List.forall_mem_cons.mpr ⟨pfE_19, List.forall_mem_cons.mpr ⟨pfE_20, List.forall_mem_cons.mpr ⟨pfE_21, List.forall_mem_cons.mpr ⟨pfE_22, List.forall_mem_cons.mpr ⟨pfE_23, List.forall_mem_cons.mpr ⟨pfE_24, List.forall_mem_cons.mpr ⟨pfE_25, List.forall_mem_cons.mpr ⟨pfE_26, List.forall_mem_cons.mpr ⟨pfE_27, List.forall_mem_cons.mpr ⟨pfE_28, List.forall_mem_cons.mpr ⟨pfE_29, fun _ h => absurd h List.not_mem_nil⟩⟩⟩⟩⟩⟩⟩⟩⟩⟩⟩⟩⟩⟩⟩⟩⟩⟩⟩⟩⟩⟩⟩⟩⟩⟩⟩⟩⟩⟩
theorem pfFR_1 : ∀ z ∈ ([(1, 40, (1, 14, (.array .int), true)), (1, 43, (1, 16, (.array .int), true)), (1, 46, (1, 18, (.array .int), true)), (1, 49, (1, 19, (.array .int), true)), (1, 52, (1, 20, (.array .int), true)), (1, 55, (1, 21, (.array .int), true)), (1, 58, (1, 25, (.array .int), true)), (1, 65, (1, 0, .int, false)), (1, 77, (1, 1, .int, false)), (1, 80, (1, 11, .int, false)), (1, 105, (1, 15, .boolean, false)), (1, 143, (1, 17, .int, false)), (1, 164, (1, 12, .int, false)), (1, 177, (1, 22, .int, false)), (1, 180, (1, 23, .int, false)), (1, 183, (1, 24, .int, false)), (2, 11, (2, 0, (.array (.object "MembraneRounds$Rule")), true)), (2, 17, (2, 2, (.array .int), true)), (2, 21, (2, 5, (.array .int), true)), (2, 24, (2, 6, (.array .int), true)), (2, 31, (3, 2, (.array .long), true)), (2, 37, (2, 1, .int, false)), (2, 45, (5, 2, .long, false)), (2, 53, (5, 0, .int, true)), (2, 62, (2, 4, .int, false)), (2, 68, (2, 3, .int, false)), (2, 81, (6, 1, .int, false)), (2, 86, (6, 0, (.array (.object "MembraneRounds$Rule")), true)), (2, 89, (5, 1, .int, false)), (2, 92, (3, 0, (.array .int), true))] : List (Nat × Nat × Nat × Nat × FieldType × Bool)), pFQ z := List.forall_mem_cons.mpr ⟨pfE_30, List.forall_mem_cons.mpr ⟨pfE_31, List.forall_mem_cons.mpr ⟨pfE_32, List.forall_mem_cons.mpr ⟨pfE_33, List.forall_mem_cons.mpr ⟨pfE_34, List.forall_mem_cons.mpr ⟨pfE_35, List.forall_mem_cons.mpr ⟨pfE_36, List.forall_mem_cons.mpr ⟨pfE_37, List.forall_mem_cons.mpr ⟨pfE_38, List.forall_mem_cons.mpr ⟨pfE_39, List.forall_mem_cons.mpr ⟨pfE_40, List.forall_mem_cons.mpr ⟨pfE_41, List.forall_mem_cons.mpr ⟨pfE_42, List.forall_mem_cons.mpr ⟨pfE_43, List.forall_mem_cons.mpr ⟨pfE_44, List.forall_mem_cons.mpr ⟨pfE_45, List.forall_mem_cons.mpr ⟨pfE_46, List.forall_mem_cons.mpr ⟨pfE_47, List.forall_mem_cons.mpr ⟨pfE_48, List.forall_mem_cons.mpr ⟨pfE_49, List.forall_mem_cons.mpr ⟨pfE_50, List.forall_mem_cons.mpr ⟨pfE_51, List.forall_mem_cons.mpr ⟨pfE_52, List.forall_mem_cons.mpr ⟨pfE_53, List.forall_mem_cons.mpr ⟨pfE_54, List.forall_mem_cons.mpr ⟨pfE_55, List.forall_mem_cons.mpr ⟨pfE_56, List.forall_mem_cons.mpr ⟨pfE_57, List.forall_mem_cons.mpr ⟨pfE_58, List.forall_mem_cons.mpr ⟨pfE_59, fun _ h => absurd h List.not_mem_nil⟩⟩⟩⟩⟩⟩⟩⟩⟩⟩⟩⟩⟩⟩⟩⟩⟩⟩⟩⟩⟩⟩⟩⟩⟩⟩⟩⟩⟩⟩
theorem pfFR_2 : ∀ z ∈ ([(2, 99, (5, 9, .boolean, false)), (2, 107, (5, 6, .long, false)), (2, 110, (5, 7, .int, false)), (2, 120, (5, 3, .long, false)), (3, 9, (3, 0, (.array .int), true)), (3, 15, (3, 1, (.array .int), true)), (3, 18, (3, 2, (.array .long), true)), (4, 11, (4, 0, (.array (.object "MembraneRounds$Configuration")), false)), (4, 17, (4, 2, (.array (.object "MembraneRounds$Configuration")), false)), (4, 21, (4, 3, (.object "MembraneRounds$Configuration"), true)), (4, 25, (4, 4, (.array .int), true)), (4, 33, (4, 1, .int, false)), (5, 9, (5, 0, .int, true)), (5, 15, (5, 8, .boolean, false)), (5, 19, (5, 9, .boolean, false)), (5, 26, (5, 2, .long, false)), (6, 11, (6, 0, (.array (.object "MembraneRounds$Rule")), true)), (6, 20, (6, 1, .int, false)), (6, 24, (5, 1, .int, false)), (6, 27, (5, 2, .long, false)), (6, 37, (5, 3, .long, false)), (6, 40, (5, 4, .long, false)), (6, 43, (5, 5, .long, false)), (6, 46, (5, 6, .long, false)), (6, 49, (5, 7, .int, false)), (6, 52, (5, 8, .boolean, false)), (6, 56, (5, 9, .boolean, false)), (6, 59, (5, 10, .long, false)), (6, 62, (5, 0, .int, true)), (7, 11, (7, 0, (.array .char), true))] : List (Nat × Nat × Nat × Nat × FieldType × Bool)), pFQ z := List.forall_mem_cons.mpr ⟨pfE_60, List.forall_mem_cons.mpr ⟨pfE_61, List.forall_mem_cons.mpr ⟨pfE_62, List.forall_mem_cons.mpr ⟨pfE_63, List.forall_mem_cons.mpr ⟨pfE_64, List.forall_mem_cons.mpr ⟨pfE_65, List.forall_mem_cons.mpr ⟨pfE_66, List.forall_mem_cons.mpr ⟨pfE_67, List.forall_mem_cons.mpr ⟨pfE_68, List.forall_mem_cons.mpr ⟨pfE_69, List.forall_mem_cons.mpr ⟨pfE_70, List.forall_mem_cons.mpr ⟨pfE_71, List.forall_mem_cons.mpr ⟨pfE_72, List.forall_mem_cons.mpr ⟨pfE_73, List.forall_mem_cons.mpr ⟨pfE_74, List.forall_mem_cons.mpr ⟨pfE_75, List.forall_mem_cons.mpr ⟨pfE_76, List.forall_mem_cons.mpr ⟨pfE_77, List.forall_mem_cons.mpr ⟨pfE_78, List.forall_mem_cons.mpr ⟨pfE_79, List.forall_mem_cons.mpr ⟨pfE_80, List.forall_mem_cons.mpr ⟨pfE_81, List.forall_mem_cons.mpr ⟨pfE_82, List.forall_mem_cons.mpr ⟨pfE_83, List.forall_mem_cons.mpr ⟨pfE_84, List.forall_mem_cons.mpr ⟨pfE_85, List.forall_mem_cons.mpr ⟨pfE_86, List.forall_mem_cons.mpr ⟨pfE_87, List.forall_mem_cons.mpr ⟨pfE_88, List.forall_mem_cons.mpr ⟨pfE_89, fun _ h => absurd h List.not_mem_nil⟩⟩⟩⟩⟩⟩⟩⟩⟩⟩⟩⟩⟩⟩⟩⟩⟩⟩⟩⟩⟩⟩⟩⟩⟩⟩⟩⟩⟩⟩
theorem pfFR_3 : ∀ z ∈ ([(7, 15, (7, 1, .int, false)), (7, 23, (3, 0, (.array .int), true)), (7, 33, (3, 2, (.array .long), true)), (7, 43, (3, 1, (.array .int), true)), (8, 11, (8, 0, (.array (.object "MembraneRounds$Rule")), true)), (8, 17, (6, 1, .int, false)), (8, 29, (6, 0, (.array (.object "MembraneRounds$Rule")), true)), (8, 50, (3, 2, (.array .long), true)), (8, 54, (5, 2, .long, false)), (8, 58, (5, 9, .boolean, false)), (8, 62, (5, 4, .long, false)), (8, 65, (3, 1, (.array .int), true)), (8, 69, (5, 5, .long, false)), (8, 72, (5, 6, .long, false)), (8, 75, (5, 7, .int, false)), (8, 88, (3, 0, (.array .int), true)), (8, 91, (5, 10, .long, false)), (8, 98, (5, 8, .boolean, false))] : List (Nat × Nat × Nat × Nat × FieldType × Bool)), pFQ z := List.forall_mem_cons.mpr ⟨pfE_90, List.forall_mem_cons.mpr ⟨pfE_91, List.forall_mem_cons.mpr ⟨pfE_92, List.forall_mem_cons.mpr ⟨pfE_93, List.forall_mem_cons.mpr ⟨pfE_94, List.forall_mem_cons.mpr ⟨pfE_95, List.forall_mem_cons.mpr ⟨pfE_96, List.forall_mem_cons.mpr ⟨pfE_97, List.forall_mem_cons.mpr ⟨pfE_98, List.forall_mem_cons.mpr ⟨pfE_99, List.forall_mem_cons.mpr ⟨pfE_100, List.forall_mem_cons.mpr ⟨pfE_101, List.forall_mem_cons.mpr ⟨pfE_102, List.forall_mem_cons.mpr ⟨pfE_103, List.forall_mem_cons.mpr ⟨pfE_104, List.forall_mem_cons.mpr ⟨pfE_105, List.forall_mem_cons.mpr ⟨pfE_106, List.forall_mem_cons.mpr ⟨pfE_107, fun _ h => absurd h List.not_mem_nil⟩⟩⟩⟩⟩⟩⟩⟩⟩⟩⟩⟩⟩⟩⟩⟩⟩⟩
theorem pfF_all : ∀ z ∈ pfFL, pFQ z := by
  show ∀ z ∈ ([(0, 12, (0, 0, (.object "MembraneRounds$RuleBook"), true)), (0, 19, (0, 1, (.object "MembraneRounds$Chooser"), true)), (0, 26, (0, 2, (.object "MembraneRounds$Worker"), true)), (0, 33, (0, 3, (.object "MembraneRounds$Judge"), true)), (0, 40, (0, 4, (.object "MembraneRounds$Scribe"), true)), (0, 44, (0, 5, (.array .int), true)), (0, 51, (0, 6, (.object "MembraneRounds$Configuration"), false)), (0, 55, (0, 7, (.object "MembraneRounds$Configuration"), false)), (0, 65, (6, 1, .int, false)), (0, 69, (4, 1, .int, false)), (0, 91, (3, 2, (.array .long), true)), (0, 121, (6, 0, (.array (.object "MembraneRounds$Rule")), true)), (0, 125, (5, 6, .long, false)), (0, 131, (5, 7, .int, false)), (0, 137, (5, 8, .boolean, false)), (0, 141, (5, 9, .boolean, false)), (0, 144, (5, 10, .long, false)), (0, 182, (3, 0, (.array .int), true)), (0, 185, (3, 1, (.array .int), true)), (0, 220, (4, 0, (.array (.object "MembraneRounds$Configuration")), false)), (1, 7, (1, 2, (.array .int), true)), (1, 13, (1, 3, (.array .int), true)), (1, 16, (1, 4, (.array .int), true)), (1, 19, (1, 5, (.array .int), true)), (1, 22, (1, 6, (.array .int), true)), (1, 25, (1, 7, (.array .int), true)), (1, 28, (1, 8, (.array .int), true)), (1, 31, (1, 9, (.array .int), true)), (1, 34, (1, 10, (.array .int), true)), (1, 37, (1, 13, (.array .int), true))] : List (Nat × Nat × Nat × Nat × FieldType × Bool)) ++ (([(1, 40, (1, 14, (.array .int), true)), (1, 43, (1, 16, (.array .int), true)), (1, 46, (1, 18, (.array .int), true)), (1, 49, (1, 19, (.array .int), true)), (1, 52, (1, 20, (.array .int), true)), (1, 55, (1, 21, (.array .int), true)), (1, 58, (1, 25, (.array .int), true)), (1, 65, (1, 0, .int, false)), (1, 77, (1, 1, .int, false)), (1, 80, (1, 11, .int, false)), (1, 105, (1, 15, .boolean, false)), (1, 143, (1, 17, .int, false)), (1, 164, (1, 12, .int, false)), (1, 177, (1, 22, .int, false)), (1, 180, (1, 23, .int, false)), (1, 183, (1, 24, .int, false)), (2, 11, (2, 0, (.array (.object "MembraneRounds$Rule")), true)), (2, 17, (2, 2, (.array .int), true)), (2, 21, (2, 5, (.array .int), true)), (2, 24, (2, 6, (.array .int), true)), (2, 31, (3, 2, (.array .long), true)), (2, 37, (2, 1, .int, false)), (2, 45, (5, 2, .long, false)), (2, 53, (5, 0, .int, true)), (2, 62, (2, 4, .int, false)), (2, 68, (2, 3, .int, false)), (2, 81, (6, 1, .int, false)), (2, 86, (6, 0, (.array (.object "MembraneRounds$Rule")), true)), (2, 89, (5, 1, .int, false)), (2, 92, (3, 0, (.array .int), true))] : List (Nat × Nat × Nat × Nat × FieldType × Bool)) ++ (([(2, 99, (5, 9, .boolean, false)), (2, 107, (5, 6, .long, false)), (2, 110, (5, 7, .int, false)), (2, 120, (5, 3, .long, false)), (3, 9, (3, 0, (.array .int), true)), (3, 15, (3, 1, (.array .int), true)), (3, 18, (3, 2, (.array .long), true)), (4, 11, (4, 0, (.array (.object "MembraneRounds$Configuration")), false)), (4, 17, (4, 2, (.array (.object "MembraneRounds$Configuration")), false)), (4, 21, (4, 3, (.object "MembraneRounds$Configuration"), true)), (4, 25, (4, 4, (.array .int), true)), (4, 33, (4, 1, .int, false)), (5, 9, (5, 0, .int, true)), (5, 15, (5, 8, .boolean, false)), (5, 19, (5, 9, .boolean, false)), (5, 26, (5, 2, .long, false)), (6, 11, (6, 0, (.array (.object "MembraneRounds$Rule")), true)), (6, 20, (6, 1, .int, false)), (6, 24, (5, 1, .int, false)), (6, 27, (5, 2, .long, false)), (6, 37, (5, 3, .long, false)), (6, 40, (5, 4, .long, false)), (6, 43, (5, 5, .long, false)), (6, 46, (5, 6, .long, false)), (6, 49, (5, 7, .int, false)), (6, 52, (5, 8, .boolean, false)), (6, 56, (5, 9, .boolean, false)), (6, 59, (5, 10, .long, false)), (6, 62, (5, 0, .int, true)), (7, 11, (7, 0, (.array .char), true))] : List (Nat × Nat × Nat × Nat × FieldType × Bool)) ++ (([(7, 15, (7, 1, .int, false)), (7, 23, (3, 0, (.array .int), true)), (7, 33, (3, 2, (.array .long), true)), (7, 43, (3, 1, (.array .int), true)), (8, 11, (8, 0, (.array (.object "MembraneRounds$Rule")), true)), (8, 17, (6, 1, .int, false)), (8, 29, (6, 0, (.array (.object "MembraneRounds$Rule")), true)), (8, 50, (3, 2, (.array .long), true)), (8, 54, (5, 2, .long, false)), (8, 58, (5, 9, .boolean, false)), (8, 62, (5, 4, .long, false)), (8, 65, (3, 1, (.array .int), true)), (8, 69, (5, 5, .long, false)), (8, 72, (5, 6, .long, false)), (8, 75, (5, 7, .int, false)), (8, 88, (3, 0, (.array .int), true)), (8, 91, (5, 10, .long, false)), (8, 98, (5, 8, .boolean, false))] : List (Nat × Nat × Nat × Nat × FieldType × Bool))))), pFQ z
  exact List.forall_mem_append.mpr ⟨pfFR_0, List.forall_mem_append.mpr ⟨pfFR_1, List.forall_mem_append.mpr ⟨pfFR_2, pfFR_3⟩⟩⟩
theorem pg_fld : gFld pP pN pCL := fun o ix c j ty fin h => pfF_all (o, ix, c, j, ty, fin) (pfF_in h)
theorem pg_ty : gTy pP pN := ⟨rfl, rfl, rfl, fun tt c h => by
  obtain ⟨h1, -⟩ := eB1_some (show eB1 tt 8 _ = some _ from h)
  have key : ∀ tt, tt < 8 → (match pElt tt with | none => true | some c => decide (pTy[tt]? = some (.object (pCn c)))) = true := by decide +kernel
  have h2 := key tt h1
  rw [show pElt tt = some c from h] at h2
  have h3 : decide (pTy[tt]? = some (.object (pCn c))) = true := h2
  exact of_decide_eq_true h3⟩
theorem pg_cl : gCl pN pCL := fun c r h => by
  have hlt : c < 12 := (List.getElem?_eq_some_iff.mp h).1
  have key : ∀ c, c < 12 → (pCL[c]?.map (fun r => r.1)) = some (pCn c) := by decide +kernel
  have h2 := key c hlt
  rw [h] at h2
  exact Option.some.inj h2
theorem pw_173 : (Cond.arrayClass .int : Cond) ∈ lw_gd := lw_gd_in (List.mem_of_getElem? (i := 183) (by decide +kernel)) (by decide +kernel)
theorem pw_174 : (Cond.arrayClass .long : Cond) ∈ lw_gd := lw_gd_in (List.mem_of_getElem? (i := 229) (by decide +kernel)) (by decide +kernel)
theorem pw_175 : (Cond.arrayClass .char : Cond) ∈ lw_gd := lw_gd_in (List.mem_of_getElem? (i := 261) (by decide +kernel)) (by decide +kernel)
def paAL : List (Nat × Nat × Nat) := [(2, 9, 3), (4, 9, 4), (6, 9, 3), (8, 9, 3)]
theorem paA_mem : ∀ o, o < 16 → ∀ i, i < 512 → (match pArr o i with | none => true | some v => decide ((o, i, v) ∈ paAL)) = true := by decide +kernel
theorem paA_in {o i : Nat} {v : Nat} (h : pArr o i = some v) : (o, i, v) ∈ paAL := by
  obtain ⟨h1, h2, -⟩ := eB2_some (show eB2 o i _ = some _ from h)
  have h3 := paA_mem o h1 i h2
  rw [h] at h3
  simpa using h3
def pAQ (z : Nat × Nat × Nat) : Prop := ∀ C, pTy[z.2.2]? = some (.object C) → Cond.classLink (pCn z.1) z.2.1 C ∈ lw_gd
theorem pw_176 : (Cond.classLink "MembraneRounds$Chooser" 9 "MembraneRounds$Rule" : Cond) ∈ lw_gd := lw_gd_in (List.mem_of_getElem? (i := 160) (by decide +kernel)) (by decide +kernel)
theorem paE_0 : pAQ (2, 9, 3) := fun C h => by
  have h2 : C = "MembraneRounds$Rule" := by
    have h3 : (some (.object "MembraneRounds$Rule") : Option FieldType) = some (.object C) := h
    injection h3 with h4
    injection h4 with h5
    exact h5.symm
  subst h2
  exact pw_176
theorem pw_177 : (Cond.classLink "MembraneRounds$Judge" 9 "MembraneRounds$Configuration" : Cond) ∈ lw_gd := lw_gd_in (List.mem_of_getElem? (i := 201) (by decide +kernel)) (by decide +kernel)
theorem paE_1 : pAQ (4, 9, 4) := fun C h => by
  have h2 : C = "MembraneRounds$Configuration" := by
    have h3 : (some (.object "MembraneRounds$Configuration") : Option FieldType) = some (.object C) := h
    injection h3 with h4
    injection h4 with h5
    exact h5.symm
  subst h2
  exact pw_177
theorem pw_178 : (Cond.classLink "MembraneRounds$RuleBook" 9 "MembraneRounds$Rule" : Cond) ∈ lw_gd := lw_gd_in (List.mem_of_getElem? (i := 76) (by decide +kernel)) (by decide +kernel)
theorem paE_2 : pAQ (6, 9, 3) := fun C h => by
  have h2 : C = "MembraneRounds$Rule" := by
    have h3 : (some (.object "MembraneRounds$Rule") : Option FieldType) = some (.object C) := h
    injection h3 with h4
    injection h4 with h5
    exact h5.symm
  subst h2
  exact pw_178
theorem pw_179 : (Cond.classLink "MembraneRounds$Worker" 9 "MembraneRounds$Rule" : Cond) ∈ lw_gd := lw_gd_in (List.mem_of_getElem? (i := 190) (by decide +kernel)) (by decide +kernel)
theorem paE_3 : pAQ (8, 9, 3) := fun C h => by
  have h2 : C = "MembraneRounds$Rule" := by
    have h3 : (some (.object "MembraneRounds$Rule") : Option FieldType) = some (.object C) := h
    injection h3 with h4
    injection h4 with h5
    exact h5.symm
  subst h2
  exact pw_179
theorem paAR_0 : ∀ z ∈ ([(2, 9, 3), (4, 9, 4), (6, 9, 3), (8, 9, 3)] : List (Nat × Nat × Nat)), pAQ z := List.forall_mem_cons.mpr ⟨paE_0, List.forall_mem_cons.mpr ⟨paE_1, List.forall_mem_cons.mpr ⟨paE_2, List.forall_mem_cons.mpr ⟨paE_3, fun _ h => absurd h List.not_mem_nil⟩⟩⟩⟩
theorem paA_all : ∀ z ∈ paAL, pAQ z := by
  show ∀ z ∈ ([(2, 9, 3), (4, 9, 4), (6, 9, 3), (8, 9, 3)] : List (Nat × Nat × Nat)), pAQ z
  exact paAR_0
def pcCL : List (Nat × Nat × Nat) := [(0, 9, 6), (0, 16, 2), (0, 23, 8), (0, 30, 4), (0, 37, 7), (0, 48, 3), (0, 77, 11), (0, 198, 10), (0, 203, 9), (4, 9, 3), (6, 9, 5), (14, 8, 0), (14, 69, 1)]
theorem pcC_mem : ∀ o, o < 16 → ∀ i, i < 512 → (match pCls o i with | none => true | some v => decide ((o, i, v) ∈ pcCL)) = true := by decide +kernel
theorem pcC_in {o i : Nat} {v : Nat} (h : pCls o i = some v) : (o, i, v) ∈ pcCL := by
  obtain ⟨h1, h2, -⟩ := eB2_some (show eB2 o i _ = some _ from h)
  have h3 := pcC_mem o h1 i h2
  rw [h] at h3
  simpa using h3
def pCQ (z : Nat × Nat × Nat) : Prop := ∃ (C : String) (T : u_T) (n : Nat) (ty0 : Nat → FieldType), pCL[z.2.2]? = some (C, T, n) ∧ Cond.classLink (pCn z.1) z.2.1 C ∈ lw_gd ∧ Cond.instantiable C (pBla z.2.2).2 ∈ lw_gd ∧ Cond.initialized C ∈ lw_gd ∧
    (∀ w ∈ u_ws C T n, w ∈ lw_gd) ∧ (∀ k, k < n → parseFieldDescriptor (T k).2.2.1 = some (ty0 k)) ∧ (∀ k, k < n → defaultValue (ty0 k) = vp_V (pBla z.2.2).1 k) ∧ ∀ v ∈ (pBla z.2.2).1, v = .int 0 ∨ v = .long 0 ∨ v = .null
theorem pw_180 : (Cond.classLink "MembraneRounds" 9 "MembraneRounds$RuleBook" : Cond) ∈ lw_gd := lw_gd_in (List.mem_of_getElem? (i := 70) (by decide +kernel)) (by decide +kernel)
theorem pw_181 : (Cond.instantiable "MembraneRounds$RuleBook" 2 : Cond) ∈ lw_gd := lw_gd_in (List.mem_of_getElem? (i := 71) (by decide +kernel)) (by decide +kernel)
theorem pw_182 : (Cond.initialized "MembraneRounds$RuleBook" : Cond) ∈ lw_gd := lw_gd_in (List.mem_of_getElem? (i := 44) (by decide +kernel)) (by decide +kernel)
theorem pcE_0 : pCQ (0, 9, 6) := ⟨"MembraneRounds$RuleBook", pT_6, 2, pF_6, rfl, pw_180, pw_181, pw_182, pU_6, pD_6, by decide +kernel, by decide +kernel⟩
theorem pw_183 : (Cond.classLink "MembraneRounds" 16 "MembraneRounds$Chooser" : Cond) ∈ lw_gd := lw_gd_in (List.mem_of_getElem? (i := 154) (by decide +kernel)) (by decide +kernel)
theorem pw_184 : (Cond.instantiable "MembraneRounds$Chooser" 7 : Cond) ∈ lw_gd := lw_gd_in (List.mem_of_getElem? (i := 155) (by decide +kernel)) (by decide +kernel)
theorem pw_185 : (Cond.initialized "MembraneRounds$Chooser" : Cond) ∈ lw_gd := lw_gd_in (List.mem_of_getElem? (i := 46) (by decide +kernel)) (by decide +kernel)
theorem pcE_1 : pCQ (0, 16, 2) := ⟨"MembraneRounds$Chooser", pT_2, 7, pF_2, rfl, pw_183, pw_184, pw_185, pU_2, pD_2, by decide +kernel, by decide +kernel⟩
theorem pw_186 : (Cond.classLink "MembraneRounds" 23 "MembraneRounds$Worker" : Cond) ∈ lw_gd := lw_gd_in (List.mem_of_getElem? (i := 184) (by decide +kernel)) (by decide +kernel)
theorem pw_187 : (Cond.instantiable "MembraneRounds$Worker" 1 : Cond) ∈ lw_gd := lw_gd_in (List.mem_of_getElem? (i := 185) (by decide +kernel)) (by decide +kernel)
theorem pw_188 : (Cond.initialized "MembraneRounds$Worker" : Cond) ∈ lw_gd := lw_gd_in (List.mem_of_getElem? (i := 47) (by decide +kernel)) (by decide +kernel)
theorem pcE_2 : pCQ (0, 23, 8) := ⟨"MembraneRounds$Worker", pT_8, 1, pF_8, rfl, pw_186, pw_187, pw_188, pU_8, pD_8, by decide +kernel, by decide +kernel⟩
theorem pw_189 : (Cond.classLink "MembraneRounds" 30 "MembraneRounds$Judge" : Cond) ∈ lw_gd := lw_gd_in (List.mem_of_getElem? (i := 195) (by decide +kernel)) (by decide +kernel)
theorem pw_190 : (Cond.instantiable "MembraneRounds$Judge" 5 : Cond) ∈ lw_gd := lw_gd_in (List.mem_of_getElem? (i := 196) (by decide +kernel)) (by decide +kernel)
theorem pw_191 : (Cond.initialized "MembraneRounds$Judge" : Cond) ∈ lw_gd := lw_gd_in (List.mem_of_getElem? (i := 48) (by decide +kernel)) (by decide +kernel)
theorem pcE_3 : pCQ (0, 30, 4) := ⟨"MembraneRounds$Judge", pT_4, 5, pF_4, rfl, pw_189, pw_190, pw_191, pU_4, pD_4, by decide +kernel, by decide +kernel⟩
theorem pw_192 : (Cond.classLink "MembraneRounds" 37 "MembraneRounds$Scribe" : Cond) ∈ lw_gd := lw_gd_in (List.mem_of_getElem? (i := 248) (by decide +kernel)) (by decide +kernel)
theorem pw_193 : (Cond.instantiable "MembraneRounds$Scribe" 2 : Cond) ∈ lw_gd := lw_gd_in (List.mem_of_getElem? (i := 249) (by decide +kernel)) (by decide +kernel)
theorem pw_194 : (Cond.initialized "MembraneRounds$Scribe" : Cond) ∈ lw_gd := lw_gd_in (List.mem_of_getElem? (i := 50) (by decide +kernel)) (by decide +kernel)
theorem pcE_4 : pCQ (0, 37, 7) := ⟨"MembraneRounds$Scribe", pT_7, 2, pF_7, rfl, pw_192, pw_193, pw_194, pU_7, pD_7, by decide +kernel, by decide +kernel⟩
theorem pw_195 : (Cond.classLink "MembraneRounds" 48 "MembraneRounds$Configuration" : Cond) ∈ lw_gd := lw_gd_in (List.mem_of_getElem? (i := 262) (by decide +kernel)) (by decide +kernel)
theorem pw_196 : (Cond.instantiable "MembraneRounds$Configuration" 3 : Cond) ∈ lw_gd := lw_gd_in (List.mem_of_getElem? (i := 203) (by decide +kernel)) (by decide +kernel)
theorem pw_197 : (Cond.initialized "MembraneRounds$Configuration" : Cond) ∈ lw_gd := lw_gd_in (List.mem_of_getElem? (i := 49) (by decide +kernel)) (by decide +kernel)
theorem pcE_5 : pCQ (0, 48, 3) := ⟨"MembraneRounds$Configuration", pT_3, 3, pF_3, rfl, pw_195, pw_196, pw_197, pU_3, pD_3, by decide +kernel, by decide +kernel⟩
theorem pw_198 : (Cond.classLink "MembraneRounds" 77 "java/lang/IllegalStateException" : Cond) ∈ lw_gd := lw_gd_in (List.mem_of_getElem? (i := 441) (by decide +kernel)) (by decide +kernel)
theorem pw_199 : (Cond.instantiable "java/lang/IllegalStateException" 6 : Cond) ∈ lw_gd := lw_gd_in (List.mem_of_getElem? (i := 442) (by decide +kernel)) (by decide +kernel)
theorem pw_200 : (Cond.initialized "java/lang/IllegalStateException" : Cond) ∈ lw_gd := lw_gd_in (List.mem_of_getElem? (i := 57) (by decide +kernel)) (by decide +kernel)
theorem pcE_6 : pCQ (0, 77, 11) := ⟨"java/lang/IllegalStateException", pT_11, 0, pF_11, rfl, pw_198, pw_199, pw_200, pU_11, pD_11, by decide +kernel, by decide +kernel⟩
theorem pw_201 : (Cond.classLink "MembraneRounds" 198 "java/lang/IndexOutOfBoundsException" : Cond) ∈ lw_gd := lw_gd_in (List.mem_of_getElem? (i := 421) (by decide +kernel)) (by decide +kernel)
theorem pw_202 : (Cond.instantiable "java/lang/IndexOutOfBoundsException" 6 : Cond) ∈ lw_gd := lw_gd_in (List.mem_of_getElem? (i := 422) (by decide +kernel)) (by decide +kernel)
theorem pw_203 : (Cond.initialized "java/lang/IndexOutOfBoundsException" : Cond) ∈ lw_gd := lw_gd_in (List.mem_of_getElem? (i := 56) (by decide +kernel)) (by decide +kernel)
theorem pcE_7 : pCQ (0, 198, 10) := ⟨"java/lang/IndexOutOfBoundsException", pT_10, 0, pF_10, rfl, pw_201, pw_202, pw_203, pU_10, pD_10, by decide +kernel, by decide +kernel⟩
theorem pw_204 : (Cond.classLink "MembraneRounds" 203 "java/lang/IllegalArgumentException" : Cond) ∈ lw_gd := lw_gd_in (List.mem_of_getElem? (i := 340) (by decide +kernel)) (by decide +kernel)
theorem pw_205 : (Cond.instantiable "java/lang/IllegalArgumentException" 6 : Cond) ∈ lw_gd := lw_gd_in (List.mem_of_getElem? (i := 341) (by decide +kernel)) (by decide +kernel)
theorem pw_206 : (Cond.initialized "java/lang/IllegalArgumentException" : Cond) ∈ lw_gd := lw_gd_in (List.mem_of_getElem? (i := 55) (by decide +kernel)) (by decide +kernel)
theorem pcE_8 : pCQ (0, 203, 9) := ⟨"java/lang/IllegalArgumentException", pT_9, 0, pF_9, rfl, pw_204, pw_205, pw_206, pU_9, pD_9, by decide +kernel, by decide +kernel⟩
theorem pcE_9 : pCQ (4, 9, 3) := ⟨"MembraneRounds$Configuration", pT_3, 3, pF_3, rfl, pw_177, pw_196, pw_197, pU_3, pD_3, by decide +kernel, by decide +kernel⟩
theorem pw_207 : (Cond.instantiable "MembraneRounds$Rule" 11 : Cond) ∈ lw_gd := lw_gd_in (List.mem_of_getElem? (i := 78) (by decide +kernel)) (by decide +kernel)
theorem pw_208 : (Cond.initialized "MembraneRounds$Rule" : Cond) ∈ lw_gd := lw_gd_in (List.mem_of_getElem? (i := 45) (by decide +kernel)) (by decide +kernel)
theorem pcE_10 : pCQ (6, 9, 5) := ⟨"MembraneRounds$Rule", pT_5, 11, pF_5, rfl, pw_178, pw_207, pw_208, pU_5, pD_5, by decide +kernel, by decide +kernel⟩
theorem pw_209 : (Cond.classLink "MembraneRoundsLaw" 8 "MembraneRounds" : Cond) ∈ lw_gd := lw_gd_in (List.mem_of_getElem? (i := 62) (by decide +kernel)) (by decide +kernel)
theorem pw_210 : (Cond.instantiable "MembraneRounds" 8 : Cond) ∈ lw_gd := lw_gd_in (List.mem_of_getElem? (i := 63) (by decide +kernel)) (by decide +kernel)
theorem pw_211 : (Cond.initialized "MembraneRounds" : Cond) ∈ lw_gd := lw_gd_in (List.mem_of_getElem? (i := 43) (by decide +kernel)) (by decide +kernel)
theorem pcE_11 : pCQ (14, 8, 0) := ⟨"MembraneRounds", pT_0, 8, pF_0, rfl, pw_209, pw_210, pw_211, pU_0, pD_0, by decide +kernel, by decide +kernel⟩
theorem pw_212 : (Cond.classLink "MembraneRoundsLaw" 69 "MembraneRoundsModel" : Cond) ∈ lw_gd := lw_gd_in (List.mem_of_getElem? (i := 728) (by decide +kernel)) (by decide +kernel)
theorem pw_213 : (Cond.instantiable "MembraneRoundsModel" 26 : Cond) ∈ lw_gd := lw_gd_in (List.mem_of_getElem? (i := 729) (by decide +kernel)) (by decide +kernel)
theorem pw_214 : (Cond.initialized "MembraneRoundsModel" : Cond) ∈ lw_gd := lw_gd_in (List.mem_of_getElem? (i := 51) (by decide +kernel)) (by decide +kernel)
theorem pcE_12 : pCQ (14, 69, 1) := ⟨"MembraneRoundsModel", pT_1, 26, pF_1, rfl, pw_212, pw_213, pw_214, pU_1, pD_1, by decide +kernel, by decide +kernel⟩
theorem pcCR_0 : ∀ z ∈ ([(0, 9, 6), (0, 16, 2), (0, 23, 8), (0, 30, 4), (0, 37, 7), (0, 48, 3), (0, 77, 11), (0, 198, 10), (0, 203, 9), (4, 9, 3), (6, 9, 5), (14, 8, 0), (14, 69, 1)] : List (Nat × Nat × Nat)), pCQ z := List.forall_mem_cons.mpr ⟨pcE_0, List.forall_mem_cons.mpr ⟨pcE_1, List.forall_mem_cons.mpr ⟨pcE_2, List.forall_mem_cons.mpr ⟨pcE_3, List.forall_mem_cons.mpr ⟨pcE_4, List.forall_mem_cons.mpr ⟨pcE_5, List.forall_mem_cons.mpr ⟨pcE_6, List.forall_mem_cons.mpr ⟨pcE_7, List.forall_mem_cons.mpr ⟨pcE_8, List.forall_mem_cons.mpr ⟨pcE_9, List.forall_mem_cons.mpr ⟨pcE_10, List.forall_mem_cons.mpr ⟨pcE_11, List.forall_mem_cons.mpr ⟨pcE_12, fun _ h => absurd h List.not_mem_nil⟩⟩⟩⟩⟩⟩⟩⟩⟩⟩⟩⟩⟩
theorem pcC_all : ∀ z ∈ pcCL, pCQ z := by
  show ∀ z ∈ ([(0, 9, 6), (0, 16, 2), (0, 23, 8), (0, 30, 4), (0, 37, 7), (0, 48, 3), (0, 77, 11), (0, 198, 10), (0, 203, 9), (4, 9, 3), (6, 9, 5), (14, 8, 0), (14, 69, 1)] : List (Nat × Nat × Nat)), pCQ z
  exact pcCR_0
theorem pg_new : gNew pP pN pCL := ⟨⟨pw_173, pw_174, pw_175⟩, fun o ix tt C h hty => paA_all (o, ix, tt) (paA_in h) C hty, fun o ix c h => pcC_all (o, ix, c) (pcC_in h)⟩
theorem pg_ci : ∀ o ix v, pP.con o ix = some (.int v) → Cond.constant (pN.cn o) ix v ∈ lw_gd := fun o ix v h => by
  obtain ⟨h1, h2, -⟩ := eB2_some (show eB2 o ix _ = some _ from h)
  have key : ∀ o, o < 16 → ∀ i, i < 512 → (match pCon o i with | some (.int _) => false | _ => true) = true := by decide +kernel
  have h3 := key o h1 ix h2
  rw [show pCon o ix = some (.int v) from h] at h3
  cases h3
def plCL : List (Nat × Nat × Value) := [(0, 101, (.long 3378524555624460)), (3, 38, (.long 3378524555624460)), (3, 44, (.long 281262169255736295)), (13, 11, (.long 4095)), (13, 13, (.long 576601524159907840))]
theorem plC_mem : ∀ o, o < 16 → ∀ i, i < 512 → (match pCon o i with | none => true | some v => decide ((o, i, v) ∈ plCL)) = true := by decide +kernel
theorem plC_in {o i : Nat} {v : Value} (h : pCon o i = some v) : (o, i, v) ∈ plCL := by
  obtain ⟨h1, h2, -⟩ := eB2_some (show eB2 o i _ = some _ from h)
  have h3 := plC_mem o h1 i h2
  rw [h] at h3
  simpa using h3
def pLQ (z : Nat × Nat × Value) : Prop := ∀ v, z.2.2 = .long v → Cond.constantLong (pCn z.1) z.2.1 v ∈ lw_gd
theorem pw_215 : (Cond.constantLong "MembraneRounds" 101 3378524555624460 : Cond) ∈ lw_gd := lw_gd_in (List.mem_of_getElem? (i := 472) (by decide +kernel)) (by decide +kernel)
theorem plE_0 : pLQ (0, 101, (.long 3378524555624460)) := fun v h => by
  injection h with h2
  subst h2
  exact pw_215
theorem pw_216 : (Cond.constantLong "MembraneRounds$Configuration" 38 3378524555624460 : Cond) ∈ lw_gd := lw_gd_in (List.mem_of_getElem? (i := 614) (by decide +kernel)) (by decide +kernel)
theorem plE_1 : pLQ (3, 38, (.long 3378524555624460)) := fun v h => by
  injection h with h2
  subst h2
  exact pw_216
theorem pw_217 : (Cond.constantLong "MembraneRounds$Configuration" 44 281262169255736295 : Cond) ∈ lw_gd := lw_gd_in (List.mem_of_getElem? (i := 616) (by decide +kernel)) (by decide +kernel)
theorem plE_2 : pLQ (3, 44, (.long 281262169255736295)) := fun v h => by
  injection h with h2
  subst h2
  exact pw_217
theorem pw_218 : (Cond.constantLong "MembraneRounds$Heap" 11 4095 : Cond) ∈ lw_gd := lw_gd_in (List.mem_of_getElem? (i := 328) (by decide +kernel)) (by decide +kernel)
theorem plE_3 : pLQ (13, 11, (.long 4095)) := fun v h => by
  injection h with h2
  subst h2
  exact pw_218
theorem pw_219 : (Cond.constantLong "MembraneRounds$Heap" 13 576601524159907840 : Cond) ∈ lw_gd := lw_gd_in (List.mem_of_getElem? (i := 476) (by decide +kernel)) (by decide +kernel)
theorem plE_4 : pLQ (13, 13, (.long 576601524159907840)) := fun v h => by
  injection h with h2
  subst h2
  exact pw_219
theorem plCR_0 : ∀ z ∈ ([(0, 101, (.long 3378524555624460)), (3, 38, (.long 3378524555624460)), (3, 44, (.long 281262169255736295)), (13, 11, (.long 4095)), (13, 13, (.long 576601524159907840))] : List (Nat × Nat × Value)), pLQ z := List.forall_mem_cons.mpr ⟨plE_0, List.forall_mem_cons.mpr ⟨plE_1, List.forall_mem_cons.mpr ⟨plE_2, List.forall_mem_cons.mpr ⟨plE_3, List.forall_mem_cons.mpr ⟨plE_4, fun _ h => absurd h List.not_mem_nil⟩⟩⟩⟩⟩
theorem plC_all : ∀ z ∈ plCL, pLQ z := by
  show ∀ z ∈ ([(0, 101, (.long 3378524555624460)), (3, 38, (.long 3378524555624460)), (3, 44, (.long 281262169255736295)), (13, 11, (.long 4095)), (13, 13, (.long 576601524159907840))] : List (Nat × Nat × Value)), pLQ z
  exact plCR_0
theorem pg_cl2 : ∀ o ix v, pP.con o ix = some (.long v) → Cond.constantLong (pN.cn o) ix v ∈ lw_gd := fun o ix v h => plC_all (o, ix, .long v) (plC_in h) v rfl
