section
def lw_okq (q : MethodName × Nat) : Prop := (q.1.cls ≠ "java/lang/invoke/MethodHandle" ∧ q.1.cls ≠ "java/lang/invoke/VarHandle") ∧ Cond.instantiable q.1.cls q.2 ∈ tables_1 ∧ Cond.privateMethod q.1 ∈ tables_1 ∧ Cond.instanceMethod q.1 ∈ tables_1
theorem lw_p0 : lw_okq (⟨"MembraneRounds$Scribe", "writeMembrane", "(LMembraneRounds$Configuration;II)V"⟩, 2) := ⟨⟨by decide +kernel, by decide +kernel⟩, List.mem_of_getElem? (i := 207) (by decide +kernel), List.mem_of_getElem? (i := 276) (by decide +kernel), List.mem_of_getElem? (i := 277) (by decide +kernel)⟩
theorem lw_p1 : lw_okq (⟨"MembraneRounds$Scribe", "add", "(C)V"⟩, 2) := ⟨⟨by decide +kernel, by decide +kernel⟩, List.mem_of_getElem? (i := 207) (by decide +kernel), List.mem_of_getElem? (i := 280) (by decide +kernel), List.mem_of_getElem? (i := 281) (by decide +kernel)⟩
theorem lw_p2 : lw_okq (⟨"java/lang/Throwable", "fillInStackTrace", "(I)Ljava/lang/Throwable;"⟩, 6) := ⟨⟨by decide +kernel, by decide +kernel⟩, List.mem_of_getElem? (i := 337) (by decide +kernel), List.mem_of_getElem? (i := 335) (by decide +kernel), List.mem_of_getElem? (i := 336) (by decide +kernel)⟩
theorem lw_p3 : lw_okq (⟨"MembraneRounds", "checkMembrane", "(I)V"⟩, 8) := ⟨⟨by decide +kernel, by decide +kernel⟩, List.mem_of_getElem? (i := 21) (by decide +kernel), List.mem_of_getElem? (i := 376) (by decide +kernel), List.mem_of_getElem? (i := 377) (by decide +kernel)⟩
theorem lw_p4 : lw_okq (⟨"MembraneRounds", "checkRule", "(I)V"⟩, 8) := ⟨⟨by decide +kernel, by decide +kernel⟩, List.mem_of_getElem? (i := 21) (by decide +kernel), List.mem_of_getElem? (i := 467) (by decide +kernel), List.mem_of_getElem? (i := 468) (by decide +kernel)⟩
theorem lw_p5 : lw_okq (⟨"MembraneRounds", "checkEndsNothing", "(I)V"⟩, 8) := ⟨⟨by decide +kernel, by decide +kernel⟩, List.mem_of_getElem? (i := 21) (by decide +kernel), List.mem_of_getElem? (i := 479) (by decide +kernel), List.mem_of_getElem? (i := 480) (by decide +kernel)⟩
theorem lw_p6 : lw_okq (⟨"MembraneRounds$Chooser", "gatherOpen", "(LMembraneRounds$RuleBook;LMembraneRounds$Configuration;I)V"⟩, 7) := ⟨⟨by decide +kernel, by decide +kernel⟩, List.mem_of_getElem? (i := 113) (by decide +kernel), List.mem_of_getElem? (i := 506) (by decide +kernel), List.mem_of_getElem? (i := 507) (by decide +kernel)⟩
theorem lw_p7 : lw_okq (⟨"MembraneRounds$Worker", "takeAndMake", "(LMembraneRounds$Configuration;ILMembraneRounds$Rule;I)V"⟩, 1) := ⟨⟨by decide +kernel, by decide +kernel⟩, List.mem_of_getElem? (i := 143) (by decide +kernel), List.mem_of_getElem? (i := 549) (by decide +kernel), List.mem_of_getElem? (i := 550) (by decide +kernel)⟩
theorem lw_p8 : lw_okq (⟨"MembraneRounds$Worker", "splitAll", "(LMembraneRounds$Configuration;)Z"⟩, 1) := ⟨⟨by decide +kernel, by decide +kernel⟩, List.mem_of_getElem? (i := 143) (by decide +kernel), List.mem_of_getElem? (i := 555) (by decide +kernel), List.mem_of_getElem? (i := 556) (by decide +kernel)⟩
theorem lw_p9 : lw_okq (⟨"MembraneRounds$Worker", "meltAll", "(LMembraneRounds$Configuration;)V"⟩, 1) := ⟨⟨by decide +kernel, by decide +kernel⟩, List.mem_of_getElem? (i := 143) (by decide +kernel), List.mem_of_getElem? (i := 561) (by decide +kernel), List.mem_of_getElem? (i := 562) (by decide +kernel)⟩
theorem lw_p10 : lw_okq (⟨"MembraneRounds$Chooser", "list", "(LMembraneRounds$RuleBook;LMembraneRounds$Configuration;I)V"⟩, 7) := ⟨⟨by decide +kernel, by decide +kernel⟩, List.mem_of_getElem? (i := 113) (by decide +kernel), List.mem_of_getElem? (i := 596) (by decide +kernel), List.mem_of_getElem? (i := 597) (by decide +kernel)⟩
theorem lw_p11 : lw_okq (⟨"MembraneRounds$Chooser", "search", "(IJIZ)V"⟩, 7) := ⟨⟨by decide +kernel, by decide +kernel⟩, List.mem_of_getElem? (i := 113) (by decide +kernel), List.mem_of_getElem? (i := 600) (by decide +kernel), List.mem_of_getElem? (i := 601) (by decide +kernel)⟩
theorem lw_p12 : lw_okq (⟨"MembraneRounds$Chooser", "canBecomeMaximal", "(IJZ)Z"⟩, 7) := ⟨⟨by decide +kernel, by decide +kernel⟩, List.mem_of_getElem? (i := 113) (by decide +kernel), List.mem_of_getElem? (i := 604) (by decide +kernel), List.mem_of_getElem? (i := 605) (by decide +kernel)⟩
theorem lw_p13 : lw_okq (⟨"MembraneRounds$Judge", "keep", "(LMembraneRounds$Configuration;)Z"⟩, 5) := ⟨⟨by decide +kernel, by decide +kernel⟩, List.mem_of_getElem? (i := 154) (by decide +kernel), List.mem_of_getElem? (i := 660) (by decide +kernel), List.mem_of_getElem? (i := 661) (by decide +kernel)⟩
theorem lw_p14 : lw_okq (⟨"MembraneRounds", "checkOutcome", "(I)V"⟩, 8) := ⟨⟨by decide +kernel, by decide +kernel⟩, List.mem_of_getElem? (i := 21) (by decide +kernel), List.mem_of_getElem? (i := 675) (by decide +kernel), List.mem_of_getElem? (i := 676) (by decide +kernel)⟩
theorem lw_p15 : lw_okq (⟨"MembraneRoundsModel", "empty", "(I)V"⟩, 26) := ⟨⟨by decide +kernel, by decide +kernel⟩, List.mem_of_getElem? (i := 687) (by decide +kernel), List.mem_of_getElem? (i := 693) (by decide +kernel), List.mem_of_getElem? (i := 694) (by decide +kernel)⟩
def lw_privs_1 : List (MethodName × Nat) := [(⟨"MembraneRounds$Scribe", "writeMembrane", "(LMembraneRounds$Configuration;II)V"⟩, 2), (⟨"MembraneRounds$Scribe", "add", "(C)V"⟩, 2), (⟨"java/lang/Throwable", "fillInStackTrace", "(I)Ljava/lang/Throwable;"⟩, 6), (⟨"MembraneRounds", "checkMembrane", "(I)V"⟩, 8), (⟨"MembraneRounds", "checkRule", "(I)V"⟩, 8), (⟨"MembraneRounds", "checkEndsNothing", "(I)V"⟩, 8), (⟨"MembraneRounds$Chooser", "gatherOpen", "(LMembraneRounds$RuleBook;LMembraneRounds$Configuration;I)V"⟩, 7), (⟨"MembraneRounds$Worker", "takeAndMake", "(LMembraneRounds$Configuration;ILMembraneRounds$Rule;I)V"⟩, 1), (⟨"MembraneRounds$Worker", "splitAll", "(LMembraneRounds$Configuration;)Z"⟩, 1), (⟨"MembraneRounds$Worker", "meltAll", "(LMembraneRounds$Configuration;)V"⟩, 1), (⟨"MembraneRounds$Chooser", "list", "(LMembraneRounds$RuleBook;LMembraneRounds$Configuration;I)V"⟩, 7), (⟨"MembraneRounds$Chooser", "search", "(IJIZ)V"⟩, 7), (⟨"MembraneRounds$Chooser", "canBecomeMaximal", "(IJZ)Z"⟩, 7), (⟨"MembraneRounds$Judge", "keep", "(LMembraneRounds$Configuration;)Z"⟩, 5), (⟨"MembraneRounds", "checkOutcome", "(I)V"⟩, 8), (⟨"MembraneRoundsModel", "empty", "(I)V"⟩, 26)]
theorem lw_r1 : ∀ q ∈ lw_privs_1, lw_okq q := List.forall_mem_cons.mpr ⟨lw_p0, List.forall_mem_cons.mpr ⟨lw_p1, List.forall_mem_cons.mpr ⟨lw_p2, List.forall_mem_cons.mpr ⟨lw_p3, List.forall_mem_cons.mpr ⟨lw_p4, List.forall_mem_cons.mpr ⟨lw_p5, List.forall_mem_cons.mpr ⟨lw_p6, List.forall_mem_cons.mpr ⟨lw_p7, List.forall_mem_cons.mpr ⟨lw_p8, List.forall_mem_cons.mpr ⟨lw_p9, List.forall_mem_cons.mpr ⟨lw_p10, List.forall_mem_cons.mpr ⟨lw_p11, List.forall_mem_cons.mpr ⟨lw_p12, List.forall_mem_cons.mpr ⟨lw_p13, List.forall_mem_cons.mpr ⟨lw_p14, List.forall_mem_cons.mpr ⟨lw_p15, fun _ h => absurd h List.not_mem_nil⟩⟩⟩⟩⟩⟩⟩⟩⟩⟩⟩⟩⟩⟩⟩⟩
theorem lw_p16 : lw_okq (⟨"MembraneRoundsModel", "set", "(IIII)V"⟩, 26) := ⟨⟨by decide +kernel, by decide +kernel⟩, List.mem_of_getElem? (i := 687) (by decide +kernel), List.mem_of_getElem? (i := 697) (by decide +kernel), List.mem_of_getElem? (i := 698) (by decide +kernel)⟩
theorem lw_p17 : lw_okq (⟨"MembraneRoundsModel", "free", "(I)I"⟩, 26) := ⟨⟨by decide +kernel, by decide +kernel⟩, List.mem_of_getElem? (i := 687) (by decide +kernel), List.mem_of_getElem? (i := 792) (by decide +kernel), List.mem_of_getElem? (i := 793) (by decide +kernel)⟩
theorem lw_p18 : lw_okq (⟨"MembraneRoundsModel", "has", "(II)Z"⟩, 26) := ⟨⟨by decide +kernel, by decide +kernel⟩, List.mem_of_getElem? (i := 687) (by decide +kernel), List.mem_of_getElem? (i := 796) (by decide +kernel), List.mem_of_getElem? (i := 797) (by decide +kernel)⟩
theorem lw_p19 : lw_okq (⟨"MembraneRoundsModel", "cell", "(III)I"⟩, 26) := ⟨⟨by decide +kernel, by decide +kernel⟩, List.mem_of_getElem? (i := 687) (by decide +kernel), List.mem_of_getElem? (i := 800) (by decide +kernel), List.mem_of_getElem? (i := 801) (by decide +kernel)⟩
theorem lw_p20 : lw_okq (⟨"MembraneRoundsModel", "give", "(IIII)V"⟩, 26) := ⟨⟨by decide +kernel, by decide +kernel⟩, List.mem_of_getElem? (i := 687) (by decide +kernel), List.mem_of_getElem? (i := 814) (by decide +kernel), List.mem_of_getElem? (i := 815) (by decide +kernel)⟩
theorem lw_p21 : lw_okq (⟨"MembraneRoundsModel", "noRule", "(I)Z"⟩, 26) := ⟨⟨by decide +kernel, by decide +kernel⟩, List.mem_of_getElem? (i := 687) (by decide +kernel), List.mem_of_getElem? (i := 826) (by decide +kernel), List.mem_of_getElem? (i := 827) (by decide +kernel)⟩
theorem lw_p22 : lw_okq (⟨"MembraneRoundsModel", "greedy", "(II)I"⟩, 26) := ⟨⟨by decide +kernel, by decide +kernel⟩, List.mem_of_getElem? (i := 687) (by decide +kernel), List.mem_of_getElem? (i := 842) (by decide +kernel), List.mem_of_getElem? (i := 843) (by decide +kernel)⟩
theorem lw_p23 : lw_okq (⟨"MembraneRoundsModel", "begin", "(II)V"⟩, 26) := ⟨⟨by decide +kernel, by decide +kernel⟩, List.mem_of_getElem? (i := 687) (by decide +kernel), List.mem_of_getElem? (i := 846) (by decide +kernel), List.mem_of_getElem? (i := 847) (by decide +kernel)⟩
theorem lw_p24 : lw_okq (⟨"MembraneRoundsModel", "allowed", "(III)I"⟩, 26) := ⟨⟨by decide +kernel, by decide +kernel⟩, List.mem_of_getElem? (i := 687) (by decide +kernel), List.mem_of_getElem? (i := 850) (by decide +kernel), List.mem_of_getElem? (i := 851) (by decide +kernel)⟩
theorem lw_p25 : lw_okq (⟨"MembraneRoundsModel", "childOf", "(III)I"⟩, 26) := ⟨⟨by decide +kernel, by decide +kernel⟩, List.mem_of_getElem? (i := 687) (by decide +kernel), List.mem_of_getElem? (i := 854) (by decide +kernel), List.mem_of_getElem? (i := 855) (by decide +kernel)⟩
theorem lw_p26 : lw_okq (⟨"MembraneRoundsModel", "children", "(II)I"⟩, 26) := ⟨⟨by decide +kernel, by decide +kernel⟩, List.mem_of_getElem? (i := 687) (by decide +kernel), List.mem_of_getElem? (i := 858) (by decide +kernel), List.mem_of_getElem? (i := 859) (by decide +kernel)⟩
theorem lw_p27 : lw_okq (⟨"MembraneRoundsModel", "times", "(I)I"⟩, 26) := ⟨⟨by decide +kernel, by decide +kernel⟩, List.mem_of_getElem? (i := 687) (by decide +kernel), List.mem_of_getElem? (i := 862) (by decide +kernel), List.mem_of_getElem? (i := 863) (by decide +kernel)⟩
theorem lw_p28 : lw_okq (⟨"MembraneRoundsModel", "take", "(II)V"⟩, 26) := ⟨⟨by decide +kernel, by decide +kernel⟩, List.mem_of_getElem? (i := 687) (by decide +kernel), List.mem_of_getElem? (i := 866) (by decide +kernel), List.mem_of_getElem? (i := 867) (by decide +kernel)⟩
theorem lw_p29 : lw_okq (⟨"MembraneRoundsModel", "pack", "()I"⟩, 26) := ⟨⟨by decide +kernel, by decide +kernel⟩, List.mem_of_getElem? (i := 687) (by decide +kernel), List.mem_of_getElem? (i := 870) (by decide +kernel), List.mem_of_getElem? (i := 871) (by decide +kernel)⟩
theorem lw_p30 : lw_okq (⟨"MembraneRoundsModel", "step", "(I)Z"⟩, 26) := ⟨⟨by decide +kernel, by decide +kernel⟩, List.mem_of_getElem? (i := 687) (by decide +kernel), List.mem_of_getElem? (i := 880) (by decide +kernel), List.mem_of_getElem? (i := 881) (by decide +kernel)⟩
theorem lw_p31 : lw_okq (⟨"MembraneRoundsModel", "copy", "(II)V"⟩, 26) := ⟨⟨by decide +kernel, by decide +kernel⟩, List.mem_of_getElem? (i := 687) (by decide +kernel), List.mem_of_getElem? (i := 884) (by decide +kernel), List.mem_of_getElem? (i := 885) (by decide +kernel)⟩
def lw_privs_2 : List (MethodName × Nat) := [(⟨"MembraneRoundsModel", "set", "(IIII)V"⟩, 26), (⟨"MembraneRoundsModel", "free", "(I)I"⟩, 26), (⟨"MembraneRoundsModel", "has", "(II)Z"⟩, 26), (⟨"MembraneRoundsModel", "cell", "(III)I"⟩, 26), (⟨"MembraneRoundsModel", "give", "(IIII)V"⟩, 26), (⟨"MembraneRoundsModel", "noRule", "(I)Z"⟩, 26), (⟨"MembraneRoundsModel", "greedy", "(II)I"⟩, 26), (⟨"MembraneRoundsModel", "begin", "(II)V"⟩, 26), (⟨"MembraneRoundsModel", "allowed", "(III)I"⟩, 26), (⟨"MembraneRoundsModel", "childOf", "(III)I"⟩, 26), (⟨"MembraneRoundsModel", "children", "(II)I"⟩, 26), (⟨"MembraneRoundsModel", "times", "(I)I"⟩, 26), (⟨"MembraneRoundsModel", "take", "(II)V"⟩, 26), (⟨"MembraneRoundsModel", "pack", "()I"⟩, 26), (⟨"MembraneRoundsModel", "step", "(I)Z"⟩, 26), (⟨"MembraneRoundsModel", "copy", "(II)V"⟩, 26)]
theorem lw_r2 : ∀ q ∈ lw_privs_2, lw_okq q := List.forall_mem_cons.mpr ⟨lw_p16, List.forall_mem_cons.mpr ⟨lw_p17, List.forall_mem_cons.mpr ⟨lw_p18, List.forall_mem_cons.mpr ⟨lw_p19, List.forall_mem_cons.mpr ⟨lw_p20, List.forall_mem_cons.mpr ⟨lw_p21, List.forall_mem_cons.mpr ⟨lw_p22, List.forall_mem_cons.mpr ⟨lw_p23, List.forall_mem_cons.mpr ⟨lw_p24, List.forall_mem_cons.mpr ⟨lw_p25, List.forall_mem_cons.mpr ⟨lw_p26, List.forall_mem_cons.mpr ⟨lw_p27, List.forall_mem_cons.mpr ⟨lw_p28, List.forall_mem_cons.mpr ⟨lw_p29, List.forall_mem_cons.mpr ⟨lw_p30, List.forall_mem_cons.mpr ⟨lw_p31, fun _ h => absurd h List.not_mem_nil⟩⟩⟩⟩⟩⟩⟩⟩⟩⟩⟩⟩⟩⟩⟩⟩
theorem lw_p32 : lw_okq (⟨"MembraneRoundsModel", "melt", "(I)V"⟩, 26) := ⟨⟨by decide +kernel, by decide +kernel⟩, List.mem_of_getElem? (i := 687) (by decide +kernel), List.mem_of_getElem? (i := 888) (by decide +kernel), List.mem_of_getElem? (i := 889) (by decide +kernel)⟩
theorem lw_p33 : lw_okq (⟨"MembraneRoundsModel", "write", "(III)I"⟩, 26) := ⟨⟨by decide +kernel, by decide +kernel⟩, List.mem_of_getElem? (i := 687) (by decide +kernel), List.mem_of_getElem? (i := 900) (by decide +kernel), List.mem_of_getElem? (i := 901) (by decide +kernel)⟩
theorem lw_p34 : lw_okq (⟨"MembraneRoundsModel", "stuck", "(III)Z"⟩, 26) := ⟨⟨by decide +kernel, by decide +kernel⟩, List.mem_of_getElem? (i := 687) (by decide +kernel), List.mem_of_getElem? (i := 904) (by decide +kernel), List.mem_of_getElem? (i := 905) (by decide +kernel)⟩
theorem lw_p35 : lw_okq (⟨"MembraneRoundsModel", "greed", "(IIII)I"⟩, 26) := ⟨⟨by decide +kernel, by decide +kernel⟩, List.mem_of_getElem? (i := 687) (by decide +kernel), List.mem_of_getElem? (i := 908) (by decide +kernel), List.mem_of_getElem? (i := 909) (by decide +kernel)⟩
theorem lw_p36 : lw_okq (⟨"MembraneRoundsModel", "spread", "(I)Z"⟩, 26) := ⟨⟨by decide +kernel, by decide +kernel⟩, List.mem_of_getElem? (i := 687) (by decide +kernel), List.mem_of_getElem? (i := 928) (by decide +kernel), List.mem_of_getElem? (i := 929) (by decide +kernel)⟩
theorem lw_p37 : lw_okq (⟨"MembraneRoundsModel", "add", "()Z"⟩, 26) := ⟨⟨by decide +kernel, by decide +kernel⟩, List.mem_of_getElem? (i := 687) (by decide +kernel), List.mem_of_getElem? (i := 932) (by decide +kernel), List.mem_of_getElem? (i := 933) (by decide +kernel)⟩
theorem lw_p38 : lw_okq (⟨"MembraneRoundsModel", "same", "(II)Z"⟩, 26) := ⟨⟨by decide +kernel, by decide +kernel⟩, List.mem_of_getElem? (i := 687) (by decide +kernel), List.mem_of_getElem? (i := 936) (by decide +kernel), List.mem_of_getElem? (i := 937) (by decide +kernel)⟩
theorem lw_p39 : lw_okq (⟨"MembraneRoundsModel", "appendInner", "(I)V"⟩, 26) := ⟨⟨by decide +kernel, by decide +kernel⟩, List.mem_of_getElem? (i := 687) (by decide +kernel), List.mem_of_getElem? (i := 952) (by decide +kernel), List.mem_of_getElem? (i := 953) (by decide +kernel)⟩
theorem lw_p40 : lw_okq (⟨"MembraneRoundsModel", "append", "(I)V"⟩, 26) := ⟨⟨by decide +kernel, by decide +kernel⟩, List.mem_of_getElem? (i := 687) (by decide +kernel), List.mem_of_getElem? (i := 956) (by decide +kernel), List.mem_of_getElem? (i := 957) (by decide +kernel)⟩
theorem lw_p41 : lw_okq (⟨"MembraneRoundsModel", "nextChild", "(II)I"⟩, 26) := ⟨⟨by decide +kernel, by decide +kernel⟩, List.mem_of_getElem? (i := 687) (by decide +kernel), List.mem_of_getElem? (i := 960) (by decide +kernel), List.mem_of_getElem? (i := 961) (by decide +kernel)⟩
def lw_privs_3 : List (MethodName × Nat) := [(⟨"MembraneRoundsModel", "melt", "(I)V"⟩, 26), (⟨"MembraneRoundsModel", "write", "(III)I"⟩, 26), (⟨"MembraneRoundsModel", "stuck", "(III)Z"⟩, 26), (⟨"MembraneRoundsModel", "greed", "(IIII)I"⟩, 26), (⟨"MembraneRoundsModel", "spread", "(I)Z"⟩, 26), (⟨"MembraneRoundsModel", "add", "()Z"⟩, 26), (⟨"MembraneRoundsModel", "same", "(II)Z"⟩, 26), (⟨"MembraneRoundsModel", "appendInner", "(I)V"⟩, 26), (⟨"MembraneRoundsModel", "append", "(I)V"⟩, 26), (⟨"MembraneRoundsModel", "nextChild", "(II)I"⟩, 26)]
theorem lw_r3 : ∀ q ∈ lw_privs_3, lw_okq q := List.forall_mem_cons.mpr ⟨lw_p32, List.forall_mem_cons.mpr ⟨lw_p33, List.forall_mem_cons.mpr ⟨lw_p34, List.forall_mem_cons.mpr ⟨lw_p35, List.forall_mem_cons.mpr ⟨lw_p36, List.forall_mem_cons.mpr ⟨lw_p37, List.forall_mem_cons.mpr ⟨lw_p38, List.forall_mem_cons.mpr ⟨lw_p39, List.forall_mem_cons.mpr ⟨lw_p40, List.forall_mem_cons.mpr ⟨lw_p41, fun _ h => absurd h List.not_mem_nil⟩⟩⟩⟩⟩⟩⟩⟩⟩⟩
def lw_privs : List (MethodName × Nat) := lw_privs_1 ++ (lw_privs_2 ++ (lw_privs_3))
def lw_tbl : List Cond := k2_sels lw_privs ++ tables_1
theorem lw_privs_ok : ∀ q ∈ lw_privs, lw_okq q := by
  show ∀ q ∈ lw_privs_1 ++ (lw_privs_2 ++ (lw_privs_3)), lw_okq q
  exact List.forall_mem_append.mpr ⟨lw_r1, List.forall_mem_append.mpr ⟨lw_r2, lw_r3⟩⟩
end
section
abbrev eA : Type := Nat × ((Nat → Int32) ⊕ ((Nat → Int64) ⊕ (Nat → Option Nat)))
abbrev eE : Type := (Nat × eA) ⊕ (Nat × List Value)
abbrev eH : Type := (Nat → Option eE) × Nat × Nat
abbrev eLo : Type := List (Option Value)
abbrev eS : Type := Nat × eLo × List Value × eH
abbrev eR : Type := Option Value ⊕ Nat
abbrev eT : Type := eS
abbrev eI : Type := Nat → Nat → Option (Instr × Nat)
abbrev eM : Type := Nat → Nat × Nat × Option FieldType × List (Nat × Nat × Nat × Nat)
abbrev eF : Type := Nat → Nat → Option (Nat × Nat × FieldType × Bool)
abbrev eC : Type := Nat → Nat → Option (Nat × Nat × Nat)
abbrev eK : Type := Nat → Nat → Option Nat
abbrev eV : Type := Nat → Nat → Option Value
abbrev eD : Type := Nat → List Value × Nat
abbrev eP : Type := eI × eM × eF × eC × eK × eK × eV × eD × (Nat → Option Nat) × (Nat → Bool) × (Nat → Nat → Option (Nat × Nat × Nat × Nat))
def eP.ins (P : eP) : eI := P.1
def eP.met (P : eP) : eM := P.2.1
def eP.fld (P : eP) : eF := P.2.2.1
def eP.mth (P : eP) : eC := P.2.2.2.1
def eP.cls (P : eP) : eK := P.2.2.2.2.1
def eP.arr (P : eP) : eK := P.2.2.2.2.2.1
def eP.con (P : eP) : eV := P.2.2.2.2.2.2.1
def eP.bla (P : eP) : eD := P.2.2.2.2.2.2.2.1
def eP.elt (P : eP) : Nat → Option Nat := P.2.2.2.2.2.2.2.2.1
def eP.ini (P : eP) : Nat → Bool := P.2.2.2.2.2.2.2.2.2.1
def eP.thr (P : eP) : Nat → Nat → Option (Nat × Nat × Nat × Nat) := P.2.2.2.2.2.2.2.2.2.2
def eOwn (P : eP) (k : Nat) : Nat := (P.met k).1
def eNL (P : eP) (k : Nat) : Nat := (P.met k).2.1
def eRt (P : eP) (k : Nat) : Option FieldType := (P.met k).2.2.1
def eHs (P : eP) (k : Nat) : List (Nat × Nat × Nat × Nat) := (P.met k).2.2.2
def eN (pc : Nat) (lo : eLo) (st : List Value) (h : eH) : Option eT := some (pc, lo, st, h)
def eI1 (st : List Value) (f : Int32 → List Value → Option eT) : Option eT := match st with
  | .int x :: r => f x r
  | _ => none
def eI2 (st : List Value) (f : Int32 → Int32 → List Value → Option eT) : Option eT := match st with
  | .int y :: .int x :: r => f x y r
  | _ => none
def eJ1 (st : List Value) (f : Int64 → List Value → Option eT) : Option eT := match st with
  | .long x :: r => f x r
  | _ => none
def eJ2 (st : List Value) (f : Int64 → Int64 → List Value → Option eT) : Option eT := match st with
  | .long y :: .long x :: r => f x y r
  | _ => none
def eJI (st : List Value) (f : Int64 → Int32 → List Value → Option eT) : Option eT := match st with
  | .int y :: .long x :: r => f x y r
  | _ => none
def eR1 (st : List Value) (f : Nat → List Value → Option eT) : Option eT := match st with
  | .ref a :: r => f a r
  | _ => none
def eQ1 (st : List Value) (f : Option Nat → List Value → Option eT) : Option eT := match st with
  | .ref a :: r => f (some a) r
  | .null :: r => f none r
  | _ => none
def eIA (st : List Value) (f : Nat → Int32 → List Value → Option eT) : Option eT := match st with
  | .int i :: .ref a :: r => f a i r
  | _ => none
def eGet (lo : eLo) (i : Nat) : Option Value := (lo[i]?).join
def eKill (lo : eLo) (i : Nat) : eLo := match i with
  | 0 => lo
  | j + 1 => match lo[j]? with
    | some (some w) => if w.category = 2 then lo.set j none else lo
    | _ => lo
def eSt1 (lo : eLo) (i : Nat) (v : Value) : eLo := (eKill lo i).set i (some v)
def eSt2 (lo : eLo) (i : Nat) (v : Value) : eLo := ((eKill lo i).set i (some v)).set (i + 1) none
def eTo (pc : Nat) (off : Int) (f : Nat → Option eT) : Option eT := match (pc : Int) + off with
  | .ofNat t => f t
  | .negSucc _ => none
def eBr (c : Bool) (pc : Nat) (off : Int) (lo : eLo) (r : List Value) (h : eH) : Option eT :=
  eTo pc off fun t => match c with
    | true => eN t lo r h
    | false => eN (pc + 3) lo r h
def eIf (cd : ClassFile.Cond) (x y : Int32) (pc : Nat) (off : Int) (lo : eLo) (r : List Value) (h : eH) : Option eT := match cd with
  | .eq => eBr (decide (x = y)) pc off lo r h
  | .ne => eBr (decide (¬ x = y)) pc off lo r h
  | .lt => eBr (decide (x < y)) pc off lo r h
  | .ge => eBr (decide (y ≤ x)) pc off lo r h
  | .gt => eBr (decide (y < x)) pc off lo r h
  | .le => eBr (decide (x ≤ y)) pc off lo r h
def eLoI (lo : eLo) (i : Nat) (f : Int32 → Option eT) : Option eT := match eGet lo i with
  | some (.int x) => f x
  | _ => none
def eLoJ (lo : eLo) (i : Nat) (f : Int64 → Option eT) : Option eT := match eGet lo i with
  | some (.long x) => f x
  | _ => none
def eLoA (lo : eLo) (i : Nat) (f : Option Nat → Option eT) : Option eT := match eGet lo i with
  | some (.ref a) => f (some a)
  | some .null => f none
  | _ => none
def eRf (r : Option Nat) : Value := match r with
  | none => .null
  | some a => .ref a
def eFit (ty : FieldType) (v : Value) : Bool := match ty, v with
  | .int, .int _ => true
  | .long, .long _ => true
  | .boolean, .int x => x == 0 || x == 1
  | .object _, .ref _ => true
  | .object _, .null => true
  | .array _, .ref _ => true
  | .array _, .null => true
  | _, _ => false
def eUp {α : Type} (f : Nat → α) (k : Nat) (x : α) : Nat → α := fun j => if j = k then x else f j
def eSetH (h : eH) (a : Nat) (e : eE) : eH := (eUp h.1 a (some e), h.2.1, h.2.2)
def eNew (h : eH) (e : eE) (n : Nat) : eH := (eUp h.1 h.2.1 (some e), h.2.1 + 1, h.2.2 + n)
def eIn (i : Int32) (n : Nat) (x : Option eT) : Option eT := if i < 0 ∨ n ≤ i.toNatClampNeg then none else x
def eLdI (X : Nat × (Nat → Int32)) (h : eH) (t : Nat) (st : List Value) (k : Int32 → List Value → Option eT) : Option eT := eIA st fun a i r => match a with
  | 0 => if t = 0 then eIn i X.1 (k (X.2 i.toNatClampNeg) r) else none
  | b + 1 => match h.1 (b + 1) with
    | some (.inl (t', n, .inl f)) => if t' = t then eIn i n (k (f i.toNatClampNeg) r) else none
    | _ => none
def eLdJ (h : eH) (st : List Value) (k : Int64 → List Value → Option eT) : Option eT := eIA st fun a i r => match h.1 a with
  | some (.inl (1, n, .inr (.inl f))) => if a = 0 then none else eIn i n (k (f i.toNatClampNeg) r)
  | _ => none
def eLdA (P : eP) (h : eH) (st : List Value) (k : Option Nat → List Value → Option eT) : Option eT := eIA st fun a i r => match h.1 a with
  | some (.inl (t, n, .inr (.inr f))) => if a = 0 ∨ P.elt t = none then none else eIn i n (k (f i.toNatClampNeg) r)
  | _ => none
def eStI (h : eH) (t : Nat) (g : Int32 → Int32) (st : List Value) (k : eH → List Value → Option eT) : Option eT := match st with
  | .int x :: .int i :: .ref a :: r => match h.1 a with
    | some (.inl (t', n, .inl f)) => if a = 0 ∨ ¬ t' = t then none else eIn i n (k (eSetH h a (.inl (t', n, .inl (eUp f i.toNatClampNeg (g x))))) r)
    | _ => none
  | _ => none
def eStJ (h : eH) (st : List Value) (k : eH → List Value → Option eT) : Option eT := match st with
  | .long x :: .int i :: .ref a :: r => match h.1 a with
    | some (.inl (1, n, .inr (.inl f))) => if a = 0 then none else eIn i n (k (eSetH h a (.inl (1, n, .inr (.inl (eUp f i.toNatClampNeg x))))) r)
    | _ => none
  | _ => none
def eStA (P : eP) (h : eH) (st : List Value) (k : eH → List Value → Option eT) : Option eT := match st with
  | .ref v :: .int i :: .ref a :: r => match h.1 a with
    | some (.inl (t, n, .inr (.inr f))) => match h.1 v with
      | some (.inr (c, _)) => if a = 0 ∨ v = 0 ∨ ¬ P.elt t = some c then none else eIn i n (k (eSetH h a (.inl (t, n, .inr (.inr (eUp f i.toNatClampNeg (some v)))))) r)
      | _ => none
    | _ => none
  | .null :: .int i :: .ref a :: r => match h.1 a with
    | some (.inl (t, n, .inr (.inr f))) => if a = 0 ∨ P.elt t = none then none else eIn i n (k (eSetH h a (.inl (t, n, .inr (.inr (eUp f i.toNatClampNeg none))))) r)
    | _ => none
  | _ => none
def eLen (X : Nat × (Nat → Int32)) (st : List Value) (k : Int32 → List Value → Option eT) : Option eT := eR1 st fun a r => match a with
  | 0 => k (Int32.ofNat X.1) r
  | _ + 1 => none
def eNwA (h : eH) (t : Nat) (w : Nat) (d : (Nat → Int32) ⊕ ((Nat → Int64) ⊕ (Nat → Option Nat))) (st : List Value) (k : eH → Nat → List Value → Option eT) : Option eT := eI1 st fun n r =>
  if n < 0 ∨ 536870912 < n.toNatClampNeg * w then none else k (eNew h (.inl (t, n.toNatClampNeg, d)) n.toNatClampNeg) h.2.1 r
def eGf (P : eP) (o : Nat) (ix : Nat) (h : eH) (st : List Value) (k : Value → List Value → Option eT) : Option eT := eR1 st fun a r => match P.fld o ix with
  | some (c, j, _) => match h.1 a with
    | some (.inr (c', fs)) => if a = 0 ∨ ¬ c' = c then none else match fs[j]? with
      | some v => k v r
      | none => none
    | _ => none
  | none => none
def ePf (P : eP) (m : Nat) (ix : Nat) (h : eH) (st : List Value) (k : eH → List Value → Option eT) : Option eT := match st with
  | v :: .ref a :: r => match P.fld (eOwn P m) ix with
    | some (c, j, ty, fin) => match h.1 a with
      | some (.inr (c', fs)) => if a = 0 ∨ ¬ c' = c ∨ eFit ty v = false ∨ fs.length ≤ j ∨ (fin && !(P.ini m && eOwn P m == c)) = true then none else k (eSetH h a (.inr (c', fs.set j v))) r
      | _ => none
    | none => none
  | _ => none
def eCpy {α : Type} (f g : Nat → α) (sp dp n : Nat) : Nat → α := fun k => if dp ≤ k ∧ k < dp + n then f (sp + (k - dp)) else g k
def eCopy (h : eH) (st : List Value) (k : eH → List Value → Option eT) : Option eT := match st with
  | .int n :: .int dp :: .ref b :: .int sp :: .ref a :: r =>
    if a = 0 ∨ b = 0 ∨ n < 0 ∨ dp < 0 ∨ sp < 0 then none else match h.1 a, h.1 b with
      | some (.inl (0, na, .inl f)), some (.inl (0, nb, .inl g)) => if na < sp.toNatClampNeg + n.toNatClampNeg ∨ nb < dp.toNatClampNeg + n.toNatClampNeg then none else
          k (eSetH h b (.inl (0, nb, .inl (eCpy f g sp.toNatClampNeg dp.toNatClampNeg n.toNatClampNeg)))) r
      | some (.inl (1, na, .inr (.inl f))), some (.inl (1, nb, .inr (.inl g))) => if na < sp.toNatClampNeg + n.toNatClampNeg ∨ nb < dp.toNatClampNeg + n.toNatClampNeg then none else
          k (eSetH h b (.inl (1, nb, .inr (.inl (eCpy f g sp.toNatClampNeg dp.toNatClampNeg n.toNatClampNeg))))) r
      | _, _ => none
  | _ => none
def eCat (st : List Value) : Nat := (st.map fun v => v.category).sum
def eOwnless (kd kind pc : Nat) (lo : eLo) (st : List Value) (h : eH) : Option eT := match kind with
  | 3 => if kd = 2 then eR1 st fun _ r => eN (pc + 3) lo r h else none
  | 5 => if kd = 0 then eI2 st fun x y r => eN (pc + 3) lo (.int (if y < x then y else x) :: r) h else none
  | 6 => if kd = 0 then eCopy h st fun h' r => eN (pc + 3) lo r h' else none
  | _ => none
def eArgs (P : eP) (kd kind k n : Nat) (st : List Value) (h : eH) : Option (List Value × List Value) :=
  if ¬ kd = kind then none else match kind with
  | 0 => some ((st.take n).reverse, st.drop n)
  | 1 => match (st.take n).reverse with
    | .ref a :: _ => match h.1 a with
      | some (.inr (c, _)) => if a = 0 ∨ ¬ c = eOwn P k then none else some ((st.take n).reverse, st.drop n)
      | _ => none
    | _ => none
  | 2 => match (st.take n).reverse with
    | .ref _ :: _ => some ((st.take n).reverse, st.drop n)
    | _ => none
  | _ => none
def eNar (ty : Option FieldType) (v : Value) : Option Value := match ty, v with
  | some .int, .int x => some (.int x)
  | some .boolean, .int x => some (.int (x &&& 1))
  | some .long, .long x => some (.long x)
  | some (.object _), .ref a => some (.ref a)
  | some (.object _), .null => some .null
  | some (.array _), .ref a => some (.ref a)
  | some (.array _), .null => some .null
  | _, _ => none
def eEnd (P : eP) (k : Nat) (h : eH) (v : Value) : Option (eR × eH) := match eNar (eRt P k) v with
  | some w => some (.inl (some w), h)
  | none => none
def eRet (P : eP) (k : Nat) (i : Instr) (st : List Value) (h : eH) : Option (eR × eH) := match i with
  | .ireturn => match st with
    | [.int x] => eEnd P k h (.int x)
    | _ => none
  | .lreturn => match st with
    | [.long x] => eEnd P k h (.long x)
    | _ => none
  | .areturn => match st with
    | [.ref a] => eEnd P k h (.ref a)
    | [.null] => eEnd P k h .null
    | _ => none
  | .return_ => match st with
    | [] => if eRt P k = none then some (.inl none, h) else none
    | _ => none
  | .athrow => if eHs P k = [] then match st with
      | .ref a :: _ => if a = 0 then none else some (.inr a, h)
      | _ => none
    else none
  | _ => none
def eIns (P : eP) (X : Nat × (Nat → Int32)) (k : Nat) (i : Instr) (pc : Nat) (lo : eLo) (st : List Value) (h : eH) : Option eT := match i with
  | .iconst n => eN (pc + 1) lo (.int (Int32.ofInt n) :: st) h
  | .bipush n => eN (pc + 2) lo (.int (Int8.ofInt n).toInt32 :: st) h
  | .sipush n => eN (pc + 3) lo (.int (Int16.ofInt n).toInt32 :: st) h
  | .lconst n => eN (pc + 1) lo (.long (Int64.ofNat (n : Nat)) :: st) h
  | .aconst_null => eN (pc + 1) lo (.null :: st) h
  | .ldc ix => match P.con (eOwn P k) ix with
    | some (.int v) => eN (pc + 2) lo (.int v :: st) h
    | _ => none
  | .ldc2_w ix => match P.con (eOwn P k) ix with
    | some (.long v) => eN (pc + 3) lo (.long v :: st) h
    | _ => none
  | .iload i => eLoI lo i fun x => eN (pc + 2) lo (.int x :: st) h
  | .iload_n i => eLoI lo i fun x => eN (pc + 1) lo (.int x :: st) h
  | .lload i => eLoJ lo i fun x => eN (pc + 2) lo (.long x :: st) h
  | .lload_n i => eLoJ lo i fun x => eN (pc + 1) lo (.long x :: st) h
  | .aload i => eLoA lo i fun x => eN (pc + 2) lo (eRf x :: st) h
  | .aload_n i => eLoA lo i fun x => eN (pc + 1) lo (eRf x :: st) h
  | .istore i => eI1 st fun x r => if i < lo.length then eN (pc + 2) (eSt1 lo i (.int x)) r h else none
  | .istore_n i => eI1 st fun x r => if (i : Nat) < lo.length then eN (pc + 1) (eSt1 lo i (.int x)) r h else none
  | .lstore i => eJ1 st fun x r => if i + 1 < lo.length then eN (pc + 2) (eSt2 lo i (.long x)) r h else none
  | .lstore_n i => eJ1 st fun x r => if (i : Nat) + 1 < lo.length then eN (pc + 1) (eSt2 lo i (.long x)) r h else none
  | .astore i => eQ1 st fun x r => if i < lo.length then eN (pc + 2) (eSt1 lo i (eRf x)) r h else none
  | .astore_n i => eQ1 st fun x r => if (i : Nat) < lo.length then eN (pc + 1) (eSt1 lo i (eRf x)) r h else none
  | .iinc i n => eLoI lo i fun x => if i < lo.length then eN (pc + 3) (eSt1 lo i (.int (x + Int32.ofInt n))) st h else none
  | .iadd => eI2 st fun x y r => eN (pc + 1) lo (.int (x + y) :: r) h
  | .isub => eI2 st fun x y r => eN (pc + 1) lo (.int (x - y) :: r) h
  | .imul => eI2 st fun x y r => eN (pc + 1) lo (.int (x * y) :: r) h
  | .idiv => eI2 st fun x y r => if y = 0 then none else eN (pc + 1) lo (.int (x / y) :: r) h
  | .iand => eI2 st fun x y r => eN (pc + 1) lo (.int (x &&& y) :: r) h
  | .ior => eI2 st fun x y r => eN (pc + 1) lo (.int (x ||| y) :: r) h
  | .ishl => eI2 st fun x y r => eN (pc + 1) lo (.int (x <<< (y &&& 31)) :: r) h
  | .ishr => eI2 st fun x y r => eN (pc + 1) lo (.int (x >>> (y &&& 31)) :: r) h
  | .ineg => eI1 st fun x r => eN (pc + 1) lo (.int (-x) :: r) h
  | .ladd => eJ2 st fun x y r => eN (pc + 1) lo (.long (x + y) :: r) h
  | .lsub => eJ2 st fun x y r => eN (pc + 1) lo (.long (x - y) :: r) h
  | .lmul => eJ2 st fun x y r => eN (pc + 1) lo (.long (x * y) :: r) h
  | .land => eJ2 st fun x y r => eN (pc + 1) lo (.long (x &&& y) :: r) h
  | .lor => eJ2 st fun x y r => eN (pc + 1) lo (.long (x ||| y) :: r) h
  | .lcmp => eJ2 st fun x y r => eN (pc + 1) lo (.int (lg_cmp x y) :: r) h
  | .lshl => eJI st fun x y r => eN (pc + 1) lo (.long (x <<< (y.toInt64 &&& 63)) :: r) h
  | .lushr => eJI st fun x y r => eN (pc + 1) lo (.long (x.toUInt64 >>> (y.toInt64.toUInt64 &&& Int64.toUInt64 63)).toInt64 :: r) h
  | .i2l => eI1 st fun x r => eN (pc + 1) lo (.long x.toInt64 :: r) h
  | .l2i => eJ1 st fun x r => eN (pc + 1) lo (.int x.toInt32 :: r) h
  | .i2c => eI1 st fun x r => eN (pc + 1) lo (.int (x.toUInt32 % 65536).toInt32 :: r) h
  | .dup => match st with
    | v :: r => if v.category = 1 then eN (pc + 1) lo (v :: v :: r) h else none
    | _ => none
  | .dup2 => match st with
    | .int y :: .ref x :: r => eN (pc + 1) lo (.int y :: .ref x :: .int y :: .ref x :: r) h
    | _ => none
  | .goto off => eTo pc off fun t => eN t lo st h
  | .ifCond cd off => eI1 st fun x r => eIf cd x 0 pc off lo r h
  | .if_icmp cd off => eI2 st fun x y r => eIf cd x y pc off lo r h
  | .ifnull off => eQ1 st fun x r => eBr x.isNone pc off lo r h
  | .tableswitch d lw hi offs => eI1 st fun x r => if x.toInt < lw ∨ hi < x.toInt then eTo pc d fun t => eN t lo r h else
      match offs[(x.toInt - lw).toNat]? with
      | some off => eTo pc off fun t => eN t lo r h
      | none => none
  | .getfield ix => eGf P (eOwn P k) ix h st fun v r => eN (pc + 3) lo (v :: r) h
  | .putfield ix => ePf P k ix h st fun h' r => eN (pc + 3) lo r h'
  | .iaload => eLdI X h 0 st fun x r => eN (pc + 1) lo (.int x :: r) h
  | .caload => eLdI X h 2 st fun x r => eN (pc + 1) lo (.int x :: r) h
  | .laload => eLdJ h st fun x r => eN (pc + 1) lo (.long x :: r) h
  | .aaload => eLdA P h st fun x r => eN (pc + 1) lo (eRf x :: r) h
  | .iastore => eStI h 0 (fun x => x) st fun h' r => eN (pc + 1) lo r h'
  | .castore => eStI h 2 (vp_nar .char) st fun h' r => eN (pc + 1) lo r h'
  | .lastore => eStJ h st fun h' r => eN (pc + 1) lo r h'
  | .aastore => eStA P h st fun h' r => eN (pc + 1) lo r h'
  | .arraylength => eLen X st fun x r => eN (pc + 1) lo (.int x :: r) h
  | .newarray .int => eNwA h 0 4 (.inl fun _ => 0) st fun h' a r => eN (pc + 2) lo (.ref a :: r) h'
  | .newarray .long => eNwA h 1 8 (.inr (.inl fun _ => 0)) st fun h' a r => eN (pc + 2) lo (.ref a :: r) h'
  | .newarray .char => eNwA h 2 2 (.inl fun _ => 0) st fun h' a r => eN (pc + 2) lo (.ref a :: r) h'
  | .anewarray ix => match P.arr (eOwn P k) ix with
    | some t => eNwA h t 4 (.inr (.inr fun _ => none)) st fun h' a r => eN (pc + 3) lo (.ref a :: r) h'
    | none => none
  | .new ix => match P.cls (eOwn P k) ix with
    | some c => eN (pc + 3) lo (.ref h.2.1 :: st) (eNew h (.inr (c, (P.bla c).1)) (P.bla c).2)
    | none => none
  | _ => none
def eKd (i : Instr) : Nat × Nat × Nat := match i with
  | .invokestatic ix => (1, 0, ix)
  | .invokevirtual ix => (1, 1, ix)
  | .invokespecial ix => (1, 2, ix)
  | .ireturn => (2, 0, 0)
  | .lreturn => (2, 0, 0)
  | .areturn => (2, 0, 0)
  | .return_ => (2, 0, 0)
  | .athrow => (2, 0, 0)
  | _ => (0, 0, 0)
def eHan (hs : List (Nat × Nat × Nat × Nat)) (pc c : Nat) : Option Nat := match hs with
  | [] => none
  | (a, b, t, c') :: hs => if a ≤ pc ∧ pc < b ∧ c' = c then some t else eHan hs pc c
def eGo (P : eP) (X : Nat × (Nat → Int32)) (call : Nat → List Value → eH → Option (eR × eH)) (k : Nat) : Nat → eS → Option (eR × eH)
  | 0, _ => none
  | n + 1, (pc, lo, st, h) => match P.ins k pc with
    | none => match P.thr k pc with
      | none => none
      | some q => if eHs P k = [] ∧ eCat st ≤ 8 then some (.inr h.2.1, eNew h (.inr (q.1, (P.bla q.1).1)) (P.bla q.1).2) else none
    | some (i, _) => match eKd i with
      | (0, _, _) => match eIns P X k i pc lo st h with
        | none => none
        | some x => eGo P X call k n x
      | (1, kd, ix) => match P.mth (eOwn P k) ix with
        | none => none
        | some (kind, k', na) => if st.length < na ∨ 8 < eCat (st.drop na) then none else
          if 3 ≤ kind then match eOwnless kd kind pc lo st h with
            | none => none
            | some x => eGo P X call k n x
          else match eArgs P kd kind k' na st h with
            | none => none
            | some (as, r) => match call k' as h with
              | none => none
              | some (.inl v, h') => eGo P X call k n (pc + 3, lo, v.toList ++ r, h')
              | some (.inr a, h') => if a = 0 ∨ ¬ eHs P k' = [] ∨ P.ini k' = true then none else match h'.1 a with
                | some (.inr (c, _)) => match eHan (eHs P k) pc c with
                  | some t => eGo P X call k n (t, lo, [.ref a], h')
                  | none => if eHs P k = [] then some (.inr a, h') else none
                | _ => none
      | _ => eRet P k i st h
def eArg (as : List Value) : eLo := match as with
  | [] => []
  | v :: r => if v.category = 2 then some v :: none :: eArg r else some v :: eArg r
def eEntry (nL : Nat) (as : List Value) : eLo := eArg as ++ List.replicate (nL - (eArg as).length) none
def eRun (P : eP) (X : Nat × (Nat → Int32)) (n : Nat) : Nat → Nat → List Value → eH → Option (eR × eH)
  | 0, _, _, _ => none
  | d + 1, k, as, h => if eNL P k < (eArg as).length then none else eGo P X (eRun P X n d) k n (0, eEntry (eNL P k) as, [], h)
end
section
def eGs (P : eP) (X : Nat × (Nat → Int32)) (d0 k : Nat) (x : eS) (r : eR × eH) : Prop := ∃ n0, ∀ d, d0 ≤ d → ∀ n, n0 ≤ n → ∀ j, n0 ≤ j → eGo P X (eRun P X n d) k j x = some r
def eEv (P : eP) (X : Nat × (Nat → Int32)) (d0 k : Nat) (as : List Value) (h : eH) (r : eR × eH) : Prop := ∃ n0, ∀ d, d0 ≤ d → ∀ n, n0 ≤ n → eRun P X n d k as h = some r
section GS
variable {P : eP} {X : Nat × (Nat → Int32)} {d0 k pc len : Nat} {lo : eLo} {st : List Value} {h : eH} {r : eR × eH} {y : eS} {i : Instr}
theorem eEv.mono {d1 : Nat} {as : List Value} (q : eEv P X d0 k as h r) (hd : d0 ≤ d1) : eEv P X d1 k as h r := by
  obtain ⟨n0, q⟩ := q
  exact ⟨n0, fun d h1 n h2 => q d (Nat.le_trans hd h1) n h2⟩
theorem eEv.of {as : List Value} (ha : ¬ eNL P k < (eArg as).length) (q : eGs P X d0 k (0, eEntry (eNL P k) as, [], h) r) : eEv P X (d0 + 1) k as h r := by
  obtain ⟨n0, q⟩ := q
  refine ⟨n0, fun d hd n hn => ?_⟩
  cases d with
  | zero => omega
  | succ d =>
    show (if eNL P k < (eArg as).length then none else eGo P X (eRun P X n d) k n (0, eEntry (eNL P k) as, [], h)) = some r
    rw [if_neg ha]
    exact q d (by omega) n hn n hn
theorem eGs.step (hi : P.ins k pc = some (i, len)) (hk : (eKd i).1 = 0) (hs : eIns P X k i pc lo st h = some y) (q : eGs P X d0 k y r) : eGs P X d0 k (pc, lo, st, h) r := by
  obtain ⟨n0, q⟩ := q
  refine ⟨n0 + 1, fun d hd n hn j hj => ?_⟩
  cases j with
  | zero => omega
  | succ j =>
    have q' := q d hd n (by omega) j (by omega)
    simp only [eGo, hi]
    generalize hz : eKd i = z at hk
    obtain ⟨z1, z2, z3⟩ := z
    cases hk
    simp only [hs]
    exact q'
theorem eGs.fin (hi : P.ins k pc = some (i, len)) (hk : (eKd i).1 = 2) (hs : eRet P k i st h = some r) : eGs P X d0 k (pc, lo, st, h) r := by
  refine ⟨1, fun d hd n hn j hj => ?_⟩
  cases j with
  | zero => omega
  | succ j =>
    simp only [eGo, hi]
    generalize hz : eKd i = z at hk
    obtain ⟨z1, z2, z3⟩ := z
    cases hk
    exact hs
theorem eGs.call {kd ix kind k' na : Nat} {as rs : List Value} {v : Option Value} {h' : eH} (hi : P.ins k pc = some (i, len)) (hk : eKd i = (1, kd, ix)) (hm : P.mth (eOwn P k) ix = some (kind, k', na)) (h3 : kind < 3)
    (hst : ¬ (st.length < na ∨ 8 < eCat (st.drop na))) (ha : eArgs P kd kind k' na st h = some (as, rs)) (hc : eEv P X d0 k' as h (.inl v, h')) (q : eGs P X d0 k (pc + 3, lo, v.toList ++ rs, h') r) : eGs P X d0 k (pc, lo, st, h) r := by
  obtain ⟨n0, q⟩ := q
  obtain ⟨n1, hc⟩ := hc
  refine ⟨n0 + n1 + 1, fun d hd n hn j hj => ?_⟩
  cases j with
  | zero => omega
  | succ j =>
    simp only [eGo, hi, hk, hm, if_neg hst, if_neg (Nat.not_le.mpr h3), ha, hc d hd n (by omega)]
    exact q d hd n (by omega) j (by omega)
theorem eGs.own {kd ix kind k' na : Nat} (hi : P.ins k pc = some (i, len)) (hk : eKd i = (1, kd, ix)) (hm : P.mth (eOwn P k) ix = some (kind, k', na)) (h3 : 3 ≤ kind)
    (hst : ¬ (st.length < na ∨ 8 < eCat (st.drop na))) (ha : eOwnless kd kind pc lo st h = some y) (q : eGs P X d0 k y r) : eGs P X d0 k (pc, lo, st, h) r := by
  obtain ⟨n0, q⟩ := q
  refine ⟨n0 + 1, fun d hd n hn j hj => ?_⟩
  cases j with
  | zero => omega
  | succ j =>
    simp only [eGo, hi, hk, hm, if_neg hst, if_pos h3, ha]
    exact q d hd n (by omega) j (by omega)
theorem eGs.thr {kd ix kind k' na a c : Nat} {as rs fs : List Value} {h' : eH} (hi : P.ins k pc = some (i, len)) (hk : eKd i = (1, kd, ix)) (hm : P.mth (eOwn P k) ix = some (kind, k', na)) (h3 : kind < 3)
    (hst : ¬ (st.length < na ∨ 8 < eCat (st.drop na))) (ha : eArgs P kd kind k' na st h = some (as, rs)) (hc : eEv P X d0 k' as h (.inr a, h')) (hn : ¬ (a = 0 ∨ ¬ eHs P k' = [] ∨ P.ini k' = true)) (hcell : h'.1 a = some (.inr (c, fs))) (hh : eHs P k = []) : eGs P X d0 k (pc, lo, st, h) (.inr a, h') := by
  obtain ⟨n1, hc⟩ := hc
  refine ⟨n1 + 1, fun d hd n hn2 j hj => ?_⟩
  cases j with
  | zero => omega
  | succ j =>
    simp only [eGo, hi, hk, hm, if_neg hst, if_neg (Nat.not_le.mpr h3), ha, hc d hd n (by omega), if_neg hn, hcell, hh, eHan, if_true]
theorem eGs.cat {kd ix kind k' na a c t : Nat} {as rs fs : List Value} {h' : eH} (hi : P.ins k pc = some (i, len)) (hk : eKd i = (1, kd, ix)) (hm : P.mth (eOwn P k) ix = some (kind, k', na)) (h3 : kind < 3)
    (hst : ¬ (st.length < na ∨ 8 < eCat (st.drop na))) (ha : eArgs P kd kind k' na st h = some (as, rs)) (hc : eEv P X d0 k' as h (.inr a, h')) (hn : ¬ (a = 0 ∨ ¬ eHs P k' = [] ∨ P.ini k' = true)) (hcell : h'.1 a = some (.inr (c, fs))) (hh : eHan (eHs P k) pc c = some t)
    (q : eGs P X d0 k (t, lo, [.ref a], h') r) : eGs P X d0 k (pc, lo, st, h) r := by
  obtain ⟨n0, q⟩ := q
  obtain ⟨n1, hc⟩ := hc
  refine ⟨n0 + n1 + 1, fun d hd n hn2 j hj => ?_⟩
  cases j with
  | zero => omega
  | succ j =>
    simp only [eGo, hi, hk, hm, if_neg hst, if_neg (Nat.not_le.mpr h3), ha, hc d hd n (by omega), if_neg hn, hcell, hh]
    exact q d hd n (by omega) j (by omega)
def eStN (P : eP) (X : Nat × (Nat → Int32)) (k : Nat) : Nat → eS → Option eS
  | 0, x => some x
  | n + 1, (pc, lo, st, h) => match P.ins k pc with
    | none => none
    | some (i, _) => match (eKd i).1 with
      | 0 => match eIns P X k i pc lo st h with
        | none => none
        | some y => eStN P X k n y
      | _ => none
theorem eGs.steps (n : Nat) {x : eS} (hs : eStN P X k n x = some y) (q : eGs P X d0 k y r) : eGs P X d0 k x r := by
  induction n generalizing x with
  | zero => cases hs; exact q
  | succ n ih =>
    obtain ⟨pc, lo, st, h⟩ := x
    simp only [eStN] at hs
    split at hs
    · cases hs
    · rename_i i len hi
      split at hs
      · rename_i hk
        split at hs
        · cases hs
        · rename_i z hz
          exact eGs.step hi hk hz (ih hs)
      · cases hs
theorem eGs.tnew {q : Nat × Nat × Nat × Nat} (hi : P.ins k pc = none) (ht : P.thr k pc = some q) (hh : eHs P k = []) (hc : eCat st ≤ 8) : eGs P X d0 k (pc, lo, st, h) (.inr h.2.1, eNew h (.inr (q.1, (P.bla q.1).1)) (P.bla q.1).2) := by
  refine ⟨1, fun d hd n hn j hj => ?_⟩
  cases j with
  | zero => omega
  | succ j =>
    simp only [eGo, hi, ht]
    rw [if_pos ⟨hh, hc⟩]
end GS
def eW2 (h : eH) (L : List (Nat × eE)) : eH := (fun q => match L.find? (fun z => z.1 == q) with
  | some z => some z.2
  | none => h.1 q, h.2.1, h.2.2)
theorem eW2_find {L : List (Nat × eE)} {i a : Nat} {c : eE} (hN : (L.map Prod.fst).Nodup) (hi : L[i]? = some (a, c)) : L.find? (fun z => z.1 == a) = some (a, c) := by
  induction L generalizing i with
  | nil => cases hi
  | cons z L ih =>
    obtain ⟨h1, h2⟩ := List.nodup_cons.mp hN
    cases i with
    | zero =>
      cases hi
      simp
    | succ i =>
      have hi' : L[i]? = some (a, c) := by simpa using hi
      have hne : z.1 ≠ a := fun e => h1 (by
        rw [e]
        exact List.mem_map.mpr ⟨(a, c), List.mem_of_getElem? hi', rfl⟩)
      have hb : (z.1 == a) = false := by simpa using hne
      rw [List.find?_cons, hb]
      exact ih h2 hi'
theorem eW2_get {h : eH} {L : List (Nat × eE)} (hN : (L.map Prod.fst).Nodup) (i : Nat) {a : Nat} {c : eE} (hi : L[i]? = some (a, c)) : (eW2 h L).1 a = some c := by
  show (match L.find? (fun z => z.1 == a) with
    | some z => some z.2
    | none => h.1 a) = some c
  rw [eW2_find hN hi]
theorem eW2_findset {L : List (Nat × eE)} {i a : Nat} {c0 c : eE} (hN : (L.map Prod.fst).Nodup) (hi : L[i]? = some (a, c0)) (q : Nat) : (L.set i (a, c)).find? (fun z => z.1 == q) = if q = a then some (a, c) else L.find? (fun z => z.1 == q) := by
  induction L generalizing i with
  | nil => cases hi
  | cons z L ih =>
    obtain ⟨h1, h2⟩ := List.nodup_cons.mp hN
    cases i with
    | zero =>
      cases hi
      by_cases hq : q = a
      · subst hq
        simp
      · have hb : (a == q) = false := by simpa using fun e => hq e.symm
        simp only [List.set_cons_zero, List.find?_cons, hb, if_neg hq]
    | succ i =>
      have hi' : L[i]? = some (a, c0) := by simpa using hi
      have hne : z.1 ≠ a := fun e => h1 (by
        rw [e]
        exact List.mem_map.mpr ⟨(a, c0), List.mem_of_getElem? hi', rfl⟩)
      simp only [List.set_cons_succ, List.find?_cons]
      by_cases hz : z.1 = q
      · have hb : (z.1 == q) = true := by simpa using hz
        have hq : ¬ q = a := fun e => hne (hz.trans e)
        simp only [hb, if_neg hq]
      · have hb : (z.1 == q) = false := by simpa using hz
        simp only [hb]
        exact ih h2 hi'
theorem eW2_set {h : eH} {L : List (Nat × eE)} (hN : (L.map Prod.fst).Nodup) (i : Nat) {a : Nat} {c0 c : eE} (hi : L[i]? = some (a, c0)) : eSetH (eW2 h L) a c = eW2 h (L.set i (a, c)) := by
  unfold eSetH eW2
  refine Prod.ext (funext fun q => ?_) rfl
  show (if q = a then some c else (match L.find? (fun z => z.1 == q) with
    | some z => some z.2
    | none => h.1 q)) = (match (L.set i (a, c)).find? (fun z => z.1 == q) with
    | some z => some z.2
    | none => h.1 q)
  rw [eW2_findset hN hi]
  by_cases hq : q = a
  · rw [if_pos hq, if_pos hq]
  · rw [if_neg hq, if_neg hq]
theorem eW2_self {h : eH} {L : List (Nat × eE)} (hL : ∀ z ∈ L, h.1 z.1 = some z.2) : eW2 h L = h := by
  unfold eW2
  refine Prod.ext (funext fun q => ?_) rfl
  show (match L.find? (fun z => z.1 == q) with
    | some z => some z.2
    | none => h.1 q) = h.1 q
  cases hf : L.find? (fun z => z.1 == q) with
  | none => rfl
  | some z =>
    have h1 : (z.1 == q) = true := by
      have := List.find?_some hf
      simpa using this
    have h2 : z.1 = q := by simpa using h1
    subst h2
    exact (hL z (List.mem_of_find?_eq_some hf)).symm
def eSub (L : List (Nat × eE)) (is : List Nat) : List (Nat × eE) := is.filterMap fun i => L[i]?
def ePut (L : List (Nat × eE)) : List Nat → List (Nat × eE) → List (Nat × eE)
  | i :: is, z :: zs => ePut (L.set i z) is zs
  | _, _ => L
theorem eW2_sub {h : eH} {L : List (Nat × eE)} (hN : (L.map Prod.fst).Nodup) (is : List Nat) : eW2 (eW2 h L) (eSub L is) = eW2 h L := by
  refine eW2_self fun z hz => ?_
  obtain ⟨i, -, hi⟩ := List.mem_filterMap.mp hz
  exact eW2_get hN i hi
theorem eW2_cons {h : eH} {a : Nat} {c : eE} {L : List (Nat × eE)} : eW2 h ((a, c) :: L) = eSetH (eW2 h L) a c := by
  unfold eSetH eW2
  refine Prod.ext (funext fun q => ?_) rfl
  show (match ((a, c) :: L).find? (fun z => z.1 == q) with
    | some z => some z.2
    | none => h.1 q) = if q = a then some c else _
  by_cases hq : q = a
  · subst hq
    simp
  · have hb : (a == q) = false := by simpa using fun e => hq e.symm
    simp only [List.find?_cons, hb, if_neg hq]
theorem eW2_put {h : eH} : ∀ (is : List Nat) (zs L : List (Nat × eE)), (L.map Prod.fst).Nodup → (zs.map Prod.fst).Nodup → is.length = zs.length → (∀ (j i : Nat) (z : Nat × eE), is[j]? = some i → zs[j]? = some z → ∃ c0, L[i]? = some (z.1, c0)) → eW2 (eW2 h L) zs = eW2 h (ePut L is zs) := by
  intro is
  induction is with
  | nil =>
    intro zs L hN hZ hl hp
    cases zs with
    | nil => exact eW2_self (fun z hz => absurd hz List.not_mem_nil)
    | cons z zs => cases hl
  | cons i is ih =>
    intro zs L hN hZ hl hp
    cases zs with
    | nil => cases hl
    | cons z zs =>
      obtain ⟨a, c⟩ := z
      obtain ⟨c0, h0⟩ := hp 0 i (a, c) rfl rfl
      obtain ⟨hz1, hz2⟩ := List.nodup_cons.mp hZ
      have hset : (L.set i (a, c)).map Prod.fst = L.map Prod.fst := by
        rw [List.map_set]
        apply List.ext_getElem?
        intro j
        rw [List.getElem?_set]
        split
        · rename_i e
          subst e
          split
          · simp [h0]
          · rename_i hlt
            have := (List.getElem?_eq_some_iff.mp h0).1
            simp at hlt
            omega
        · rfl
      have key := ih zs (L.set i (a, c)) (by rw [hset]; exact hN) hz2 (by simpa using hl) (fun j i' z h1 h2 => by
        obtain ⟨c1, h3⟩ := hp (j + 1) i' z (by simpa using h1) (by simpa using h2)
        by_cases e : i = i'
        · subst e
          have hlt := (List.getElem?_eq_some_iff.mp h0).1
          rw [h0] at h3
          cases h3
          exact ⟨c, by rw [List.getElem?_set]; simp [hlt]⟩
        · exact ⟨c1, by rw [List.getElem?_set, if_neg e]; exact h3⟩)
      rw [show ePut L (i :: is) ((a, c) :: zs) = ePut (L.set i (a, c)) is zs from rfl, ← key, ← eW2_set hN i h0]
      -- laying (a, c) first or last is the same, a is not among zs
      unfold eW2 eSetH eUp
      refine Prod.ext (funext fun q => ?_) rfl
      simp only [List.find?_cons]
      by_cases hq : a = q
      · subst hq
        have hno : zs.find? (fun z => z.1 == a) = none := by
          refine List.find?_eq_none.mpr fun z hz => ?_
          intro hh
          exact hz1 (List.mem_map.mpr ⟨z, hz, by simpa using hh⟩)
        simp [hno]
      · have hb : (a == q) = false := by simpa using hq
        have hq' : ¬ q = a := fun e => hq e.symm
        simp only [hb, if_neg hq']
section GH
variable {P : eP} {X : Nat × (Nat → Int32)} {d0 k pc : Nat} {lo : eLo} {st : List Value} {h : eH} {r : eR × eH}
theorem g_getf {ix c j a : Nat} {ty : FieldType} {fin : Bool} {fs : List Value} {v : Value} (hi : P.ins k pc = some (.getfield ix, 3)) (hf : P.fld (eOwn P k) ix = some (c, j, ty, fin)) (ha : ¬ a = 0) (hc : h.1 a = some (.inr (c, fs))) (hv : fs[j]? = some v)
    (q : eGs P X d0 k (pc + 3, lo, v :: st, h) r) : eGs P X d0 k (pc, lo, .ref a :: st, h) r := by
  refine eGs.step hi rfl ?_ q
  simp only [eIns, eGf, eR1, hf, hc, hv, eN]
  rw [if_neg (by simp [ha])]
theorem g_putf {ix c j a : Nat} {ty : FieldType} {fin : Bool} {fs : List Value} {v : Value} (hi : P.ins k pc = some (.putfield ix, 3)) (hf : P.fld (eOwn P k) ix = some (c, j, ty, fin)) (ha : ¬ a = 0) (hc : h.1 a = some (.inr (c, fs))) (hfit : eFit ty v = true) (hj : j < fs.length) (hfin : (fin && !(P.ini k && eOwn P k == c)) = false)
    (q : eGs P X d0 k (pc + 3, lo, st, eSetH h a (.inr (c, fs.set j v))) r) : eGs P X d0 k (pc, lo, v :: .ref a :: st, h) r := by
  refine eGs.step hi rfl ?_ q
  simp only [eIns, ePf, hf, hc, eN]
  rw [if_neg]
  rintro (h1 | h1 | h1 | h1 | h1)
  · exact ha h1
  · exact h1 trivial
  · rw [hfit] at h1; cases h1
  · omega
  · rw [hfin] at h1; cases h1
theorem g_iald {a n : Nat} {f : Nat → Int32} {i : Int32} (hi : P.ins k pc = some (.iaload, 1)) (ha : ¬ a = 0) (hc : h.1 a = some (.inl (0, n, .inl f))) (hin : ¬ (i < 0 ∨ n ≤ i.toNatClampNeg))
    (q : eGs P X d0 k (pc + 1, lo, .int (f i.toNatClampNeg) :: st, h) r) : eGs P X d0 k (pc, lo, .int i :: .ref a :: st, h) r := by
  refine eGs.step hi rfl ?_ q
  cases a with
  | zero => exact absurd rfl ha
  | succ a => simp only [eIns, eLdI, eIA, hc, eN, eIn, if_neg hin, if_true]
theorem g_cald {a n : Nat} {f : Nat → Int32} {i : Int32} (hi : P.ins k pc = some (.caload, 1)) (ha : ¬ a = 0) (hc : h.1 a = some (.inl (2, n, .inl f))) (hin : ¬ (i < 0 ∨ n ≤ i.toNatClampNeg))
    (q : eGs P X d0 k (pc + 1, lo, .int (f i.toNatClampNeg) :: st, h) r) : eGs P X d0 k (pc, lo, .int i :: .ref a :: st, h) r := by
  refine eGs.step hi rfl ?_ q
  cases a with
  | zero => exact absurd rfl ha
  | succ a => simp only [eIns, eLdI, eIA, hc, eN, eIn, if_neg hin, if_true]
theorem g_lald {a n : Nat} {f : Nat → Int64} {i : Int32} (hi : P.ins k pc = some (.laload, 1)) (ha : ¬ a = 0) (hc : h.1 a = some (.inl (1, n, .inr (.inl f)))) (hin : ¬ (i < 0 ∨ n ≤ i.toNatClampNeg))
    (q : eGs P X d0 k (pc + 1, lo, .long (f i.toNatClampNeg) :: st, h) r) : eGs P X d0 k (pc, lo, .int i :: .ref a :: st, h) r := by
  refine eGs.step hi rfl ?_ q
  simp only [eIns, eLdJ, eIA, hc, eN, eIn, if_neg hin, if_neg ha]
theorem g_aald {a n t c : Nat} {f : Nat → Option Nat} {i : Int32} (hi : P.ins k pc = some (.aaload, 1)) (ha : ¬ a = 0) (hc : h.1 a = some (.inl (t, n, .inr (.inr f)))) (ht : P.elt t = some c) (hin : ¬ (i < 0 ∨ n ≤ i.toNatClampNeg))
    (q : eGs P X d0 k (pc + 1, lo, eRf (f i.toNatClampNeg) :: st, h) r) : eGs P X d0 k (pc, lo, .int i :: .ref a :: st, h) r := by
  refine eGs.step hi rfl ?_ q
  simp only [eIns, eLdA, eIA, hc, eN, eIn, if_neg hin]
  rw [if_neg (by simp [ha, ht])]
theorem g_iast {a n : Nat} {f : Nat → Int32} {i x : Int32} (hi : P.ins k pc = some (.iastore, 1)) (ha : ¬ a = 0) (hc : h.1 a = some (.inl (0, n, .inl f))) (hin : ¬ (i < 0 ∨ n ≤ i.toNatClampNeg))
    (q : eGs P X d0 k (pc + 1, lo, st, eSetH h a (.inl (0, n, .inl (eUp f i.toNatClampNeg x)))) r) : eGs P X d0 k (pc, lo, .int x :: .int i :: .ref a :: st, h) r := by
  refine eGs.step hi rfl ?_ q
  simp only [eIns, eStI, hc, eN, eIn, if_neg hin]
  rw [if_neg (by simp [ha])]
theorem g_cast {a n : Nat} {f : Nat → Int32} {i x : Int32} (hi : P.ins k pc = some (.castore, 1)) (ha : ¬ a = 0) (hc : h.1 a = some (.inl (2, n, .inl f))) (hin : ¬ (i < 0 ∨ n ≤ i.toNatClampNeg))
    (q : eGs P X d0 k (pc + 1, lo, st, eSetH h a (.inl (2, n, .inl (eUp f i.toNatClampNeg (vp_nar .char x))))) r) : eGs P X d0 k (pc, lo, .int x :: .int i :: .ref a :: st, h) r := by
  refine eGs.step hi rfl ?_ q
  simp only [eIns, eStI, hc, eN, eIn, if_neg hin]
  rw [if_neg (by simp [ha])]
theorem g_last {a n : Nat} {f : Nat → Int64} {i : Int32} {x : Int64} (hi : P.ins k pc = some (.lastore, 1)) (ha : ¬ a = 0) (hc : h.1 a = some (.inl (1, n, .inr (.inl f)))) (hin : ¬ (i < 0 ∨ n ≤ i.toNatClampNeg))
    (q : eGs P X d0 k (pc + 1, lo, st, eSetH h a (.inl (1, n, .inr (.inl (eUp f i.toNatClampNeg x))))) r) : eGs P X d0 k (pc, lo, .long x :: .int i :: .ref a :: st, h) r := by
  refine eGs.step hi rfl ?_ q
  simp only [eIns, eStJ, hc, eN, eIn, if_neg hin, if_neg ha]
theorem g_aast {a n t v c : Nat} {f : Nat → Option Nat} {i : Int32} {fs : List Value} (hi : P.ins k pc = some (.aastore, 1)) (ha : ¬ a = 0) (hv : ¬ v = 0) (hc : h.1 a = some (.inl (t, n, .inr (.inr f)))) (hcv : h.1 v = some (.inr (c, fs))) (ht : P.elt t = some c) (hin : ¬ (i < 0 ∨ n ≤ i.toNatClampNeg))
    (q : eGs P X d0 k (pc + 1, lo, st, eSetH h a (.inl (t, n, .inr (.inr (eUp f i.toNatClampNeg (some v)))))) r) : eGs P X d0 k (pc, lo, .ref v :: .int i :: .ref a :: st, h) r := by
  refine eGs.step hi rfl ?_ q
  simp only [eIns, eStA, hc, hcv, eN, eIn, if_neg hin]
  rw [if_neg (by simp [ha, hv, ht])]
theorem g_aastN {a n t c : Nat} {f : Nat → Option Nat} {i : Int32} (hi : P.ins k pc = some (.aastore, 1)) (ha : ¬ a = 0) (hc : h.1 a = some (.inl (t, n, .inr (.inr f)))) (ht : P.elt t = some c) (hin : ¬ (i < 0 ∨ n ≤ i.toNatClampNeg))
    (q : eGs P X d0 k (pc + 1, lo, st, eSetH h a (.inl (t, n, .inr (.inr (eUp f i.toNatClampNeg none))))) r) : eGs P X d0 k (pc, lo, .null :: .int i :: .ref a :: st, h) r := by
  refine eGs.step hi rfl ?_ q
  simp only [eIns, eStA, hc, eN, eIn, if_neg hin]
  rw [if_neg (by simp [ha, ht])]
def eCd (cd : ClassFile.Cond) (x y : Int32) : Bool := match cd with
  | .eq => decide (x = y)
  | .ne => decide (¬ x = y)
  | .lt => decide (x < y)
  | .ge => decide (y ≤ x)
  | .gt => decide (y < x)
  | .le => decide (x ≤ y)
theorem eIf_cd (cd : ClassFile.Cond) (x y : Int32) (pc : Nat) (off : Int) (lo : eLo) (rs : List Value) (h : eH) : eIf cd x y pc off lo rs h = eBr (eCd cd x y) pc off lo rs h := by
  cases cd <;> rfl
theorem g_icmp {cd : ClassFile.Cond} {off : Int} {t : Nat} {x y : Int32} (b : Bool) (hi : P.ins k pc = some (.if_icmp cd off, 3)) (hb : eCd cd x y = b) (ht : (pc : Int) + off = Int.ofNat t) (q : eGs P X d0 k (cond b t (pc + 3), lo, st, h) r) : eGs P X d0 k (pc, lo, .int y :: .int x :: st, h) r := by
  refine eGs.step hi rfl ?_ q
  simp only [eIns, eI2, eIf_cd, eBr, eTo, ht, hb]
  cases b <;> rfl
theorem g_if {cd : ClassFile.Cond} {off : Int} {t : Nat} {x : Int32} (b : Bool) (hi : P.ins k pc = some (.ifCond cd off, 3)) (hb : eCd cd x 0 = b) (ht : (pc : Int) + off = Int.ofNat t) (q : eGs P X d0 k (cond b t (pc + 3), lo, st, h) r) : eGs P X d0 k (pc, lo, .int x :: st, h) r := by
  refine eGs.step hi rfl ?_ q
  simp only [eIns, eI1, eIf_cd, eBr, eTo, ht, hb]
  cases b <;> rfl
end GH
def eLocal (i : Instr) : Bool := match i with
  | .iload _ => true
  | .iload_n _ => true
  | .lload _ => true
  | .lload_n _ => true
  | .aload _ => true
  | .aload_n _ => true
  | .istore _ => true
  | .istore_n _ => true
  | .lstore _ => true
  | .lstore_n _ => true
  | .astore _ => true
  | .astore_n _ => true
  | .iinc _ _ => true
  | _ => false
def eMv (lo : eLo) (x : Option eS) : Option eS := x.map fun x => (x.1, lo, x.2.2.1, x.2.2.2)
theorem eMv_n {lo : eLo} {pc : Nat} {st : List Value} {h : eH} : eMv lo (eN pc [] st h) = eN pc lo st h := rfl
theorem eIns_mv {P : eP} {X : Nat × (Nat → Int32)} {k pc : Nat} {i : Instr} {lo : eLo} {st : List Value} {h : eH} (hi : eLocal i = false) : eIns P X k i pc lo st h = eMv lo (eIns P X k i pc [] st h) := by
  cases i
  all_goals first
    | rfl
    | (cases hi; done)
    | (simp only [eIns, eI1, eI2, eJ1, eJ2, eJI, eR1, eQ1, eIA, eTo, eBr, eIf_cd, eIn, eLdI, eLdJ, eLdA, eStI, eStJ, eStA, eLen, eNwA, eGf, ePf]
       repeat' split
       all_goals first | rfl | (simp_all [eMv, eN]; done))
theorem eKill_len (lo : eLo) (i : Nat) : (eKill lo i).length = lo.length := by
  cases i with
  | zero => rfl
  | succ n =>
    simp only [eKill]
    split
    · split <;> simp
    · rfl
theorem eKill_at {lo : eLo} {i j : Nat} {u : Value} (h : (eKill lo i)[j]? = some (some u)) : lo[j]? = some (some u) ∧ ¬ (j + 1 = i ∧ u.category = 2) := by
  cases i with
  | zero => exact ⟨h, by omega⟩
  | succ n =>
    simp only [eKill] at h
    split at h
    · rename_i w hw
      split at h
      · rw [List.getElem?_set] at h
        split at h
        · split at h <;> cases h
        · rename_i hne
          exact ⟨h, by omega⟩
      · rename_i hc
        refine ⟨h, fun hz => ?_⟩
        have : j = n := by omega
        subst this
        rw [hw] at h
        cases h
        exact hc hz.2
    · rename_i hno
      refine ⟨h, fun hz => ?_⟩
      have : j = n := by omega
      subst this
      exact hno u h
theorem eKill_get {lo : eLo} {i j : Nat} {u : Value} (h : lo[j]? = some (some u)) (hn : ¬ (j + 1 = i ∧ u.category = 2)) : (eKill lo i)[j]? = some (some u) := by
  cases i with
  | zero => exact h
  | succ n =>
    simp only [eKill]
    split
    · rename_i w hw
      split
      · rename_i hc
        rw [List.getElem?_set]
        split
        · rename_i e
          subst e
          rw [hw] at h
          cases h
          exact absurd ⟨rfl, hc⟩ hn
        · exact h
      · exact h
    · exact h
def eSubP (lo' lo : eLo) : Prop := lo'.length = lo.length ∧ ∀ (i : Nat) (v : Value), lo'[i]? = some (some v) → lo[i]? = some (some v)
def eSubL : eLo → eLo → Prop
  | [], [] => True
  | none :: a, _ :: b => eSubL a b
  | some v :: a, w :: b => w = some v ∧ eSubL a b
  | _, _ => False
theorem eSubL.p : ∀ {a b : eLo}, eSubL a b → eSubP a b := by
  intro a
  induction a with
  | nil =>
    intro b h
    cases b with
    | nil => exact ⟨rfl, fun i v h => h⟩
    | cons w b => exact h.elim
  | cons x a ih =>
    intro b h
    cases b with
    | nil => cases x <;> exact h.elim
    | cons w b =>
      cases x with
      | none =>
        obtain ⟨h1, h2⟩ := ih (show eSubL a b from h)
        refine ⟨by simp [h1], fun i v hv => ?_⟩
        cases i with
        | zero => simp at hv
        | succ i => simpa using h2 i v (by simpa using hv)
      | some u =>
        obtain ⟨he, h'⟩ := (show w = some u ∧ eSubL a b from h)
        obtain ⟨h1, h2⟩ := ih h'
        refine ⟨by simp [h1], fun i v hv => ?_⟩
        cases i with
        | zero =>
          simp at hv
          subst hv
          simp [he]
        | succ i => simpa using h2 i v (by simpa using hv)
theorem eSubP.st1 {lo' lo : eLo} {i : Nat} {v : Value} (h : eSubP lo' lo) : eSubP (eSt1 lo' i v) (eSt1 lo i v) := by
  refine ⟨by simp [eSt1, eKill_len, h.1], fun j u hu => ?_⟩
  unfold eSt1 at hu ⊢
  rw [List.getElem?_set] at hu ⊢
  split at hu
  · rename_i e
    rw [if_pos e]
    rw [eKill_len] at hu ⊢
    rw [← h.1]
    exact hu
  · rename_i e
    rw [if_neg e]
    obtain ⟨h1, h2⟩ := eKill_at hu
    exact eKill_get (h.2 j u h1) h2
theorem eSubP.st2 {lo' lo : eLo} {i : Nat} {v : Value} (h : eSubP lo' lo) : eSubP (eSt2 lo' i v) (eSt2 lo i v) := by
  have h1 := h.st1 (i := i) (v := v)
  refine ⟨by simp [eSt2, eKill_len, h.1], fun j u hu => ?_⟩
  have hu' : ((eSt1 lo' i v).set (i + 1) none)[j]? = some (some u) := hu
  show ((eSt1 lo i v).set (i + 1) none)[j]? = some (some u)
  rw [List.getElem?_set] at hu' ⊢
  split at hu'
  · split at hu' <;> cases hu'
  · rename_i e
    rw [if_neg e]
    exact h1.2 j u hu'
theorem eLoI_sub {lo' lo : eLo} {i : Nat} {f g : Int32 → Option eS} {x : eS} {p : eS → Prop} (h : eSubP lo' lo) (hx : eLoI lo' i f = some x) (hf : ∀ v, f v = some x → ∃ y, g v = some y ∧ p y) : ∃ y, eLoI lo i g = some y ∧ p y := by
  unfold eLoI eGet at hx ⊢
  split at hx
  · rename_i v hv
    have h1 : lo'[i]? = some (some (.int v)) := by
      cases hq : lo'[i]? with
      | none => rw [hq] at hv; cases hv
      | some o => rw [hq] at hv; cases o with
        | none => cases hv
        | some u => cases hv; rfl
    rw [h.2 i _ h1]
    exact hf v hx
  · cases hx
theorem eLoJ_sub {lo' lo : eLo} {i : Nat} {f g : Int64 → Option eS} {x : eS} {p : eS → Prop} (h : eSubP lo' lo) (hx : eLoJ lo' i f = some x) (hf : ∀ v, f v = some x → ∃ y, g v = some y ∧ p y) : ∃ y, eLoJ lo i g = some y ∧ p y := by
  unfold eLoJ eGet at hx ⊢
  split at hx
  · rename_i v hv
    have h1 : lo'[i]? = some (some (.long v)) := by
      cases hq : lo'[i]? with
      | none => rw [hq] at hv; cases hv
      | some o => rw [hq] at hv; cases o with
        | none => cases hv
        | some u => cases hv; rfl
    rw [h.2 i _ h1]
    exact hf v hx
  · cases hx
theorem eLoA_sub {lo' lo : eLo} {i : Nat} {f g : Option Nat → Option eS} {x : eS} {p : eS → Prop} (h : eSubP lo' lo) (hx : eLoA lo' i f = some x) (hf : ∀ v, f v = some x → ∃ y, g v = some y ∧ p y) : ∃ y, eLoA lo i g = some y ∧ p y := by
  unfold eLoA eGet at hx ⊢
  have key : ∀ w, lo'[i]?.join = some w → lo[i]? = some (some w) := fun w hw => h.2 i w (by
    cases hq : lo'[i]? with
    | none => rw [hq] at hw; cases hw
    | some o => rw [hq] at hw; cases o with
      | none => cases hw
      | some u => cases hw; rfl)
  split at hx
  · rename_i v hv
    rw [key _ hv]
    exact hf _ hx
  · rename_i hv
    rw [key _ hv]
    exact hf _ hx
  · cases hx
theorem eIns_sub {P : eP} {X : Nat × (Nat → Int32)} {k pc : Nat} {i : Instr} {lo' lo : eLo} {st : List Value} {h : eH} {x : eS} (hs : eSubP lo' lo) (hx : eIns P X k i pc lo' st h = some x) :
    ∃ y, eIns P X k i pc lo st h = some y ∧ y.1 = x.1 ∧ eSubP x.2.1 y.2.1 ∧ y.2.2 = x.2.2 := by
  cases hl : eLocal i with
  | false =>
    rw [eIns_mv hl] at hx ⊢
    cases hz : eIns P X k i pc [] st h with
    | none => rw [hz] at hx; cases hx
    | some z =>
      rw [hz] at hx
      cases hx
      exact ⟨_, rfl, rfl, hs, rfl⟩
  | true =>
    have hlen := hs.1
    cases i <;> first | (cases hl; done) | skip
    case aload j => exact eLoA_sub (f := fun x => eN (pc + 2) lo' (eRf x :: st) h) (g := fun x => eN (pc + 2) lo (eRf x :: st) h) (p := fun y => y.1 = x.1 ∧ eSubP x.2.1 y.2.1 ∧ y.2.2 = x.2.2) hs hx (fun v hv => by
      have hv' : (pc + 2, lo', eRf v :: st, h) = x := Option.some.inj hv
      subst hv'
      exact ⟨_, rfl, rfl, hs, rfl⟩)
    case aload_n j => exact eLoA_sub (f := fun x => eN (pc + 1) lo' (eRf x :: st) h) (g := fun x => eN (pc + 1) lo (eRf x :: st) h) (p := fun y => y.1 = x.1 ∧ eSubP x.2.1 y.2.1 ∧ y.2.2 = x.2.2) hs hx (fun v hv => by
      have hv' : (pc + 1, lo', eRf v :: st, h) = x := Option.some.inj hv
      subst hv'
      exact ⟨_, rfl, rfl, hs, rfl⟩)
    all_goals first
      | exact eLoI_sub hs hx (fun v hv => by cases hv; exact ⟨_, rfl, rfl, hs, rfl⟩)
      | exact eLoJ_sub hs hx (fun v hv => by cases hv; exact ⟨_, rfl, rfl, hs, rfl⟩)
      | exact eLoI_sub hs hx (fun v hv => by
          split at hv
          · rename_i hq
            cases hv
            rw [hlen] at hq
            rw [if_pos hq]
            exact ⟨_, rfl, rfl, hs.st1, rfl⟩
          · cases hv)
      | (simp only [eIns, eI1, eJ1, eQ1] at hx ⊢
         split at hx <;> first | (cases hx; done) | skip
         all_goals
           split at hx
           · rename_i hq
             cases hx
             rw [hlen] at hq
             rw [if_pos hq]
             first | exact ⟨_, rfl, rfl, hs.st1, rfl⟩ | exact ⟨_, rfl, rfl, hs.st2, rfl⟩
           · cases hx)
theorem eOwn_mv {kd kind pc : Nat} {lo : eLo} {st : List Value} {h : eH} : eOwnless kd kind pc lo st h = eMv lo (eOwnless kd kind pc [] st h) := by
  unfold eOwnless
  split
  all_goals
    try simp only [eR1, eI2, eCopy]
    repeat' split
    all_goals first | rfl | (simp_all [eMv, eN]; done)
theorem eGo_sub {P : eP} {X : Nat × (Nat → Int32)} {call : Nat → List Value → eH → Option (eR × eH)} {k : Nat} {r : eR × eH} : ∀ (n : Nat) {pc : Nat} {lo' lo : eLo} {st : List Value} {h : eH}, eSubP lo' lo → eGo P X call k n (pc, lo', st, h) = some r → eGo P X call k n (pc, lo, st, h) = some r := by
  intro n
  induction n with
  | zero => intro pc lo' lo st h hs hx; cases hx
  | succ n ih =>
    intro pc lo' lo st h hs hx
    simp only [eGo] at hx ⊢
    split at hx
    · exact hx
    · rename_i i len hi
      split at hx
      · split at hx
        · cases hx
        · rename_i x hz
          obtain ⟨y, h1, h2, h3, h4⟩ := eIns_sub hs hz
          obtain ⟨y1, y2, y3⟩ := y
          obtain ⟨x1, x2, x3⟩ := x
          cases h2
          cases h4
          simp only [h1]
          exact ih h3 hx
      · split at hx
        · cases hx
        · split at hx
          · cases hx
          · rename_i hq
            rw [if_neg hq]
            split at hx
            · rename_i h3
              rw [if_pos h3]
              split at hx
              · cases hx
              · rename_i x hz
                rw [eOwn_mv] at hz
                rw [eOwn_mv]
                cases hw : eOwnless _ _ pc [] st h with
                | none => rw [hw] at hz; cases hz
                | some w =>
                  rw [hw] at hz
                  cases hz
                  exact ih hs hx
            · rename_i h3
              rw [if_neg h3]
              split at hx
              · cases hx
              · rename_i as rs ha
                split at hx
                · cases hx
                · rename_i v h' hc
                  exact ih hs hx
                · rename_i a h' hc
                  split at hx
                  · cases hx
                  · rename_i hq2
                    rw [if_neg hq2]
                    split at hx
                    · rename_i c fs hcell
                      split at hx
                      · exact ih ⟨rfl, fun i v q => q⟩ (by
                          refine ih hs ?_
                          exact hx)
                      · exact hx
                    · cases hx
      · exact hx
theorem eGs.weak {P : eP} {X : Nat × (Nat → Int32)} {d0 k pc : Nat} {lo' lo : eLo} {st : List Value} {h : eH} {r : eR × eH} (hs : eSubL lo' lo) (q : eGs P X d0 k (pc, lo', st, h) r) : eGs P X d0 k (pc, lo, st, h) r := by
  obtain ⟨n0, q⟩ := q
  exact ⟨n0, fun d hd n hn j hj => eGo_sub j hs.p (q d hd n hn j hj)⟩
end
section
abbrev eG : Type := Nat × Nat × (UInt32 → Nat) × (Nat → ClassId) × va_G × List vw_C
abbrev eG.b (G : eG) : Nat := G.1
abbrev eG.B (G : eG) : Nat := G.2.1
abbrev eG.sa (G : eG) : UInt32 → Nat := G.2.2.1
abbrev eG.ca (G : eG) : Nat → ClassId := G.2.2.2.1
abbrev eG.D (G : eG) : va_G := G.2.2.2.2.1
abbrev eG.cl (G : eG) : List vw_C := G.2.2.2.2.2
abbrev eW : Type := (Nat → String) × (Nat → MethodName) × (Nat → ByteArray) × List FieldType
abbrev eW.cn (N : eW) : Nat → String := N.1
abbrev eW.mn (N : eW) : Nat → MethodName := N.2.1
abbrev eW.cd (N : eW) : Nat → ByteArray := N.2.2.1
abbrev eW.ty (N : eW) : List FieldType := N.2.2.2
def eAd (G : eG) (r : Nat) : Nat := if r = 0 then G.b else G.B + r
def eVal (G : eG) (v : Value) : Value := match v with
  | .ref r => .ref (eAd G r)
  | .float k => .ref (G.sa k)
  | v => v
theorem eVal_cat (G : eG) (v : Value) : (eVal G v).category = v.category := by cases v <;> rfl
theorem eAd_pos {G : eG} {r : Nat} (h : ¬ r = 0) : eAd G r = G.B + r := if_neg h
theorem eVal_rf (G : eG) (x : Option Nat) : eVal G (eRf x) = va_rf (x.map (eAd G)) := by cases x <;> rfl
def eCo (G : eG) (x : eE) : va_E := match x with
  | .inl (t, n, .inl f) => .inl (G.ca t, n, .inl f)
  | .inl (t, n, .inr (.inl f)) => .inl (G.ca t, n, .inr (.inl f))
  | .inl (t, n, .inr (.inr f)) => .inl (G.ca t, n, .inr (.inr (.inr (.inr fun i => (f i).map (eAd G)))))
  | .inr (c, fs) => .inr (c, fs.map (eVal G))
def eRel (G : eG) (h : eH) (H : Heap) : Prop := H.size = G.B + h.2.1 ∧ 1 ≤ h.2.1 ∧ ∀ r x, h.1 r = some x → 1 ≤ r → r < h.2.1 ∧ va_at G.D G.cl (G.B + r, eCo G x) H
def eAs (f : Value → Value) : Nat → eLo → List (Nat × Value)
  | _, [] => []
  | i, none :: r => eAs f (i + 1) r
  | i, some v :: r => (i, f v) :: eAs f (i + 1) r
theorem eAs_mem (f : Value → Value) : ∀ (lo : eLo) (i j : Nat) (w : Value), (j, w) ∈ eAs f i lo ↔ ∃ (k : Nat) (v : Value), j = i + k ∧ lo[k]? = some (some v) ∧ w = f v := by
  intro lo
  induction lo with
  | nil =>
    intro i j w
    simp [eAs]
  | cons a r ih =>
    intro i j w
    cases a with
    | none =>
      simp only [eAs, ih]
      constructor
      · rintro ⟨k, v, h1, h2, h3⟩
        exact ⟨k + 1, v, by omega, by simpa using h2, h3⟩
      · rintro ⟨k, v, h1, h2, h3⟩
        cases k with
        | zero => simp at h2
        | succ k => exact ⟨k, v, by omega, by simpa using h2, h3⟩
    | some a =>
      simp only [eAs, List.mem_cons, Prod.mk.injEq, ih]
      constructor
      · rintro (⟨h1, h2⟩ | ⟨k, v, h1, h2, h3⟩)
        · exact ⟨0, a, by omega, by simp, h2⟩
        · exact ⟨k + 1, v, by omega, by simpa using h2, h3⟩
      · rintro ⟨k, v, h1, h2, h3⟩
        cases k with
        | zero =>
          left
          simp at h2
          subst h2
          exact ⟨by omega, h3⟩
        | succ k => exact Or.inr ⟨k, v, by omega, by simpa using h2, h3⟩
def eLR (G : eG) (ls : Array Slot) (nL : Nat) (lo : eLo) : Prop := lo.length = nL ∧ lv_has ls nL (eAs (eVal G) 0 lo)
theorem eLR.at {G : eG} {ls : Array Slot} {nL i : Nat} {lo : eLo} {v : Value} (h : eLR G ls nL lo) (hi : lo[i]? = some (some v)) : ls[i]? = some (.val (eVal G v)) :=
  h.2.2.2 (i, eVal G v) ((eAs_mem _ lo 0 i _).mpr ⟨i, v, by omega, hi, rfl⟩)
theorem eLR.st1 {G : eG} {ls ls' : Array Slot} {nL i : Nat} {lo : eLo} {v : Value} (h : eLR G ls nL lo) (h' : lv_has ls' nL ((i, eVal G v) :: (eAs (eVal G) 0 lo).filter (fun q => !(q.1 == i) && !(q.1 + 1 == i && q.2.category == 2)))) : eLR G ls' nL (eSt1 lo i v) := by
  refine ⟨by simp [eSt1, eKill_len, h.1], h'.1, h'.2.1, fun q hq => h'.2.2 q ?_⟩
  obtain ⟨j, w⟩ := q
  obtain ⟨k, u, e1, e2, e3⟩ := (eAs_mem _ _ 0 j w).mp hq
  simp only [Nat.zero_add] at e1
  subst e1
  subst e3
  unfold eSt1 at e2
  rw [List.getElem?_set] at e2
  split at e2
  · rename_i he
    subst he
    split at e2
    · cases e2
      exact List.mem_cons_self
    · cases e2
  · rename_i hne
    obtain ⟨g1, g2⟩ := eKill_at e2
    refine List.mem_cons_of_mem _ (List.mem_filter.mpr ⟨(eAs_mem _ _ 0 j _).mpr ⟨j, u, by omega, g1, rfl⟩, ?_⟩)
    simp only [eVal_cat, Bool.and_eq_true, Bool.not_eq_true', beq_eq_false_iff_ne, ne_eq, Bool.and_eq_false_imp, beq_iff_eq]
    exact ⟨fun e => hne e.symm, fun e1 e2 => g2 ⟨e1, e2⟩⟩
theorem eLR.st2 {G : eG} {ls ls' : Array Slot} {nL i : Nat} {lo : eLo} {v : Value} (h : eLR G ls nL lo) (h' : lv_has ls' nL ((i, eVal G v) :: (eAs (eVal G) 0 lo).filter (fun q => !(q.1 == i) && (!(q.1 == i + 1) && !(q.1 + 1 == i && q.2.category == 2))))) : eLR G ls' nL (eSt2 lo i v) := by
  refine ⟨by simp [eSt2, eKill_len, h.1], h'.1, h'.2.1, fun q hq => h'.2.2 q ?_⟩
  obtain ⟨j, w⟩ := q
  obtain ⟨k, u, e1, e2, e3⟩ := (eAs_mem _ _ 0 j w).mp hq
  simp only [Nat.zero_add] at e1
  subst e1
  subst e3
  unfold eSt2 at e2
  rw [List.getElem?_set] at e2
  split at e2
  · split at e2 <;> cases e2
  · rename_i hn2
    rw [List.getElem?_set] at e2
    split at e2
    · rename_i he
      subst he
      split at e2
      · cases e2
        exact List.mem_cons_self
      · cases e2
    · rename_i hne
      obtain ⟨g1, g2⟩ := eKill_at e2
      refine List.mem_cons_of_mem _ (List.mem_filter.mpr ⟨(eAs_mem _ _ 0 j _).mpr ⟨j, u, by omega, g1, rfl⟩, ?_⟩)
      simp only [eVal_cat, Bool.and_eq_true, Bool.not_eq_true', beq_eq_false_iff_ne, ne_eq, Bool.and_eq_false_imp, beq_iff_eq]
      exact ⟨fun e => hne e.symm, fun e => hn2 e.symm, fun e1 e2 => g2 ⟨e1, e2⟩⟩
end
section
theorem eI1_some {st : List Value} {f : Int32 → List Value → Option eT} {t : eT} (h : eI1 st f = some t) : ∃ x r, st = .int x :: r ∧ f x r = some t := by
  unfold eI1 at h
  split at h
  · exact ⟨_, _, rfl, h⟩
  · cases h
theorem eI2_some {st : List Value} {f : Int32 → Int32 → List Value → Option eT} {t : eT} (h : eI2 st f = some t) : ∃ x y r, st = .int y :: .int x :: r ∧ f x y r = some t := by
  unfold eI2 at h
  split at h
  · exact ⟨_, _, _, rfl, h⟩
  · cases h
theorem eJ1_some {st : List Value} {f : Int64 → List Value → Option eT} {t : eT} (h : eJ1 st f = some t) : ∃ x r, st = .long x :: r ∧ f x r = some t := by
  unfold eJ1 at h
  split at h
  · exact ⟨_, _, rfl, h⟩
  · cases h
theorem eJ2_some {st : List Value} {f : Int64 → Int64 → List Value → Option eT} {t : eT} (h : eJ2 st f = some t) : ∃ x y r, st = .long y :: .long x :: r ∧ f x y r = some t := by
  unfold eJ2 at h
  split at h
  · exact ⟨_, _, _, rfl, h⟩
  · cases h
theorem eJI_some {st : List Value} {f : Int64 → Int32 → List Value → Option eT} {t : eT} (h : eJI st f = some t) : ∃ x y r, st = .int y :: .long x :: r ∧ f x y r = some t := by
  unfold eJI at h
  split at h
  · exact ⟨_, _, _, rfl, h⟩
  · cases h
theorem eR1_some {st : List Value} {f : Nat → List Value → Option eT} {t : eT} (h : eR1 st f = some t) : ∃ x r, st = .ref x :: r ∧ f x r = some t := by
  unfold eR1 at h
  split at h
  · exact ⟨_, _, rfl, h⟩
  · cases h
theorem eQ1_some {st : List Value} {f : Option Nat → List Value → Option eT} {t : eT} (h : eQ1 st f = some t) : ∃ x r, st = eRf x :: r ∧ f x r = some t := by
  unfold eQ1 at h
  split at h
  · exact ⟨some _, _, rfl, h⟩
  · exact ⟨none, _, rfl, h⟩
  · cases h
theorem eIA_some {st : List Value} {f : Nat → Int32 → List Value → Option eT} {t : eT} (h : eIA st f = some t) : ∃ a i r, st = .int i :: .ref a :: r ∧ f a i r = some t := by
  unfold eIA at h
  split at h
  · exact ⟨_, _, _, rfl, h⟩
  · cases h
theorem eGet_some {lo : eLo} {i : Nat} {v : Value} (h : eGet lo i = some v) : lo[i]? = some (some v) := by
  unfold eGet at h
  cases hq : lo[i]? with
  | none => rw [hq] at h; cases h
  | some o => rw [hq] at h; cases o with
    | none => cases h
    | some u => cases h; rfl
theorem eLoI_some {lo : eLo} {i : Nat} {f : Int32 → Option eT} {t : eT} (h : eLoI lo i f = some t) : ∃ x, lo[i]? = some (some (.int x)) ∧ f x = some t := by
  unfold eLoI at h
  split at h
  · rename_i x hx
    exact ⟨_, eGet_some hx, h⟩
  · cases h
theorem eLoJ_some {lo : eLo} {i : Nat} {f : Int64 → Option eT} {t : eT} (h : eLoJ lo i f = some t) : ∃ x, lo[i]? = some (some (.long x)) ∧ f x = some t := by
  unfold eLoJ at h
  split at h
  · rename_i x hx
    exact ⟨_, eGet_some hx, h⟩
  · cases h
theorem eLoA_some {lo : eLo} {i : Nat} {f : Option Nat → Option eT} {t : eT} (h : eLoA lo i f = some t) : ∃ x, lo[i]? = some (some (eRf x)) ∧ f x = some t := by
  unfold eLoA at h
  split at h
  · rename_i x hx
    exact ⟨some _, eGet_some hx, h⟩
  · rename_i hx
    exact ⟨none, eGet_some hx, h⟩
  · cases h
theorem eN_inj {pc : Nat} {lo : eLo} {st : List Value} {h : eH} {x : eS} (q : eN pc lo st h = some x) : (pc, lo, st, h) = x := by
  exact Option.some.inj q
theorem eTo_some {pc : Nat} {off : Int} {f : Nat → Option eT} {t : eT} (h : eTo pc off f = some t) : ∃ tgt : Nat, (pc : Int) + off = (tgt : Int) ∧ f tgt = some t := by
  unfold eTo at h
  split at h
  · rename_i n hn
    exact ⟨n, hn, h⟩
  · cases h
theorem eBr_some {b : Bool} {pc : Nat} {off : Int} {lo : eLo} {r : List Value} {h : eH} {x : eS} (q : eBr b pc off lo r h = some x) : ∃ tgt : Nat, (pc : Int) + off = (tgt : Int) ∧ ((b = true ∧ (tgt, lo, r, h) = x) ∨ (b = false ∧ (pc + 3, lo, r, h) = x)) := by
  obtain ⟨tgt, h1, h2⟩ := eTo_some q
  refine ⟨tgt, h1, ?_⟩
  cases b
  · exact Or.inr ⟨rfl, eN_inj h2⟩
  · exact Or.inl ⟨rfl, eN_inj h2⟩
theorem eIn_some {i : Int32} {n : Nat} {x : Option eT} {t : eT} (h : eIn i n x = some t) : ¬ (i < 0 ∨ n ≤ i.toNatClampNeg) ∧ x = some t := by
  unfold eIn at h
  split at h
  · cases h
  · rename_i hn
    exact ⟨hn, h⟩
theorem eIf_then {c : Prop} {d : Decidable c} {y : Option eT} {t : eT} (h : (if c then none else y) = some t) : ¬ c ∧ y = some t := by
  split at h
  · cases h
  · rename_i hn
    exact ⟨hn, h⟩
theorem eIf_else {c : Prop} {d : Decidable c} {y : Option eT} {t : eT} (h : (if c then y else none) = some t) : c ∧ y = some t := by
  split at h
  · rename_i hn
    exact ⟨hn, h⟩
  · cases h
def eIl (i : Instr) : Nat := match i with
  | .bipush _ => 2
  | .iload _ => 2
  | .lload _ => 2
  | .aload _ => 2
  | .istore _ => 2
  | .lstore _ => 2
  | .astore _ => 2
  | .ldc _ => 2
  | .newarray _ => 2
  | .sipush _ => 3
  | .ldc2_w _ => 3
  | .iinc _ _ => 3
  | .goto _ => 3
  | .ifCond _ _ => 3
  | .if_icmp _ _ => 3
  | .ifnull _ => 3
  | .getfield _ => 3
  | .putfield _ => 3
  | .anewarray _ => 3
  | .new _ => 3
  | .invokestatic _ => 3
  | .invokevirtual _ => 3
  | .invokespecial _ => 3
  | .tableswitch _ _ _ _ => 0
  | _ => 1
theorem eRel.at {G : eG} {h : eH} {H : Heap} {a : Nat} {x : eE} (q : eRel G h H) (ha : ¬ a = 0) (hx : h.1 a = some x) : va_at G.D G.cl (eAd G a, eCo G x) H := by
  rw [eAd_pos ha]
  exact (q.2.2 a x hx (by omega)).2
theorem eRel.set {G : eG} {h : eH} {H H1 : Heap} {a : Nat} {x0 x : eE} (q : eRel G h H) (ha : ¬ a = 0) (hx : h.1 a = some x0) (hz : H1.size = H.size) (ho : ∀ z, z ≠ eAd G a → H1[z]? = H[z]?) (hat : va_at G.D G.cl (eAd G a, eCo G x) H1) : eRel G (eSetH h a x) H1 := by
  rw [eAd_pos ha] at ho hat
  refine ⟨by rw [hz]; exact q.1, q.2.1, fun r y hy h1 => ?_⟩
  have hy' : (if r = a then some x else h.1 r) = some y := hy
  by_cases hr : r = a
  · subst hr
    rw [if_pos rfl] at hy'
    cases hy'
    exact ⟨(q.2.2 r x0 hx h1).1, hat⟩
  · rw [if_neg hr] at hy'
    obtain ⟨h2, h3⟩ := q.2.2 r y hy' h1
    exact ⟨h2, h3.kept (ho _ (by show G.B + r ≠ G.B + a; omega))⟩
theorem eRel.new {G : eG} {h : eH} {H H1 : Heap} (q : eRel G h H) (x : eE) (n : Nat) (hz : H1.size = H.size + 1) (ho : ∀ z, z < H.size → H1[z]? = H[z]?) (hat : va_at G.D G.cl (H.size, eCo G x) H1) : eRel G (eNew h x n) H1 := by
  refine ⟨by rw [hz, q.1]; rfl, by show 1 ≤ h.2.1 + 1; omega, fun r y hy h1 => ?_⟩
  have hy' : (if r = h.2.1 then some x else h.1 r) = some y := hy
  by_cases hr : r = h.2.1
  · subst hr
    rw [if_pos rfl] at hy'
    cases hy'
    exact ⟨Nat.lt_succ_self _, by rw [← q.1]; exact hat⟩
  · rw [if_neg hr] at hy'
    obtain ⟨h2, h3⟩ := q.2.2 r y hy' h1
    exact ⟨Nat.lt_succ_of_lt h2, h3.kept (ho _ (by show G.B + r < H.size; rw [q.1]; omega))⟩
theorem eRel.next {G : eG} {h : eH} {H : Heap} (q : eRel G h H) : eAd G h.2.1 = H.size := by
  rw [eAd_pos (by have := q.2.1; omega), q.1]
def eA0 (G : eG) : Nat → Prop := fun q => G.B < q
def eTy (G : eG) (N : eW) : List (ClassId × FieldType) := N.ty.zipIdx.map fun q => (G.ca q.2, q.1)
theorem eTy_at {G : eG} {N : eW} {t : Nat} {ty : FieldType} (h : N.ty[t]? = some ty) : (eTy G N)[t]? = some (G.ca t, ty) := by
  simp [eTy, h]
theorem eS_new {G : eG} {H0 H H1 : Heap} {locs : List Loc} (hS : va_S (eA0 G) H0 H locs) (hz : H1.size = H.size + 1) (ho : ∀ z, z < H.size → H1[z]? = H[z]?) : va_S (eA0 G) H0 H1 locs :=
  ⟨Nat.le_trans hS.1 (by omega), fun x h1 h2 => (ho x (Nat.lt_of_lt_of_le h1 hS.1)).trans (hS.2.1 x h1 h2), hS.2.2⟩
def eGdw (w : Cond) : Bool := (w.onTables && w.keeps) || (match w with
  | .arrayClass _ => true
  | _ => false)
def lw_gd : List Cond := lw_tbl.filter eGdw
theorem lw_gd_in {w : Cond} (h : w ∈ lw_tbl) (hg : eGdw w = true) : w ∈ lw_gd := List.mem_filter.mpr ⟨h, hg⟩
theorem lw_gd_good : GoodIn lw_gd lw_gd := fun w hw => ⟨hw, by
  have hg : eGdw w = true := (List.mem_filter.mp hw).2
  unfold eGdw at hg
  rcases Bool.or_eq_true_iff.mp hg with h | h
  · exact Or.inl h
  · right
    split at h
    · exact ⟨_, rfl⟩
    · cases h⟩
def exSp (C : String) : List Cond := [.declares (Bundle.initS "java/lang/RuntimeException"), .declares (Bundle.initS "java/lang/Exception"), .declares (Bundle.initS Bundle.tN), .castable C C,
  .laysStatic Bundle.tN "UNASSIGNED_STACK" Bundle.steD, .laysStatic Bundle.tN "SUPPRESSED_SENTINEL" Bundle.listD, .isRef (.static Bundle.tN "UNASSIGNED_STACK" Bundle.steD), .isRef (.static Bundle.tN "SUPPRESSED_SENTINEL" Bundle.listD)]
def exSt (G : eG) (U : State) : Prop := ∀ cl k st, U.vm.findClass Bundle.tN = some cl → U.vm.classes[cl]? = some k → k.statics = some st → st ≤ G.B
theorem exSt.moved {G : eG} {s U : State} (hv : s.vm.Alike U.vm) (h : exSt G s) : exSt G U := fun cl k st h1 h2 h3 => by
  rw [hv.findClass] at h1
  obtain ⟨k0, hk0⟩ := Vm.classAt_of_findClass h1
  obtain ⟨k', hk', he⟩ := hv.2.2 _ _ hk0
  cases h2.symm.trans hk'
  exact h cl k0 st h1 hk0 (by rw [he] at h3; exact h3)
theorem exLays {G : eG} {s U : State} {F D : String} (hv : s.vm.Alike U.vm) (hH : ∀ q, q ≤ G.B → U.heap[q]? = s.heap[q]?) (h0 : exSt G s) (w : (Cond.laysStatic Bundle.tN F D).before #[] s = true) : (Cond.laysStatic Bundle.tN F D).before #[] U = true := by
  obtain ⟨cl, k, i, f, a, cell, hc, hi, hst, ha, hcell, hs, hcls, hlt, hty⟩ := Cond.laysStatic_spec w
  obtain ⟨k', hi', hek⟩ := State.fieldFound?_setVm hv hi
  have hb := h0 cl k a hc (State.fieldFound?_class hi) ha
  exact Cond.laysStatic_of (by rw [hv.findClass]; exact hc) hi' hst (by rw [hek]; exact ha) (by rw [hH a hb]; exact hcell) hs hcls hlt (by rw [hek]; exact hty)
theorem exRef {G : eG} {s U : State} {F D : String} (hv : s.vm.Alike U.vm) (hH : ∀ q, q ≤ G.B → U.heap[q]? = s.heap[q]?) (h0 : exSt G s) (w : (Cond.laysStatic Bundle.tN F D).before #[] s = true) (r : (Cond.isRef (.static Bundle.tN F D)).before #[] s = true) : (Cond.isRef (.static Bundle.tN F D)).before #[] U = true := by
  obtain ⟨cl, k, i, f, a, cell, hc, hi, hst, ha, hcell, hs, hcls, hlt, hty⟩ := Cond.laysStatic_spec w
  obtain ⟨k', hi', hek⟩ := State.fieldFound?_setVm hv hi
  have hb := h0 cl k a hc (State.fieldFound?_class hi) ha
  have hi2 : U.fieldFound? Bundle.tN F D = some (cl, k', i, f) := hi'
  have ha' : k'.statics = some a := by rw [hek]; exact ha
  have hcell' : U.heap[a]? = some cell := by rw [hH a hb]; exact hcell
  have e1 : (Term.static Bundle.tN F D).eval #[] s none [] s = cell.slots[f.slot]? := by simp [Term.eval, State.fieldNamed?, hi, hst, ha, hcell, hs]
  have e2 : (Term.static Bundle.tN F D).eval #[] U none [] U = cell.slots[f.slot]? := by simp [Term.eval, State.fieldNamed?, hi2, hst, ha', hcell', hs]
  simp only [Cond.before, Cond.holds, Cond.value, e1] at r
  simp only [Cond.before, Cond.holds, Cond.value, e2]
  exact r
def eFx (P : eP) (N : eW) (G : eG) (U : State) : Prop := ((exSt G U ∧ ∀ k pc q, P.thr k pc = some q → (∃ tx a, vk_R (N.cn (eOwn P k)) q.2.2.1 tx a U) ∧ ∀ w ∈ exSp (N.cn q.1), w.before #[] U = true)) ∧ (∀ o ix t, P.arr o ix = some t → ∃ C, N.ty[t]? = some (.object C) ∧ va_AO C U) ∧
  (∀ o ix k n, P.mth o ix = some (2, k, n) → Cond.methodLink (N.cn o) ix (N.mn k) ∈ lw_gd ∨ ∃ host, va_Nw (.methodLinkNest (N.cn o) ix (N.mn k) host) U) ∧
  ∀ k q, q ∈ eHs P k → ∀ c1 r, G.cl[c1]? = some r → ¬ q.2.2.2 = c1 → va_Nc (N.cn c1) (N.cn q.2.2.2) U
theorem exSp_moved {G : eG} {s U : State} {C : String} (hW : s.WarmedH U.vm) (hH : ∀ q, q ≤ G.B → U.heap[q]? = s.heap[q]?) (h0 : exSt G s) (h : ∀ w ∈ exSp C, w.before #[] s = true) : ∀ w ∈ exSp C, w.before #[] U = true := by
  have l1 := h (.laysStatic Bundle.tN "UNASSIGNED_STACK" Bundle.steD) (by simp [exSp])
  have l2 := h (.laysStatic Bundle.tN "SUPPRESSED_SENTINEL" Bundle.listD) (by simp [exSp])
  intro w hw
  simp only [exSp, List.mem_cons, List.not_mem_nil, or_false] at hw
  rcases hw with rfl | rfl | rfl | rfl | rfl | rfl | rfl | rfl
  · exact va_Nw.warmD hW (h _ (by simp [exSp]))
  · exact va_Nw.warmD hW (h _ (by simp [exSp]))
  · exact va_Nw.warmD hW (h _ (by simp [exSp]))
  · exact va_Nw.warmC hW (h _ (by simp [exSp]))
  · exact exLays hW.alike hH h0 l1
  · exact exLays hW.alike hH h0 l2
  · exact exRef hW.alike hH h0 l1 (h _ (by simp [exSp]))
  · exact exRef hW.alike hH h0 l2 (h _ (by simp [exSp]))
theorem eFx.warm {P : eP} {N : eW} {G : eG} {s U : State} (hW : s.WarmedH U.vm) (hH : ∀ q, q ≤ G.B → U.heap[q]? = s.heap[q]?) (h : eFx P N G s) : eFx P N G U :=
  ⟨⟨h.1.1.moved hW.alike, fun k pc q hq => by
    obtain ⟨⟨tx, a, hZ⟩, hw⟩ := h.1.2 k pc q hq
    exact ⟨⟨tx, a, hZ.warm hW⟩, exSp_moved hW hH h.1.1 hw⟩⟩, fun o ix t ht => by
    obtain ⟨C, h1, h2⟩ := h.2.1 o ix t ht
    exact ⟨C, h1, h2.moved hW.alike⟩, fun o ix k n hm => by
    rcases h.2.2.1 o ix k n hm with h1 | ⟨host, h1⟩
    · exact Or.inl h1
    · exact Or.inr ⟨host, h1.warmM hW⟩, fun k q hq c1 r hr hne => (h.2.2.2 k q hq c1 r hr hne).moved hW.alike⟩
def eCx (P : eP) (N : eW) (G : eG) (X : Nat × (Nat → Int32)) (p : Program) (s : State) (m : MethodId) (args : Array Value) (meth : Method) (c : Code) (k : Nat) : Prop :=
  p.tables.exec = Jvm.exec ∧ c.code = N.cd k ∧ c.maxLocals = eNL P k ∧ s.vm.findClass (N.cn (eOwn P k)) = some m.cls ∧ (∀ w ∈ lw_gd, w.before args s = true) ∧ va_K G.D G.cl (eTy G N) s ∧
  (va_X G.b X.1 X.2 s s.heap ∧ G.b ≤ G.B ∧ G.B < s.heap.size) ∧ eFx P N G s ∧ (P.ini k = true → meth.name = "<init>") ∧ meth.sig.returnType = eRt P k ∧ meth.locks = false ∧ (eHs P k = [] → c.exceptionTable.toList = []) ∧ ∀ raw, Cond.codeWith (N.mn k) (N.cd k) (eNL P k) (eRt P k) raw ∈ lw_gd → c.exceptionTable.toList.map (fun h => (h.startPc, h.endPc, h.handlerPc, h.catchType)) = raw
def gIns (P : eP) (N : eW) : Prop := ∀ k pc i len, P.ins k pc = some (i, len) → decode (N.cd k) pc = .ok (i, len) ∧ (eIl i = 0 ∨ len = eIl i)
def gFld (P : eP) (N : eW) (cl : List vw_C) : Prop := ∀ o ix c j ty fin, P.fld o ix = some (c, j, ty, fin) → ∃ (C : String) (T : u_T) (n : Nat) (ty0 : Nat → FieldType), cl[c]? = some (C, T, n) ∧ j < n ∧ C = N.cn c ∧ (T j).1 = C ∧
  Cond.fieldLink (N.cn o) ix C (T j).2.1 (T j).2.2.1 ∈ lw_gd ∧ (∀ w ∈ u_ws C T n, w ∈ lw_gd) ∧ (T j).2.2.2 = fin ∧ parseFieldDescriptor (T j).2.2.1 = some ty ∧
  (∀ k, k < n → parseFieldDescriptor (T k).2.2.1 = some (ty0 k)) ∧ (∀ a, a < n → ∀ b, b < n → a ≠ b → (T a).2.1 ≠ (T b).2.1)
def eBa (P : eP) (G : eG) (s : State) (k c0 s0 : Nat) (lo : eLo) (h : eH) (H : Heap) (locs : List Loc) (cells slots : Nat) (ls : Array Slot) : Prop :=
  eLR G ls (eNL P k) lo ∧ eRel G h H ∧ va_S (eA0 G) s.heap H locs ∧ cells + c0 = h.2.1 ∧ slots + s0 = h.2.2
section ES
variable {p : Program} {l : Launch} {e : Env} {R : Room} {s : State} {m : MethodId} {args : Array Value} {below : List Frame} {meth : Method} {c : Code} {H : Heap} {locs : List Loc} {cells slots : Nat} {Q : State → Prop}
variable {P : eP} {N : eW} {G : eG} {X : Nat × (Nat → Int32)} {k pc c0 s0 : Nat} {ls : Array Slot} {lo : eLo} {st : List Value} {h : eH} {x : eS}
def eNext (P : eP) (G : eG) (p : Program) (l : Launch) (e : Env) (R : Room) (s : State) (m : MethodId) (args : Array Value) (below : List Frame) (meth : Method) (c : Code) (Q : State → Prop) (k c0 s0 : Nat) (x : eS) : Prop :=
  ∀ (H : Heap) (locs : List Loc) (cells slots : Nat) (ls : Array Slot), eBa P G s k c0 s0 x.2.1 x.2.2.2 H locs cells slots ls → W p l e R s m args below meth c H locs cells slots Q (F0 m x.1 ls (x.2.2.1.map (eVal G)))
def eGoal (P : eP) (G : eG) (p : Program) (l : Launch) (e : Env) (R : Room) (s : State) (m : MethodId) (args : Array Value) (below : List Frame) (meth : Method) (c : Code) (H : Heap) (locs : List Loc) (cells slots : Nat) (Q : State → Prop) (k c0 s0 pc : Nat) (ls : Array Slot) (st : List Value) (h : eH) (x : eS) : Prop :=
  (h.2.1 ≤ x.2.2.2.2.1 ∧ h.2.2 ≤ x.2.2.2.2.2) ∧ (x.2.2.2.2.1 ≤ R.cells + c0 → x.2.2.2.2.2 ≤ R.slots + s0 → 1 ≤ R.frames → 100 ≤ R.locals → eNext P G p l e R s m args below meth c Q k c0 s0 x → W p l e R s m args below meth c H locs cells slots Q (F0 m pc ls (st.map (eVal G))))
theorem es_iconst {n : Int} (cx : eCx P N G X p s m args meth c k) (hd : decode (N.cd k) pc = .ok (.iconst n, 1)) (hi : eIns P X k (.iconst n) pc lo st h = some x) (b : eBa P G s k c0 s0 lo h H locs cells slots ls) :
    eGoal P G p l e R s m args below meth c H locs cells slots Q k c0 s0 pc ls st h x := by
  obtain rfl := eN_inj hi
  exact ⟨⟨Nat.le_refl _, Nat.le_refl _⟩, fun _ _ _ _ kk => lv_iconst cx.1 cx.2.1 hd rfl (kk _ _ _ _ _ b)⟩
theorem es_bipush {n : Int} (cx : eCx P N G X p s m args meth c k) (hd : decode (N.cd k) pc = .ok (.bipush n, 2)) (hi : eIns P X k (.bipush n) pc lo st h = some x) (b : eBa P G s k c0 s0 lo h H locs cells slots ls) :
    eGoal P G p l e R s m args below meth c H locs cells slots Q k c0 s0 pc ls st h x := by
  obtain rfl := eN_inj hi
  exact ⟨⟨Nat.le_refl _, Nat.le_refl _⟩, fun _ _ _ _ kk => lv_bipush cx.1 cx.2.1 hd rfl (kk _ _ _ _ _ b)⟩
theorem es_sipush {n : Int} (cx : eCx P N G X p s m args meth c k) (hd : decode (N.cd k) pc = .ok (.sipush n, 3)) (hi : eIns P X k (.sipush n) pc lo st h = some x) (b : eBa P G s k c0 s0 lo h H locs cells slots ls) :
    eGoal P G p l e R s m args below meth c H locs cells slots Q k c0 s0 pc ls st h x := by
  obtain rfl := eN_inj hi
  exact ⟨⟨Nat.le_refl _, Nat.le_refl _⟩, fun _ _ _ _ kk => lv_sipush cx.1 cx.2.1 hd rfl (kk _ _ _ _ _ b)⟩
theorem es_lconst {n : Fin 2} (cx : eCx P N G X p s m args meth c k) (hd : decode (N.cd k) pc = .ok (.lconst n, 1)) (hi : eIns P X k (.lconst n) pc lo st h = some x) (b : eBa P G s k c0 s0 lo h H locs cells slots ls) :
    eGoal P G p l e R s m args below meth c H locs cells slots Q k c0 s0 pc ls st h x := by
  obtain rfl := eN_inj hi
  exact ⟨⟨Nat.le_refl _, Nat.le_refl _⟩, fun _ _ _ _ kk => lv_lconst cx.1 cx.2.1 hd rfl (kk _ _ _ _ _ b)⟩
theorem es_aconst_null (cx : eCx P N G X p s m args meth c k) (hd : decode (N.cd k) pc = .ok (.aconst_null, 1)) (hi : eIns P X k (.aconst_null) pc lo st h = some x) (b : eBa P G s k c0 s0 lo h H locs cells slots ls) :
    eGoal P G p l e R s m args below meth c H locs cells slots Q k c0 s0 pc ls st h x := by
  obtain rfl := eN_inj hi
  exact ⟨⟨Nat.le_refl _, Nat.le_refl _⟩, fun _ _ _ _ kk => lv_null cx.1 cx.2.1 hd (kk _ _ _ _ _ b)⟩
theorem es_iload {i : Nat} (cx : eCx P N G X p s m args meth c k) (hd : decode (N.cd k) pc = .ok (.iload i, 2)) (hi : eIns P X k (.iload i) pc lo st h = some x) (b : eBa P G s k c0 s0 lo h H locs cells slots ls) :
    eGoal P G p l e R s m args below meth c H locs cells slots Q k c0 s0 pc ls st h x := by
  obtain ⟨y, h1, h2⟩ := eLoI_some hi
  obtain rfl := eN_inj h2
  exact ⟨⟨Nat.le_refl _, Nat.le_refl _⟩, fun _ _ _ _ kk => lv_iload cx.1 cx.2.1 hd (b.1.at h1) (kk _ _ _ _ _ b)⟩
theorem es_iload_n {i : Fin 4} (cx : eCx P N G X p s m args meth c k) (hd : decode (N.cd k) pc = .ok (.iload_n i, 1)) (hi : eIns P X k (.iload_n i) pc lo st h = some x) (b : eBa P G s k c0 s0 lo h H locs cells slots ls) :
    eGoal P G p l e R s m args below meth c H locs cells slots Q k c0 s0 pc ls st h x := by
  obtain ⟨y, h1, h2⟩ := eLoI_some hi
  obtain rfl := eN_inj h2
  exact ⟨⟨Nat.le_refl _, Nat.le_refl _⟩, fun _ _ _ _ kk => lv_iload_n cx.1 cx.2.1 hd rfl (b.1.at h1) (kk _ _ _ _ _ b)⟩
theorem es_lload {i : Nat} (cx : eCx P N G X p s m args meth c k) (hd : decode (N.cd k) pc = .ok (.lload i, 2)) (hi : eIns P X k (.lload i) pc lo st h = some x) (b : eBa P G s k c0 s0 lo h H locs cells slots ls) :
    eGoal P G p l e R s m args below meth c H locs cells slots Q k c0 s0 pc ls st h x := by
  obtain ⟨y, h1, h2⟩ := eLoJ_some hi
  obtain rfl := eN_inj h2
  exact ⟨⟨Nat.le_refl _, Nat.le_refl _⟩, fun _ _ _ _ kk => lv_lload cx.1 cx.2.1 hd (b.1.at h1) (kk _ _ _ _ _ b)⟩
theorem es_lload_n {i : Fin 4} (cx : eCx P N G X p s m args meth c k) (hd : decode (N.cd k) pc = .ok (.lload_n i, 1)) (hi : eIns P X k (.lload_n i) pc lo st h = some x) (b : eBa P G s k c0 s0 lo h H locs cells slots ls) :
    eGoal P G p l e R s m args below meth c H locs cells slots Q k c0 s0 pc ls st h x := by
  obtain ⟨y, h1, h2⟩ := eLoJ_some hi
  obtain rfl := eN_inj h2
  exact ⟨⟨Nat.le_refl _, Nat.le_refl _⟩, fun _ _ _ _ kk => lv_lload_n cx.1 cx.2.1 hd rfl (b.1.at h1) (kk _ _ _ _ _ b)⟩
theorem es_aload {i : Nat} (cx : eCx P N G X p s m args meth c k) (hd : decode (N.cd k) pc = .ok (.aload i, 2)) (hi : eIns P X k (.aload i) pc lo st h = some x) (b : eBa P G s k c0 s0 lo h H locs cells slots ls) :
    eGoal P G p l e R s m args below meth c H locs cells slots Q k c0 s0 pc ls st h x := by
  simp only [eIns] at hi
  obtain ⟨y, h1, h2⟩ := eLoA_some hi
  obtain rfl := eN_inj h2
  cases y with
  | none => exact ⟨⟨Nat.le_refl _, Nat.le_refl _⟩, fun _ _ _ _ kk => lv_aloadN cx.1 cx.2.1 hd (b.1.at h1) (kk _ _ _ _ _ b)⟩
  | some y => exact ⟨⟨Nat.le_refl _, Nat.le_refl _⟩, fun _ _ _ _ kk => lv_aload cx.1 cx.2.1 hd (b.1.at h1) (kk _ _ _ _ _ b)⟩
theorem es_aload_n {i : Fin 4} (cx : eCx P N G X p s m args meth c k) (hd : decode (N.cd k) pc = .ok (.aload_n i, 1)) (hi : eIns P X k (.aload_n i) pc lo st h = some x) (b : eBa P G s k c0 s0 lo h H locs cells slots ls) :
    eGoal P G p l e R s m args below meth c H locs cells slots Q k c0 s0 pc ls st h x := by
  simp only [eIns] at hi
  obtain ⟨y, h1, h2⟩ := eLoA_some hi
  obtain rfl := eN_inj h2
  cases y with
  | none => exact ⟨⟨Nat.le_refl _, Nat.le_refl _⟩, fun _ _ _ _ kk => lv_aload_nN cx.1 cx.2.1 hd rfl (b.1.at h1) (kk _ _ _ _ _ b)⟩
  | some y => exact ⟨⟨Nat.le_refl _, Nat.le_refl _⟩, fun _ _ _ _ kk => lv_aload_n cx.1 cx.2.1 hd rfl (b.1.at h1) (kk _ _ _ _ _ b)⟩
theorem es_istore {i : Nat} (cx : eCx P N G X p s m args meth c k) (hd : decode (N.cd k) pc = .ok (.istore i, 2)) (hi : eIns P X k (.istore i) pc lo st h = some x) (b : eBa P G s k c0 s0 lo h H locs cells slots ls) :
    eGoal P G p l e R s m args below meth c H locs cells slots Q k c0 s0 pc ls st h x := by
  obtain ⟨y, r, rfl, h2⟩ := eI1_some hi
  obtain ⟨h3, h2⟩ := eIf_else h2
  obtain rfl := eN_inj h2
  exact ⟨⟨Nat.le_refl _, Nat.le_refl _⟩, fun _ _ _ _ kk => lv_istore cx.1 cx.2.1 hd b.1.2 (by rw [← b.1.1]; exact h3) rfl (fun ls1 h4 => kk _ _ _ _ _ ⟨b.1.st1 (v := .int y) h4, b.2⟩)⟩
theorem es_lstore {i : Nat} (cx : eCx P N G X p s m args meth c k) (hd : decode (N.cd k) pc = .ok (.lstore i, 2)) (hi : eIns P X k (.lstore i) pc lo st h = some x) (b : eBa P G s k c0 s0 lo h H locs cells slots ls) :
    eGoal P G p l e R s m args below meth c H locs cells slots Q k c0 s0 pc ls st h x := by
  obtain ⟨y, r, rfl, h2⟩ := eJ1_some hi
  obtain ⟨h3, h2⟩ := eIf_else h2
  obtain rfl := eN_inj h2
  exact ⟨⟨Nat.le_refl _, Nat.le_refl _⟩, fun _ _ _ _ kk => lv_lstore cx.1 cx.2.1 hd b.1.2 (by rw [← b.1.1]; exact h3) rfl (fun ls1 h4 => kk _ _ _ _ _ ⟨b.1.st2 (v := .long y) h4, b.2⟩)⟩
theorem es_astore {i : Nat} (cx : eCx P N G X p s m args meth c k) (hd : decode (N.cd k) pc = .ok (.astore i, 2)) (hi : eIns P X k (.astore i) pc lo st h = some x) (b : eBa P G s k c0 s0 lo h H locs cells slots ls) :
    eGoal P G p l e R s m args below meth c H locs cells slots Q k c0 s0 pc ls st h x := by
  simp only [eIns] at hi
  obtain ⟨y, r, rfl, h2⟩ := eQ1_some hi
  obtain ⟨h3, h2⟩ := eIf_else h2
  obtain rfl := eN_inj h2
  cases y with
  | none => exact ⟨⟨Nat.le_refl _, Nat.le_refl _⟩, fun _ _ _ _ kk => lv_astoreN cx.1 cx.2.1 hd b.1.2 (by rw [← b.1.1]; exact h3) rfl (fun ls1 h4 => kk _ _ _ _ _ ⟨b.1.st1 (v := .null) h4, b.2⟩)⟩
  | some y => exact ⟨⟨Nat.le_refl _, Nat.le_refl _⟩, fun _ _ _ _ kk => lv_astore cx.1 cx.2.1 hd b.1.2 (by rw [← b.1.1]; exact h3) rfl (fun ls1 h4 => kk _ _ _ _ _ ⟨b.1.st1 (v := .ref y) h4, b.2⟩)⟩
theorem es_istore_n {i : Fin 4} (cx : eCx P N G X p s m args meth c k) (hd : decode (N.cd k) pc = .ok (.istore_n i, 1)) (hi : eIns P X k (.istore_n i) pc lo st h = some x) (b : eBa P G s k c0 s0 lo h H locs cells slots ls) :
    eGoal P G p l e R s m args below meth c H locs cells slots Q k c0 s0 pc ls st h x := by
  obtain ⟨y, r, rfl, h2⟩ := eI1_some hi
  obtain ⟨h3, h2⟩ := eIf_else h2
  obtain rfl := eN_inj h2
  exact ⟨⟨Nat.le_refl _, Nat.le_refl _⟩, fun _ _ _ _ kk => lv_istore_n cx.1 cx.2.1 hd rfl b.1.2 (by rw [← b.1.1]; exact h3) rfl (fun ls1 h4 => kk _ _ _ _ _ ⟨b.1.st1 (v := .int y) h4, b.2⟩)⟩
theorem es_lstore_n {i : Fin 4} (cx : eCx P N G X p s m args meth c k) (hd : decode (N.cd k) pc = .ok (.lstore_n i, 1)) (hi : eIns P X k (.lstore_n i) pc lo st h = some x) (b : eBa P G s k c0 s0 lo h H locs cells slots ls) :
    eGoal P G p l e R s m args below meth c H locs cells slots Q k c0 s0 pc ls st h x := by
  obtain ⟨y, r, rfl, h2⟩ := eJ1_some hi
  obtain ⟨h3, h2⟩ := eIf_else h2
  obtain rfl := eN_inj h2
  exact ⟨⟨Nat.le_refl _, Nat.le_refl _⟩, fun _ _ _ _ kk => lv_lstore_n cx.1 cx.2.1 hd rfl b.1.2 (by rw [← b.1.1]; exact h3) rfl (fun ls1 h4 => kk _ _ _ _ _ ⟨b.1.st2 (v := .long y) h4, b.2⟩)⟩
theorem es_astore_n {i : Fin 4} (cx : eCx P N G X p s m args meth c k) (hd : decode (N.cd k) pc = .ok (.astore_n i, 1)) (hi : eIns P X k (.astore_n i) pc lo st h = some x) (b : eBa P G s k c0 s0 lo h H locs cells slots ls) :
    eGoal P G p l e R s m args below meth c H locs cells slots Q k c0 s0 pc ls st h x := by
  simp only [eIns] at hi
  obtain ⟨y, r, rfl, h2⟩ := eQ1_some hi
  obtain ⟨h3, h2⟩ := eIf_else h2
  obtain rfl := eN_inj h2
  cases y with
  | none => exact ⟨⟨Nat.le_refl _, Nat.le_refl _⟩, fun _ _ _ _ kk => lv_astore_nN cx.1 cx.2.1 hd rfl b.1.2 (by rw [← b.1.1]; exact h3) rfl (fun ls1 h4 => kk _ _ _ _ _ ⟨b.1.st1 (v := .null) h4, b.2⟩)⟩
  | some y => exact ⟨⟨Nat.le_refl _, Nat.le_refl _⟩, fun _ _ _ _ kk => lv_astore_n cx.1 cx.2.1 hd rfl b.1.2 (by rw [← b.1.1]; exact h3) rfl (fun ls1 h4 => kk _ _ _ _ _ ⟨b.1.st1 (v := .ref y) h4, b.2⟩)⟩
theorem es_iinc {i : Nat} {n : Int} (cx : eCx P N G X p s m args meth c k) (hd : decode (N.cd k) pc = .ok (.iinc i n, 3)) (hi : eIns P X k (.iinc i n) pc lo st h = some x) (b : eBa P G s k c0 s0 lo h H locs cells slots ls) :
    eGoal P G p l e R s m args below meth c H locs cells slots Q k c0 s0 pc ls st h x := by
  obtain ⟨y, h1, h2⟩ := eLoI_some hi
  obtain ⟨h3, h2⟩ := eIf_else h2
  obtain rfl := eN_inj h2
  obtain ⟨q, hq⟩ := List.mem_iff_getElem?.mp ((eAs_mem (eVal G) lo 0 i (.int y)).mpr ⟨i, .int y, by omega, h1, rfl⟩)
  exact ⟨⟨Nat.le_refl _, Nat.le_refl _⟩, fun _ _ _ _ kk => lv_iinc (k := q) cx.1 cx.2.1 hd b.1.2 hq rfl (by rw [← b.1.1]; exact h3) rfl (fun ls1 h4 => kk _ _ _ _ _ ⟨b.1.st1 (v := .int (y + Int32.ofInt n)) h4, b.2⟩)⟩
theorem es_iadd (cx : eCx P N G X p s m args meth c k) (hd : decode (N.cd k) pc = .ok (.iadd, 1)) (hi : eIns P X k (.iadd) pc lo st h = some x) (b : eBa P G s k c0 s0 lo h H locs cells slots ls) :
    eGoal P G p l e R s m args below meth c H locs cells slots Q k c0 s0 pc ls st h x := by
  obtain ⟨y, z, r, rfl, h2⟩ := eI2_some hi
  obtain rfl := eN_inj h2
  exact ⟨⟨Nat.le_refl _, Nat.le_refl _⟩, fun _ _ _ _ kk => lv_iadd cx.1 cx.2.1 hd (kk _ _ _ _ _ b)⟩
theorem es_isub (cx : eCx P N G X p s m args meth c k) (hd : decode (N.cd k) pc = .ok (.isub, 1)) (hi : eIns P X k (.isub) pc lo st h = some x) (b : eBa P G s k c0 s0 lo h H locs cells slots ls) :
    eGoal P G p l e R s m args below meth c H locs cells slots Q k c0 s0 pc ls st h x := by
  obtain ⟨y, z, r, rfl, h2⟩ := eI2_some hi
  obtain rfl := eN_inj h2
  exact ⟨⟨Nat.le_refl _, Nat.le_refl _⟩, fun _ _ _ _ kk => lv_isub cx.1 cx.2.1 hd (kk _ _ _ _ _ b)⟩
theorem es_imul (cx : eCx P N G X p s m args meth c k) (hd : decode (N.cd k) pc = .ok (.imul, 1)) (hi : eIns P X k (.imul) pc lo st h = some x) (b : eBa P G s k c0 s0 lo h H locs cells slots ls) :
    eGoal P G p l e R s m args below meth c H locs cells slots Q k c0 s0 pc ls st h x := by
  obtain ⟨y, z, r, rfl, h2⟩ := eI2_some hi
  obtain rfl := eN_inj h2
  exact ⟨⟨Nat.le_refl _, Nat.le_refl _⟩, fun _ _ _ _ kk => lv_imul cx.1 cx.2.1 hd (kk _ _ _ _ _ b)⟩
theorem es_iand (cx : eCx P N G X p s m args meth c k) (hd : decode (N.cd k) pc = .ok (.iand, 1)) (hi : eIns P X k (.iand) pc lo st h = some x) (b : eBa P G s k c0 s0 lo h H locs cells slots ls) :
    eGoal P G p l e R s m args below meth c H locs cells slots Q k c0 s0 pc ls st h x := by
  obtain ⟨y, z, r, rfl, h2⟩ := eI2_some hi
  obtain rfl := eN_inj h2
  exact ⟨⟨Nat.le_refl _, Nat.le_refl _⟩, fun _ _ _ _ kk => lv_iand cx.1 cx.2.1 hd (kk _ _ _ _ _ b)⟩
theorem es_ior (cx : eCx P N G X p s m args meth c k) (hd : decode (N.cd k) pc = .ok (.ior, 1)) (hi : eIns P X k (.ior) pc lo st h = some x) (b : eBa P G s k c0 s0 lo h H locs cells slots ls) :
    eGoal P G p l e R s m args below meth c H locs cells slots Q k c0 s0 pc ls st h x := by
  obtain ⟨y, z, r, rfl, h2⟩ := eI2_some hi
  obtain rfl := eN_inj h2
  exact ⟨⟨Nat.le_refl _, Nat.le_refl _⟩, fun _ _ _ _ kk => lv_ior cx.1 cx.2.1 hd (kk _ _ _ _ _ b)⟩
theorem es_ishl (cx : eCx P N G X p s m args meth c k) (hd : decode (N.cd k) pc = .ok (.ishl, 1)) (hi : eIns P X k (.ishl) pc lo st h = some x) (b : eBa P G s k c0 s0 lo h H locs cells slots ls) :
    eGoal P G p l e R s m args below meth c H locs cells slots Q k c0 s0 pc ls st h x := by
  obtain ⟨y, z, r, rfl, h2⟩ := eI2_some hi
  obtain rfl := eN_inj h2
  exact ⟨⟨Nat.le_refl _, Nat.le_refl _⟩, fun _ _ _ _ kk => lv_ishl cx.1 cx.2.1 hd (kk _ _ _ _ _ b)⟩
theorem es_ishr (cx : eCx P N G X p s m args meth c k) (hd : decode (N.cd k) pc = .ok (.ishr, 1)) (hi : eIns P X k (.ishr) pc lo st h = some x) (b : eBa P G s k c0 s0 lo h H locs cells slots ls) :
    eGoal P G p l e R s m args below meth c H locs cells slots Q k c0 s0 pc ls st h x := by
  obtain ⟨y, z, r, rfl, h2⟩ := eI2_some hi
  obtain rfl := eN_inj h2
  exact ⟨⟨Nat.le_refl _, Nat.le_refl _⟩, fun _ _ _ _ kk => lv_ishr cx.1 cx.2.1 hd (kk _ _ _ _ _ b)⟩
theorem es_idiv (cx : eCx P N G X p s m args meth c k) (hd : decode (N.cd k) pc = .ok (.idiv, 1)) (hi : eIns P X k (.idiv) pc lo st h = some x) (b : eBa P G s k c0 s0 lo h H locs cells slots ls) :
    eGoal P G p l e R s m args below meth c H locs cells slots Q k c0 s0 pc ls st h x := by
  obtain ⟨y, z, r, rfl, h2⟩ := eI2_some hi
  obtain ⟨h3, h2⟩ := eIf_then h2
  obtain rfl := eN_inj h2
  exact ⟨⟨Nat.le_refl _, Nat.le_refl _⟩, fun _ _ _ _ kk => lv_idiv cx.1 cx.2.1 hd h3 (kk _ _ _ _ _ b)⟩
theorem es_ineg (cx : eCx P N G X p s m args meth c k) (hd : decode (N.cd k) pc = .ok (.ineg, 1)) (hi : eIns P X k (.ineg) pc lo st h = some x) (b : eBa P G s k c0 s0 lo h H locs cells slots ls) :
    eGoal P G p l e R s m args below meth c H locs cells slots Q k c0 s0 pc ls st h x := by
  obtain ⟨y, r, rfl, h2⟩ := eI1_some hi
  obtain rfl := eN_inj h2
  exact ⟨⟨Nat.le_refl _, Nat.le_refl _⟩, fun _ _ _ _ kk => lv_ineg cx.1 cx.2.1 hd (kk _ _ _ _ _ b)⟩
theorem es_ladd (cx : eCx P N G X p s m args meth c k) (hd : decode (N.cd k) pc = .ok (.ladd, 1)) (hi : eIns P X k (.ladd) pc lo st h = some x) (b : eBa P G s k c0 s0 lo h H locs cells slots ls) :
    eGoal P G p l e R s m args below meth c H locs cells slots Q k c0 s0 pc ls st h x := by
  obtain ⟨y, z, r, rfl, h2⟩ := eJ2_some hi
  obtain rfl := eN_inj h2
  exact ⟨⟨Nat.le_refl _, Nat.le_refl _⟩, fun _ _ _ _ kk => lv_ladd cx.1 cx.2.1 hd (kk _ _ _ _ _ b)⟩
theorem es_lsub (cx : eCx P N G X p s m args meth c k) (hd : decode (N.cd k) pc = .ok (.lsub, 1)) (hi : eIns P X k (.lsub) pc lo st h = some x) (b : eBa P G s k c0 s0 lo h H locs cells slots ls) :
    eGoal P G p l e R s m args below meth c H locs cells slots Q k c0 s0 pc ls st h x := by
  obtain ⟨y, z, r, rfl, h2⟩ := eJ2_some hi
  obtain rfl := eN_inj h2
  exact ⟨⟨Nat.le_refl _, Nat.le_refl _⟩, fun _ _ _ _ kk => lv_lsub cx.1 cx.2.1 hd (kk _ _ _ _ _ b)⟩
theorem es_lmul (cx : eCx P N G X p s m args meth c k) (hd : decode (N.cd k) pc = .ok (.lmul, 1)) (hi : eIns P X k (.lmul) pc lo st h = some x) (b : eBa P G s k c0 s0 lo h H locs cells slots ls) :
    eGoal P G p l e R s m args below meth c H locs cells slots Q k c0 s0 pc ls st h x := by
  obtain ⟨y, z, r, rfl, h2⟩ := eJ2_some hi
  obtain rfl := eN_inj h2
  exact ⟨⟨Nat.le_refl _, Nat.le_refl _⟩, fun _ _ _ _ kk => lv_lmul cx.1 cx.2.1 hd (kk _ _ _ _ _ b)⟩
theorem es_land (cx : eCx P N G X p s m args meth c k) (hd : decode (N.cd k) pc = .ok (.land, 1)) (hi : eIns P X k (.land) pc lo st h = some x) (b : eBa P G s k c0 s0 lo h H locs cells slots ls) :
    eGoal P G p l e R s m args below meth c H locs cells slots Q k c0 s0 pc ls st h x := by
  obtain ⟨y, z, r, rfl, h2⟩ := eJ2_some hi
  obtain rfl := eN_inj h2
  exact ⟨⟨Nat.le_refl _, Nat.le_refl _⟩, fun _ _ _ _ kk => lv_land cx.1 cx.2.1 hd (kk _ _ _ _ _ b)⟩
theorem es_lor (cx : eCx P N G X p s m args meth c k) (hd : decode (N.cd k) pc = .ok (.lor, 1)) (hi : eIns P X k (.lor) pc lo st h = some x) (b : eBa P G s k c0 s0 lo h H locs cells slots ls) :
    eGoal P G p l e R s m args below meth c H locs cells slots Q k c0 s0 pc ls st h x := by
  obtain ⟨y, z, r, rfl, h2⟩ := eJ2_some hi
  obtain rfl := eN_inj h2
  exact ⟨⟨Nat.le_refl _, Nat.le_refl _⟩, fun _ _ _ _ kk => lv_lor cx.1 cx.2.1 hd (kk _ _ _ _ _ b)⟩
theorem es_lcmp (cx : eCx P N G X p s m args meth c k) (hd : decode (N.cd k) pc = .ok (.lcmp, 1)) (hi : eIns P X k (.lcmp) pc lo st h = some x) (b : eBa P G s k c0 s0 lo h H locs cells slots ls) :
    eGoal P G p l e R s m args below meth c H locs cells slots Q k c0 s0 pc ls st h x := by
  obtain ⟨y, z, r, rfl, h2⟩ := eJ2_some hi
  obtain rfl := eN_inj h2
  exact ⟨⟨Nat.le_refl _, Nat.le_refl _⟩, fun _ _ _ _ kk => W.lcmp cx.1 cx.2.1 hd (kk _ _ _ _ _ b)⟩
theorem es_lshl (cx : eCx P N G X p s m args meth c k) (hd : decode (N.cd k) pc = .ok (.lshl, 1)) (hi : eIns P X k (.lshl) pc lo st h = some x) (b : eBa P G s k c0 s0 lo h H locs cells slots ls) :
    eGoal P G p l e R s m args below meth c H locs cells slots Q k c0 s0 pc ls st h x := by
  obtain ⟨y, z, r, rfl, h2⟩ := eJI_some hi
  obtain rfl := eN_inj h2
  exact ⟨⟨Nat.le_refl _, Nat.le_refl _⟩, fun _ _ _ _ kk => lv_lshl cx.1 cx.2.1 hd rfl (kk _ _ _ _ _ b)⟩
theorem es_lushr (cx : eCx P N G X p s m args meth c k) (hd : decode (N.cd k) pc = .ok (.lushr, 1)) (hi : eIns P X k (.lushr) pc lo st h = some x) (b : eBa P G s k c0 s0 lo h H locs cells slots ls) :
    eGoal P G p l e R s m args below meth c H locs cells slots Q k c0 s0 pc ls st h x := by
  obtain ⟨y, z, r, rfl, h2⟩ := eJI_some hi
  obtain rfl := eN_inj h2
  exact ⟨⟨Nat.le_refl _, Nat.le_refl _⟩, fun _ _ _ _ kk => lv_lushr cx.1 cx.2.1 hd rfl (kk _ _ _ _ _ b)⟩
theorem es_i2l (cx : eCx P N G X p s m args meth c k) (hd : decode (N.cd k) pc = .ok (.i2l, 1)) (hi : eIns P X k (.i2l) pc lo st h = some x) (b : eBa P G s k c0 s0 lo h H locs cells slots ls) :
    eGoal P G p l e R s m args below meth c H locs cells slots Q k c0 s0 pc ls st h x := by
  obtain ⟨y, r, rfl, h2⟩ := eI1_some hi
  obtain rfl := eN_inj h2
  exact ⟨⟨Nat.le_refl _, Nat.le_refl _⟩, fun _ _ _ _ kk => lv_i2l cx.1 cx.2.1 hd rfl (kk _ _ _ _ _ b)⟩
theorem es_l2i (cx : eCx P N G X p s m args meth c k) (hd : decode (N.cd k) pc = .ok (.l2i, 1)) (hi : eIns P X k (.l2i) pc lo st h = some x) (b : eBa P G s k c0 s0 lo h H locs cells slots ls) :
    eGoal P G p l e R s m args below meth c H locs cells slots Q k c0 s0 pc ls st h x := by
  obtain ⟨y, r, rfl, h2⟩ := eJ1_some hi
  obtain rfl := eN_inj h2
  exact ⟨⟨Nat.le_refl _, Nat.le_refl _⟩, fun _ _ _ _ kk => lv_l2i cx.1 cx.2.1 hd rfl (kk _ _ _ _ _ b)⟩
theorem es_i2c (cx : eCx P N G X p s m args meth c k) (hd : decode (N.cd k) pc = .ok (.i2c, 1)) (hi : eIns P X k (.i2c) pc lo st h = some x) (b : eBa P G s k c0 s0 lo h H locs cells slots ls) :
    eGoal P G p l e R s m args below meth c H locs cells slots Q k c0 s0 pc ls st h x := by
  obtain ⟨y, r, rfl, h2⟩ := eI1_some hi
  obtain rfl := eN_inj h2
  exact ⟨⟨Nat.le_refl _, Nat.le_refl _⟩, fun _ _ _ _ kk => lv_i2c cx.1 cx.2.1 hd rfl (kk _ _ _ _ _ b)⟩
theorem es_dup (cx : eCx P N G X p s m args meth c k) (hd : decode (N.cd k) pc = .ok (.dup, 1)) (hi : eIns P X k (.dup) pc lo st h = some x) (b : eBa P G s k c0 s0 lo h H locs cells slots ls) :
    eGoal P G p l e R s m args below meth c H locs cells slots Q k c0 s0 pc ls st h x := by
  cases st with
  | nil => cases hi
  | cons v r =>
    obtain ⟨h3, h2⟩ := eIf_else hi
    obtain rfl := eN_inj h2
    exact ⟨⟨Nat.le_refl _, Nat.le_refl _⟩, fun _ _ _ _ kk => lv_dup cx.1 cx.2.1 hd ((eVal_cat G v).trans h3) (kk _ _ _ _ _ b)⟩
theorem es_dup2 (cx : eCx P N G X p s m args meth c k) (hd : decode (N.cd k) pc = .ok (.dup2, 1)) (hi : eIns P X k (.dup2) pc lo st h = some x) (b : eBa P G s k c0 s0 lo h H locs cells slots ls) :
    eGoal P G p l e R s m args below meth c H locs cells slots Q k c0 s0 pc ls st h x := by
  simp only [eIns] at hi
  split at hi
  · obtain rfl := eN_inj hi
    exact ⟨⟨Nat.le_refl _, Nat.le_refl _⟩, fun _ _ _ _ kk => lv_dup2_11 cx.1 cx.2.1 hd rfl rfl (kk _ _ _ _ _ b)⟩
  · cases hi
theorem es_goto {off : Int} (cx : eCx P N G X p s m args meth c k) (hd : decode (N.cd k) pc = .ok (.goto off, 3)) (hi : eIns P X k (.goto off) pc lo st h = some x) (b : eBa P G s k c0 s0 lo h H locs cells slots ls) :
    eGoal P G p l e R s m args below meth c H locs cells slots Q k c0 s0 pc ls st h x := by
  obtain ⟨t, ht, h2⟩ := eTo_some hi
  obtain rfl := eN_inj h2
  exact ⟨⟨Nat.le_refl _, Nat.le_refl _⟩, fun _ _ _ _ kk => lv_goto cx.1 cx.2.1 hd ht (kk _ _ _ _ _ b)⟩
theorem es_if_eq {off : Int} (cx : eCx P N G X p s m args meth c k) (hd : decode (N.cd k) pc = .ok (.ifCond .eq off, 3)) (hi : eIns P X k (.ifCond .eq off) pc lo st h = some x) (b : eBa P G s k c0 s0 lo h H locs cells slots ls) :
    eGoal P G p l e R s m args below meth c H locs cells slots Q k c0 s0 pc ls st h x := by
  obtain ⟨y, r, rfl, h2⟩ := eI1_some hi
  obtain ⟨t, ht, ⟨hq, rfl⟩ | ⟨hq, rfl⟩⟩ := eBr_some h2
  · exact ⟨⟨Nat.le_refl _, Nat.le_refl _⟩, fun _ _ _ _ kk => lv_if_eq cx.1 cx.2.1 hd ht (fun _ => kk _ _ _ _ _ b) (fun hn => by first | exact absurd (of_decide_eq_true hq) hn | exact absurd hn (of_decide_eq_true hq))⟩
  · exact ⟨⟨Nat.le_refl _, Nat.le_refl _⟩, fun _ _ _ _ kk => lv_if_eq cx.1 cx.2.1 hd ht (fun hn => by first | exact absurd hn (of_decide_eq_false hq) | exact absurd hn (fun z => of_decide_eq_false hq (fun w => w z))) (fun _ => kk _ _ _ _ _ b)⟩
theorem es_icmp_eq {off : Int} (cx : eCx P N G X p s m args meth c k) (hd : decode (N.cd k) pc = .ok (.if_icmp .eq off, 3)) (hi : eIns P X k (.if_icmp .eq off) pc lo st h = some x) (b : eBa P G s k c0 s0 lo h H locs cells slots ls) :
    eGoal P G p l e R s m args below meth c H locs cells slots Q k c0 s0 pc ls st h x := by
  obtain ⟨y, z, r, rfl, h2⟩ := eI2_some hi
  obtain ⟨t, ht, ⟨hq, rfl⟩ | ⟨hq, rfl⟩⟩ := eBr_some h2
  · exact ⟨⟨Nat.le_refl _, Nat.le_refl _⟩, fun _ _ _ _ kk => lv_icmp_eq cx.1 cx.2.1 hd ht (fun _ => kk _ _ _ _ _ b) (fun hn => by first | exact absurd (of_decide_eq_true hq) hn | exact absurd hn (of_decide_eq_true hq))⟩
  · exact ⟨⟨Nat.le_refl _, Nat.le_refl _⟩, fun _ _ _ _ kk => lv_icmp_eq cx.1 cx.2.1 hd ht (fun hn => by first | exact absurd hn (of_decide_eq_false hq) | exact absurd hn (fun z => of_decide_eq_false hq (fun w => w z))) (fun _ => kk _ _ _ _ _ b)⟩
theorem es_if_ne {off : Int} (cx : eCx P N G X p s m args meth c k) (hd : decode (N.cd k) pc = .ok (.ifCond .ne off, 3)) (hi : eIns P X k (.ifCond .ne off) pc lo st h = some x) (b : eBa P G s k c0 s0 lo h H locs cells slots ls) :
    eGoal P G p l e R s m args below meth c H locs cells slots Q k c0 s0 pc ls st h x := by
  obtain ⟨y, r, rfl, h2⟩ := eI1_some hi
  obtain ⟨t, ht, ⟨hq, rfl⟩ | ⟨hq, rfl⟩⟩ := eBr_some h2
  · exact ⟨⟨Nat.le_refl _, Nat.le_refl _⟩, fun _ _ _ _ kk => lv_if_ne cx.1 cx.2.1 hd ht (fun _ => kk _ _ _ _ _ b) (fun hn => by first | exact absurd (of_decide_eq_true hq) hn | exact absurd hn (of_decide_eq_true hq))⟩
  · exact ⟨⟨Nat.le_refl _, Nat.le_refl _⟩, fun _ _ _ _ kk => lv_if_ne cx.1 cx.2.1 hd ht (fun hn => by first | exact absurd hn (of_decide_eq_false hq) | exact absurd hn (fun z => of_decide_eq_false hq (fun w => w z))) (fun _ => kk _ _ _ _ _ b)⟩
theorem es_icmp_ne {off : Int} (cx : eCx P N G X p s m args meth c k) (hd : decode (N.cd k) pc = .ok (.if_icmp .ne off, 3)) (hi : eIns P X k (.if_icmp .ne off) pc lo st h = some x) (b : eBa P G s k c0 s0 lo h H locs cells slots ls) :
    eGoal P G p l e R s m args below meth c H locs cells slots Q k c0 s0 pc ls st h x := by
  obtain ⟨y, z, r, rfl, h2⟩ := eI2_some hi
  obtain ⟨t, ht, ⟨hq, rfl⟩ | ⟨hq, rfl⟩⟩ := eBr_some h2
  · exact ⟨⟨Nat.le_refl _, Nat.le_refl _⟩, fun _ _ _ _ kk => lv_icmp_ne cx.1 cx.2.1 hd ht (fun _ => kk _ _ _ _ _ b) (fun hn => by first | exact absurd (of_decide_eq_true hq) hn | exact absurd hn (of_decide_eq_true hq))⟩
  · exact ⟨⟨Nat.le_refl _, Nat.le_refl _⟩, fun _ _ _ _ kk => lv_icmp_ne cx.1 cx.2.1 hd ht (fun hn => by first | exact absurd hn (of_decide_eq_false hq) | exact absurd hn (fun z => of_decide_eq_false hq (fun w => w z))) (fun _ => kk _ _ _ _ _ b)⟩
theorem es_if_lt {off : Int} (cx : eCx P N G X p s m args meth c k) (hd : decode (N.cd k) pc = .ok (.ifCond .lt off, 3)) (hi : eIns P X k (.ifCond .lt off) pc lo st h = some x) (b : eBa P G s k c0 s0 lo h H locs cells slots ls) :
    eGoal P G p l e R s m args below meth c H locs cells slots Q k c0 s0 pc ls st h x := by
  obtain ⟨y, r, rfl, h2⟩ := eI1_some hi
  obtain ⟨t, ht, ⟨hq, rfl⟩ | ⟨hq, rfl⟩⟩ := eBr_some h2
  · exact ⟨⟨Nat.le_refl _, Nat.le_refl _⟩, fun _ _ _ _ kk => lv_if_lt cx.1 cx.2.1 hd ht (fun _ => kk _ _ _ _ _ b) (fun hn => by first | exact absurd (of_decide_eq_true hq) hn | exact absurd hn (of_decide_eq_true hq))⟩
  · exact ⟨⟨Nat.le_refl _, Nat.le_refl _⟩, fun _ _ _ _ kk => lv_if_lt cx.1 cx.2.1 hd ht (fun hn => by first | exact absurd hn (of_decide_eq_false hq) | exact absurd hn (fun z => of_decide_eq_false hq (fun w => w z))) (fun _ => kk _ _ _ _ _ b)⟩
theorem es_icmp_lt {off : Int} (cx : eCx P N G X p s m args meth c k) (hd : decode (N.cd k) pc = .ok (.if_icmp .lt off, 3)) (hi : eIns P X k (.if_icmp .lt off) pc lo st h = some x) (b : eBa P G s k c0 s0 lo h H locs cells slots ls) :
    eGoal P G p l e R s m args below meth c H locs cells slots Q k c0 s0 pc ls st h x := by
  obtain ⟨y, z, r, rfl, h2⟩ := eI2_some hi
  obtain ⟨t, ht, ⟨hq, rfl⟩ | ⟨hq, rfl⟩⟩ := eBr_some h2
  · exact ⟨⟨Nat.le_refl _, Nat.le_refl _⟩, fun _ _ _ _ kk => lv_icmp_lt cx.1 cx.2.1 hd ht (fun _ => kk _ _ _ _ _ b) (fun hn => by first | exact absurd (of_decide_eq_true hq) hn | exact absurd hn (of_decide_eq_true hq))⟩
  · exact ⟨⟨Nat.le_refl _, Nat.le_refl _⟩, fun _ _ _ _ kk => lv_icmp_lt cx.1 cx.2.1 hd ht (fun hn => by first | exact absurd hn (of_decide_eq_false hq) | exact absurd hn (fun z => of_decide_eq_false hq (fun w => w z))) (fun _ => kk _ _ _ _ _ b)⟩
theorem es_if_ge {off : Int} (cx : eCx P N G X p s m args meth c k) (hd : decode (N.cd k) pc = .ok (.ifCond .ge off, 3)) (hi : eIns P X k (.ifCond .ge off) pc lo st h = some x) (b : eBa P G s k c0 s0 lo h H locs cells slots ls) :
    eGoal P G p l e R s m args below meth c H locs cells slots Q k c0 s0 pc ls st h x := by
  obtain ⟨y, r, rfl, h2⟩ := eI1_some hi
  obtain ⟨t, ht, ⟨hq, rfl⟩ | ⟨hq, rfl⟩⟩ := eBr_some h2
  · exact ⟨⟨Nat.le_refl _, Nat.le_refl _⟩, fun _ _ _ _ kk => lv_if_ge cx.1 cx.2.1 hd ht (fun _ => kk _ _ _ _ _ b) (fun hn => by first | exact absurd (of_decide_eq_true hq) hn | exact absurd hn (of_decide_eq_true hq))⟩
  · exact ⟨⟨Nat.le_refl _, Nat.le_refl _⟩, fun _ _ _ _ kk => lv_if_ge cx.1 cx.2.1 hd ht (fun hn => by first | exact absurd hn (of_decide_eq_false hq) | exact absurd hn (fun z => of_decide_eq_false hq (fun w => w z))) (fun _ => kk _ _ _ _ _ b)⟩
theorem es_icmp_ge {off : Int} (cx : eCx P N G X p s m args meth c k) (hd : decode (N.cd k) pc = .ok (.if_icmp .ge off, 3)) (hi : eIns P X k (.if_icmp .ge off) pc lo st h = some x) (b : eBa P G s k c0 s0 lo h H locs cells slots ls) :
    eGoal P G p l e R s m args below meth c H locs cells slots Q k c0 s0 pc ls st h x := by
  obtain ⟨y, z, r, rfl, h2⟩ := eI2_some hi
  obtain ⟨t, ht, ⟨hq, rfl⟩ | ⟨hq, rfl⟩⟩ := eBr_some h2
  · exact ⟨⟨Nat.le_refl _, Nat.le_refl _⟩, fun _ _ _ _ kk => lv_icmp_ge cx.1 cx.2.1 hd ht (fun _ => kk _ _ _ _ _ b) (fun hn => by first | exact absurd (of_decide_eq_true hq) hn | exact absurd hn (of_decide_eq_true hq))⟩
  · exact ⟨⟨Nat.le_refl _, Nat.le_refl _⟩, fun _ _ _ _ kk => lv_icmp_ge cx.1 cx.2.1 hd ht (fun hn => by first | exact absurd hn (of_decide_eq_false hq) | exact absurd hn (fun z => of_decide_eq_false hq (fun w => w z))) (fun _ => kk _ _ _ _ _ b)⟩
theorem es_if_gt {off : Int} (cx : eCx P N G X p s m args meth c k) (hd : decode (N.cd k) pc = .ok (.ifCond .gt off, 3)) (hi : eIns P X k (.ifCond .gt off) pc lo st h = some x) (b : eBa P G s k c0 s0 lo h H locs cells slots ls) :
    eGoal P G p l e R s m args below meth c H locs cells slots Q k c0 s0 pc ls st h x := by
  obtain ⟨y, r, rfl, h2⟩ := eI1_some hi
  obtain ⟨t, ht, ⟨hq, rfl⟩ | ⟨hq, rfl⟩⟩ := eBr_some h2
  · exact ⟨⟨Nat.le_refl _, Nat.le_refl _⟩, fun _ _ _ _ kk => lv_if_gt cx.1 cx.2.1 hd ht (fun _ => kk _ _ _ _ _ b) (fun hn => by first | exact absurd (of_decide_eq_true hq) hn | exact absurd hn (of_decide_eq_true hq))⟩
  · exact ⟨⟨Nat.le_refl _, Nat.le_refl _⟩, fun _ _ _ _ kk => lv_if_gt cx.1 cx.2.1 hd ht (fun hn => by first | exact absurd hn (of_decide_eq_false hq) | exact absurd hn (fun z => of_decide_eq_false hq (fun w => w z))) (fun _ => kk _ _ _ _ _ b)⟩
theorem es_icmp_gt {off : Int} (cx : eCx P N G X p s m args meth c k) (hd : decode (N.cd k) pc = .ok (.if_icmp .gt off, 3)) (hi : eIns P X k (.if_icmp .gt off) pc lo st h = some x) (b : eBa P G s k c0 s0 lo h H locs cells slots ls) :
    eGoal P G p l e R s m args below meth c H locs cells slots Q k c0 s0 pc ls st h x := by
  obtain ⟨y, z, r, rfl, h2⟩ := eI2_some hi
  obtain ⟨t, ht, ⟨hq, rfl⟩ | ⟨hq, rfl⟩⟩ := eBr_some h2
  · exact ⟨⟨Nat.le_refl _, Nat.le_refl _⟩, fun _ _ _ _ kk => lv_icmp_gt cx.1 cx.2.1 hd ht (fun _ => kk _ _ _ _ _ b) (fun hn => by first | exact absurd (of_decide_eq_true hq) hn | exact absurd hn (of_decide_eq_true hq))⟩
  · exact ⟨⟨Nat.le_refl _, Nat.le_refl _⟩, fun _ _ _ _ kk => lv_icmp_gt cx.1 cx.2.1 hd ht (fun hn => by first | exact absurd hn (of_decide_eq_false hq) | exact absurd hn (fun z => of_decide_eq_false hq (fun w => w z))) (fun _ => kk _ _ _ _ _ b)⟩
theorem es_if_le {off : Int} (cx : eCx P N G X p s m args meth c k) (hd : decode (N.cd k) pc = .ok (.ifCond .le off, 3)) (hi : eIns P X k (.ifCond .le off) pc lo st h = some x) (b : eBa P G s k c0 s0 lo h H locs cells slots ls) :
    eGoal P G p l e R s m args below meth c H locs cells slots Q k c0 s0 pc ls st h x := by
  obtain ⟨y, r, rfl, h2⟩ := eI1_some hi
  obtain ⟨t, ht, ⟨hq, rfl⟩ | ⟨hq, rfl⟩⟩ := eBr_some h2
  · exact ⟨⟨Nat.le_refl _, Nat.le_refl _⟩, fun _ _ _ _ kk => lv_if_le cx.1 cx.2.1 hd ht (fun _ => kk _ _ _ _ _ b) (fun hn => by first | exact absurd (of_decide_eq_true hq) hn | exact absurd hn (of_decide_eq_true hq))⟩
  · exact ⟨⟨Nat.le_refl _, Nat.le_refl _⟩, fun _ _ _ _ kk => lv_if_le cx.1 cx.2.1 hd ht (fun hn => by first | exact absurd hn (of_decide_eq_false hq) | exact absurd hn (fun z => of_decide_eq_false hq (fun w => w z))) (fun _ => kk _ _ _ _ _ b)⟩
theorem es_icmp_le {off : Int} (cx : eCx P N G X p s m args meth c k) (hd : decode (N.cd k) pc = .ok (.if_icmp .le off, 3)) (hi : eIns P X k (.if_icmp .le off) pc lo st h = some x) (b : eBa P G s k c0 s0 lo h H locs cells slots ls) :
    eGoal P G p l e R s m args below meth c H locs cells slots Q k c0 s0 pc ls st h x := by
  obtain ⟨y, z, r, rfl, h2⟩ := eI2_some hi
  obtain ⟨t, ht, ⟨hq, rfl⟩ | ⟨hq, rfl⟩⟩ := eBr_some h2
  · exact ⟨⟨Nat.le_refl _, Nat.le_refl _⟩, fun _ _ _ _ kk => lv_icmp_le cx.1 cx.2.1 hd ht (fun _ => kk _ _ _ _ _ b) (fun hn => by first | exact absurd (of_decide_eq_true hq) hn | exact absurd hn (of_decide_eq_true hq))⟩
  · exact ⟨⟨Nat.le_refl _, Nat.le_refl _⟩, fun _ _ _ _ kk => lv_icmp_le cx.1 cx.2.1 hd ht (fun hn => by first | exact absurd hn (of_decide_eq_false hq) | exact absurd hn (fun z => of_decide_eq_false hq (fun w => w z))) (fun _ => kk _ _ _ _ _ b)⟩
theorem es_ifnull {off : Int} (cx : eCx P N G X p s m args meth c k) (hd : decode (N.cd k) pc = .ok (.ifnull off, 3)) (hi : eIns P X k (.ifnull off) pc lo st h = some x) (b : eBa P G s k c0 s0 lo h H locs cells slots ls) :
    eGoal P G p l e R s m args below meth c H locs cells slots Q k c0 s0 pc ls st h x := by
  simp only [eIns] at hi
  obtain ⟨y, r, rfl, h2⟩ := eQ1_some hi
  obtain ⟨t, ht, ⟨hq, rfl⟩ | ⟨hq, rfl⟩⟩ := eBr_some h2
  · cases y with
    | none => exact ⟨⟨Nat.le_refl _, Nat.le_refl _⟩, fun _ _ _ _ kk => lv_ifnullN cx.1 cx.2.1 hd ht (kk _ _ _ _ _ b)⟩
    | some y => cases hq
  · cases y with
    | none => cases hq
    | some y => exact ⟨⟨Nat.le_refl _, Nat.le_refl _⟩, fun _ _ _ _ kk => lv_ifnull cx.1 cx.2.1 hd (kk _ _ _ _ _ b)⟩
theorem es_tableswitch {d lw hi : Int} {offs : Array Int} {len : Nat} (cx : eCx P N G X p s m args meth c k) (hd : decode (N.cd k) pc = .ok (.tableswitch d lw hi offs, len)) (hii : eIns P X k (.tableswitch d lw hi offs) pc lo st h = some x) (b : eBa P G s k c0 s0 lo h H locs cells slots ls) :
    eGoal P G p l e R s m args below meth c H locs cells slots Q k c0 s0 pc ls st h x := by
  obtain ⟨y, r, rfl, h2⟩ := eI1_some hii
  split at h2
  · rename_i hq
    obtain ⟨t, ht, h2⟩ := eTo_some h2
    obtain rfl := eN_inj h2
    exact ⟨⟨Nat.le_refl _, Nat.le_refl _⟩, fun _ _ _ _ kk => lv_tableOut cx.1 cx.2.1 hd hq ht (kk _ _ _ _ _ b)⟩
  · rename_i hq
    split at h2
    · rename_i off ho
      obtain ⟨t, ht, h2⟩ := eTo_some h2
      obtain rfl := eN_inj h2
      exact ⟨⟨Nat.le_refl _, Nat.le_refl _⟩, fun _ _ _ _ kk => lv_tableIn cx.1 cx.2.1 hd (fun z => hq (Or.inl z)) (fun z => hq (Or.inr z)) ho ht (kk _ _ _ _ _ b)⟩
    · cases h2
theorem es_ldc {ix : Nat} (cx : eCx P N G X p s m args meth c k) (gc : ∀ o ix v, P.con o ix = some (.int v) → Cond.constant (N.cn o) ix v ∈ lw_gd) (hd : decode (N.cd k) pc = .ok (.ldc ix, 2)) (hi : eIns P X k (.ldc ix) pc lo st h = some x) (b : eBa P G s k c0 s0 lo h H locs cells slots ls) :
    eGoal P G p l e R s m args below meth c H locs cells slots Q k c0 s0 pc ls st h x := by
  simp only [eIns] at hi
  split at hi
  · rename_i v hv
    obtain rfl := eN_inj hi
    exact ⟨⟨Nat.le_refl _, Nat.le_refl _⟩, fun _ _ _ _ kk => lv_ldc cx.1 cx.2.1 cx.2.2.2.1 (cx.2.2.2.2.1 _ (gc _ _ _ hv)) hd (kk _ _ _ _ _ b)⟩
  · cases hi
theorem es_ldc2_w {ix : Nat} (cx : eCx P N G X p s m args meth c k) (gc : ∀ o ix v, P.con o ix = some (.long v) → Cond.constantLong (N.cn o) ix v ∈ lw_gd) (hd : decode (N.cd k) pc = .ok (.ldc2_w ix, 3)) (hi : eIns P X k (.ldc2_w ix) pc lo st h = some x) (b : eBa P G s k c0 s0 lo h H locs cells slots ls) :
    eGoal P G p l e R s m args below meth c H locs cells slots Q k c0 s0 pc ls st h x := by
  simp only [eIns] at hi
  split at hi
  · rename_i v hv
    obtain rfl := eN_inj hi
    exact ⟨⟨Nat.le_refl _, Nat.le_refl _⟩, fun _ _ _ _ kk => lv_ldc2 cx.1 cx.2.1 cx.2.2.2.1 (cx.2.2.2.2.1 _ (gc _ _ _ hv)) hd (kk _ _ _ _ _ b)⟩
  · cases hi
theorem es_getfield {ix : Nat} (cx : eCx P N G X p s m args meth c k) (gf : gFld P N G.cl) (hd : decode (N.cd k) pc = .ok (.getfield ix, 3)) (hi : eIns P X k (.getfield ix) pc lo st h = some x) (b : eBa P G s k c0 s0 lo h H locs cells slots ls) :
    eGoal P G p l e R s m args below meth c H locs cells slots Q k c0 s0 pc ls st h x := by
  simp only [eIns, eGf] at hi
  obtain ⟨a, r, rfl, h2⟩ := eR1_some hi
  split at h2
  · rename_i c1 j tf hf
    obtain ⟨ty, fin⟩ := tf
    obtain ⟨C, T, n, ty0, hcl, hj, hC, hT, hlk, hin, -, -, -, -⟩ := gf _ _ _ _ _ _ hf
    split at h2
    · rename_i c2 fs hcell
      obtain ⟨hq, h2⟩ := eIf_then h2
      split at h2
      · rename_i v hv
        obtain rfl := eN_inj h2
        have h1 : ¬ a = 0 := fun z => hq (Or.inl z)
        have h3 : c2 = c1 := Decidable.of_not_not fun z => hq (Or.inr z)
        subst h3
        have hP : va_P G.D G.cl [(eAd G a, eCo G (.inr (c2, fs)))] H := fun q z hz => by
          cases q with
          | zero => cases hz; exact b.2.1.at h1 hcell
          | succ q => cases hz
        refine ⟨⟨Nat.le_refl _, Nat.le_refl _⟩, fun _ _ _ _ kk => ?_⟩
        exact va_get cx.1 cx.2.1 cx.2.2.2.2.1 hin cx.2.2.2.1 cx.2.2.2.2.2.1 hP 0 rfl hcl j hj (cx.2.2.2.2.1 _ hlk) (fun z hz => by rw [hT] at hz; exact hz) (v := eVal G v) (by simp [hv]) hd (kk _ _ _ _ _ b)
      · cases h2
    · cases h2
  · cases h2
end ES
end
section
theorem eA0_ad {G : eG} {a : Nat} (ha : ¬ a = 0) : eA0 G (eAd G a) := by
  rw [eAd_pos ha]
  show G.B < G.B + a
  omega
theorem e_upd {α : Type} (g : α → Value) (f : Nat → α) (i : Nat) (x : α) : updV (fun j => g (f j)) i (g x) = fun j => g (eUp f i x j) := by
  funext q
  by_cases hq : q = i <;> simp [updV, eUp, hq]
theorem eFit_ok {G : eG} {ty : FieldType} {v : Value} (h : eFit ty v = true) : narrow ty (eVal G v) = eVal G v ∧ fits ty (eVal G v) = true := by
  unfold eFit at h
  split at h
  · exact ⟨rfl, rfl⟩
  · exact ⟨rfl, rfl⟩
  · rename_i y
    rcases Bool.or_eq_true_iff.mp h with q | q
    · have q' : y = 0 := by simpa using q
      subst q'
      exact ⟨rfl, rfl⟩
    · have q' : y = 1 := by simpa using q
      subst q'
      exact ⟨rfl, rfl⟩
  · exact ⟨rfl, rfl⟩
  · exact ⟨rfl, rfl⟩
  · exact ⟨rfl, rfl⟩
  · exact ⟨rfl, rfl⟩
  · cases h
def gTy (P : eP) (N : eW) : Prop := N.ty[0]? = some .int ∧ N.ty[1]? = some .long ∧ N.ty[2]? = some .char ∧ ∀ t c, P.elt t = some c → N.ty[t]? = some (.object (N.cn c))
def gCl (N : eW) (cl : List vw_C) : Prop := ∀ c r, cl[c]? = some r → r.1 = N.cn c
def gNew (P : eP) (N : eW) (cl : List vw_C) : Prop := (Cond.arrayClass .int ∈ lw_gd ∧ Cond.arrayClass .long ∈ lw_gd ∧ Cond.arrayClass .char ∈ lw_gd) ∧
  (∀ o ix t C, P.arr o ix = some t → N.ty[t]? = some (.object C) → Cond.classLink (N.cn o) ix C ∈ lw_gd) ∧
  ∀ o ix c, P.cls o ix = some c → ∃ (C : String) (T : u_T) (n : Nat) (ty0 : Nat → FieldType), cl[c]? = some (C, T, n) ∧ Cond.classLink (N.cn o) ix C ∈ lw_gd ∧ Cond.instantiable C (P.bla c).2 ∈ lw_gd ∧ Cond.initialized C ∈ lw_gd ∧
    (∀ w ∈ u_ws C T n, w ∈ lw_gd) ∧ (∀ k, k < n → parseFieldDescriptor (T k).2.2.1 = some (ty0 k)) ∧ (∀ k, k < n → defaultValue (ty0 k) = vp_V (P.bla c).1 k) ∧ ∀ v ∈ (P.bla c).1, v = .int 0 ∨ v = .long 0 ∨ v = .null
section ES3
variable {p : Program} {l : Launch} {e : Env} {R : Room} {s : State} {m : MethodId} {args : Array Value} {below : List Frame} {meth : Method} {c : Code} {H : Heap} {locs : List Loc} {cells slots : Nat} {Q : State → Prop}
variable {P : eP} {N : eW} {G : eG} {X : Nat × (Nat → Int32)} {k pc c0 s0 : Nat} {ls : Array Slot} {lo : eLo} {st : List Value} {h : eH} {x : eS}
theorem e_single {a : Nat} {y : eE} (b : eRel G h H) (ha : ¬ a = 0) (hc : h.1 a = some y) : va_P G.D G.cl [(eAd G a, eCo G y)] H := fun q z hz => by
  cases q with
  | zero => cases hz; exact b.at ha hc
  | succ q => cases hz
theorem e_in {i : Int32} {n : Nat} {cA : ClassId} {f : Nat → Value} (h : ¬ (i < 0 ∨ n ≤ i.toNatClampNeg)) : ¬ (i < 0 ∨ (arrV cA n f).slots.size ≤ i.toNatClampNeg) := by
  rw [arrV_size]
  exact h
theorem eBa.set {a : Nat} {y0 y : eE} {H1 : Heap} {i : Nat} (b : eBa P G s k c0 s0 lo h H locs cells slots ls) (ha : ¬ a = 0) (hx : h.1 a = some y0) (hz : H1.size = H.size) (ho : ∀ z, z ≠ eAd G a → H1[z]? = H[z]?) (hat : va_at G.D G.cl (eAd G a, eCo G y) H1) :
    eBa P G s k c0 s0 lo (eSetH h a y) H1 (locs ++ [⟨eAd G a, i⟩]) cells slots ls :=
  ⟨b.1, b.2.1.set ha hx hz ho hat, b.2.2.1.put hz ho (eA0_ad ha), b.2.2.2.1, b.2.2.2.2⟩
theorem eBa.new {y : eE} {H1 : Heap} {n : Nat} (b : eBa P G s k c0 s0 lo h H locs cells slots ls) (hz : H1.size = H.size + 1) (ho : ∀ z, z < H.size → H1[z]? = H[z]?) (hat : va_at G.D G.cl (H.size, eCo G y) H1) :
    eBa P G s k c0 s0 lo (eNew h y n) H1 locs (cells + 1) (slots + n) ls :=
  ⟨b.1, b.2.1.new y n hz ho hat, eS_new b.2.2.1 hz ho, by show cells + 1 + c0 = h.2.1 + 1; have := b.2.2.2.1; omega, by show slots + n + s0 = h.2.2 + n; have := b.2.2.2.2; omega⟩
theorem es_putfield {ix : Nat} (cx : eCx P N G X p s m args meth c k) (gf : gFld P N G.cl) (hd : decode (N.cd k) pc = .ok (.putfield ix, 3)) (hi : eIns P X k (.putfield ix) pc lo st h = some x) (b : eBa P G s k c0 s0 lo h H locs cells slots ls) :
    eGoal P G p l e R s m args below meth c H locs cells slots Q k c0 s0 pc ls st h x := by
  simp only [eIns] at hi
  unfold ePf at hi
  split at hi
  · rename_i v a r
    split at hi
    · rename_i c1 j ty fin hf
      obtain ⟨C, T, n, ty0, hcl, hj, hC, hT, hlk, hin, hfin, hpd, hty, hnm⟩ := gf _ _ _ _ _ _ hf
      split at hi
      · rename_i c2 fs hcell
        obtain ⟨hq, h2⟩ := eIf_then hi
        obtain rfl := eN_inj h2
        have h1 : ¬ a = 0 := fun z => hq (Or.inl z)
        have h3 : c2 = c1 := Decidable.of_not_not fun z => hq (Or.inr (Or.inl z))
        have h4 : eFit ty v = true := by
          cases hz : eFit ty v with
          | true => rfl
          | false => exact absurd (Or.inr (Or.inr (Or.inl hz))) hq
        have h5 : j < fs.length := Nat.not_le.mp fun z => hq (Or.inr (Or.inr (Or.inr (Or.inl z))))
        have h6 : (fin && !(P.ini k && eOwn P k == c1)) = false := by
          cases hz : (fin && !(P.ini k && eOwn P k == c1)) with
          | false => rfl
          | true => exact absurd (Or.inr (Or.inr (Or.inr (Or.inr hz)))) hq
        subst h3
        refine ⟨⟨Nat.le_refl _, Nat.le_refl _⟩, fun _ _ _ _ kk => ?_⟩
        have hts := cx.2.2.2.2.1
        have hK := cx.2.2.2.2.2.1
        have hown := cx.2.2.2.1
        have hap := va_apart (own := N.cn (eOwn P k)) hts hin ty0 hty hnm hK hcl
        obtain ⟨r', h1', cell, q1, q2, q3, q4⟩ := b.2.1.at h1 hcell
        have hr : r' = (C, T, n) := Option.some.inj (h1'.symm.trans hcl)
        subst hr
        obtain ⟨hS', hfc, kC, hkC, hkind⟩ := hK.1 c2 _ hcl
        obtain ⟨cf, kf, fi, f, hff, hsl⟩ := hS' j hj
        have hi' : s.fieldFound? C (T j).2.1 (T j).2.2.1 = some (cf, kf, fi, f) := by rw [hT] at hff; exact hff
        have hlay := hts _ (hin _ (u_in_lay hj))
        have hst := (u_facts hfc hkC (u_lays hts hin hj) hff).1
        obtain ⟨hn, hfit⟩ := eFit_ok (G := G) h4
        have hlast : ∀ H1 : Heap, H1[eAd G a]? = some (cell.setSlot (G.D.2 c2 j) (eVal G v)) → va_at G.D G.cl (eAd G a, eCo G (.inr (c2, fs.set j v))) H1 := fun H1 e1 =>
          ⟨_, hcl, t_OB.to (V := updV (vp_V (fs.map (eVal G))) j (eVal G v)) ⟨_, e1, q2, q3, t_set q4 hap hj (eVal G v)⟩ (fun i _ => by
            show _ = vp_V ((fs.set j v).map (eVal G)) i
            rw [List.map_set]
            exact vp_updV_set (by simpa using h5) (eVal G v) i)⟩
        unfold u_lay at hlay
        cases fin with
        | false =>
          rw [if_neg (by rw [hfin]; decide)] at hlay
          have h7 := u_store hfc hkC hkind hlay hff hpd hn hfit
          refine W.putK cx.1 cx.2.1 (f := f) ⟨hown, hts _ hlk, ⟨_, _, _, hi'⟩, hst⟩ (by rw [q2]; exact h7) q1 q3 (by rw [hsl]; exact k2_hasslot (q4 j hj)) rfl rfl hd fun H1 e1 e2 e3 => ?_
          rw [hsl] at e1 ⊢
          exact kk H1 _ cells slots ls (b.set h1 hcell e2 e3 (hlast H1 e1))
        | true =>
          rw [if_pos hfin] at hlay
          have h8 : P.ini k = true ∧ eOwn P k = c2 := by simpa using h6
          have hcf : m.cls = cf := by
            obtain ⟨_, _, c', _, _, _, -, -, hf', -, -, -, hown2, -⟩ := Cond.laysFinal_spec hlay
            have e1 : c' = cf := by have := hff.symm.trans hf'; simp at this; exact this.1.symm
            rw [hT, hC, ← h8.2] at hown2
            rw [← e1]
            exact Option.some.inj (hown.symm.trans hown2)
          have h7 := u_fits hfc hkC hkind (Or.inr hlay) hff hpd hn hfit
          refine W.putFinK cx.1 cx.2.1 hown (hts _ hlk) hi' hst hcf (cx.2.2.2.2.2.2.2.2.1 h8.1) (by rw [q2]; exact h7) q1 q3 (by rw [hsl]; exact k2_hasslot (q4 j hj)) rfl rfl hd fun H1 e1 e2 e3 => ?_
          rw [hsl] at e1 ⊢
          exact kk H1 _ cells slots ls (b.set h1 hcell e2 e3 (hlast H1 e1))
      · cases hi
    · cases hi
  · cases hi
theorem es_iaload (cx : eCx P N G X p s m args meth c k) (gt : gTy P N) (hd : decode (N.cd k) pc = .ok (.iaload, 1)) (hi : eIns P X k (.iaload) pc lo st h = some x) (b : eBa P G s k c0 s0 lo h H locs cells slots ls) :
    eGoal P G p l e R s m args below meth c H locs cells slots Q k c0 s0 pc ls st h x := by
  obtain ⟨a, i, r, rfl, h2⟩ := eIA_some hi
  cases a with
  | zero =>
    obtain ⟨hq, h2⟩ := eIf_else h2
    obtain ⟨h3, h2⟩ := eIn_some h2
    obtain rfl := eN_inj h2
    exact ⟨⟨Nat.le_refl _, Nat.le_refl _⟩, fun _ _ _ _ kk => va_sld cx.1 cx.2.1 cx.2.2.2.2.2.2.1.1 (Nat.lt_of_le_of_lt cx.2.2.2.2.2.2.1.2.1 cx.2.2.2.2.2.2.1.2.2) (Nat.not_lt.mpr cx.2.2.2.2.2.2.1.2.1) b.2.2.1 h3 hd (kk _ _ _ _ _ b)⟩
  | succ a =>
    simp only at h2
    split at h2
    · rename_i t' n f hcell
      obtain ⟨hq, h2⟩ := eIf_else h2
      obtain ⟨h3, h2⟩ := eIn_some h2
      obtain rfl := eN_inj h2
      subst hq
      have ha : ¬ a + 1 = 0 := by omega
      exact ⟨⟨Nat.le_refl _, Nat.le_refl _⟩, fun _ _ _ _ kk => va_iald cx.1 cx.2.1 cx.2.2.2.2.2.1 (e_single b.2.1 ha hcell) 0 0 rfl (eTy_at gt.1) h3 hd (kk _ _ _ _ _ b)⟩
    · cases h2
theorem es_caload (cx : eCx P N G X p s m args meth c k) (gt : gTy P N) (hd : decode (N.cd k) pc = .ok (.caload, 1)) (hi : eIns P X k (.caload) pc lo st h = some x) (b : eBa P G s k c0 s0 lo h H locs cells slots ls) :
    eGoal P G p l e R s m args below meth c H locs cells slots Q k c0 s0 pc ls st h x := by
  obtain ⟨a, i, r, rfl, h2⟩ := eIA_some hi
  cases a with
  | zero =>
    exact absurd (eIf_else h2).1 (by decide)
  | succ a =>
    simp only at h2
    split at h2
    · rename_i t' n f hcell
      obtain ⟨hq, h2⟩ := eIf_else h2
      obtain ⟨h3, h2⟩ := eIn_some h2
      obtain rfl := eN_inj h2
      subst hq
      have ha : ¬ a + 1 = 0 := by omega
      exact ⟨⟨Nat.le_refl _, Nat.le_refl _⟩, fun _ _ _ _ kk => va_cald cx.1 cx.2.1 cx.2.2.2.2.2.1 (e_single b.2.1 ha hcell) 0 2 rfl (eTy_at gt.2.2.1) h3 hd (kk _ _ _ _ _ b)⟩
    · cases h2
theorem es_laload (cx : eCx P N G X p s m args meth c k) (gt : gTy P N) (hd : decode (N.cd k) pc = .ok (.laload, 1)) (hi : eIns P X k (.laload) pc lo st h = some x) (b : eBa P G s k c0 s0 lo h H locs cells slots ls) :
    eGoal P G p l e R s m args below meth c H locs cells slots Q k c0 s0 pc ls st h x := by
  obtain ⟨a, i, r, rfl, h2⟩ := eIA_some hi
  simp only at h2
  split at h2
  · rename_i n f hcell
    obtain ⟨ha, h2⟩ := eIf_then h2
    obtain ⟨h3, h2⟩ := eIn_some h2
    obtain rfl := eN_inj h2
    exact ⟨⟨Nat.le_refl _, Nat.le_refl _⟩, fun _ _ _ _ kk => va_lald cx.1 cx.2.1 cx.2.2.2.2.2.1 (e_single b.2.1 ha hcell) 0 1 rfl (eTy_at gt.2.1) h3 hd (kk _ _ _ _ _ b)⟩
  · cases h2
theorem es_aaload (cx : eCx P N G X p s m args meth c k) (gt : gTy P N) (hd : decode (N.cd k) pc = .ok (.aaload, 1)) (hi : eIns P X k (.aaload) pc lo st h = some x) (b : eBa P G s k c0 s0 lo h H locs cells slots ls) :
    eGoal P G p l e R s m args below meth c H locs cells slots Q k c0 s0 pc ls st h x := by
  obtain ⟨a, i, r, rfl, h2⟩ := eIA_some hi
  simp only at h2
  split at h2
  · rename_i t n f hcell
    obtain ⟨hq, h2⟩ := eIf_then h2
    obtain ⟨h3, h2⟩ := eIn_some h2
    obtain rfl := eN_inj h2
    have ha : ¬ a = 0 := fun z => hq (Or.inl z)
    cases hel : P.elt t with
    | none => exact absurd (Or.inr hel) hq
    | some cc =>
      refine ⟨⟨Nat.le_refl _, Nat.le_refl _⟩, fun _ _ _ _ kk => ?_⟩
      have z : W p l e R s m args below meth c H locs cells slots Q (F0 m (pc + 1) ls (eVal G (eRf (f i.toNatClampNeg)) :: r.map (eVal G))) := kk _ _ _ _ _ b
      rw [eVal_rf] at z
      exact va_aldq cx.1 cx.2.1 cx.2.2.2.2.2.1 (e_single b.2.1 ha hcell) 0 t rfl (eTy_at (gt.2.2.2 t cc hel)) h3 hd z
  · cases h2
theorem es_iastore (cx : eCx P N G X p s m args meth c k) (gt : gTy P N) (hd : decode (N.cd k) pc = .ok (.iastore, 1)) (hi : eIns P X k (.iastore) pc lo st h = some x) (b : eBa P G s k c0 s0 lo h H locs cells slots ls) :
    eGoal P G p l e R s m args below meth c H locs cells slots Q k c0 s0 pc ls st h x := by
  simp only [eIns] at hi
  unfold eStI at hi
  split at hi
  · rename_i y i a r
    split at hi
    · rename_i t' n f hcell
      obtain ⟨hq, h2⟩ := eIf_then hi
      obtain ⟨h3, h2⟩ := eIn_some h2
      obtain rfl := eN_inj h2
      have ha : ¬ a = 0 := fun z => hq (Or.inl z)
      have ht : t' = 0 := Decidable.of_not_not fun z => hq (Or.inr z)
      subst ht
      refine ⟨⟨Nat.le_refl _, Nat.le_refl _⟩, fun _ _ _ _ kk => ?_⟩
      refine W.iast cx.1 cx.2.1 (b.2.1.at ha hcell) ((cx.2.2.2.2.2.1.2 0 _ (eTy_at gt.1)).1 n (fun j => .int (f j))) (fun q => by cases q) (e_in h3) rfl rfl hd fun H1 e1 e2 e3 => ?_
      refine kk H1 _ cells slots ls (b.set ha hcell e2 e3 ?_)
      show H1[_]? = some (arrV (G.ca 0) n fun j => .int (eUp f i.toNatClampNeg y j))
      rw [← e_upd (fun z => Value.int z), ← arrV_store]
      exact e1
    · cases hi
  · cases hi
theorem es_castore (cx : eCx P N G X p s m args meth c k) (gt : gTy P N) (hd : decode (N.cd k) pc = .ok (.castore, 1)) (hi : eIns P X k (.castore) pc lo st h = some x) (b : eBa P G s k c0 s0 lo h H locs cells slots ls) :
    eGoal P G p l e R s m args below meth c H locs cells slots Q k c0 s0 pc ls st h x := by
  simp only [eIns] at hi
  unfold eStI at hi
  split at hi
  · rename_i y i a r
    split at hi
    · rename_i t' n f hcell
      obtain ⟨hq, h2⟩ := eIf_then hi
      obtain ⟨h3, h2⟩ := eIn_some h2
      obtain rfl := eN_inj h2
      have ha : ¬ a = 0 := fun z => hq (Or.inl z)
      have ht : t' = 2 := Decidable.of_not_not fun z => hq (Or.inr z)
      subst ht
      refine ⟨⟨Nat.le_refl _, Nat.le_refl _⟩, fun _ _ _ _ kk => ?_⟩
      refine W.cast cx.1 cx.2.1 (b.2.1.at ha hcell) ((cx.2.2.2.2.2.1.2 2 _ (eTy_at gt.2.2.1)).1 n (fun j => .int (f j))) (fun q => by cases q) (e_in h3) rfl rfl hd fun H1 e1 e2 e3 => ?_
      refine kk H1 _ cells slots ls (b.set ha hcell e2 e3 ?_)
      show H1[_]? = some (arrV (G.ca 2) n fun j => .int (eUp f i.toNatClampNeg (vp_nar .char y) j))
      rw [← e_upd (fun z => Value.int z), ← arrV_store]
      exact e1
    · cases hi
  · cases hi
theorem es_lastore (cx : eCx P N G X p s m args meth c k) (gt : gTy P N) (hd : decode (N.cd k) pc = .ok (.lastore, 1)) (hi : eIns P X k (.lastore) pc lo st h = some x) (b : eBa P G s k c0 s0 lo h H locs cells slots ls) :
    eGoal P G p l e R s m args below meth c H locs cells slots Q k c0 s0 pc ls st h x := by
  simp only [eIns] at hi
  unfold eStJ at hi
  split at hi
  · rename_i y i a r
    split at hi
    · rename_i n f hcell
      obtain ⟨ha, h2⟩ := eIf_then hi
      obtain ⟨h3, h2⟩ := eIn_some h2
      obtain rfl := eN_inj h2
      refine ⟨⟨Nat.le_refl _, Nat.le_refl _⟩, fun _ _ _ _ kk => ?_⟩
      refine W.last cx.1 cx.2.1 (b.2.1.at ha hcell) ((cx.2.2.2.2.2.1.2 1 _ (eTy_at gt.2.1)).1 n (fun j => .long (f j))) (fun q => by cases q) (e_in h3) rfl rfl hd fun H1 e1 e2 e3 => ?_
      refine kk H1 _ cells slots ls (b.set ha hcell e2 e3 ?_)
      show H1[_]? = some (arrV (G.ca 1) n fun j => .long (eUp f i.toNatClampNeg y j))
      rw [← e_upd (fun z => Value.long z), ← arrV_store]
      exact e1
    · cases hi
  · cases hi
theorem es_aastore (cx : eCx P N G X p s m args meth c k) (gt : gTy P N) (gl : gCl N G.cl) (hd : decode (N.cd k) pc = .ok (.aastore, 1)) (hi : eIns P X k (.aastore) pc lo st h = some x) (b : eBa P G s k c0 s0 lo h H locs cells slots ls) :
    eGoal P G p l e R s m args below meth c H locs cells slots Q k c0 s0 pc ls st h x := by
  simp only [eIns] at hi
  unfold eStA at hi
  split at hi
  · rename_i v i a r
    split at hi
    · rename_i t n f hcell
      split at hi
      · rename_i cv fs hv
        obtain ⟨hq, h2⟩ := eIf_then hi
        obtain ⟨h3, h2⟩ := eIn_some h2
        obtain rfl := eN_inj h2
        have ha : ¬ a = 0 := fun z => hq (Or.inl z)
        have hv0 : ¬ v = 0 := fun z => hq (Or.inr (Or.inl z))
        have hel : P.elt t = some cv := Decidable.of_not_not fun z => hq (Or.inr (Or.inr z))
        refine ⟨⟨Nat.le_refl _, Nat.le_refl _⟩, fun _ _ _ _ kk => ?_⟩
        have hK := cx.2.2.2.2.2.1
        obtain ⟨r', hr', cellV, g1, g2, g3, -⟩ := b.2.1.at hv0 hv
        have hcls := (hK.1 cv r' hr').2
        rw [gl cv r' hr'] at hcls
        obtain ⟨kA, comp, k1, k2, k3, -⟩ := (hK.2 t _ (eTy_at (gt.2.2.2 t cv hel))).2
        have hcomp : comp = G.D.1 cv := Option.some.inj (k3.symm.trans hcls.1)
        subst hcomp
        obtain ⟨kC, hkC, -⟩ := hcls.2
        have hlt : i.toNatClampNeg < n := Nat.not_le.mp fun z => h3 (Or.inr z)
        refine W.aast cx.1 cx.2.1 (b.2.1.at ha hcell) (fun q h => by cases h) (fun h => by cases h) k1 k2 rfl hkC ⟨fun z => h3 (Or.inl z), by show _ < (arrV _ _ _).slots.size; rw [arrV_size]; exact hlt⟩ g1 (fun q h => by rw [g3] at h; cases h) (by rw [g2]; exact hkC) (by rw [g2]; exact va_assign hcls) rfl rfl hd fun H1 e1 e2 e3 => ?_
        refine kk H1 _ cells slots ls (b.set ha hcell e2 e3 ?_)
        show H1[_]? = some (arrV (G.ca t) n fun j => va_rf ((eUp f i.toNatClampNeg (some v) j).map (eAd G)))
        rw [← e_upd (fun z : Option Nat => va_rf (z.map (eAd G))), ← arrV_store]
        exact e1
      · cases hi
    · cases hi
  · rename_i i a r
    split at hi
    · rename_i t n f hcell
      obtain ⟨hq, h2⟩ := eIf_then hi
      obtain ⟨h3, h2⟩ := eIn_some h2
      obtain rfl := eN_inj h2
      have ha : ¬ a = 0 := fun z => hq (Or.inl z)
      cases hel : P.elt t with
      | none => exact absurd (Or.inr hel) hq
      | some cv =>
        refine ⟨⟨Nat.le_refl _, Nat.le_refl _⟩, fun _ _ _ _ kk => ?_⟩
        refine va_WaastN cx.1 cx.2.1 (b.2.1.at ha hcell) ((cx.2.2.2.2.2.1.2 t _ (eTy_at (gt.2.2.2 t cv hel))).1 n (fun j => va_rf ((f j).map (eAd G)))) (fun q => by cases q) (e_in h3) rfl rfl hd fun H1 e1 e2 e3 => ?_
        refine kk H1 _ cells slots ls (b.set ha hcell e2 e3 ?_)
        show H1[_]? = some (arrV (G.ca t) n fun j => va_rf ((eUp f i.toNatClampNeg none j).map (eAd G)))
        rw [← e_upd (fun z : Option Nat => va_rf (z.map (eAd G))), ← arrV_store]
        exact e1
    · cases hi
  · cases hi
theorem es_arraylength (cx : eCx P N G X p s m args meth c k) (hd : decode (N.cd k) pc = .ok (.arraylength, 1)) (hi : eIns P X k (.arraylength) pc lo st h = some x) (b : eBa P G s k c0 s0 lo h H locs cells slots ls) :
    eGoal P G p l e R s m args below meth c H locs cells slots Q k c0 s0 pc ls st h x := by
  obtain ⟨a, r, rfl, h2⟩ := eR1_some hi
  cases a with
  | zero =>
    obtain rfl := eN_inj h2
    exact ⟨⟨Nat.le_refl _, Nat.le_refl _⟩, fun _ _ _ _ kk => va_slen cx.1 cx.2.1 cx.2.2.2.2.2.2.1.1 (Nat.lt_of_le_of_lt cx.2.2.2.2.2.2.1.2.1 cx.2.2.2.2.2.2.1.2.2) (Nat.not_lt.mpr cx.2.2.2.2.2.2.1.2.1) b.2.2.1 hd (kk _ _ _ _ _ b)⟩
  | succ a => cases h2
theorem es_newarray_int (cx : eCx P N G X p s m args meth c k) (gt : gTy P N) (gn : gNew P N G.cl) (hd : decode (N.cd k) pc = .ok (.newarray .int, 2)) (hi : eIns P X k (.newarray .int) pc lo st h = some x) (b : eBa P G s k c0 s0 lo h H locs cells slots ls) :
    eGoal P G p l e R s m args below meth c H locs cells slots Q k c0 s0 pc ls st h x := by
  obtain ⟨n, r, rfl, h2⟩ := eI1_some hi
  obtain ⟨hq, h2⟩ := eIf_then h2
  obtain rfl := eN_inj h2
  refine ⟨⟨Nat.le_succ _, Nat.le_add_right _ _⟩, fun hc hs _ _ kk => ?_⟩
  have hc' : h.2.1 + 1 ≤ R.cells + c0 := hc
  have hs' : h.2.2 + n.toNatClampNeg ≤ R.slots + s0 := hs
  have b4 := b.2.2.2.1
  have b5 := b.2.2.2.2
  refine va_newaK (atype := .int) cx.1 cx.2.1 (cx.2.2.2.2.1 _ gn.1.1) rfl hd rfl (fun z => hq (Or.inl z)) rfl (Nat.not_lt.mp fun z => hq (Or.inr z)) (by omega) (by omega) rfl fun H1 cA e1 z1 o1 hAr hNm => ?_
  have hca : cA = G.ca 0 := Option.some.inj (hNm.symm.trans (cx.2.2.2.2.2.1.2 0 _ (eTy_at gt.1)).2)
  subst hca
  have z : W p l e R s m args below meth c H1 locs (cells + 1) (slots + n.toNatClampNeg) Q (F0 m (pc + 2) ls (.ref (eAd G h.2.1) :: r.map (eVal G))) := kk _ _ _ _ _ (b.new z1 o1 e1)
  rw [b.2.1.next] at z
  exact z
theorem es_newarray_long (cx : eCx P N G X p s m args meth c k) (gt : gTy P N) (gn : gNew P N G.cl) (hd : decode (N.cd k) pc = .ok (.newarray .long, 2)) (hi : eIns P X k (.newarray .long) pc lo st h = some x) (b : eBa P G s k c0 s0 lo h H locs cells slots ls) :
    eGoal P G p l e R s m args below meth c H locs cells slots Q k c0 s0 pc ls st h x := by
  obtain ⟨n, r, rfl, h2⟩ := eI1_some hi
  obtain ⟨hq, h2⟩ := eIf_then h2
  obtain rfl := eN_inj h2
  refine ⟨⟨Nat.le_succ _, Nat.le_add_right _ _⟩, fun hc hs _ _ kk => ?_⟩
  have hc' : h.2.1 + 1 ≤ R.cells + c0 := hc
  have hs' : h.2.2 + n.toNatClampNeg ≤ R.slots + s0 := hs
  have b4 := b.2.2.2.1
  have b5 := b.2.2.2.2
  refine va_newaK (atype := .long) cx.1 cx.2.1 (cx.2.2.2.2.1 _ gn.1.2.1) rfl hd rfl (fun z => hq (Or.inl z)) rfl (Nat.not_lt.mp fun z => hq (Or.inr z)) (by omega) (by omega) rfl fun H1 cA e1 z1 o1 hAr hNm => ?_
  have hca : cA = G.ca 1 := Option.some.inj (hNm.symm.trans (cx.2.2.2.2.2.1.2 1 _ (eTy_at gt.2.1)).2)
  subst hca
  have z : W p l e R s m args below meth c H1 locs (cells + 1) (slots + n.toNatClampNeg) Q (F0 m (pc + 2) ls (.ref (eAd G h.2.1) :: r.map (eVal G))) := kk _ _ _ _ _ (b.new z1 o1 e1)
  rw [b.2.1.next] at z
  exact z
theorem es_newarray_char (cx : eCx P N G X p s m args meth c k) (gt : gTy P N) (gn : gNew P N G.cl) (hd : decode (N.cd k) pc = .ok (.newarray .char, 2)) (hi : eIns P X k (.newarray .char) pc lo st h = some x) (b : eBa P G s k c0 s0 lo h H locs cells slots ls) :
    eGoal P G p l e R s m args below meth c H locs cells slots Q k c0 s0 pc ls st h x := by
  obtain ⟨n, r, rfl, h2⟩ := eI1_some hi
  obtain ⟨hq, h2⟩ := eIf_then h2
  obtain rfl := eN_inj h2
  refine ⟨⟨Nat.le_succ _, Nat.le_add_right _ _⟩, fun hc hs _ _ kk => ?_⟩
  have hc' : h.2.1 + 1 ≤ R.cells + c0 := hc
  have hs' : h.2.2 + n.toNatClampNeg ≤ R.slots + s0 := hs
  have b4 := b.2.2.2.1
  have b5 := b.2.2.2.2
  refine va_newaK (atype := .char) cx.1 cx.2.1 (cx.2.2.2.2.1 _ gn.1.2.2) rfl hd rfl (fun z => hq (Or.inl z)) rfl (Nat.not_lt.mp fun z => hq (Or.inr z)) (by omega) (by omega) rfl fun H1 cA e1 z1 o1 hAr hNm => ?_
  have hca : cA = G.ca 2 := Option.some.inj (hNm.symm.trans (cx.2.2.2.2.2.1.2 2 _ (eTy_at gt.2.2.1)).2)
  subst hca
  have z : W p l e R s m args below meth c H1 locs (cells + 1) (slots + n.toNatClampNeg) Q (F0 m (pc + 2) ls (.ref (eAd G h.2.1) :: r.map (eVal G))) := kk _ _ _ _ _ (b.new z1 o1 e1)
  rw [b.2.1.next] at z
  exact z
theorem es_anewarray {ix : Nat} (cx : eCx P N G X p s m args meth c k) (gn : gNew P N G.cl) (hd : decode (N.cd k) pc = .ok (.anewarray ix, 3)) (hi : eIns P X k (.anewarray ix) pc lo st h = some x) (b : eBa P G s k c0 s0 lo h H locs cells slots ls) :
    eGoal P G p l e R s m args below meth c H locs cells slots Q k c0 s0 pc ls st h x := by
  simp only [eIns] at hi
  split at hi
  · rename_i t ht
    obtain ⟨n, r, rfl, h2⟩ := eI1_some hi
    obtain ⟨hq, h2⟩ := eIf_then h2
    obtain rfl := eN_inj h2
    obtain ⟨C, hty, hw2⟩ := cx.2.2.2.2.2.2.2.1.2.1 _ _ _ ht
    have hw1 := gn.2.1 _ _ _ C ht hty
    refine ⟨⟨Nat.le_succ _, Nat.le_add_right _ _⟩, fun hc hs _ _ kk => ?_⟩
    have hc' : h.2.1 + 1 ≤ R.cells + c0 := hc
    have hs' : h.2.2 + n.toNatClampNeg ≤ R.slots + s0 := hs
    have b4 := b.2.2.2.1
    have b5 := b.2.2.2.2
    refine W.anew cx.1 cx.2.1 cx.2.2.2.1 (cx.2.2.2.2.1 _ hw1) (va_AO.use hw2) rfl hd rfl (fun z => hq (Or.inl z)) (Nat.not_lt.mp fun z => hq (Or.inr z)) (by omega) (by omega) fun cA kA comp f1 f2 f3 f4 => ?_
    generalize hH1 : H.push ({ cls := cA, slots := Array.replicate n.toNatClampNeg .null, vm := .none } : Cell) = H1
    have z1 : H1.size = H.size + 1 := by rw [← hH1, Array.size_push]
    have e1 : H1[H.size]? = some (arrV cA n.toNatClampNeg (fun _ => .null)) := by rw [← hH1, Array.getElem?_push_size, ← arrV_new]
    have o1 : ∀ q : Nat, q < H.size → H1[q]? = H[q]? := fun q hq => by rw [← hH1, Array.getElem?_push, if_neg (Nat.ne_of_lt hq)]
    obtain ⟨kA', comp', k1, k2, k3, k4⟩ := (cx.2.2.2.2.2.1.2 t _ (eTy_at hty)).2
    have hca : cA = G.ca t := Option.some.inj (f1.symm.trans k4)
    subst hca
    have z : W p l e R s m args below meth c H1 locs (cells + 1) (slots + n.toNatClampNeg) Q (F0 m (pc + 3) ls (.ref (eAd G h.2.1) :: r.map (eVal G))) := kk _ _ _ _ _ (b.new z1 o1 e1)
    rw [b.2.1.next] at z
    exact z
  · cases hi
theorem es_new {ix : Nat} (cx : eCx P N G X p s m args meth c k) (gn : gNew P N G.cl) (hd : decode (N.cd k) pc = .ok (.new ix, 3)) (hi : eIns P X k (.new ix) pc lo st h = some x) (b : eBa P G s k c0 s0 lo h H locs cells slots ls) :
    eGoal P G p l e R s m args below meth c H locs cells slots Q k c0 s0 pc ls st h x := by
  simp only [eIns] at hi
  split at hi
  · rename_i c1 hcl
    obtain rfl := eN_inj hi
    obtain ⟨C, T, n, ty0, hcl1, hw1, hw2, hw3, hin, hty, hdf, hbl⟩ := gn.2.2 _ _ _ hcl
    refine ⟨⟨Nat.le_succ _, Nat.le_add_right _ _⟩, fun hc hs _ _ kk => ?_⟩
    have hc' : h.2.1 + 1 ≤ R.cells + c0 := hc
    have hs' : h.2.2 + (P.bla c1).2 ≤ R.slots + s0 := hs
    have b4 := b.2.2.2.1
    have b5 := b.2.2.2.2
    have hKn := cx.2.2.2.2.2.1.1 c1 _ hcl1
    refine W.newcK cx.1 cx.2.1 cx.2.2.2.1 (cx.2.2.2.2.1 _ hw1) (cx.2.2.2.2.1 _ hw2) (cx.2.2.2.2.1 _ hw3) rfl hd (by omega) (by omega) hKn.2.1 rfl fun H1 kC hkC e1 z1 o1 => ?_
    have hmap : (P.bla c1).1.map (eVal G) = (P.bla c1).1 := by
      conv => rhs; rw [← List.map_id (P.bla c1).1]
      refine List.map_congr_left fun v hv => ?_
      rcases hbl v hv with rfl | rfl | rfl <;> rfl
    have hat : va_at G.D G.cl (H.size, eCo G (.inr (c1, (P.bla c1).1))) H1 := ⟨_, hcl1, by
      show t_OB H.size (G.D.1 c1) n (G.D.2 c1) H1 (vp_V ((P.bla c1).1.map (eVal G)))
      rw [hmap]
      exact (u_born ty0 cx.2.2.2.2.1 hin hKn hkC e1 hty).to hdf⟩
    have z : W p l e R s m args below meth c H1 locs (cells + 1) (slots + (P.bla c1).2) Q (F0 m (pc + 3) ls (.ref (eAd G h.2.1) :: st.map (eVal G))) := kk _ _ _ _ _ (b.new z1 o1 hat)
    rw [b.2.1.next] at z
    exact z
  · cases hi
end ES3
end
section
def eO (G : eG) (r : eR) : Outcome := match r with
  | .inl v => .returned (v.map (eVal G))
  | .inr a => .threw (eAd G a)
def eZ (G : eG) (s : State) (below : List Frame) (r : eR) (h : eH) (mc ms : Nat) : State → Prop := fun t =>
  t.status = .running ∧ Ended t below (eO G r) ∧ eRel G h t.heap ∧ s.WarmedH t.vm ∧ va_F (eA0 G) s t ∧ ∃ L, s.sameButNew ({ t with vm := s.vm } : State) L mc ms ∧ ∀ q ∈ L, eA0 G q.base
theorem eNar_some {G : eG} {ty : Option FieldType} {v u : Value} (h : eNar ty v = some u) : ∃ t, ty = some t ∧ eVal G u = narrow t (eVal G v) := by
  unfold eNar at h
  split at h <;> first | cases h; done | (cases h; exact ⟨_, rfl, rfl⟩)
section ES4
variable {p : Program} {l : Launch} {e : Env} {R : Room} {s : State} {m : MethodId} {args : Array Value} {below : List Frame} {meth : Method} {c : Code} {H : Heap} {locs : List Loc} {cells slots : Nat}
variable {P : eP} {N : eW} {G : eG} {X : Nat × (Nat → Int32)} {k pc c0 s0 : Nat} {ls : Array Slot} {lo : eLo} {st : List Value} {h : eH} {r : eR} {h' : eH}
theorem e_vret (cx : eCx P N G X p s m args meth c k) (hd : decode (N.cd k) pc = .ok (.return_, 1)) (hr : eRt P k = none) (b : eBa P G s k c0 s0 lo h H locs cells slots ls) :
    W p l e R s m args below meth c H locs cells slots (eZ G s below (.inl none) h cells slots) (F0 m pc ls []) := by
  intro T hT X
  have hexec := cx.1
  have hb := cx.2.1
  have hr' : meth.sig.returnType = none := cx.2.2.2.2.2.2.2.2.2.1.trans hr
  have hlocks : meth.locks = false := cx.2.2.2.2.2.2.2.2.2.2.1
  obtain ⟨fs, hret, hrun, hended, hW, hframe⟩ := X.leave (v := none) (fun _ => rfl)
  have hmeth' : T.vm.method? m = some meth := X.method'
  refine ⟨T.setFrames fs, ?_, hrun, hended, by show eRel G h T.heap; rw [hT]; exact b.2.1, hW, by show _ ≤ T.heap.size ∧ _; rw [hT]; exact ⟨b.2.2.1.1, fun q h1 h2 => by show T.heap[q]? = _; rw [hT]; exact b.2.2.1.2.1 q h1 h2⟩, locs, hframe, b.2.2.1.2.2⟩
  jvm_step X.here [X.here.top, hexec, hb, hd, hmeth', hr']
  (try refine ⟨rfl, ?_⟩); (try refine ⟨rfl, ?_⟩)
  first | (intro acts; rw [hret _ acts rfl rfl rfl]) | rw [hret _ _ rfl rfl rfl]
  exact Steps.refl _
theorem e_iret {y : Int32} {u : Value} (cx : eCx P N G X p s m args meth c k) (hd : decode (N.cd k) pc = .ok (.ireturn, 1)) (hr : eNar (eRt P k) (.int y) = some u) (b : eBa P G s k c0 s0 lo h H locs cells slots ls) :
    W p l e R s m args below meth c H locs cells slots (eZ G s below (.inl (some u)) h cells slots) (F0 m pc ls [.int y]) := by
  intro T hT X
  have hexec := cx.1
  have hb := cx.2.1
  obtain ⟨ty, hty, hu⟩ := eNar_some (G := G) hr
  have hr' : meth.sig.returnType = some ty := cx.2.2.2.2.2.2.2.2.2.1.trans hty
  have hlocks : meth.locks = false := cx.2.2.2.2.2.2.2.2.2.2.1
  obtain ⟨fs, hret, hrun, hended, hW, hframe⟩ := X.leave (v := some (eVal G u)) (fun h => by rw [hr'] at h; cases h)
  have hmeth' : T.vm.method? m = some meth := X.method'
  refine ⟨T.setFrames fs, ?_, hrun, hended, by show eRel G h T.heap; rw [hT]; exact b.2.1, hW, by show _ ≤ T.heap.size ∧ _; rw [hT]; exact ⟨b.2.2.1.1, fun q h1 h2 => by show T.heap[q]? = _; rw [hT]; exact b.2.2.1.2.1 q h1 h2⟩, locs, hframe, b.2.2.1.2.2⟩
  have hu' : narrow ty (.int y) = eVal G u := hu.symm
  jvm_step X.here [X.here.top, hexec, hb, hd, hmeth', hr', hu']
  (try refine ⟨rfl, ?_⟩); (try refine ⟨rfl, ?_⟩)
  first | (intro acts; rw [hret _ acts rfl rfl rfl]) | rw [hret _ _ rfl rfl rfl]
  exact Steps.refl _
theorem e_lret {y : Int64} {u : Value} (cx : eCx P N G X p s m args meth c k) (hd : decode (N.cd k) pc = .ok (.lreturn, 1)) (hr : eNar (eRt P k) (.long y) = some u) (b : eBa P G s k c0 s0 lo h H locs cells slots ls) :
    W p l e R s m args below meth c H locs cells slots (eZ G s below (.inl (some u)) h cells slots) (F0 m pc ls [.long y]) := by
  intro T hT X
  have hexec := cx.1
  have hb := cx.2.1
  have hr2 : eRt P k = some .long ∧ u = .long y := by
    unfold eNar at hr
    split at hr <;> first | cases hr; done | (cases hr; rename_i q1 q2; first | exact ⟨q1, by cases q2; rfl⟩ | cases q2)
  obtain ⟨hty, rfl⟩ := hr2
  have hr' : meth.sig.returnType = some .long := cx.2.2.2.2.2.2.2.2.2.1.trans hty
  have hlocks : meth.locks = false := cx.2.2.2.2.2.2.2.2.2.2.1
  obtain ⟨fs, hret, hrun, hended, hW, hframe⟩ := X.leave (v := some (.long y)) (fun h => by rw [hr'] at h; cases h)
  have hmeth' : T.vm.method? m = some meth := X.method'
  refine ⟨T.setFrames fs, ?_, hrun, hended, by show eRel G h T.heap; rw [hT]; exact b.2.1, hW, by show _ ≤ T.heap.size ∧ _; rw [hT]; exact ⟨b.2.2.1.1, fun q h1 h2 => by show T.heap[q]? = _; rw [hT]; exact b.2.2.1.2.1 q h1 h2⟩, locs, hframe, b.2.2.1.2.2⟩
  jvm_step X.here [X.here.top, hexec, hb, hd, hmeth', hr', narrow]
  (try refine ⟨rfl, ?_⟩); (try refine ⟨rfl, ?_⟩)
  first | (intro acts; rw [hret _ acts rfl rfl rfl]) | rw [hret _ _ rfl rfl rfl]
  exact Steps.refl _
theorem e_aret {y : Option Nat} {u : Value} (cx : eCx P N G X p s m args meth c k) (hd : decode (N.cd k) pc = .ok (.areturn, 1)) (hr : eNar (eRt P k) (eRf y) = some u) (b : eBa P G s k c0 s0 lo h H locs cells slots ls) :
    W p l e R s m args below meth c H locs cells slots (eZ G s below (.inl (some u)) h cells slots) (F0 m pc ls [eVal G (eRf y)]) := by
  intro T hT X
  have hexec := cx.1
  have hb := cx.2.1
  have hr2 : ∃ rt, eRt P k = some rt ∧ u = eRf y ∧ ((∃ n, rt = .object n) ∨ ∃ t, rt = .array t) := by
    cases y <;> (unfold eNar eRf at hr; split at hr <;> first | cases hr; done | (cases hr; rename_i q1 q2; first | cases q2; done | exact ⟨_, q1, by cases q2; rfl, by first | exact Or.inl ⟨_, rfl⟩ | exact Or.inr ⟨_, rfl⟩⟩))
  obtain ⟨rt, hty, rfl, hrt⟩ := hr2
  have hr' : meth.sig.returnType = some rt := cx.2.2.2.2.2.2.2.2.2.1.trans hty
  have hlocks : meth.locks = false := cx.2.2.2.2.2.2.2.2.2.2.1
  obtain ⟨fs, hret, hrun, hended, hW, hframe⟩ := X.leave (v := some (eVal G (eRf y))) (fun h => by rw [hr'] at h; cases h)
  have hmeth' : T.vm.method? m = some meth := X.method'
  refine ⟨T.setFrames fs, ?_, hrun, hended, by show eRel G h T.heap; rw [hT]; exact b.2.1, hW, by show _ ≤ T.heap.size ∧ _; rw [hT]; exact ⟨b.2.2.1.1, fun q h1 h2 => by show T.heap[q]? = _; rw [hT]; exact b.2.2.1.2.1 q h1 h2⟩, locs, hframe, b.2.2.1.2.2⟩
  have hv : eVal G (eRf y) = .null ∨ ∃ a, eVal G (eRf y) = .ref a := by
    cases y with
    | none => exact Or.inl rfl
    | some y => exact Or.inr ⟨_, rfl⟩
  generalize eVal G (eRf y) = v at hret hv ⊢
  rcases hrt with ⟨n, rfl⟩ | ⟨t, rfl⟩ <;> rcases hv with rfl | ⟨a, rfl⟩ <;>
    (jvm_step X.here [X.here.top, hexec, hb, hd, hmeth', hr']
     (try refine ⟨rfl, ?_⟩); (try refine ⟨rfl, ?_⟩)
     first | (intro acts; rw [hret _ acts rfl rfl rfl]) | rw [hret _ _ rfl rfl rfl]
     exact Steps.refl _)
theorem e_athrow {y : Nat} {rs : List Value} (cx : eCx P N G X p s m args meth c k) (hd : decode (N.cd k) pc = .ok (.athrow, 1)) (hh : eHs P k = []) (b : eBa P G s k c0 s0 lo h H locs cells slots ls) :
    W p l e R s m args below meth c H locs cells slots (eZ G s below (.inr y) h cells slots) (F0 m pc ls (.ref (eAd G y) :: rs)) := by
  intro T hT X
  obtain ⟨h1, h2, h3, h4, h5⟩ := X.athrowLeaves cx.1 (g := F0 m pc ls (.ref (eAd G y) :: rs)) rfl rfl rfl (fun x hx => by rw [cx.2.2.2.2.2.2.2.2.2.2.2.1 hh] at hx; exact absurd hx List.not_mem_nil) (a := eAd G y) (rest := rs) rfl (by rw [cx.2.1]; exact hd) (hlocks := cx.2.2.2.2.2.2.2.2.2.2.1)
  exact ⟨_, h1, h2, h3, by show eRel G h T.heap; rw [hT]; exact b.2.1, h4, by show _ ≤ T.heap.size ∧ _; rw [hT]; exact ⟨b.2.2.1.1, fun q h1 h2 => by show T.heap[q]? = _; rw [hT]; exact b.2.2.1.2.1 q h1 h2⟩, locs, h5, b.2.2.1.2.2⟩
theorem e_end {i : Instr} {len : Nat} (cx : eCx P N G X p s m args meth c k) (hd : decode (N.cd k) pc = .ok (i, len)) (hlen : eIl i = 0 ∨ len = eIl i) (hi : eRet P k i st h = some (r, h')) (b : eBa P G s k c0 s0 lo h H locs cells slots ls) :
    h' = h ∧ W p l e R s m args below meth c H locs cells slots (eZ G s below r h cells slots) (F0 m pc ls (st.map (eVal G))) := by
  unfold eRet at hi
  split at hi
  · obtain rfl : len = 1 := by simpa [eIl] using hlen
    split at hi
    · rename_i y
      simp only [eEnd] at hi
      split at hi
      · rename_i u hu
        cases hi
        exact ⟨rfl, e_iret cx hd hu b⟩
      · cases hi
    · cases hi
  · obtain rfl : len = 1 := by simpa [eIl] using hlen
    split at hi
    · rename_i y
      simp only [eEnd] at hi
      split at hi
      · rename_i u hu
        cases hi
        exact ⟨rfl, e_lret cx hd hu b⟩
      · cases hi
    · cases hi
  · obtain rfl : len = 1 := by simpa [eIl] using hlen
    split at hi
    · rename_i y
      simp only [eEnd] at hi
      split at hi
      · rename_i u hu
        cases hi
        exact ⟨rfl, e_aret (y := some y) cx hd hu b⟩
      · cases hi
    · simp only [eEnd] at hi
      split at hi
      · rename_i u hu
        cases hi
        exact ⟨rfl, e_aret (y := none) cx hd hu b⟩
      · cases hi
    · cases hi
  · obtain rfl : len = 1 := by simpa [eIl] using hlen
    split at hi
    · split at hi
      · rename_i hr
        cases hi
        exact ⟨rfl, e_vret cx hd hr b⟩
      · cases hi
    · cases hi
  · obtain rfl : len = 1 := by simpa [eIl] using hlen
    split at hi
    · rename_i hh
      split at hi
      · split at hi
        · cases hi
        · cases hi
          exact ⟨rfl, e_athrow cx hd hh b⟩
      · cases hi
    · cases hi
  · cases hi
end ES4
end
section
def eRm (d mc ms : Nat) : Room := { frames := d + 12, cells := mc, slots := ms, locals := (d + 12) * 64 }
def ePc (P : eP) (N : eW) (G : eG) (X : Nat × (Nat → Int32)) (as : List Value) (h : eH) : Array Value → State → Prop := fun v U =>
  v = (as.map (eVal G)).toArray ∧ va_K G.D G.cl (eTy G N) U ∧ eRel G h U.heap ∧ (va_X G.b X.1 X.2 U U.heap ∧ G.b ≤ G.B) ∧ eFx P N G U
def eQc (G : eG) (r : eR) (h : eH) : Array Value → State → Outcome → State → Prop := fun _ st o t => o = eO G r ∧ eRel G h t.heap ∧ va_F (eA0 G) st t
def eMet (l : Launch) (P : eP) (N : eW) (G : eG) (X : Nat × (Nat → Int32)) (d k : Nat) (as : List Value) (h : eH) (r : eR) (h' : eH) : Prop :=
  MetFree l (N.mn k) (headSpec lw_gd (eRm d (h'.2.1 - h.2.1) (h'.2.2 - h.2.2))) (ePc P N G X as h) (fun _ _ _ _ _ => True)
    (fun a st o t => eQc G r h' a st o t ∧ st.WarmedH t.vm ∧ ∃ L, st.sameButNew ({ t with vm := st.vm } : State) L (h'.2.1 - h.2.1) (h'.2.2 - h.2.2) ∧ ∀ q ∈ L, eA0 G q.base)
def gCode (P : eP) (N : eW) (k : Nat) : Prop := (eHs P k = [] ∧ Cond.code (N.mn k) (N.cd k) (eNL P k) (eRt P k) ∈ lw_gd) ∨ (¬ eHs P k = [] ∧ ∃ hs, Cond.codeWith (N.mn k) (N.cd k) (eNL P k) (eRt P k) hs ∈ lw_gd)
def gName (P : eP) (N : eW) (k : Nat) : Prop := plainName (N.mn k).cls = true ∧ ((N.mn k).cls ≠ "java/lang/invoke/MethodHandle" ∧ (N.mn k).cls ≠ "java/lang/invoke/VarHandle") ∧ (N.mn k).cls = N.cn (eOwn P k) ∧ Cond.initialized (N.mn k).cls ∈ lw_gd ∧ (P.ini k = true → (N.mn k).name = "<init>") ∧ eNL P k ≤ 40
def gMth (P : eP) (N : eW) : Prop := ∀ o ix kind k n, P.mth o ix = some (kind, k, n) →
  (kind < 3 → gCode P N k ∧ gName P N k) ∧ (kind < 2 → Cond.methodLink (N.cn o) ix (N.mn k) ∈ lw_gd) ∧
  (kind = 0 → Cond.static (N.mn k) ∈ lw_gd ∧ (parseMethodDescriptor (N.mn k).desc).map (fun d => d.parameters.length) = some n) ∧
  (kind = 1 → Cond.instanceMethod (N.mn k) ∈ lw_gd ∧ Cond.selects (N.mn k).cls (N.mn k) (N.mn k) ∈ lw_gd ∧ eHs P k = [] ∧ (parseMethodDescriptor (N.mn k).desc).map (fun d => d.parameters.length + 1) = some n) ∧
  (kind = 2 → Cond.instanceMethod (N.mn k) ∈ lw_gd ∧ (N.mn k).name = "<init>" ∧ P.ini k = true ∧ eHs P k = [] ∧ eRt P k = none ∧ (parseMethodDescriptor (N.mn k).desc).map (fun d => d.parameters.length + 1) = some n) ∧
  (kind = 3 → n = 1 ∧ Cond.methodLink (N.cn o) ix Lib.objectInit ∈ lw_gd ∧ Cond.instanceMethod Lib.objectInit ∈ lw_gd ∧ Cond.code Lib.objectInit ⟨#[0xb1]⟩ 1 none ∈ lw_gd) ∧
  (kind = 5 → n = 2 ∧ Cond.methodLink (N.cn o) ix Lib.Math.min.name ∈ lw_gd ∧ Cond.static Lib.Math.min.name ∈ lw_gd ∧ Cond.initialized "java/lang/Math" ∈ lw_gd ∧ Cond.code Lib.Math.min.name Lib.Math.min.code 2 (some .int) ∈ lw_gd) ∧
  (kind = 6 → n = 5 ∧ Cond.methodLink (N.cn o) ix arraycopyName ∈ lw_gd ∧ Cond.native arraycopyName ∈ lw_gd ∧ Cond.static arraycopyName ∈ lw_gd ∧ Cond.initialized "java/lang/System" ∈ lw_gd)
theorem ePc_blind {P : eP} {N : eW} {G : eG} {X : Nat × (Nat → Int32)} {as : List Value} {h : eH} : FrameBlind (ePc P N G X as h) := fun a U g mk q =>
  ⟨q.1, va_K.moved (u := U) (Vm.Alike.refl _) q.2.1, q.2.2.1, ⟨va_X.moved (u := U) (Vm.Alike.refl _) q.2.2.2.1.1, q.2.2.2.1.2⟩, eFx.warm (s := U) (State.WarmedH.refl _) (fun _ _ => rfl) q.2.2.2.2⟩
section ES5
variable {p : Program} {l : Launch} {e : Env} {R : Room} {s : State} {m : MethodId} {args : Array Value} {below : List Frame} {meth : Method} {c : Code} {H : Heap} {locs : List Loc} {cells slots : Nat} {Q : State → Prop}
variable {P : eP} {N : eW} {G : eG} {X : Nat × (Nat → Int32)} {k pc c0 s0 : Nat} {ls : Array Slot} {lo : eLo} {st : List Value} {h : eH}
theorem ePc_at {as : List Value} {U : State} (cx : eCx P N G X p s m args meth c k) (b : eBa P G s k c0 s0 lo h H locs cells slots ls) (hU : U.heap = H) (hW : s.WarmedH U.vm) : ePc P N G X as h (as.map (eVal G)).toArray U :=
  ⟨rfl, cx.2.2.2.2.2.1.moved hW.alike, by rw [hU]; exact b.2.1, ⟨by
    rw [hU]
    exact (va_X.moved hW.alike cx.2.2.2.2.2.2.1.1).kept (b.2.2.1.2.1 _ (Nat.lt_of_le_of_lt cx.2.2.2.2.2.2.1.2.1 cx.2.2.2.2.2.2.1.2.2) (Nat.not_lt.mpr cx.2.2.2.2.2.2.1.2.1)), cx.2.2.2.2.2.2.1.2.1⟩, cx.2.2.2.2.2.2.2.1.warm hW (fun q hq => by rw [hU]; exact b.2.2.1.2.1 q (Nat.lt_of_le_of_lt hq cx.2.2.2.2.2.2.1.2.2) (Nat.not_lt.mpr hq))⟩
theorem eMet.met {d : Nat} {as : List Value} {v : Option Value} {h' : eH} {k' : Nat} (hM : eMet l P N G X d k' as h (.inl v) h') :
    Met l (N.mn k') lw_gd (eRm d (h'.2.1 - h.2.1) (h'.2.2 - h.2.2)) (ePc P N G X as h) (eQc G (.inl v) h') (h'.2.1 - h.2.1) (h'.2.2 - h.2.2) (eA0 G) := by
  intro p e ha hc hk s m args below hf happ hP hK
  obtain ⟨n, o, h1, h2, h3, hq, hw, L, hL, hA⟩ := hM p e ha hc hk s m args below hf happ hP hK
  exact ⟨n, o, h1, h2, h3, hq, L, ⟨⟨_, hq.1⟩, hw, hL⟩, hA⟩
theorem e_back {v : Option Value} {h' : eH} {rs : List Value} {st0 : List Value} {a : Array Value} (b : eBa P G s k c0 s0 lo h H locs cells slots ls) (hm : h.2.1 ≤ h'.2.1 ∧ h.2.2 ≤ h'.2.2)
    (hr : CallRun p l e R s m args below meth c H locs cells slots (h'.2.1 - h.2.1) (h'.2.2 - h.2.2) (F0 m pc ls st0) (rs.map (eVal G)) (eQc G (.inl v) h' a) (eA0 G))
    (kk : eNext P G p l e R s m args below meth c Q k c0 s0 (pc + 3, lo, v.toList ++ rs, h')) : W p l e R s m args below meth c H locs cells slots Q (F0 m pc ls st0) := by
  intro T hT X
  obtain ⟨w, st₀, t, T', L, h0, X', hL, e1, ⟨hv, hR, hF⟩, stp⟩ := hr T hT X
  have hw : w = v.map (eVal G) := by
    have := hv
    simp only [eO, Outcome.returned.injEq] at this
    exact this
  subst hw
  have b4 := b.2.2.2.1
  have b5 := b.2.2.2.2
  rw [← e1] at hR
  have hF1 : H.size ≤ T'.heap.size := by rw [e1, ← h0]; exact hF.1
  have hF2 : ∀ q : Nat, q < H.size → ¬ eA0 G q → T'.heap[q]? = H[q]? := fun q h1 h2 => by rw [e1, ← h0]; exact hF.2 q (by rw [h0]; exact h1) h2
  have z := kk T'.heap (locs ++ L) (cells + (h'.2.1 - h.2.1)) (slots + (h'.2.2 - h.2.2)) ls ⟨b.1, hR, ⟨Nat.le_trans b.2.2.1.1 hF1, fun q h1 h2 => (hF2 q (Nat.lt_of_lt_of_le h1 b.2.2.1.1) h2).trans (b.2.2.1.2.1 q h1 h2), fun q hq => by
      rcases List.mem_append.mp hq with h | h
      · exact b.2.2.1.2.2 q h
      · exact hL q h⟩, by show cells + (h'.2.1 - h.2.1) + c0 = h'.2.1; omega, by show slots + (h'.2.2 - h.2.2) + s0 = h'.2.2; omega⟩
  obtain ⟨t2, a1, b1⟩ := z T' rfl X'
  refine ⟨t2, stp t2 ?_, b1⟩
  have hst : (v.map (eVal G)).toList ++ rs.map (eVal G) = (v.toList ++ rs).map (eVal G) := by cases v <;> simp
  rw [hst]
  exact a1
theorem e_len {y : MethodName} {n j : Nat} (hd : (parseMethodDescriptor y.desc).map (fun d => d.parameters.length + j) = some n) : ∀ sig, parseMethodDescriptor y.desc = some sig → n = sig.parameters.length + j := fun sig h => by
  rw [h] at hd
  exact (Option.some.inj hd).symm
theorem e_cat {rs : List Value} (hrs : eCat rs ≤ 8) : 2 * 0 + ((rs.map (eVal G)).map fun v => v.category).sum ≤ 8 := by
  rw [List.map_map]
  have : ((fun v : Value => v.category) ∘ eVal G) = fun v => v.category := funext (eVal_cat G)
  rw [this]
  unfold eCat at hrs
  omega
theorem e_runI {d k' ix : Nat} {as rs : List Value} {v : Option Value} {h' : eH} {a : Nat} (cx : eCx P N G X p s m args meth c k) (gg : GoodIn lw_gd lw_gd) (b : eBa P G s k c0 s0 lo h H locs cells slots ls)
    (hM : eMet l P N G X d k' (.ref a :: as) h (.inl v) h') (hcode : Cond.code (N.mn k') (N.cd k') (eNL P k') none ∈ lw_gd) (hn : gName P N k') (hlink : Cond.methodLink (N.cn (eOwn P k)) ix (N.mn k') ∈ lw_gd ∨ ∃ host, va_Nw (.methodLinkNest (N.cn (eOwn P k)) ix (N.mn k') host) s) (hin : Cond.instanceMethod (N.mn k') ∈ lw_gd) (hini : (N.mn k').name = "<init>")
    (hlen : (parseMethodDescriptor (N.mn k').desc).map (fun d => d.parameters.length + 1) = some (as.length + 1)) (hrs : eCat rs ≤ 8) (hd : decode (N.cd k) pc = .ok (.invokespecial ix, 3)) (hfr : d + 13 ≤ R.frames ∧ (d + 13) * 64 ≤ R.locals)
    (hc : h'.2.1 ≤ R.cells + c0) (hs : h'.2.2 ≤ R.slots + s0) (hm : h.2.1 ≤ h'.2.1 ∧ h.2.2 ≤ h'.2.2) {st0 : List Value} (hst : st0 = as.reverse ++ .ref a :: rs) :
    CallRun p l e R s m args below meth c H locs cells slots (h'.2.1 - h.2.1) (h'.2.2 - h.2.2) (F0 m pc ls (st0.map (eVal G))) (rs.map (eVal G)) (eQc G (.inl v) h' (Value.ref (eAd G a) :: as.map (eVal G)).toArray) (eA0 G) := by
  have hts := cx.2.2.2.2.1
  have b4 := b.2.2.2.1
  have b5 := b.2.2.2.2
  have hfr1 : d + 12 + 1 ≤ R.frames := by omega
  have hlo1 : 8 + (eNL P k' + 11) + (d + 12) * 64 ≤ R.locals := by
    have := hn.2.2.2.2.2
    omega
  have hst2 : (F0 m pc ls (st0.map (eVal G))).stack = (as.map (eVal G)).reverse ++ .ref (eAd G a) :: rs.map (eVal G) := by subst hst; simp; rfl
  rcases hlink with hlink | ⟨host, hlink⟩
  · exact W.runI (nL := eNL P k) (own := N.cn (eOwn P k)) (Ts := lw_gd) (n := as.length) (bytes := N.cd k') (maxL := eNL P k') (b := eAd G a) (As := as.map (eVal G)) ⟨cx.1, cx.2.1, cx.2.2.1, cx.2.2.2.1, hts⟩ hM.met
      ⟨⟨rfl, rfl, hfr1, hlo1, pay_in hts gg, hcode, hts _ hcode, hts _ hn.2.2.2.1, hn.2.1, fun sig hsig => by have := e_len hlen sig hsig; omega, hts _ hlink⟩, hini, hts _ hin⟩
      ⟨ePc_blind, fun U hU hW => ePc_at cx b hU hW⟩ rfl (by simp) b.1.2.1 hst2 (e_cat hrs) hd ⟨by omega, by omega⟩
  · have hr := va_runIN (l := l) (cells := cells) (slots := slots) (R := R) (below := below) (p := p) (e := e) (meth := meth) (locs := locs) (H := H) (g := F0 m pc ls (st0.map (eVal G))) (rest := rs.map (eVal G)) (nL := eNL P k) (own := N.cn (eOwn P k)) (host := host) (Ts := lw_gd) (n := as.length) (bytes := N.cd k') (maxL := eNL P k') (b := eAd G a) (As := as.map (eVal G)) ⟨cx.1, cx.2.1, cx.2.2.1, cx.2.2.2.1, hts⟩ hM.met
      ⟨⟨⟨rfl, rfl, hfr1, hlo1, pay_in hts gg, hcode⟩, hts _ hcode, hts _ hn.2.2.2.1, hn.2.1, fun sig hsig => by have := e_len hlen sig hsig; omega, va_Nw.use rfl hlink⟩, hini, hts _ hin⟩
      ⟨ePc_blind, fun U hU hW => ePc_at cx b hU hW⟩ rfl (by simp) b.1.2.1 hst2 (e_cat hrs) hd ⟨by omega, by omega⟩
    intro T hT X0
    obtain ⟨w, st₀, t, T', L, h0, X', hL, e1, -, hq, stp⟩ := hr T hT X0
    exact ⟨w, st₀, t, T', L, h0, X', hL, e1, hq, stp⟩
theorem e_recv {a c1 : Nat} {fs : List Value} (cx : eCx P N G X p s m args meth c k) (gl : gCl N G.cl) (b : eBa P G s k c0 s0 lo h H locs cells slots ls) (ha : ¬ a = 0) (hc : h.1 a = some (.inr (c1, fs))) :
    ∃ cellB : Cell, H[eAd G a]? = some cellB ∧ cellB.vm.isStatics = false ∧ s.vm.findClass (N.cn c1) = some cellB.cls := by
  obtain ⟨r, hr, cell, g1, g2, g3, -⟩ := b.2.1.at ha hc
  refine ⟨cell, g1, by rw [g3]; rfl, ?_⟩
  rw [g2, ← gl c1 r hr]
  exact (cx.2.2.2.2.2.1.1 c1 r hr).2.1
theorem e_runV {d k' ix : Nat} {as rs : List Value} {v : Option Value} {h' : eH} {a : Nat} {fs : List Value} (cx : eCx P N G X p s m args meth c k) (gg : GoodIn lw_gd lw_gd) (gl : gCl N G.cl) (b : eBa P G s k c0 s0 lo h H locs cells slots ls)
    (hM : eMet l P N G X d k' (.ref a :: as) h (.inl v) h') (hcode : Cond.code (N.mn k') (N.cd k') (eNL P k') (eRt P k') ∈ lw_gd) (hn : gName P N k') (hlink : Cond.methodLink (N.cn (eOwn P k)) ix (N.mn k') ∈ lw_gd) (hin : Cond.instanceMethod (N.mn k') ∈ lw_gd) (hse : Cond.selects (N.mn k').cls (N.mn k') (N.mn k') ∈ lw_gd)
    (ha : ¬ a = 0) (hcell : h.1 a = some (.inr (eOwn P k', fs)))
    (hlen : (parseMethodDescriptor (N.mn k').desc).map (fun d => d.parameters.length + 1) = some (as.length + 1)) (hrs : eCat rs ≤ 8) (hd : decode (N.cd k) pc = .ok (.invokevirtual ix, 3)) (hfr : d + 13 ≤ R.frames ∧ (d + 13) * 64 ≤ R.locals)
    (hc : h'.2.1 ≤ R.cells + c0) (hs : h'.2.2 ≤ R.slots + s0) (hm : h.2.1 ≤ h'.2.1 ∧ h.2.2 ≤ h'.2.2) {st0 : List Value} (hst : st0 = as.reverse ++ .ref a :: rs) :
    CallRun p l e R s m args below meth c H locs cells slots (h'.2.1 - h.2.1) (h'.2.2 - h.2.2) (F0 m pc ls (st0.map (eVal G))) (rs.map (eVal G)) (eQc G (.inl v) h' (Value.ref (eAd G a) :: as.map (eVal G)).toArray) (eA0 G) := by
  have hts := cx.2.2.2.2.1
  have b4 := b.2.2.2.1
  have b5 := b.2.2.2.2
  refine W.runV (nL := eNL P k) (own := N.cn (eOwn P k)) (C := (N.mn k').cls) (Ts := lw_gd) (n := as.length) (bytes := N.cd k') (maxL := eNL P k') (b := eAd G a) (As := as.map (eVal G)) ⟨cx.1, cx.2.1, cx.2.2.1, cx.2.2.2.1, hts⟩ hM.met
    ⟨⟨rfl, rfl, ?_, ?_, pay_in hts gg, hcode, hts _ hcode, hts _ hn.2.2.2.1, hn.2.1, fun sig hsig => by have := e_len hlen sig hsig; omega, hts _ hlink⟩, hts _ hin, hts _ hse⟩
    ⟨ePc_blind, by rw [hn.2.2.1]; exact e_recv cx gl b ha hcell, fun U hU hW => ePc_at cx b hU hW⟩ rfl (by simp) b.1.2.1 (by subst hst; simp; rfl) (e_cat hrs) hd ⟨by omega, by omega⟩
  · show d + 12 + 1 ≤ R.frames
    omega
  · show 8 + (eNL P k' + 11) + (d + 12) * 64 ≤ R.locals
    have := hn.2.2.2.2.2
    omega
theorem e_backOf {d k' : Nat} {as : List Value} {v : Option Value} {h' : eH} (hts : ∀ w ∈ lw_gd, w.before args s = true) (gg : GoodIn lw_gd lw_gd) (hM : eMet l P N G X d k' as h (.inl v) h') (hcode : gCode P N k') (hn : gName P N k') (hfr : d + 13 ≤ R.frames ∧ (d + 13) * 64 ≤ R.locals) :
    Back l R p e below s args (N.mn k') 3 8 (PreOf R (h'.2.1 - h.2.1) (h'.2.2 - h.2.2) (ePc P N G X as h)) (PostOf (eQc G (.inl v) h') (h'.2.1 - h.2.1) (h'.2.2 - h.2.2) (eA0 G)) := by
  have hws := pay_in hts gg
  have hlo : 8 + (eNL P k' + 11) + (d + 12) * 64 ≤ R.locals := by have := hn.2.2.2.2.2; omega
  rcases hcode with ⟨-, hcode⟩ | ⟨-, hs, hcode⟩
  · exact back_of (bytes := N.cd k') (maxL := eNL P k') (ret := eRt P k') hM.met ePc_blind rfl rfl (by show d + 12 + 1 ≤ _; omega) hlo hws hcode (fun a' U hW => hws _ hn.2.2.2.1 a' U hW)
  · refine Back.of_freeWith (handlers := hs) (S := headSpec lw_gd (eRm d (h'.2.1 - h.2.1) (h'.2.2 - h.2.2))) (P := ePc P N G X as h) (K := fun _ _ _ _ _ => True) (Q := fun a st o t => eQc G (.inl v) h' a st o t ∧ ∃ L, FrameEnd st o t L (h'.2.1 - h.2.1) (h'.2.2 - h.2.2) ∧ ∀ q ∈ L, eA0 G q.base) (bytes := N.cd k') (maxL := eNL P k') (ret := eRt P k')
      (E := fun a st o t L k n => k = (h'.2.1 - h.2.1) ∧ n = (h'.2.2 - h.2.2) ∧ ∀ q ∈ L, eA0 G q.base) hM.met (by show d + 12 + 1 ≤ _; omega) hlo ?_ ?_ (fun _ _ _ _ _ _ _ _ _ => trivial) ?_ ?_
    · intro m meth c A a X hp
      exact ⟨atoms_intro fun w hw => hws w hw _ _ X.warmed, hws _ hcode _ _ X.warmed, hws _ hn.2.2.2.1 _ _ X.warmed, hp.1, hp.2.1⟩
    · intro m meth c A a g mk X hp
      exact ePc_blind _ _ _ _ hp.2.2
    · intro a st o t ⟨hq, L, hF, hL⟩
      exact ⟨L, _, _, hF, rfl, rfl, hL⟩
    · intro m meth c A a g mk v t L k n X hp hq hF ⟨e1, e2, hL⟩
      subst e1; subst e2
      exact ⟨g, mk, t, L, rfl, rfl, hq.1, rfl, hL, rfl, rfl⟩
theorem e_named {k' : Nat} (hts : ∀ w ∈ lw_gd, w.before args s = true) (hcode : gCode P N k') : ∃ mk methM, s.methodNamed? (N.mn k') = some mk ∧ s.vm.method? mk = some methM ∧ parseMethodDescriptor (N.mn k').desc = some methM.sig := by
  rcases hcode with ⟨-, hcode⟩ | ⟨-, hs', hcode⟩
  · obtain ⟨mk, hnamed⟩ := Cond.code_named (hts _ hcode)
    obtain ⟨methM, cM, hmethM, -, -, -, -, -, -, hsigM⟩ := Cond.code_spec hnamed (hts _ hcode)
    exact ⟨mk, methM, hnamed, hmethM, hsigM⟩
  · obtain ⟨mk, methM, cM, hnamed, hmethM, -, -, -, -, -, -, hsigM⟩ := Cond.codeWith_spec (hts _ hcode)
    exact ⟨mk, methM, hnamed, hmethM, hsigM⟩
theorem e_runS {d k' ix : Nat} {as rs : List Value} {v : Option Value} {h' : eH} (cx : eCx P N G X p s m args meth c k) (gg : GoodIn lw_gd lw_gd) (b : eBa P G s k c0 s0 lo h H locs cells slots ls)
    (hM : eMet l P N G X d k' as h (.inl v) h') (hcode : gCode P N k') (hn : gName P N k') (hlink : Cond.methodLink (N.cn (eOwn P k)) ix (N.mn k') ∈ lw_gd) (hstat : Cond.static (N.mn k') ∈ lw_gd)
    (hlen : (parseMethodDescriptor (N.mn k').desc).map (fun d => d.parameters.length) = some as.length) (hrs : eCat rs ≤ 8) (hd : decode (N.cd k) pc = .ok (.invokestatic ix, 3)) (hfr : d + 13 ≤ R.frames ∧ (d + 13) * 64 ≤ R.locals)
    (hc : h'.2.1 ≤ R.cells + c0) (hs : h'.2.2 ≤ R.slots + s0) (hm : h.2.1 ≤ h'.2.1 ∧ h.2.2 ≤ h'.2.2) {st0 : List Value} (hst : st0 = as.reverse ++ rs) :
    CallRun p l e R s m args below meth c H locs cells slots (h'.2.1 - h.2.1) (h'.2.2 - h.2.2) (F0 m pc ls (st0.map (eVal G))) (rs.map (eVal G)) (eQc G (.inl v) h' (as.map (eVal G)).toArray) (eA0 G) := by
  have hts := cx.2.2.2.2.1
  have b4 := b.2.2.2.1
  have b5 := b.2.2.2.2
  have hK := e_backOf (p := p) (e := e) (below := below) hts gg hM hcode hn hfr
  have hsz : (F0 m pc ls (st0.map (eVal G))).locals.size = c.maxLocals := b.1.2.1.trans cx.2.2.1.symm
  have hl2 : ∀ sig, parseMethodDescriptor (N.mn k').desc = some sig → (as.map (eVal G)).length = sig.parameters.length := fun sig hsig => by
    rw [hsig] at hlen
    rw [List.length_map]
    exact (Option.some.inj hlen).symm
  have hst2 : (F0 m pc ls (st0.map (eVal G))).stack = (as.map (eVal G)).reverse ++ rs.map (eVal G) := by subst hst; simp
  obtain ⟨mk, methM, hnamed, hmethM, hsigM⟩ := e_named hts hcode
  have hstatic : methM.isStatic = true := Cond.static_spec hnamed hmethM (hts _ hstat)
  obtain ⟨kP, hkP, -⟩ := className_of_methodNamed hnamed
  have hinitP : kP.init = .initialized := Cond.initialized_spec (findClass_of_methodNamed hnamed) hkP (hts _ hn.2.2.2.1)
  intro T hT X0
  obtain ⟨vm₁, X₁, hstep₁⟩ := X0.invokestatic cx.1 cx.2.2.2.1 (hts _ hlink) hnamed hmethM hstatic hkP hinitP hn.2.1 (g := F0 m pc ls (st0.map (eVal G))) rfl (argsL := as.map (eVal G)) (rest := rs.map (eVal G)) (hl2 _ hsigM) hst2 (by rw [cx.2.1]; exact hd)
  obtain ⟨w, ⟨U', l2, c2, s2⟩, X', ⟨g', mk', t, L, e1, e2, hq, h1, hL, h2, h3⟩, hsteps⟩ := hK m meth c ⟨T.setVm vm₁, locs, cells, slots⟩ { (F0 m pc ls (st0.map (eVal G))) with stack := rs.map (eVal G) } (.invokestatic ix) mk (as.map (eVal G)).toArray X₁ rfl hsz (by rw [cx.2.1]; exact hd) (e_cat hrs) (X₁.named hnamed)
    ⟨by show cells + _ ≤ _; omega, by show slots + _ ≤ _; omega, ePc_at (U := T.setVm vm₁) cx b hT X₁.warmed⟩
  dsimp only [Pt.U, Pt.locs, Pt.cells, Pt.slots] at X' e1 e2 h1 h2 h3 hsteps
  subst h1; subst h2; subst h3
  exact ⟨w, (T.setVm vm₁).calling g' mk' (as.map (eVal G)).toArray, t, U', L, hT, X', hL, e1, hq, fun target h => hstep₁ _ fun acts => by rw [doInvoke_state]; exact hsteps.trans h⟩
end ES5
end
section
theorem e_cpy_eq : @eCpy = @va_cpy := rfl
theorem eOn_some {kd kind pc : Nat} {lo : eLo} {st : List Value} {h : eH} {x : eS} (q : eOwnless kd kind pc lo st h = some x) :
    (kind = 3 ∧ kd = 2 ∧ ∃ a r, st = .ref a :: r ∧ (pc + 3, lo, r, h) = x) ∨
    (kind = 5 ∧ kd = 0 ∧ ∃ y z r, st = .int z :: .int y :: r ∧ (pc + 3, lo, .int (if z < y then z else y) :: r, h) = x) ∨
    (kind = 6 ∧ kd = 0 ∧ eCopy h st (fun h' r => eN (pc + 3) lo r h') = some x) := by
  unfold eOwnless at q
  split at q
  · obtain ⟨h1, h2⟩ := eIf_else q
    obtain ⟨a, r, rfl, h2⟩ := eR1_some h2
    exact Or.inl ⟨rfl, h1, a, r, rfl, eN_inj h2⟩
  · obtain ⟨h1, h2⟩ := eIf_else q
    obtain ⟨y, z, r, rfl, h2⟩ := eI2_some h2
    exact Or.inr (Or.inl ⟨rfl, h1, y, z, r, rfl, eN_inj h2⟩)
  · obtain ⟨h1, h2⟩ := eIf_else q
    exact Or.inr (Or.inr ⟨rfl, h1, h2⟩)
  · cases q
theorem eArgs_some {P : eP} {kd kind k n : Nat} {st : List Value} {h : eH} {as rs : List Value} (hn : ¬ (st.length < n)) (q : eArgs P kd kind k n st h = some (as, rs)) :
    st = as.reverse ++ rs ∧ rs = st.drop n ∧ as.length = n ∧ kd = kind ∧ (kind = 0 ∨ (kind = 1 ∧ ∃ a as' fs, as = .ref a :: as' ∧ ¬ a = 0 ∧ h.1 a = some (.inr (eOwn P k, fs))) ∨ (kind = 2 ∧ ∃ a as', as = .ref a :: as')) := by
  have key : ∀ {as rs : List Value}, (st.take n).reverse = as → st.drop n = rs → st = as.reverse ++ rs ∧ rs = st.drop n ∧ as.length = n := fun h1 h2 => by
    subst h1; subst h2
    exact ⟨by simp, rfl, by simp; omega⟩
  unfold eArgs at q
  split at q
  · cases q
  · rename_i hk
    have hk : kd = kind := Decidable.of_not_not hk
    split at q
    · cases q
      obtain ⟨h1, h2, h3⟩ := key rfl rfl
      exact ⟨h1, h2, h3, hk, Or.inl rfl⟩
    · split at q
      · rename_i a as' hz
        split at q
        · rename_i c fs hc
          split at q
          · cases q
          · rename_i hq
            cases q
            obtain ⟨h1, h2, h3⟩ := key rfl rfl
            have h4 : c = eOwn P k := Decidable.of_not_not fun z => hq (Or.inr z)
            subst h4
            exact ⟨h1, h2, h3, hk, Or.inr (Or.inl ⟨rfl, a, as', fs, hz, fun z => hq (Or.inl z), hc⟩)⟩
        · cases q
      · cases q
    · split at q
      · rename_i a as' hz
        cases q
        obtain ⟨h1, h2, h3⟩ := key rfl rfl
        exact ⟨h1, h2, h3, hk, Or.inr (Or.inr ⟨rfl, a, as', hz⟩)⟩
      · cases q
    · cases q
section ES6
variable {p : Program} {l : Launch} {e : Env} {R : Room} {s : State} {m : MethodId} {args : Array Value} {below : List Frame} {meth : Method} {c : Code} {H : Heap} {locs : List Loc} {cells slots : Nat} {Q : State → Prop}
variable {P : eP} {N : eW} {G : eG} {X : Nat × (Nat → Int32)} {k pc c0 s0 : Nat} {ls : Array Slot} {lo : eLo} {st : List Value} {h : eH} {x : eS}
theorem es_init {ix k0 na a : Nat} {rs : List Value} (cx : eCx P N G X p s m args meth c k) (gm : gMth P N) (hm : P.mth (eOwn P k) ix = some (3, k0, na)) (hd : decode (N.cd k) pc = .ok (.invokespecial ix, 3)) (hrs : eCat ((Value.ref a :: rs).drop na) ≤ 8) (b : eBa P G s k c0 s0 lo h H locs cells slots ls) (hfr : 12 ≤ R.frames ∧ 700 ≤ R.locals)
    (kk : eNext P G p l e R s m args below meth c Q k c0 s0 (pc + 3, lo, rs, h)) : W p l e R s m args below meth c H locs cells slots Q (F0 m pc ls (.ref (eAd G a) :: rs.map (eVal G))) := by
  obtain ⟨rfl, h1, h2, h3⟩ := (gm _ _ _ _ _ hm).2.2.2.2.2.1 rfl
  have hts := cx.2.2.2.2.1
  have hrs' : eCat rs ≤ 8 := hrs
  refine W.objInit cx.1 cx.2.1 cx.2.2.2.1 (hts _ h1) (hts _ h2) (hts _ h3) rfl (b.1.2.1.trans cx.2.2.1.symm) rfl hd (by omega) ?_ (kk _ _ _ _ _ b)
  have := e_cat (G := G) hrs'
  show 2 * 0 + _ + 12 ≤ _
  omega
theorem es_min {ix k0 na : Nat} {y z : Int32} {rs : List Value} (cx : eCx P N G X p s m args meth c k) (gm : gMth P N) (hm : P.mth (eOwn P k) ix = some (5, k0, na)) (hd : decode (N.cd k) pc = .ok (.invokestatic ix, 3)) (hrs : eCat ((Value.int z :: Value.int y :: rs).drop na) ≤ 8) (b : eBa P G s k c0 s0 lo h H locs cells slots ls) (hfr : 12 ≤ R.frames ∧ 700 ≤ R.locals) (hc : h.2.1 ≤ R.cells + c0) (hs : h.2.2 ≤ R.slots + s0)
    (kk : eNext P G p l e R s m args below meth c Q k c0 s0 (pc + 3, lo, .int (if z < y then z else y) :: rs, h)) : W p l e R s m args below meth c H locs cells slots Q (F0 m pc ls (.int z :: .int y :: rs.map (eVal G))) := by
  obtain ⟨rfl, h1, h2, h3, h4⟩ := (gm _ _ _ _ _ hm).2.2.2.2.2.2.1 rfl
  have hts := cx.2.2.2.2.1
  have b4 := b.2.2.2.1
  have b5 := b.2.2.2.2
  have hrs' : eCat rs ≤ 8 := hrs
  have := e_cat (G := G) hrs'
  exact va_mmin cx.1 cx.2.1 (cx.2.2.1.trans b.1.2.1.symm) cx.2.2.2.1 (hts _ h1) (hts _ h2) (hts _ h3) (hts _ h4) (by omega) (by omega) (by omega) (by omega) hd (kk _ _ _ _ _ b)
theorem e_copy_one {ix k0 na : Nat} {sp dp n : Int32} {a d : Nat} {rs : List Value} {t na0 nd : Nat} {α : Type} {mk : α → Value} {f g : Nat → α} {ty : FieldType} {wrap : (Nat → α) → (Nat → Int32) ⊕ ((Nat → Int64) ⊕ (Nat → Option Nat))}
    (hcell : ∀ j (f : Nat → α) (z : Nat) (H : Heap), va_at G.D G.cl (z, eCo G (.inl (t, j, wrap f))) H ↔ H[z]? = some (arrV (G.ca t) j fun i => mk (f i)))
    (cx : eCx P N G X p s m args meth c k) (gm : gMth P N) (hty : N.ty[t]? = some ty) (hprim : refKind ty = false) (hfit : ∀ z, fits ty (mk z) = true) (hmk : ∀ z w, mk z ≠ .ref w) (hm : P.mth (eOwn P k) ix = some (6, k0, na)) (hd : decode (N.cd k) pc = .ok (.invokestatic ix, 3)) (hrs : eCat rs ≤ 8)
    (b : eBa P G s k c0 s0 lo h H locs cells slots ls) (hfr : 12 ≤ R.frames ∧ 700 ≤ R.locals) (ha : ¬ a = 0) (hd0 : ¬ d = 0) (ca : h.1 a = some (.inl (t, na0, wrap f))) (cd : h.1 d = some (.inl (t, nd, wrap g))) (h1 : ¬ sp < 0) (h2 : ¬ dp < 0) (h3 : ¬ n < 0) (h4 : sp.toNatClampNeg + n.toNatClampNeg ≤ na0) (h5 : dp.toNatClampNeg + n.toNatClampNeg ≤ nd)
    (kk : eNext P G p l e R s m args below meth c Q k c0 s0 (pc + 3, lo, rs, eSetH h d (.inl (t, nd, wrap (eCpy f g sp.toNatClampNeg dp.toNatClampNeg n.toNatClampNeg))))) :
    W p l e R s m args below meth c H locs cells slots Q (F0 m pc ls (.int n :: .int dp :: .ref (eAd G d) :: .int sp :: .ref (eAd G a) :: rs.map (eVal G))) := by
  obtain ⟨-, w1, w2, w3, w4⟩ := (gm _ _ _ _ _ hm).2.2.2.2.2.2.2 rfl
  have hts := cx.2.2.2.2.1
  have hK := cx.2.2.2.2.2.1
  have nn : ∀ z : Int32, ¬ z < 0 → z.toInt = (z.toNatClampNeg : Int) := by
    intro z hz
    have hz0 : (0 : Int) ≤ z.toInt := by
      have := Int32.not_lt.mp hz
      simpa using Int32.le_iff_toInt_le.mp this
    show z.toInt = ((z.toInt.toNat : Nat) : Int)
    omega
  intro T hT X0
  have hc0 : H[eAd G a]? = some (arrV (G.ca t) na0 fun i => mk (f i)) := (hcell _ _ _ _).mp (b.2.1.at ha ca)
  have hc1 : H[eAd G d]? = some (arrV (G.ca t) nd fun i => mk (g i)) := (hcell _ _ _ _).mp (b.2.1.at hd0 cd)
  obtain ⟨-, kk0, hk0, cm0, hkk0⟩ := (hK.2 t _ (eTy_at hty)).1 na0 (fun i => mk (f i))
  obtain ⟨-, kk1, hk1, cm1, hkk1⟩ := (hK.2 t _ (eTy_at hty)).1 nd (fun i => mk (g i))
  obtain ⟨vm', X', step⟩ := X0.arraycopy cx.1 cx.2.2.2.1 (hts _ w1) (hts _ w2) (hts _ w3) (hts _ w4) (src := eAd G a) (dst := eAd G d) (cs := arrV (G.ca t) na0 fun i => mk (f i)) (cd := arrV (G.ca t) nd fun i => mk (g i)) (srcPos := sp) (destPos := dp) (n := n) (by rw [hT]; exact hc0) (by rw [hT]; exact hc1)
    (fun _ h => by cases h) (fun _ h => by cases h) (fun h => by cases h) (fun h => by cases h) hk0 hk1 hkk0 hkk1 (by simp [hprim]) h1 h2 h3
    (by rw [nn sp h1, nn n h3, arrV_size]; omega)
    (by rw [nn dp h2, nn n h3, arrV_size]; omega)
    (fun vm₁ _ i hi => by
      have e : (arrV (G.ca t) na0 fun i => mk (f i)).slots.getD (sp.toNatClampNeg + i) .null = mk (f (sp.toNatClampNeg + i)) := by
        rw [Array.getD_eq_getD_getElem?, arrV_read _ _ (by omega)]
        rfl
      rw [e]
      refine ⟨hfit _, ?_⟩
      cases hq : mk (f (sp.toNatClampNeg + i)) <;> first | exact trivial | exact absurd hq (hmk _ _))
    (g := F0 m pc ls (.int n :: .int dp :: .ref (eAd G d) :: .int sp :: .ref (eAd G a) :: rs.map (eVal G))) rfl (b.1.2.1.trans cx.2.2.1.symm) (rest := rs.map (eVal G)) rfl (by rw [cx.2.1]; exact hd) (by omega) (by
      have := e_cat (G := G) hrs
      have hw : nativeFrameWords "java/lang/System" "arraycopy" 5 ≤ 100 := by decide +kernel
      show 2 * 0 + _ + _ ≤ _
      omega)
  have e1 : copied (arrV (G.ca t) na0 fun i => mk (f i)) (arrV (G.ca t) nd fun i => mk (g i)) sp dp n = arrV (G.ca t) nd fun i => mk (va_cpy f g sp.toNatClampNeg dp.toNatClampNeg n.toNatClampNeg i) := va_copied mk (G.ca t) (G.ca t) f g h4
  rw [e1] at X' step
  have hl : eAd G d < H.size := (Array.getElem?_eq_some_iff.mp hc1).1
  have hz : ∀ locs1 : List Loc, (∀ q ∈ locs1, eA0 G q.base) → W p l e R s m args below meth c (H.setIfInBounds (eAd G d) (arrV (G.ca t) nd fun i => mk (va_cpy f g sp.toNatClampNeg dp.toNatClampNeg n.toNatClampNeg i))) locs1 cells slots Q (F0 m (pc + 3) ls (rs.map (eVal G))) := fun locs1 hl1 =>
    kk _ locs1 cells slots ls ⟨b.1, b.2.1.set hd0 cd (by simp) (fun q hq => by simp [Array.getElem?_setIfInBounds, Ne.symm hq]) ((hcell _ _ _ _).mpr (by simp [Array.getElem?_setIfInBounds, hl]; rfl)),
    ⟨by simp; exact b.2.2.1.1, fun q g1 g2 => by
      have hq : q ≠ eAd G d := fun z => g2 (by rw [z]; exact eA0_ad hd0)
      simp only [Array.getElem?_setIfInBounds, if_neg (Ne.symm hq)]
      exact b.2.2.1.2.1 q g1 g2, hl1⟩, b.2.2.2⟩
  obtain ⟨t2, a1, b1⟩ := hz _ (by
    intro q hq
    rcases List.mem_append.mp hq with h | h
    · exact b.2.2.1.2.2 q h
    · obtain ⟨z, -, hz⟩ := List.mem_map.mp h
      rw [← hz]
      exact eA0_ad hd0) _ (by rw [← hT]; rfl) X'
  exact ⟨t2, step t2 a1, b1⟩
end ES6
end
section
section ES7
variable {p : Program} {l : Launch} {e : Env} {R : Room} {s : State} {m : MethodId} {args : Array Value} {below : List Frame} {meth : Method} {c : Code} {H : Heap} {locs : List Loc} {cells slots : Nat} {Q : State → Prop}
variable {P : eP} {N : eW} {G : eG} {X : Nat × (Nat → Int32)} {k pc c0 s0 : Nat} {ls : Array Slot} {lo : eLo} {st : List Value} {h : eH}
theorem e_threw {d k' : Nat} {as : List Value} {y : Nat} {h' : eH} {T : State} {g : JFrame} {mk : MethodId} {ig : Instr} (hts : ∀ w ∈ lw_gd, w.before args s = true) (gg : GoodIn lw_gd lw_gd) (hM : eMet l P N G X d k' as h (.inr y) h') (hcode : Cond.code (N.mn k') (N.cd k') (eNL P k') (eRt P k') ∈ lw_gd) (hn : gName P N k')
    (hfr : d + 13 ≤ R.frames ∧ (d + 13) * 64 ≤ R.locals) (X0 : Stand p l e R s m args below meth c T locs cells slots) (hg : g.method = m) (hsize : g.locals.size = c.maxLocals) (hdg : decode c.code g.pc = .ok (ig, 3)) (hW : 2 * g.monitorRoom + (g.stack.map fun v => v.category).sum ≤ 8) (hnm : T.methodNamed? (N.mn k') = some mk)
    (hPc : ePc P N G X as h (as.map (eVal G)).toArray T) (hc : cells + (h'.2.1 - h.2.1) ≤ R.cells) (hs : slots + (h'.2.2 - h.2.2) ≤ R.slots) :
    ∃ (T' : State) (L : List Loc), Stand p l e R s m args below meth c T' (locs ++ L) (cells + (h'.2.1 - h.2.1)) (slots + (h'.2.2 - h.2.2)) ∧ (∀ q ∈ L, eA0 G q.base) ∧ eRel G h' T'.heap ∧ va_F (eA0 G) T T' ∧
      Steps p.tables e below (doInvoke e (T.setTop g) [] mk (as.map (eVal G)).toArray).1 ((T'.setTop g).pushFrame (.throwing (eAd G y))) := by
  subst hg
  have hws := pay_in hts gg
  have hlo : 8 + (eNL P k' + 11) + (d + 12) * 64 ≤ R.locals := by have := hn.2.2.2.2.2; omega
  obtain ⟨methY, cY, hmY, hcY, -, hlY, -, -, -, -⟩ := Cond.code_spec (args := #[]) hnm (hws _ hcode #[] T X0.warmed)
  obtain ⟨kY, hkY, -⟩ := className_of_methodNamed hnm
  have hinitY : kY.init = .initialized := Cond.initialized_spec (args := #[]) (findClass_of_methodNamed hnm) hkY (hws _ hn.2.2.2.1 #[] T X0.warmed)
  have h0 : At T g.method c below := X0.here
  have happ : (headSpec lw_gd (eRm d (h'.2.1 - h.2.1) (h'.2.2 - h.2.2))).appliesLoose (N.mn k') e.platform (T.calling g mk (as.map (eVal G)).toArray) = true :=
    Spec.appliesLoose_calling (g := g) h0 hdg hnm hkY hinitY
      (X0.room_calling (g := g) (R' := eRm d (h'.2.1 - h.2.1) (h'.2.2 - h.2.2)) hsize hmY hcY (by show d + 12 + 1 ≤ R.frames; omega) (by rw [hlY]; show _ + _ + (eNL P k' + 11) + (d + 12) * 64 ≤ R.locals; omega) hc hs)
      (atoms_intro fun w hw => hws w hw _ _ X0.warmed)
  obtain ⟨mid, hmid⟩ := h0.above
  have hfr2 : (T.setTop g).frames = (.java g :: mid) ++ below := by rw [State.frames_setTop' g h0.top, hmid]; rfl
  obtain ⟨o, s₂, hsteps, -, hend, hq⟩ := Steps.callFree hM p X0.admits X0.cas X0.clock (acts := []) hfr2 happ (ePc_blind _ _ g mk hPc) trivial
  rw [State.frames_setTop' g h0.top] at hend
  have hq' : eQc G (.inr y) h' (as.map (eVal G)).toArray (T.calling g mk (as.map (eVal G)).toArray) o s₂ ∧ (T.calling g mk (as.map (eVal G)).toArray).WarmedH s₂.vm ∧ ∃ L, (T.calling g mk (as.map (eVal G)).toArray).sameButNew ({ s₂ with vm := (T.calling g mk (as.map (eVal G)).toArray).vm } : State) L (h'.2.1 - h.2.1) (h'.2.2 - h.2.2) ∧ ∀ q ∈ L, eA0 G q.base := hq
  obtain ⟨⟨ho, hR, hF⟩, hW₂, L, hsb, hL⟩ := hq'
  obtain ⟨e2, q2, q3, q4, q5, q6⟩ := id hsb
  have ho' : o = .threw (eAd G y) := ho
  subst ho'
  have e3 : s₂ = ({ (T.calling g mk (as.map (eVal G)).toArray).setFrames s₂.frames with heap := s₂.heap, slotsUsed := s₂.slotsUsed } : State).setVm s₂.vm := by
    have : s₂ = ({ s₂ with vm := (T.calling g mk (as.map (eVal G)).toArray).vm } : State).setVm s₂.vm := rfl
    rw [e2] at this
    exact this
  have hf₂ : s₂.frames = .throwing (eAd G y) :: .java g :: T.frames.tail := hend
  have hW' : T.WarmedH s₂.vm := hW₂
  obtain ⟨g₀, hg0⟩ := Option.isSome_iff_exists.mp h0.top
  obtain ⟨r, hr⟩ := State.topJava?_eq_some.mp hg0
  have hs₂ : s₂ = ((({ T with heap := s₂.heap, slotsUsed := s₂.slotsUsed } : State).setVm s₂.vm).setTop g).pushFrame (.throwing (eAd G y)) := by
    have hr' : (({ T with heap := s₂.heap, slotsUsed := s₂.slotsUsed } : State).setVm s₂.vm).frames = .java g₀ :: r := hr
    refine e3.trans ?_
    rw [hf₂, State.calling_eq h0.top, State.setFrames_setFrames, State.pushFrame, State.frames_setTop _ hr', State.setTop_of_frames _ hr', State.setFrames_setFrames, hr]
    rfl
  have hsame : T.sameButNew ({ T with heap := s₂.heap, slotsUsed := s₂.slotsUsed } : State) L (h'.2.1 - h.2.1) (h'.2.2 - h.2.2) := by
    refine ⟨?_, q2, q3, q4, q5, q6⟩
    obtain ⟨t, ht, -⟩ := State.frames_cons hr
    show ({ T with heap := s₂.heap, slotsUsed := s₂.slotsUsed } : State) = { T.setFrames T.frames with heap := s₂.heap, slotsUsed := s₂.slotsUsed }
    rw [State.setFrames_self ht]
  refine ⟨({ T with heap := s₂.heap, slotsUsed := s₂.slotsUsed } : State).setVm s₂.vm, L,
    ⟨X0.admits, X0.cas, X0.clock, X0.frames, X0.room, X0.hears, X0.method, X0.code, (X0.here.setHeapUsed s₂.heap s₂.slotsUsed).setVm hW'.alike, X0.tail, State.WarmedH.trans X0.warmed hW', X0.limits, X0.bytes, X0.same.trans (hsame.setVm s.vm)⟩, hL, hR, hF, ?_⟩
  rw [← hs₂]
  exact hsteps
def eTh (P : eP) (G : eG) (p : Program) (l : Launch) (e : Env) (R : Room) (s : State) (m : MethodId) (args : Array Value) (below : List Frame) (meth : Method) (c : Code) (Q : State → Prop) (k c0 s0 : Nat) (pc : Nat) (lo : eLo) (ls : Array Slot) (rs : List Value) (y : Nat) (h' : eH) : Prop :=
  ∀ (T : State) (locs : List Loc) (cells slots : Nat), Stand p l e R s m args below meth c T locs cells slots → eBa P G s k c0 s0 lo h' T.heap locs cells slots ls →
    ∃ t, Steps p.tables e below ((T.setTop (F0 m pc ls (rs.map (eVal G)))).pushFrame (.throwing (eAd G y))) t ∧ Q t
theorem e_thrS {d k' ix : Nat} {as rs : List Value} {y : Nat} {h' : eH} (cx : eCx P N G X p s m args meth c k) (gg : GoodIn lw_gd lw_gd) (b : eBa P G s k c0 s0 lo h H locs cells slots ls)
    (hM : eMet l P N G X d k' as h (.inr y) h') (hcode : Cond.code (N.mn k') (N.cd k') (eNL P k') (eRt P k') ∈ lw_gd) (hn : gName P N k') (hlink : Cond.methodLink (N.cn (eOwn P k)) ix (N.mn k') ∈ lw_gd) (hstat : Cond.static (N.mn k') ∈ lw_gd)
    (hlen : (parseMethodDescriptor (N.mn k').desc).map (fun d => d.parameters.length) = some as.length) (hrs : eCat rs ≤ 8) (hd : decode (N.cd k) pc = .ok (.invokestatic ix, 3)) (hfr : d + 13 ≤ R.frames ∧ (d + 13) * 64 ≤ R.locals)
    (hc : h'.2.1 ≤ R.cells + c0) (hs : h'.2.2 ≤ R.slots + s0) (hm : h.2.1 ≤ h'.2.1 ∧ h.2.2 ≤ h'.2.2) {st0 : List Value} (hst : st0 = as.reverse ++ rs)
    (kk : eTh P G p l e R s m args below meth c Q k c0 s0 pc lo ls rs y h') : W p l e R s m args below meth c H locs cells slots Q (F0 m pc ls (st0.map (eVal G))) := by
  have hts := cx.2.2.2.2.1
  have b4 := b.2.2.2.1
  have b5 := b.2.2.2.2
  have hl2 : ∀ sig, parseMethodDescriptor (N.mn k').desc = some sig → (as.map (eVal G)).length = sig.parameters.length := fun sig hsig => by
    rw [hsig] at hlen
    rw [List.length_map]
    exact (Option.some.inj hlen).symm
  have hst2 : (F0 m pc ls (st0.map (eVal G))).stack = (as.map (eVal G)).reverse ++ rs.map (eVal G) := by subst hst; simp
  obtain ⟨mk, hnamed⟩ := Cond.code_named (hts _ hcode)
  obtain ⟨methM, cM, hmethM, -, -, -, -, -, -, hsigM⟩ := Cond.code_spec hnamed (hts _ hcode)
  have hstatic : methM.isStatic = true := Cond.static_spec hnamed hmethM (hts _ hstat)
  obtain ⟨kP, hkP, -⟩ := className_of_methodNamed hnamed
  have hinitP : kP.init = .initialized := Cond.initialized_spec (findClass_of_methodNamed hnamed) hkP (hts _ hn.2.2.2.1)
  intro T hT X0
  obtain ⟨vm₁, X₁, hstep₁⟩ := X0.invokestatic cx.1 cx.2.2.2.1 (hts _ hlink) hnamed hmethM hstatic hkP hinitP hn.2.1 (g := F0 m pc ls (st0.map (eVal G))) rfl (argsL := as.map (eVal G)) (rest := rs.map (eVal G)) (hl2 _ hsigM) hst2 (by rw [cx.2.1]; exact hd)
  obtain ⟨T', L, X', hL, hR, hF, hsteps⟩ := e_threw (g := F0 m pc ls (rs.map (eVal G))) hts gg hM hcode hn hfr X₁ rfl (b.1.2.1.trans cx.2.2.1.symm) (by rw [cx.2.1]; exact hd) (e_cat hrs) (X₁.named hnamed) (ePc_at (U := T.setVm vm₁) cx b hT X₁.warmed) (by omega) (by omega)
  have hF1 : H.size ≤ T'.heap.size := by rw [← hT]; exact hF.1
  have hF2 : ∀ q : Nat, q < H.size → ¬ eA0 G q → T'.heap[q]? = H[q]? := fun q h1 h2 => by rw [← hT]; exact hF.2 q (by rw [show (T.setVm vm₁).heap = H from hT]; exact h1) h2
  obtain ⟨t, a1, b1⟩ := kk T' (locs ++ L) _ _ X' ⟨b.1, hR, ⟨Nat.le_trans b.2.2.1.1 hF1, fun q h1 h2 => (hF2 q (Nat.lt_of_lt_of_le h1 b.2.2.1.1) h2).trans (b.2.2.1.2.1 q h1 h2), fun q hq => by
      rcases List.mem_append.mp hq with h | h
      · exact b.2.2.1.2.2 q h
      · exact hL q h⟩, by omega, by omega⟩
  exact ⟨t, (hstep₁ _ fun acts => by rw [doInvoke_state]; exact Steps.refl _).trans (hsteps.trans a1), b1⟩
theorem e_thrV {d k' ix : Nat} {as rs fs : List Value} {a y : Nat} {h' : eH} (cx : eCx P N G X p s m args meth c k) (gg : GoodIn lw_gd lw_gd) (gl : gCl N G.cl) (b : eBa P G s k c0 s0 lo h H locs cells slots ls)
    (hM : eMet l P N G X d k' (.ref a :: as) h (.inr y) h') (hcode : Cond.code (N.mn k') (N.cd k') (eNL P k') (eRt P k') ∈ lw_gd) (hn : gName P N k') (hlink : Cond.methodLink (N.cn (eOwn P k)) ix (N.mn k') ∈ lw_gd) (hin : Cond.instanceMethod (N.mn k') ∈ lw_gd) (hse : Cond.selects (N.mn k').cls (N.mn k') (N.mn k') ∈ lw_gd)
    (ha : ¬ a = 0) (hcell : h.1 a = some (.inr (eOwn P k', fs)))
    (hlen : (parseMethodDescriptor (N.mn k').desc).map (fun d => d.parameters.length + 1) = some (as.length + 1)) (hrs : eCat rs ≤ 8) (hd : decode (N.cd k) pc = .ok (.invokevirtual ix, 3)) (hfr : d + 13 ≤ R.frames ∧ (d + 13) * 64 ≤ R.locals)
    (hc : h'.2.1 ≤ R.cells + c0) (hs : h'.2.2 ≤ R.slots + s0) (hm : h.2.1 ≤ h'.2.1 ∧ h.2.2 ≤ h'.2.2) {st0 : List Value} (hst : st0 = as.reverse ++ .ref a :: rs)
    (kk : eTh P G p l e R s m args below meth c Q k c0 s0 pc lo ls rs y h') : W p l e R s m args below meth c H locs cells slots Q (F0 m pc ls (st0.map (eVal G))) := by
  have hts := cx.2.2.2.2.1
  have b4 := b.2.2.2.1
  have b5 := b.2.2.2.2
  have hst2 : (F0 m pc ls (st0.map (eVal G))).stack = (as.map (eVal G)).reverse ++ .ref (eAd G a) :: rs.map (eVal G) := by subst hst; simp; rfl
  obtain ⟨mk, methM, hnamed, hmethM, hstM, habM⟩ := Cond.instanceMethod_spec (hts _ hin)
  obtain ⟨methM', cM, hmethM', -, -, -, -, -, -, hsigM⟩ := Cond.code_spec hnamed (hts _ hcode)
  cases hmethM.symm.trans hmethM'
  obtain ⟨cellB, hcB, hoB, hclB⟩ := e_recv cx gl b ha hcell
  rw [← hn.2.2.1] at hclB
  obtain ⟨c2, r2, m2, q1, q2, q3, q4, kP, hkP, hkPi⟩ := Cond.selects_spec (hts _ hse)
  cases hclB.symm.trans q1
  cases (State.methodFound?_of_named hnamed hn.2.1).symm.trans q2
  cases hnamed.symm.trans q3
  intro T hT X0
  have hselP : selectMethod e.platform s.vm cellB.cls mk = .method mk := by rw [Launch.admits_selectMethod X0.admits]; exact q4
  obtain ⟨vm₁, X₁, hstep₁⟩ := X0.invokevirtual cx.1 cx.2.2.2.1 (hts _ hlink) hnamed hmethM hstM hkP hkPi hn.2.1 (a := eAd G a) (cell := cellB) (by rw [hT]; exact hcB)
    (fun z h => by rw [h] at hoB; cases hoB) hselP hmethM habM hkP hkPi (g := F0 m pc ls (st0.map (eVal G))) rfl (argsL := as.map (eVal G)) (rest := rs.map (eVal G)) (by have := e_len hlen _ hsigM; rw [List.length_map]; omega) hst2 (by rw [cx.2.1]; exact hd)
  obtain ⟨T', L, X', hL, hR, hF, hsteps⟩ := e_threw (g := F0 m pc ls (rs.map (eVal G))) hts gg hM hcode hn hfr X₁ rfl (b.1.2.1.trans cx.2.2.1.symm) (by rw [cx.2.1]; exact hd) (e_cat hrs) (X₁.named hnamed) (ePc_at (U := T.setVm vm₁) cx b hT X₁.warmed) (by omega) (by omega)
  have hF1 : H.size ≤ T'.heap.size := by rw [← hT]; exact hF.1
  have hF2 : ∀ q : Nat, q < H.size → ¬ eA0 G q → T'.heap[q]? = H[q]? := fun q h1 h2 => by rw [← hT]; exact hF.2 q (by rw [show (T.setVm vm₁).heap = H from hT]; exact h1) h2
  obtain ⟨t, a1, b1⟩ := kk T' (locs ++ L) _ _ X' ⟨b.1, hR, ⟨Nat.le_trans b.2.2.1.1 hF1, fun q h1 h2 => (hF2 q (Nat.lt_of_lt_of_le h1 b.2.2.1.1) h2).trans (b.2.2.1.2.1 q h1 h2), fun q hq => by
      rcases List.mem_append.mp hq with h | h
      · exact b.2.2.1.2.2 q h
      · exact hL q h⟩, by omega, by omega⟩
  exact ⟨t, (hstep₁ _ fun acts => by rw [doInvoke_state]; exact Steps.refl _).trans (hsteps.trans a1), b1⟩
end ES7
end
section
theorem eIns_mono {P : eP} {X : Nat × (Nat → Int32)} {k pc : Nat} {i : Instr} {lo : eLo} {st : List Value} {h : eH} {x : eS} (hx : eIns P X k i pc lo st h = some x) : h.2.1 ≤ x.2.2.2.2.1 ∧ h.2.2 ≤ x.2.2.2.2.2 := by
  cases i
  all_goals first
    | (cases hx; done)
    | (simp only [eIns, eI1, eI2, eJ1, eJ2, eJI, eR1, eQ1, eIA, eTo, eBr, eIf_cd, eIn, eLdI, eLdJ, eLdA, eStI, eStJ, eStA, eLen, eNwA, eGf, ePf, eN, eLoI, eLoJ, eLoA] at hx
       repeat' split at hx
       all_goals first
         | (cases hx; done)
         | (cases hx; exact ⟨Nat.le_refl _, Nat.le_refl _⟩)
         | (cases hx; exact ⟨Nat.le_succ _, Nat.le_add_right _ _⟩))
theorem eOwn_mono {kd kind pc : Nat} {lo : eLo} {st : List Value} {h : eH} {x : eS} (hx : eOwnless kd kind pc lo st h = some x) : h.2.1 ≤ x.2.2.2.2.1 ∧ h.2.2 ≤ x.2.2.2.2.2 := by
  rcases eOn_some hx with ⟨-, -, a, r, -, rfl⟩ | ⟨-, -, y, z, r, -, rfl⟩ | ⟨-, -, hq⟩
  · exact ⟨Nat.le_refl _, Nat.le_refl _⟩
  · exact ⟨Nat.le_refl _, Nat.le_refl _⟩
  · unfold eCopy at hq
    repeat' split at hq
    all_goals first
      | (cases hq; done)
      | (obtain rfl := eN_inj hq; exact ⟨Nat.le_refl _, Nat.le_refl _⟩)
theorem eRet_mono {P : eP} {k : Nat} {i : Instr} {st : List Value} {h h' : eH} {r : eR} (hx : eRet P k i st h = some (r, h')) : h' = h := by
  unfold eRet eEnd at hx
  repeat' split at hx
  all_goals first
    | (cases hx; done)
    | (cases hx; rfl)
theorem eGo_mono {P : eP} {X : Nat × (Nat → Int32)} {call : Nat → List Value → eH → Option (eR × eH)} {k : Nat} {r : eR} {hE : eH} (hcall : ∀ k' as h1 r1 h2, call k' as h1 = some (r1, h2) → h1.2.1 ≤ h2.2.1 ∧ h1.2.2 ≤ h2.2.2) :
    ∀ (n : Nat) (pc : Nat) (lo : eLo) (st : List Value) (h : eH), eGo P X call k n (pc, lo, st, h) = some (r, hE) → h.2.1 ≤ hE.2.1 ∧ h.2.2 ≤ hE.2.2 := by
  intro n
  induction n with
  | zero => intro pc lo st h hx; cases hx
  | succ n ih =>
    intro pc lo st h hx
    simp only [eGo] at hx
    split at hx
    · split at hx
      · cases hx
      · split at hx
        · cases hx
          exact ⟨Nat.le_succ _, Nat.le_add_right _ _⟩
        · cases hx
    · split at hx
      · split at hx
        · cases hx
        · rename_i x hz
          obtain ⟨x1, x2, x3, x4⟩ := x
          have h1 := eIns_mono hz
          have h2 := ih _ _ _ _ hx
          exact ⟨Nat.le_trans h1.1 h2.1, Nat.le_trans h1.2 h2.2⟩
      · split at hx
        · cases hx
        · split at hx
          · cases hx
          · split at hx
            · split at hx
              · cases hx
              · rename_i x hz
                obtain ⟨x1, x2, x3, x4⟩ := x
                have h1 := eOwn_mono hz
                have h2 := ih _ _ _ _ hx
                exact ⟨Nat.le_trans h1.1 h2.1, Nat.le_trans h1.2 h2.2⟩
            · split at hx
              · cases hx
              · split at hx
                · cases hx
                · rename_i v h' hc
                  have h1 := hcall _ _ _ _ _ hc
                  have h2 := ih _ _ _ _ hx
                  exact ⟨Nat.le_trans h1.1 h2.1, Nat.le_trans h1.2 h2.2⟩
                · rename_i a h' hc
                  have h1 := hcall _ _ _ _ _ hc
                  split at hx
                  · cases hx
                  · split at hx
                    · split at hx
                      · have h2 := ih _ _ _ _ hx
                        exact ⟨Nat.le_trans h1.1 h2.1, Nat.le_trans h1.2 h2.2⟩
                      · split at hx
                        · cases hx
                          exact h1
                        · cases hx
                    · cases hx
      · rw [eRet_mono hx]
        exact ⟨Nat.le_refl _, Nat.le_refl _⟩
theorem eRun_mono {P : eP} {X : Nat × (Nat → Int32)} {n : Nat} : ∀ (d k : Nat) (as : List Value) (h : eH) (r : eR) (h' : eH), eRun P X n d k as h = some (r, h') → h.2.1 ≤ h'.2.1 ∧ h.2.2 ≤ h'.2.2 := by
  intro d
  induction d with
  | zero => intro k as h r h' hx; cases hx
  | succ d ih =>
    intro k as h r h' hx
    simp only [eRun] at hx
    split at hx
    · cases hx
    · exact eGo_mono (fun k' as h1 r1 h2 hc => ih k' as h1 r1 h2 hc) _ _ _ _ _ hx
def gAll (P : eP) (N : eW) (cl : List vw_C) : Prop := gIns P N ∧ gFld P N cl ∧ gTy P N ∧ gCl N cl ∧ gNew P N cl ∧ gMth P N ∧ (∀ o ix v, P.con o ix = some (.int v) → Cond.constant (N.cn o) ix v ∈ lw_gd) ∧ (∀ o ix v, P.con o ix = some (.long v) → Cond.constantLong (N.cn o) ix v ∈ lw_gd)
section ES8
variable {p : Program} {l : Launch} {e : Env} {R : Room} {s : State} {m : MethodId} {args : Array Value} {below : List Frame} {meth : Method} {c : Code} {H : Heap} {locs : List Loc} {cells slots : Nat} {Q : State → Prop}
variable {P : eP} {N : eW} {G : eG} {X : Nat × (Nat → Int32)} {k pc c0 s0 : Nat} {ls : Array Slot} {lo : eLo} {st : List Value} {h : eH} {x : eS}
theorem e_step {i : Instr} {len : Nat} (cx : eCx P N G X p s m args meth c k) (ga : gAll P N G.cl) (hd : decode (N.cd k) pc = .ok (i, len)) (hlen : eIl i = 0 ∨ len = eIl i) (hi : eIns P X k i pc lo st h = some x) (b : eBa P G s k c0 s0 lo h H locs cells slots ls) :
    eGoal P G p l e R s m args below meth c H locs cells slots Q k c0 s0 pc ls st h x := by
  obtain ⟨-, gf, gt, gl, gn, -, gci, gcl⟩ := ga
  cases i
  case iconst n =>
    obtain rfl : len = 1 := by simpa [eIl] using hlen
    exact es_iconst cx hd hi b
  case bipush n =>
    obtain rfl : len = 2 := by simpa [eIl] using hlen
    exact es_bipush cx hd hi b
  case sipush n =>
    obtain rfl : len = 3 := by simpa [eIl] using hlen
    exact es_sipush cx hd hi b
  case lconst n =>
    obtain rfl : len = 1 := by simpa [eIl] using hlen
    exact es_lconst cx hd hi b
  case aconst_null =>
    obtain rfl : len = 1 := by simpa [eIl] using hlen
    exact es_aconst_null cx hd hi b
  case iload i =>
    obtain rfl : len = 2 := by simpa [eIl] using hlen
    exact es_iload cx hd hi b
  case iload_n i =>
    obtain rfl : len = 1 := by simpa [eIl] using hlen
    exact es_iload_n cx hd hi b
  case lload i =>
    obtain rfl : len = 2 := by simpa [eIl] using hlen
    exact es_lload cx hd hi b
  case lload_n i =>
    obtain rfl : len = 1 := by simpa [eIl] using hlen
    exact es_lload_n cx hd hi b
  case aload i =>
    obtain rfl : len = 2 := by simpa [eIl] using hlen
    exact es_aload cx hd hi b
  case aload_n i =>
    obtain rfl : len = 1 := by simpa [eIl] using hlen
    exact es_aload_n cx hd hi b
  case istore i =>
    obtain rfl : len = 2 := by simpa [eIl] using hlen
    exact es_istore cx hd hi b
  case istore_n i =>
    obtain rfl : len = 1 := by simpa [eIl] using hlen
    exact es_istore_n cx hd hi b
  case lstore i =>
    obtain rfl : len = 2 := by simpa [eIl] using hlen
    exact es_lstore cx hd hi b
  case lstore_n i =>
    obtain rfl : len = 1 := by simpa [eIl] using hlen
    exact es_lstore_n cx hd hi b
  case astore i =>
    obtain rfl : len = 2 := by simpa [eIl] using hlen
    exact es_astore cx hd hi b
  case astore_n i =>
    obtain rfl : len = 1 := by simpa [eIl] using hlen
    exact es_astore_n cx hd hi b
  case iinc i n =>
    obtain rfl : len = 3 := by simpa [eIl] using hlen
    exact es_iinc cx hd hi b
  case iadd =>
    obtain rfl : len = 1 := by simpa [eIl] using hlen
    exact es_iadd cx hd hi b
  case isub =>
    obtain rfl : len = 1 := by simpa [eIl] using hlen
    exact es_isub cx hd hi b
  case imul =>
    obtain rfl : len = 1 := by simpa [eIl] using hlen
    exact es_imul cx hd hi b
  case iand =>
    obtain rfl : len = 1 := by simpa [eIl] using hlen
    exact es_iand cx hd hi b
  case ior =>
    obtain rfl : len = 1 := by simpa [eIl] using hlen
    exact es_ior cx hd hi b
  case ishl =>
    obtain rfl : len = 1 := by simpa [eIl] using hlen
    exact es_ishl cx hd hi b
  case ishr =>
    obtain rfl : len = 1 := by simpa [eIl] using hlen
    exact es_ishr cx hd hi b
  case idiv =>
    obtain rfl : len = 1 := by simpa [eIl] using hlen
    exact es_idiv cx hd hi b
  case ineg =>
    obtain rfl : len = 1 := by simpa [eIl] using hlen
    exact es_ineg cx hd hi b
  case ladd =>
    obtain rfl : len = 1 := by simpa [eIl] using hlen
    exact es_ladd cx hd hi b
  case lsub =>
    obtain rfl : len = 1 := by simpa [eIl] using hlen
    exact es_lsub cx hd hi b
  case lmul =>
    obtain rfl : len = 1 := by simpa [eIl] using hlen
    exact es_lmul cx hd hi b
  case land =>
    obtain rfl : len = 1 := by simpa [eIl] using hlen
    exact es_land cx hd hi b
  case lor =>
    obtain rfl : len = 1 := by simpa [eIl] using hlen
    exact es_lor cx hd hi b
  case lcmp =>
    obtain rfl : len = 1 := by simpa [eIl] using hlen
    exact es_lcmp cx hd hi b
  case lshl =>
    obtain rfl : len = 1 := by simpa [eIl] using hlen
    exact es_lshl cx hd hi b
  case lushr =>
    obtain rfl : len = 1 := by simpa [eIl] using hlen
    exact es_lushr cx hd hi b
  case i2l =>
    obtain rfl : len = 1 := by simpa [eIl] using hlen
    exact es_i2l cx hd hi b
  case l2i =>
    obtain rfl : len = 1 := by simpa [eIl] using hlen
    exact es_l2i cx hd hi b
  case i2c =>
    obtain rfl : len = 1 := by simpa [eIl] using hlen
    exact es_i2c cx hd hi b
  case dup =>
    obtain rfl : len = 1 := by simpa [eIl] using hlen
    exact es_dup cx hd hi b
  case dup2 =>
    obtain rfl : len = 1 := by simpa [eIl] using hlen
    exact es_dup2 cx hd hi b
  case goto off =>
    obtain rfl : len = 3 := by simpa [eIl] using hlen
    exact es_goto cx hd hi b
  case ifCond cd off =>
    obtain rfl : len = 3 := by simpa [eIl] using hlen
    cases cd
    case eq => exact es_if_eq cx hd hi b
    case ne => exact es_if_ne cx hd hi b
    case lt => exact es_if_lt cx hd hi b
    case ge => exact es_if_ge cx hd hi b
    case gt => exact es_if_gt cx hd hi b
    case le => exact es_if_le cx hd hi b
  case if_icmp cd off =>
    obtain rfl : len = 3 := by simpa [eIl] using hlen
    cases cd
    case eq => exact es_icmp_eq cx hd hi b
    case ne => exact es_icmp_ne cx hd hi b
    case lt => exact es_icmp_lt cx hd hi b
    case ge => exact es_icmp_ge cx hd hi b
    case gt => exact es_icmp_gt cx hd hi b
    case le => exact es_icmp_le cx hd hi b
  case ifnull off =>
    obtain rfl : len = 3 := by simpa [eIl] using hlen
    exact es_ifnull cx hd hi b
  case tableswitch d lw hj offs => exact es_tableswitch cx hd hi b
  case ldc ix =>
    obtain rfl : len = 2 := by simpa [eIl] using hlen
    exact es_ldc cx gci hd hi b
  case ldc2_w ix =>
    obtain rfl : len = 3 := by simpa [eIl] using hlen
    exact es_ldc2_w cx gcl hd hi b
  case getfield ix =>
    obtain rfl : len = 3 := by simpa [eIl] using hlen
    exact es_getfield cx gf hd hi b
  case putfield ix =>
    obtain rfl : len = 3 := by simpa [eIl] using hlen
    exact es_putfield cx gf hd hi b
  case iaload =>
    obtain rfl : len = 1 := by simpa [eIl] using hlen
    exact es_iaload cx gt hd hi b
  case caload =>
    obtain rfl : len = 1 := by simpa [eIl] using hlen
    exact es_caload cx gt hd hi b
  case laload =>
    obtain rfl : len = 1 := by simpa [eIl] using hlen
    exact es_laload cx gt hd hi b
  case aaload =>
    obtain rfl : len = 1 := by simpa [eIl] using hlen
    exact es_aaload cx gt hd hi b
  case iastore =>
    obtain rfl : len = 1 := by simpa [eIl] using hlen
    exact es_iastore cx gt hd hi b
  case castore =>
    obtain rfl : len = 1 := by simpa [eIl] using hlen
    exact es_castore cx gt hd hi b
  case lastore =>
    obtain rfl : len = 1 := by simpa [eIl] using hlen
    exact es_lastore cx gt hd hi b
  case aastore =>
    obtain rfl : len = 1 := by simpa [eIl] using hlen
    exact es_aastore cx gt gl hd hi b
  case arraylength =>
    obtain rfl : len = 1 := by simpa [eIl] using hlen
    exact es_arraylength cx hd hi b
  case newarray at1 =>
    obtain rfl : len = 2 := by simpa [eIl] using hlen
    cases at1
    case int => exact es_newarray_int cx gt gn hd hi b
    case long => exact es_newarray_long cx gt gn hd hi b
    case char => exact es_newarray_char cx gt gn hd hi b
    all_goals cases hi
  case anewarray ix =>
    obtain rfl : len = 3 := by simpa [eIl] using hlen
    exact es_anewarray cx gn hd hi b
  case new ix =>
    obtain rfl : len = 3 := by simpa [eIl] using hlen
    exact es_new cx gn hd hi b
  all_goals cases hi
theorem e_copy {ix k0 na : Nat} (cx : eCx P N G X p s m args meth c k) (ga : gAll P N G.cl) (hm : P.mth (eOwn P k) ix = some (6, k0, na)) (hd : decode (N.cd k) pc = .ok (.invokestatic ix, 3)) (hq : eCopy h st (fun h' r => eN (pc + 3) lo r h') = some x) (hrs : eCat (st.drop na) ≤ 8)
    (b : eBa P G s k c0 s0 lo h H locs cells slots ls) (hfr : 12 ≤ R.frames ∧ 700 ≤ R.locals) (kk : eNext P G p l e R s m args below meth c Q k c0 s0 x) : W p l e R s m args below meth c H locs cells slots Q (F0 m pc ls (st.map (eVal G))) := by
  have gm := ga.2.2.2.2.2.1
  have gt := ga.2.2.1
  obtain ⟨rfl, -⟩ := (gm _ _ _ _ _ hm).2.2.2.2.2.2.2 rfl
  unfold eCopy at hq
  split at hq
  · rename_i n dp d sp a rs
    split at hq
    · cases hq
    · rename_i hz
      have ha : ¬ a = 0 := fun z => hz (Or.inl z)
      have hd0 : ¬ d = 0 := fun z => hz (Or.inr (Or.inl z))
      have h3 : ¬ n < 0 := fun z => hz (Or.inr (Or.inr (Or.inl z)))
      have h2 : ¬ dp < 0 := fun z => hz (Or.inr (Or.inr (Or.inr (Or.inl z))))
      have h1 : ¬ sp < 0 := fun z => hz (Or.inr (Or.inr (Or.inr (Or.inr z))))
      split at hq
      · rename_i na f nb g hca hcd
        split at hq
        · cases hq
        · rename_i hy
          obtain rfl := eN_inj hq
          exact e_copy_one (t := 0) (mk := Value.int) (wrap := fun f => .inl f) (fun j f z H => Iff.rfl) cx gm gt.1 rfl (fun z => rfl) (fun z w q => by cases q) hm hd hrs b hfr ha hd0 hca hcd h1 h2 h3 (Nat.not_lt.mp fun z => hy (Or.inl z)) (Nat.not_lt.mp fun z => hy (Or.inr z)) kk
      · rename_i na f nb g hca hcd
        split at hq
        · cases hq
        · rename_i hy
          obtain rfl := eN_inj hq
          exact e_copy_one (t := 1) (mk := Value.long) (wrap := fun f => .inr (.inl f)) (fun j f z H => Iff.rfl) cx gm gt.2.1 rfl (fun z => rfl) (fun z w q => by cases q) hm hd hrs b hfr ha hd0 hca hcd h1 h2 h3 (Nat.not_lt.mp fun z => hy (Or.inl z)) (Nat.not_lt.mp fun z => hy (Or.inr z)) kk
      · cases hq
  · cases hq
theorem e_own {i : Instr} {kd ix kind k0 na : Nat} (cx : eCx P N G X p s m args meth c k) (ga : gAll P N G.cl) (hk : eKd i = (1, kd, ix)) (hm : P.mth (eOwn P k) ix = some (kind, k0, na)) (hd : decode (N.cd k) pc = .ok (i, 3)) (hrs : ¬ (st.length < na ∨ 8 < eCat (st.drop na))) (hi : eOwnless kd kind pc lo st h = some x)
    (b : eBa P G s k c0 s0 lo h H locs cells slots ls) (hfr : 12 ≤ R.frames ∧ 700 ≤ R.locals) (hc : h.2.1 ≤ R.cells + c0) (hs : h.2.2 ≤ R.slots + s0) (kk : eNext P G p l e R s m args below meth c Q k c0 s0 x) : W p l e R s m args below meth c H locs cells slots Q (F0 m pc ls (st.map (eVal G))) := by
  have gm := ga.2.2.2.2.2.1
  have hrs' : eCat (st.drop na) ≤ 8 := Nat.not_lt.mp fun z => hrs (Or.inr z)
  have hsp : kd = 2 → i = .invokespecial ix := fun z => by
    subst z
    cases i <;> first | (cases hk; done) | (cases hk; rfl)
  have hst : kd = 0 → i = .invokestatic ix := fun z => by
    subst z
    cases i <;> first | (cases hk; done) | (cases hk; rfl)
  rcases eOn_some hi with ⟨rfl, h1, a, r, rfl, rfl⟩ | ⟨rfl, h1, y, z, r, rfl, rfl⟩ | ⟨rfl, h1, hq⟩
  · rw [hsp h1] at hd
    exact es_init cx gm hm hd hrs' b hfr kk
  · rw [hst h1] at hd
    exact es_min cx gm hm hd hrs' b hfr hc hs kk
  · rw [hst h1] at hd
    exact e_copy cx ga hm hd hq hrs' b hfr kk
end ES8
end
section
def gThr (P : eP) (N : eW) (cl : List vw_C) : Prop := ∀ k pc q, P.thr k pc = some q → (decode (N.cd k) pc = .ok (.new q.2.1, 3) ∧ decode (N.cd k) (pc + 3) = .ok (.dup, 1) ∧ decode (N.cd k) (pc + 4) = .ok (.ldc q.2.2.1, 2) ∧ decode (N.cd k) (pc + 6) = .ok (.invokespecial q.2.2.2, 3) ∧ decode (N.cd k) (pc + 9) = .ok (.athrow, 1)) ∧
  P.cls (eOwn P k) q.2.1 = some q.1 ∧ Bundle.fit (N.cn q.1) = true ∧ (∃ T, cl[q.1]? = some (N.cn q.1, T, 0)) ∧ ∀ w ∈ Bundle.ownAtoms (N.cn (eOwn P k)) q.2.2.2 (N.cn q.1) ["java/lang/RuntimeException", "java/lang/Exception"], w ∈ lw_gd ∨ w ∈ exSp (N.cn q.1)
theorem exSp_any {C : String} {w : Cond} (hw : w ∈ exSp C) {A : Array Value} {U : State} (h : w.before #[] U = true) : w.before A U = true := by
  simp only [exSp, List.mem_cons, List.not_mem_nil, or_false] at hw
  rcases hw with rfl | rfl | rfl | rfl | rfl | rfl | rfl | rfl <;> exact h
section EX
variable {p : Program} {l : Launch} {e : Env} {R : Room} {s : State} {m : MethodId} {args : Array Value} {below : List Frame} {meth : Method} {c : Code} {locs : List Loc} {cells slots : Nat}
set_option maxHeartbeats 1000000 in
theorem e_ctor {W0 : State} (X : Stand p l e R s m args below meth c W0 locs cells slots) (hexec : p.tables.exec = Jvm.exec) (htr : e.platform.stackTraces = false) {own cls : String} {names : List String} {ic : Nat}
    (hown : s.vm.findClass own = some m.cls) (hcls : Bundle.fit cls = true) (hnames : ∀ n ∈ names, Bundle.fit n = true) (h : ∀ a ∈ Bundle.ownAtoms own ic cls names, a.before args s = true)
    {B : Nat} (hB : ∀ cl k st, s.vm.findClass Bundle.tN = some cl → s.vm.classes[cl]? = some k → k.statics = some st → st ≤ B) (hlocs : ∀ x ∈ locs, B < x.base)
    {a : Addr} {cX : ClassId} {kX : Class} (hfoundX : s.vm.findClass cls = some cX) (hkX : s.vm.classes[cX]? = some kX) (hcell : W0.heap[a]? = some (freshCell cX kX)) (hnew : s.heap.size ≤ a)
    {msg : Value} (hmsg : msg.isRef = true) {g : JFrame} (hg : g.method = m) (hsize : g.locals.size = c.maxLocals) {rest : List Value} (hstack : g.stack = msg :: .ref a :: rest)
    (hd6 : decode c.code g.pc = .ok (.invokespecial ic, 3)) (hRframes : names.length + 3 < R.frames) (hRlocals : 2 * g.monitorRoom + (rest.map fun v => v.category).sum + (13 * (names.length + 1) + 42) ≤ R.locals) :
    ∃ (vm' : Vm) (cell' : Cell) (L : List Loc), cell'.cls = cX ∧ cell'.vm = .none ∧ (∀ q ∈ L, q.base = a) ∧ Stand p l e R s m args below meth c ((W0.setVm vm').setCell a cell') (locs ++ L) cells slots ∧
      ∀ target, Steps p.tables e below (((W0.setVm vm').setCell a cell').setTop { g with pc := g.pc + 3, stack := rest }) target → Steps p.tables e below (W0.setTop g) target := by
  have hown1 : e.platform.frameOwnsMonitors = true := by rw [X.admits.platform]
  have hfin : e.platform.finalization = false := by rw [X.admits.platform]
  have hpl : e.platform.magicAccessors = ({} : Platform).magicAccessors := by rw [X.admits.platform]
  have at0 : ∀ x, x ∈ Bundle.ownAtoms own ic cls names → x.holds args s none s [] = true := fun x hx => h x hx
  obtain ⟨T, Z0, L, -, Y⟩ := ThrowableC.of_atoms (args := args) hown1 hfin hpl (fun x hx => h x (by simp [Bundle.ownAtoms, hx]))
  obtain ⟨Z, M, LZ, LM, hnZ⟩ := Init0T.ofS_atoms (args := args) hpl L Y (fun x hx => h x (by simp [Bundle.ownAtoms, hx]))
  obtain ⟨P1, Ps, hlen, L1, hL, hP1m, hlink1, hlink⟩ := Bundle.chainS (args := args) hpl hnZ names cls hcls hnames (fun x hx => h x (by simp [Bundle.ownAtoms, hx]))
  have hfound : s.vm.findClass cls = some P1.m.cls := findClass_of_methodNamed hP1m
  cases Option.some.inj (hfoundX.symm.trans hfound)
  obtain ⟨c1, kX', hc1, hk, hord, -, -, hn6⟩ := Cond.instantiable_spec (at0 (.instantiable cls 6) (by simp [Bundle.ownAtoms]))
  cases Option.some.inj (hc1.symm.trans hfound)
  cases Option.some.inj (hkX.symm.trans hk)
  have hsel0 : selectMethod e.platform s.vm P1.m.cls T.fill0 = .method T.fill0 := by
    obtain ⟨c2, r2, m2, q1, q2, q3, q4, -⟩ := Cond.selects_spec (at0 (.selects cls Bundle.tFill0 Bundle.tFill0) (by simp [Bundle.ownAtoms]))
    cases Option.some.inj (q1.symm.trans hfound)
    cases Option.some.inj (q2.symm.trans (State.methodFound?_of_named Y.fill0 (by decide)))
    cases Option.some.inj (q3.symm.trans Y.fill0)
    rw [Launch.admits_selectMethod X.admits]
    exact q4
  have hselF : selectMethod e.platform s.vm P1.m.cls T.fill = .method T.fill := by
    obtain ⟨c2, r2, m2, q1, q2, q3, q4, -⟩ := Cond.selects_spec (at0 (.selects cls Bundle.tFill Bundle.tFill) (by simp [Bundle.ownAtoms]))
    cases Option.some.inj (q1.symm.trans hfound)
    cases Option.some.inj (q2.symm.trans (State.methodFound?_of_named Y.fill (by decide)))
    cases Option.some.inj (q3.symm.trans Y.fill)
    rw [Launch.admits_selectMethod X.admits]
    exact q4
  obtain ⟨cellS0, hcS0, hiss⟩ := Y.statics
  obtain ⟨u0, hu0⟩ := Cond.staticRefV Y.unassigned L.unassignedStatic L.statics hcS0 hiss (at0 (.isRef (.static Bundle.tN "UNASSIGNED_STACK" Bundle.steD)) (by simp [Bundle.ownAtoms]))
  obtain ⟨sen, hsen⟩ := Cond.staticRefV Y.sentinel L.sentinelStatic L.statics hcS0 hiss (at0 (.isRef (.static Bundle.tN "SUPPRESSED_SENTINEL" Bundle.listD)) (by simp [Bundle.ownAtoms]))
  obtain ⟨ci198, i198, fB, hk198, hg198, ha198, hsB, -, hnB, htB, hffB⟩ := Cond.ownField (t := .object "java/lang/Object") Y.found L.cls (by decide +kernel) (at0 (.fieldLink Bundle.tN 198 Bundle.tN "backtrace" "Ljava/lang/Object;") (by simp [Bundle.ownAtoms])) (at0 (.lays Bundle.tN Bundle.tN "backtrace" "Ljava/lang/Object;") (by simp [Bundle.ownAtoms])) e.platform hpl
  obtain ⟨cellS, hcS', heS, -, hkeep⟩ := X.same.2.2.2.2.2 T.aS cellS0 hcS0
  have hcellS : W0.heap[T.aS]? = some cellS := hcS'
  have haB : T.aS ≤ B := hB _ _ _ Y.found L.cls L.statics
  have hout' : ∀ i, (⟨T.aS, i⟩ : Loc) ∉ locs := fun i hmem => by
    have h1 := hlocs _ hmem
    exact absurd haB (Nat.not_le.mpr h1)
  have hknownS : cellS.vm ≠ .unknown := by
    rw [heS]
    intro hu
    rw [show cellS0.vm = .unknown from hu] at hiss
    cases hiss
  have hneS : T.aS ≠ a := Nat.ne_of_lt (Nat.lt_of_lt_of_le (Array.getElem?_eq_some_iff.mp hcS0).1 hnew)
  obtain ⟨iM, hffM⟩ := Y.msg
  obtain ⟨tyC, dC, hdC, hdnC⟩ := Cond.laysAt hfound hk Y.cause (at0 (.lays cls Bundle.tN "cause" "Ljava/lang/Throwable;") (by simp [Bundle.ownAtoms]))
  obtain ⟨tyS, dS, hdS, hdnS⟩ := Cond.laysAt hfound hk Y.stack (at0 (.lays cls Bundle.tN "stackTrace" Bundle.steD) (by simp [Bundle.ownAtoms]))
  obtain ⟨tyP, dP, hdP, hdnP⟩ := Cond.laysAt hfound hk Y.supp (at0 (.lays cls Bundle.tN "suppressedExceptions" Bundle.listD) (by simp [Bundle.ownAtoms]))
  obtain ⟨tyM, dM, hdM, hdnM⟩ := Cond.laysAt hfound hk hffM (at0 (.lays cls Bundle.tN "detailMessage" "Ljava/lang/String;") (by simp [Bundle.ownAtoms]))
  obtain ⟨tyB, dB, hdB, hdnB⟩ := Cond.laysAt hfound hk hffB (at0 (.lays cls Bundle.tN "backtrace" "Ljava/lang/Object;") (by simp [Bundle.ownAtoms]))
  have bC := Cond.laysApart hdB hdC hdnB hdnC (by rw [hnB, Y.causeName]; decide)
  have bS := Cond.laysApart hdB hdS hdnB hdnS (by rw [hnB, Y.stackName]; decide)
  have bP := Cond.laysApart hdB hdP hdnB hdnP (by rw [hnB, Y.suppName]; decide)
  have hskip : SkipFacts T e.platform s (fun u => u) u0 ((preparedCellV T.toThrowableT (freshCell P1.m.cls kX) a u0 sen).withEntry W0.cur) :=
    ⟨{ ci198 := ci198, i198 := i198, fBack := fB }, ⟨hk198, hg198, ha198, hsB⟩, by
      have := fresh_default (c := P1.m.cls) tyB
      rw [htB] at this
      simpa [preparedCellV, Cell.setSlot, Cell.withEntry, Array.getElem?_setIfInBounds, bC, bS, bP, bC.symm, bS.symm, bP.symm, defaultValue] using this, fun _ _ => rfl⟩
  obtain ⟨tm, methC, cdC, kC, vm₁, hnC, -, -, -, -, -, -, -, hW₁, st1⟩ := Steps.initColdS (tb := p.tables) (e := e) (below := below) (s := s) (U := W0) X.here hexec X.warmed hpl hown (t := Bundle.initS cls) rfl rfl (Bundle.fit_spec hcls).2
    (at0 (.methodLink own ic (Bundle.initS cls)) (by simp [Bundle.ownAtoms])) (h (.instanceMethod (Bundle.initS cls)) (by cases names <;> simp [Bundle.ownAtoms, Bundle.chainSAtoms, Bundle.passSAtoms])) (bytes := Bundle.six) (maxL := 2) (h (.code (Bundle.initS cls) Bundle.six 2 none) (by cases names <;> simp [Bundle.ownAtoms, Bundle.chainSAtoms, Bundle.passSAtoms]))
    (f := g) hg (a := a) (msg := msg) (rest := rest) hstack hd6
  cases Option.some.inj (hnC.symm.trans hP1m)
  have X₁ := X.noted hW₁
  obtain ⟨vm₂, X₂, st2⟩ := X₁.ctorMessageOffV hexec (g := { g with stack := rest }) hg hsize T L Z LZ M LM (P1 :: Ps)
    (fun P hP => by rcases List.mem_cons.mp hP with rfl | hP; exact L1; exact hL P hP) ⟨hlink1, hlink⟩ (u0 := u0) (sen := sen) (self := a) hmsg (cell := freshCell P1.m.cls kX) (cellS := cellS)
    hcell (fun _ => by simp) (by simp) rfl rfl hsel0 hselF hcellS hneS hknownS (by rw [hkeep _ (hout' _)]; exact hu0) (by rw [hkeep _ (hout' _)]; exact hsen)
    (Takes.of_laid hk hord tyC (by rw [Y.causeType]; rfl)) (Takes.of_laid hk hord tyS (by rw [Y.stackType]; exact fits_refV_array _ u0)) (Takes.of_laid hk hord tyP (by rw [Y.suppType]; exact fits_refV_object _ sen))
    (Takes.of_laid hk hord tyM (by rw [Y.msgType]; exact fits_refV_object _ ⟨msg, hmsg⟩)) Y.objLocals hskip htr [] hd6
    (by simp only [List.length_cons, hlen]; omega) (by simp only [List.length_cons, hlen]; exact hRlocals)
  refine ⟨vm₂, plainBareV T.toThrowableT (freshCell P1.m.cls kX) a u0 sen msg, _, rfl, rfl, ?_, X₂, fun target hrest => st1 _ (fun acts => ?_)⟩
  · intro q hq
    simp only [List.mem_cons, List.not_mem_nil, or_false] at hq
    rcases hq with rfl | rfl | rfl | rfl | rfl <;> rfl
  · rw [doInvoke_state]
    exact st2 _ hrest
end EX
section EY
variable {p : Program} {l : Launch} {e : Env} {R : Room} {s : State} {m : MethodId} {args : Array Value} {below : List Frame} {meth : Method} {c : Code} {H : Heap} {locs : List Loc} {cells slots : Nat}
variable {P : eP} {N : eW} {G : eG} {X : Nat × (Nat → Int32)} {k pc c0 s0 : Nat} {ls : Array Slot} {lo : eLo} {st : List Value} {h : eH}
theorem es_throw {q : Nat × Nat × Nat × Nat} (cx : eCx P N G X p s m args meth c k) (ga : gAll P N G.cl) (gh : gThr P N G.cl) (htr : l.stackTraces = false) (ht : P.thr k pc = some q) (hh : eHs P k = []) (hcat : eCat st ≤ 8) (b : eBa P G s k c0 s0 lo h H locs cells slots ls)
    (hfr : 12 ≤ R.frames ∧ 700 ≤ R.locals) (hc : h.2.1 + 1 ≤ R.cells + c0) (hs : h.2.2 + (P.bla q.1).2 ≤ R.slots + s0) :
    W p l e R s m args below meth c H locs cells slots (eZ G s below (.inr h.2.1) (eNew h (.inr (q.1, (P.bla q.1).1)) (P.bla q.1).2) (cells + 1) (slots + (P.bla q.1).2)) (F0 m pc ls (st.map (eVal G))) := by
  obtain ⟨⟨d1, d2, d3, d4, d5⟩, hcls, hfit, ⟨T0, hcl0⟩, hatoms⟩ := gh k pc q ht
  have gn := ga.2.2.2.2.1
  obtain ⟨C, T, n, ty0, hcl1, hw1, hw2, hw3, hin, hty, hdf, hbl⟩ := gn.2.2 _ _ _ hcls
  cases hcl0.symm.trans hcl1
  have hts := cx.2.2.2.2.1
  have b4 := b.2.2.2.1
  have b5 := b.2.2.2.2
  have hKn := cx.2.2.2.2.2.1.1 q.1 _ hcl1
  have hFx := cx.2.2.2.2.2.2.2.1
  obtain ⟨⟨tx, sa, hZ⟩, hsp⟩ := hFx.1.2 k pc q ht
  refine W.newcK cx.1 cx.2.1 cx.2.2.2.1 (hts _ hw1) (hts _ hw2) (hts _ hw3) rfl d1 (by omega) (by omega) hKn.2.1 rfl fun H1 kC hkC e1 z1 o1 => ?_
  have hat : va_at G.D G.cl (H.size, eCo G (.inr (q.1, (P.bla q.1).1))) H1 := ⟨_, hcl1, (u_born ty0 hts hin hKn hkC e1 hty).to (fun j hj => absurd hj (Nat.not_lt_zero j))⟩
  have b1 := b.new (n := (P.bla q.1).2) z1 o1 hat
  refine lv_dup cx.1 cx.2.1 d2 rfl ?_
  refine va_ldcS cx.1 cx.2.1 cx.2.2.2.1 hZ d3 ?_
  intro T1 hT1 X1
  have hadm : e.platform.stackTraces = false := by
    rw [X1.admits.platform]
    exact htr
  have hnx : H.size = eAd G h.2.1 := b.2.1.next.symm
  obtain ⟨vm', cell', L, g1, g2, g3, X2, stp⟩ := e_ctor (g := F0 m (pc + 6) ls (.ref sa :: .ref H.size :: .ref H.size :: st.map (eVal G))) (names := ["java/lang/RuntimeException", "java/lang/Exception"]) (msg := .ref sa) (rest := .ref H.size :: st.map (eVal G)) (B := G.B) X1 cx.1 hadm cx.2.2.2.1 hfit (by decide +kernel) (fun w hw => by
      rcases hatoms w hw with h1 | h1
      · exact hts _ h1
      · exact exSp_any h1 (hsp w h1)) hFx.1.1 (fun x hx => b1.2.2.1.2.2 x hx) hKn.2.1 hkC (by rw [hT1]; exact e1) b.2.2.1.1 rfl rfl (b.1.2.1.trans cx.2.2.1.symm) rfl (by rw [cx.2.1]; exact d4) (by show 2 + 3 < R.frames; omega) (by
      have := e_cat (G := G) hcat
      show 2 * 0 + (1 + ((st.map (eVal G)).map fun v => v.category).sum) + (13 * (2 + 1) + 42) ≤ R.locals
      omega)
  have hlt : H.size < T1.heap.size := by rw [hT1, z1]; omega
  have e2 : ((T1.setVm vm').setCell H.size cell').heap[H.size]? = some cell' := heapAt_setCell_self (s := T1.setVm vm') cell' hlt
  have z2 : ((T1.setVm vm').setCell H.size cell').heap.size = H1.size := by
    rw [size_setCell]
    show T1.heap.size = H1.size
    rw [hT1]
  have o2 : ∀ z, z ≠ H.size → ((T1.setVm vm').setCell H.size cell').heap[z]? = H1[z]? := fun z hz => by
    rw [heapAt_setCell_ne _ (Ne.symm hz)]
    show T1.heap[z]? = H1[z]?
    rw [hT1]
  have hnz : ¬ h.2.1 = 0 := by have := b.2.1.2.1; omega
  have b2 : eBa P G s k c0 s0 lo (eNew h (.inr (q.1, (P.bla q.1).1)) (P.bla q.1).2) ((T1.setVm vm').setCell H.size cell').heap (locs ++ L) (cells + 1) (slots + (P.bla q.1).2) ls := by
    have hcellnx : (eNew h (.inr (q.1, (P.bla q.1).1)) (P.bla q.1).2).1 h.2.1 = some (.inr (q.1, (P.bla q.1).1)) := by
      show (if h.2.1 = h.2.1 then some _ else _) = _
      rw [if_pos rfl]
    have zz := b1.2.1.set (x := .inr (q.1, (P.bla q.1).1)) hnz hcellnx z2 (fun z hz => o2 z (by rw [hnx]; exact hz)) (by
      refine ⟨_, hcl1, cell', ?_, g1, g2, fun j hj => absurd hj (Nat.not_lt_zero j)⟩
      show ((T1.setVm vm').setCell H.size cell').heap[eAd G h.2.1]? = some cell'
      rw [← hnx]
      exact e2)
    have hsame : eSetH (eNew h (.inr (q.1, (P.bla q.1).1)) (P.bla q.1).2) h.2.1 (.inr (q.1, (P.bla q.1).1)) = eNew h (.inr (q.1, (P.bla q.1).1)) (P.bla q.1).2 := by
      unfold eSetH
      refine Prod.ext (funext fun z => ?_) rfl
      show (if z = h.2.1 then some _ else (if z = h.2.1 then some _ else h.1 z)) = (if z = h.2.1 then some _ else h.1 z)
      by_cases hz : z = h.2.1
      · rw [if_pos hz, if_pos hz]
      · rw [if_neg hz]
    rw [hsame] at zz
    refine ⟨b1.1, zz, ⟨by rw [z2]; exact b1.2.2.1.1, fun z h1 h2 => ?_, fun z hz => ?_⟩, b1.2.2.2⟩
    · rw [o2 z (fun hz => h2 (by rw [hz, hnx]; exact eA0_ad hnz))]
      exact b1.2.2.1.2.1 z h1 h2
    · rcases List.mem_append.mp hz with h1 | h1
      · exact b1.2.2.1.2.2 z h1
      · rw [g3 z h1, hnx]
        exact eA0_ad hnz
  have zW := e_athrow (l := l) (R := R) (e := e) (below := below) (y := h.2.1) (rs := st.map (eVal G)) cx d5 hh b2
  rw [← hnx] at zW
  obtain ⟨t, a1, bb⟩ := zW _ rfl X2
  exact ⟨t, stp t a1, bb⟩
end EY
end
section
def gHan (P : eP) (N : eW) : Prop := ∀ k, ¬ eHs P k = [] → ∃ raw, Cond.codeWith (N.mn k) (N.cd k) (eNL P k) (eRt P k) raw ∈ lw_gd ∧ raw.length = (eHs P k).length ∧
  ∀ (j : Nat) (q g : Nat × Nat × Nat × Nat), raw[j]? = some q → (eHs P k)[j]? = some g → q.1 = g.1 ∧ q.2.1 = g.2.1 ∧ q.2.2.1 = g.2.2.1 ∧ ¬ q.2.2.2 = 0 ∧ Cond.classLink (N.cn (eOwn P k)) q.2.2.2 (N.cn g.2.2.2) ∈ lw_gd
section EC
variable {E : CtlPost} {e : Env} {d : Bool} {acts : List Action} {s : State} {f : JFrame} {a : Addr} {Q : Handler → Pre}
theorem e_goCold {x : ExceptionTableEntry} {t : List ExceptionTableEntry} {c : ClassId} {cell : Cell} {vm' : Vm} (hx : covers x f.pc = true) (h0 : x.catchType ≠ 0)
    (hg : (Jvm.resolveClass f.method.cls x.catchType).Gives e.toSetting s.vm (.ok c) vm') (hsz : vm'.classes.size ≤ s.vm.classes.size) (hcell : s.heap[a]? = some cell) (hobj : ∀ k, cell.vm ≠ .statics k)
    (hk : ∃ k, vm'.classes[cell.cls]? = some k) (hc : ∃ k, vm'.classes[c]? = some k) :
    Sem.wp (findHandler.go f a (x :: t)) Q E e d acts s ↔ if vm'.assignable cell.cls c = true then Q (.found x.handlerPc) d acts (s.setVm vm') else Sem.wp (findHandler.go f a t) Q E e d acts (s.setVm vm') := by
  simp only [covers] at hx
  obtain ⟨ha, ht⟩ := hg.op (op := VmOp.resolveClass f.method.cls x.catchType) rfl
  cases hfit : vm'.assignable cell.cls c <;>
    simp [findHandler.go, hx, h0, ha, ht, hsz, hcell, hobj, hk, hc, hfit, VmOp.dirties, VmOp.acts]
theorem e_stepCatch {r : List Frame} {pc : Nat} {vm' : Vm} (hfind : ∀ (Q : Handler → Pre) (E : CtlPost) (d : Bool) (acts : List Action), Sem.wp (findHandler f a) Q E e d acts s ↔ Q (.found pc) d acts (s.setVm vm')) :
    (stepThrowing e s a (.java f :: r)).Is ((s.setVm vm').setFrames (.java { f with pc := pc, stack := [.ref a] } :: r)) [] := by
  simp only [stepThrowing, searchFrame, vmDo]
  generalize hr : Sem.go _ e false [] s = res
  obtain ⟨as, rfl, ha⟩ := Sem.eq_ok_of hr (a := Handler.found pc) (s' := s.setVm vm') (acts' := []) (by simp [hfind _ _ _ _])
  exact ⟨rfl, ha⟩
end EC
theorem e_len3 {i : Instr} {kd ix len : Nat} (hk : eKd i = (1, kd, ix)) (hlen : eIl i = 0 ∨ len = eIl i) : len = 3 ∧ (kd = 0 → i = .invokestatic ix) ∧ (kd = 1 → i = .invokevirtual ix) ∧ (kd = 2 → i = .invokespecial ix) := by
  cases i <;> first
    | (cases hk; done)
    | (cases hk
       refine ⟨by simpa [eIl] using hlen, fun z => ?_, fun z => ?_, fun z => ?_⟩ <;> first | rfl | cases z)
section ES9
variable {p : Program} {l : Launch} {e : Env} {R : Room} {s : State} {m : MethodId} {args : Array Value} {below : List Frame} {meth : Method} {c : Code}
variable {P : eP} {N : eW} {G : eG} {X : Nat × (Nat → Int32)} {k c0 s0 : Nat}
theorem e_find {T : State} {g : JFrame} {y c1 t : Nat} {fs : List Value} {locs : List Loc} {cells slots : Nat} (cx : eCx P N G X p s m args meth c k) (gl : gCl N G.cl) (X1 : Stand p l e R s m args below meth c T locs cells slots) (hg : g.method = m) (hy : ¬ y = 0) (hat : va_at G.D G.cl (eAd G y, eCo G (.inr (c1, fs))) T.heap) :
    ∀ (xs : List ExceptionTableEntry) (hs : List (Nat × Nat × Nat × Nat)), xs.length = hs.length → (∀ q ∈ hs, q ∈ eHs P k) →
      (∀ (j : Nat) (x : ExceptionTableEntry) (q : Nat × Nat × Nat × Nat), xs[j]? = some x → hs[j]? = some q → x.startPc = q.1 ∧ x.endPc = q.2.1 ∧ x.handlerPc = q.2.2.1 ∧ ¬ x.catchType = 0 ∧ Cond.classLink (N.cn (eOwn P k)) x.catchType (N.cn q.2.2.2) ∈ lw_gd) →
      eHan hs g.pc c1 = some t → ∀ (vm : Vm), s.WarmedH vm → ∃ vm', s.WarmedH vm' ∧ ∀ (Q : Handler → Pre) (E : CtlPost) (d : Bool) (acts : List Action),
        Sem.wp (findHandler.go g (eAd G y) xs) Q E e d acts (((T.setTop g).pushFrame (.throwing (eAd G y))).setVm vm) ↔ Q (.found t) d acts (((T.setTop g).pushFrame (.throwing (eAd G y))).setVm vm') := by
  obtain ⟨r1, hr1, cell, q1, q2, q3, -⟩ := hat
  have hK1 := cx.2.2.2.2.2.1.1 c1 r1 hr1
  intro xs
  induction xs with
  | nil =>
    intro hs hlen hmem hrel hhan
    cases hs with
    | nil => cases hhan
    | cons q hs => cases hlen
  | cons x xs ih =>
    intro hs hlen hmem hrel hhan vm hW
    cases hs with
    | nil => cases hlen
    | cons q hs =>
      obtain ⟨a, b, t', c'⟩ := q
      obtain ⟨e1, e2, e3, e4, e5⟩ := hrel 0 x (a, b, t', c') rfl rfl
      have hrel' : ∀ (j : Nat) (x : ExceptionTableEntry) (q : Nat × Nat × Nat × Nat), xs[j]? = some x → hs[j]? = some q → x.startPc = q.1 ∧ x.endPc = q.2.1 ∧ x.handlerPc = q.2.2.1 ∧ ¬ x.catchType = 0 ∧ Cond.classLink (N.cn (eOwn P k)) x.catchType (N.cn q.2.2.2) ∈ lw_gd := fun j x q h1 h2 => hrel (j + 1) x q (by simpa using h1) (by simpa using h2)
      have hmem' : ∀ q ∈ hs, q ∈ eHs P k := fun q hq => hmem q (List.mem_cons_of_mem _ hq)
      have hlen' : xs.length = hs.length := by simpa using hlen
      simp only [eHan] at hhan
      by_cases hcov : a ≤ g.pc ∧ g.pc < b
      · have hx : covers x g.pc = true := by
          simp only [covers, Bool.and_eq_true, decide_eq_true_eq]
          exact ⟨by rw [e1]; exact hcov.1, by rw [e2]; exact hcov.2⟩
        have hpl : e.platform.magicAccessors = ({} : Platform).magicAccessors := by rw [X1.admits.platform]
        obtain ⟨cH, hfc, hlk⟩ := Cond.classLink_spec (s := s) cx.2.2.2.1 (cx.2.2.2.2.1 _ e5) e.platform hpl
        obtain ⟨dk, _, _, _, hdk, _, _, _, _, _, _, hres⟩ := hlk.here
        have hW1 : s.WarmedH (vm.noted m.cls x.catchType (.cls cH)) := hW.noted hdk hres (State.rightAt_cls hlk)
        have hgv : (Jvm.resolveClass g.method.cls x.catchType).Gives e.toSetting vm (.ok cH) (vm.noted m.cls x.catchType (.cls cH)) := by
          rw [hg]
          exact resolveClass_links e.toSetting (hW.classLinks hlk)
        have hcl1 : ∃ k, (vm.noted m.cls x.catchType (.cls cH)).classes[cell.cls]? = some k := by
          obtain ⟨kC, hkC, -⟩ := hK1.2.2
          obtain ⟨k2, hk2, -⟩ := hW1.alike.2.2 _ _ hkC
          exact ⟨k2, by rw [q2]; exact hk2⟩
        have hcl2 : ∃ k, (vm.noted m.cls x.catchType (.cls cH)).classes[cH]? = some k := by
          obtain ⟨kC, hkC⟩ := Vm.classAt_of_findClass hfc
          obtain ⟨k2, hk2, -⟩ := hW1.alike.2.2 _ _ hkC
          exact ⟨k2, hk2⟩
        have key := fun (Q : Handler → Pre) (E : CtlPost) (d : Bool) (acts : List Action) => e_goCold (t := xs) (Q := Q) (E := E) (d := d) (acts := acts) (f := g) (a := eAd G y) (s := ((T.setTop g).pushFrame (.throwing (eAd G y))).setVm vm) (cell := cell) hx e4 hgv (by rw [Vm.size_note]; exact Nat.le_refl _) (by
          show ((T.setTop g).pushFrame (.throwing (eAd G y))).heap[eAd G y]? = some cell
          rw [Stand.throwing_heap]
          exact q1) (fun z hz => by rw [q3] at hz; cases hz) hcl1 hcl2
        by_cases hc : c' = c1
        · rw [if_pos ⟨hcov.1, hcov.2, hc⟩] at hhan
          cases hhan
          refine ⟨_, hW1, fun Q E d acts => (key Q E d acts).trans ?_⟩
          have hasg : (vm.noted m.cls x.catchType (.cls cH)).assignable cell.cls cH = true := by
            rw [hW1.alike.assignable, q2]
            have hcH : cH = G.D.1 c1 := by
              have h1 := hK1.2.1
              rw [gl c1 r1 hr1] at h1
              have h2 : s.vm.findClass (N.cn c1) = some cH := by rw [← hc]; exact hfc
              exact Option.some.inj (h2.symm.trans h1)
            rw [hcH]
            exact va_assign hK1.2
          rw [if_pos hasg, e3]
          exact Iff.rfl
        · rw [if_neg (fun z => hc z.2.2)] at hhan
          obtain ⟨vm', hW', hrest⟩ := ih hs hlen' hmem' hrel' hhan _ hW1
          refine ⟨vm', hW', fun Q E d acts => (key Q E d acts).trans ?_⟩
          have hasg : (vm.noted m.cls x.catchType (.cls cH)).assignable cell.cls cH = false := by
            rw [hW1.alike.assignable, q2]
            obtain ⟨c2, t2, n1, n2, n3⟩ := cx.2.2.2.2.2.2.2.1.2.2.2 k (a, b, t', c') (hmem _ List.mem_cons_self) c1 r1 hr1 hc
            have h1 := hK1.2.1
            rw [gl c1 r1 hr1] at h1
            cases n1.symm.trans h1
            cases n2.symm.trans hfc
            exact n3
          rw [if_neg (by rw [hasg]; decide)]
          exact hrest Q E d acts
      · have hx : covers x g.pc = false := by
          cases hz : covers x g.pc with
          | false => rfl
          | true =>
            simp only [covers, Bool.and_eq_true, decide_eq_true_eq] at hz
            rw [e1, e2] at hz
            exact absurd hz hcov
        rw [if_neg (fun z => hcov ⟨z.1, z.2.1⟩)] at hhan
        obtain ⟨vm', hW', hrest⟩ := ih hs hlen' hmem' hrel' hhan vm hW
        exact ⟨vm', hW', fun Q E d acts => (W.findHandler_go_skip hx).trans (hrest Q E d acts)⟩
theorem e_catch {T : State} {pc y c1 t : Nat} {ls : Array Slot} {rs fs : List Value} {locs : List Loc} {cells slots : Nat} (cx : eCx P N G X p s m args meth c k) (gk : gHan P N) (gl : gCl N G.cl) (X1 : Stand p l e R s m args below meth c T locs cells slots) (hy : ¬ y = 0) (hat : va_at G.D G.cl (eAd G y, eCo G (.inr (c1, fs))) T.heap) (ht : eHan (eHs P k) pc c1 = some t) :
    ∃ vm', Stand p l e R s m args below meth c (T.setVm vm') locs cells slots ∧ ∀ target, Steps p.tables e below ((T.setVm vm').setTop (F0 m t ls [.ref (eAd G y)])) target → Steps p.tables e below ((T.setTop (F0 m pc ls rs)).pushFrame (.throwing (eAd G y))) target := by
  have hne : ¬ eHs P k = [] := fun z => by rw [z] at ht; cases ht
  obtain ⟨raw, hraw, hlen, hrel⟩ := gk k hne
  have htab := cx.2.2.2.2.2.2.2.2.2.2.2.2 raw hraw
  have hl1 : c.exceptionTable.toList.length = (eHs P k).length := by rw [← hlen, ← htab, List.length_map]
  obtain ⟨vm', hW', hfind⟩ := e_find (g := F0 m pc ls rs) cx gl X1 rfl hy hat c.exceptionTable.toList (eHs P k) hl1 (fun q hq => hq) (fun j x q h1 h2 => hrel j (x.startPc, x.endPc, x.handlerPc, x.catchType) q (by rw [← htab, List.getElem?_map, h1]; rfl) h2) ht T.vm X1.warmed
  refine ⟨vm', X1.noted hW', fun target hrest => ?_⟩
  have h : At T (F0 m pc ls rs).method c below := X1.here
  obtain ⟨hgo, hw⟩ := h.throwing (eAd G y)
  refine Steps.head hgo hw ?_
  have hm0 : ((T.setTop (F0 m pc ls rs)).pushFrame (.throwing (eAd G y))).vm.method? (F0 m pc ls rs).method = some meth := by
    rw [Stand.throwing_vm]
    exact X1.method'
  have hv : ((T.setTop (F0 m pc ls rs)).pushFrame (.throwing (eAd G y))).setVm T.vm = (T.setTop (F0 m pc ls rs)).pushFrame (.throwing (eAd G y)) := by
    rw [← Stand.throwing_vm T (F0 m pc ls rs) (eAd G y)]
    exact State.setVm_self _
  have hf2 : ∀ (Q : Handler → Pre) (E : CtlPost) (d : Bool) (acts : List Action), Sem.wp (findHandler (F0 m pc ls rs) (eAd G y)) Q E e d acts ((T.setTop (F0 m pc ls rs)).pushFrame (.throwing (eAd G y))) ↔ Q (.found t) d acts (((T.setTop (F0 m pc ls rs)).pushFrame (.throwing (eAd G y))).setVm vm') := fun Q E d acts => by
    refine (W.findHandler_eq hm0 X1.code).trans ?_
    have z := hfind Q E d acts
    rw [hv] at z
    exact z
  have hstep := e_stepCatch (r := T.frames.tail) hf2
  rw [stepThread_throwing (frames_entered h.top _), hstep.1]
  obtain ⟨g₀, hg⟩ := Option.isSome_iff_exists.mp h.top
  obtain ⟨r, hr⟩ := State.topJava?_eq_some.mp hg
  have hr' : (T.setVm vm').frames = .java g₀ :: r := hr
  rw [State.setTop_of_frames _ hr'] at hrest
  rw [hr]
  have hfin : (((T.setTop (F0 m pc ls rs)).pushFrame (.throwing (eAd G y))).setVm vm').setFrames (.java (F0 m t ls [.ref (eAd G y)]) :: r) = (T.setVm vm').setFrames (.java (F0 m t ls [.ref (eAd G y)]) :: r) := by
    rw [State.pushFrame, State.setTop_of_frames _ hr]
    show (((T.setVm vm').setFrames _).setFrames _).setFrames _ = _
    rw [State.setFrames_setFrames, State.setFrames_setFrames]
  show Steps p.tables e below ((((T.setTop (F0 m pc ls rs)).pushFrame (.throwing (eAd G y))).setVm vm').setFrames (.java (F0 m t ls [.ref (eAd G y)]) :: r)) target
  rw [hfin]
  exact hrest
theorem e_go {call : Nat → List Value → eH → Option (eR × eH)} {d : Nat} {r : eR} {hE : eH} (cx : eCx P N G X p s m args meth c k) (ga : gAll P N G.cl) (gh : gThr P N G.cl) (htr : l.stackTraces = false) (gk : gHan P N)
    (hmono : ∀ k' as h1 r1 h2, call k' as h1 = some (r1, h2) → h1.2.1 ≤ h2.2.1 ∧ h1.2.2 ≤ h2.2.2) (hcall : ∀ k' as h1 r1 h2, gCode P N k' → gName P N k' → call k' as h1 = some (r1, h2) → eMet l P N G X d k' as h1 r1 h2)
    (hfr : d + 13 ≤ R.frames ∧ (d + 13) * 64 ≤ R.locals) (hRc : hE.2.1 ≤ R.cells + c0) (hRs : hE.2.2 ≤ R.slots + s0) :
    ∀ (n : Nat) (pc : Nat) (lo : eLo) (st : List Value) (h : eH), eGo P X call k n (pc, lo, st, h) = some (r, hE) → ∀ (H : Heap) (locs : List Loc) (cells slots : Nat) (ls : Array Slot), eBa P G s k c0 s0 lo h H locs cells slots ls →
      W p l e R s m args below meth c H locs cells slots (eZ G s below r hE (hE.2.1 - c0) (hE.2.2 - s0)) (F0 m pc ls (st.map (eVal G))) := by
  have hfr2 : 12 ≤ R.frames ∧ 700 ≤ R.locals := ⟨by omega, by omega⟩
  intro n
  induction n with
  | zero => intro pc lo st h hgo; cases hgo
  | succ n ih =>
    intro pc lo st h hgo H locs cells slots ls b
    have b4 := b.2.2.2.1
    have b5 := b.2.2.2.2
    have hM0 := eGo_mono hmono _ _ _ _ _ hgo
    simp only [eGo] at hgo
    split at hgo
    · split at hgo
      · cases hgo
      · rename_i q ht
        split at hgo
        · rename_i hq
          cases hgo
          have zW := es_throw (e := e) (R := R) (below := below) cx ga gh htr ht hq.1 hq.2 b hfr2 hRc hRs
          rw [show (eNew h (Sum.inr (q.1, (P.bla q.1).1)) (P.bla q.1).2).2.1 - c0 = cells + 1 by show h.2.1 + 1 - c0 = cells + 1; omega, show (eNew h (Sum.inr (q.1, (P.bla q.1).1)) (P.bla q.1).2).2.2 - s0 = slots + (P.bla q.1).2 by show h.2.2 + (P.bla q.1).2 - s0 = _; omega]
          exact zW
        · cases hgo
    · rename_i i len hi
      obtain ⟨hd, hlen⟩ := ga.1 _ _ _ _ hi
      split at hgo
      · split at hgo
        · cases hgo
        · rename_i x hz
          obtain ⟨x1, x2, x3, x4⟩ := x
          have hm := eGo_mono hmono _ _ _ _ _ hgo
          exact (e_step cx ga hd hlen hz b).2 (Nat.le_trans hm.1 hRc) (Nat.le_trans hm.2 hRs) (by omega) (by omega) (fun H1 locs1 cells1 slots1 ls1 b1 => ih _ _ _ _ hgo H1 locs1 cells1 slots1 ls1 b1)
      · rename_i kd ix hk
        obtain ⟨hl3, hk0, hk1, hk2⟩ := e_len3 hk hlen
        subst hl3
        split at hgo
        · cases hgo
        · rename_i kind k' na hm
          split at hgo
          · cases hgo
          · rename_i hrs
            split at hgo
            · split at hgo
              · cases hgo
              · rename_i x hz
                obtain ⟨x1, x2, x3, x4⟩ := x
                exact e_own cx ga hk hm hd hrs hz b hfr2 (Nat.le_trans hM0.1 hRc) (Nat.le_trans hM0.2 hRs) (fun H1 locs1 cells1 slots1 ls1 b1 => ih _ _ _ _ hgo H1 locs1 cells1 slots1 ls1 b1)
            · rename_i h3
              have h3 : kind < 3 := Nat.not_le.mp h3
              obtain ⟨gAll1, gA2, gA3, gA4, gA5, -⟩ := ga.2.2.2.2.2.1 _ _ _ _ _ hm
              obtain ⟨gcd, gnm⟩ := gAll1 h3
              split at hgo
              · cases hgo
              · rename_i as rs ha
                obtain ⟨hst, hrs1, hal, hkk, hcase⟩ := eArgs_some (fun z => hrs (Or.inl z)) ha
                subst hkk
                have hrs2 : eCat rs ≤ 8 := by rw [hrs1]; exact Nat.not_lt.mp fun z => hrs (Or.inr z)
                split at hgo
                · cases hgo
                · rename_i v h' hc
                  have hM := hcall _ _ _ _ _ gcd gnm hc
                  have hm1 := hmono _ _ _ _ _ hc
                  have hm2 := eGo_mono hmono _ _ _ _ _ hgo
                  have hc1 := Nat.le_trans hm2.1 hRc
                  have hs1 := Nat.le_trans hm2.2 hRs
                  have kk : eNext P G p l e R s m args below meth c (eZ G s below r hE (hE.2.1 - c0) (hE.2.2 - s0)) k c0 s0 (pc + 3, lo, v.toList ++ rs, h') := fun H1 locs1 cells1 slots1 ls1 b1 => ih _ _ _ _ hgo H1 locs1 cells1 slots1 ls1 b1
                  rcases hcase with rfl | ⟨rfl, a, as', fs, rfl, h1, h2⟩ | ⟨rfl, a, as', rfl⟩
                  · rw [hk0 rfl] at hd
                    obtain ⟨g1, g2⟩ := gA3 rfl
                    exact e_back b hm1 (e_runS cx lw_gd_good b hM gcd gnm (gA2 (by omega)) g1 (by rw [hal]; exact g2) hrs2 hd hfr hc1 hs1 hm1 hst) kk
                  · rw [hk1 rfl] at hd
                    obtain ⟨g1, g2, g3, g4⟩ := gA4 rfl
                    rcases gcd with ⟨-, gcd⟩ | ⟨g5, -⟩
                    · exact e_back b hm1 (e_runV cx lw_gd_good ga.2.2.2.1 b hM gcd gnm (gA2 (by omega)) g1 g2 h1 h2 (by rw [show as'.length + 1 = na from hal]; exact g4) hrs2 hd hfr hc1 hs1 hm1 (by rw [hst]; simp)) kk
                    · exact absurd g3 g5
                  · rw [hk2 rfl] at hd
                    obtain ⟨g1, g2, g3, g4, g5, g6⟩ := gA5 rfl
                    rcases gcd with ⟨-, gcd⟩ | ⟨g7, -⟩
                    · rw [g5] at gcd
                      exact e_back b hm1 (e_runI cx lw_gd_good b hM gcd gnm (cx.2.2.2.2.2.2.2.1.2.2.1 _ _ _ _ hm) g1 g2 (by rw [show as'.length + 1 = na from hal]; exact g6) hrs2 hd hfr hc1 hs1 hm1 (by rw [hst]; simp)) kk
                    · exact absurd g4 g7
                · rename_i y h' hc
                  have hM := hcall _ _ _ _ _ gcd gnm hc
                  have hm1 := hmono _ _ _ _ _ hc
                  split at hgo
                  · cases hgo
                  · rename_i hno
                    have hy0 : ¬ y = 0 := fun z => hno (Or.inl z)
                    have hhs : eHs P k' = [] := Decidable.of_not_not fun z => hno (Or.inr (Or.inl z))
                    have gcd2 : Cond.code (N.mn k') (N.cd k') (eNL P k') (eRt P k') ∈ lw_gd := by
                      rcases gcd with ⟨-, gcd⟩ | ⟨g7, -⟩
                      · exact gcd
                      · exact absurd hhs g7
                    split at hgo
                    · rename_i c1 fs1 hcell
                      have key : (hE.2.1 ≥ h'.2.1 ∧ hE.2.2 ≥ h'.2.2) ∧ eTh P G p l e R s m args below meth c (eZ G s below r hE (hE.2.1 - c0) (hE.2.2 - s0)) k c0 s0 pc lo ls rs y h' := by
                        split at hgo
                        · rename_i t ht
                          refine ⟨eGo_mono hmono _ _ _ _ _ hgo, fun T locs1 cells1 slots1 X1 b1 => ?_⟩
                          obtain ⟨vm', X2, hst2⟩ := e_catch (pc := pc) (ls := ls) (rs := rs.map (eVal G)) cx gk ga.2.2.2.1 X1 hy0 (b1.2.1.at hy0 hcell) ht
                          obtain ⟨t2, a1, bb⟩ := ih _ _ _ _ hgo T.heap locs1 cells1 slots1 ls b1 (T.setVm vm') rfl X2
                          exact ⟨t2, hst2 t2 a1, bb⟩
                        · split at hgo
                          · rename_i hh
                            cases hgo
                            refine ⟨⟨Nat.le_refl _, Nat.le_refl _⟩, fun T locs1 cells1 slots1 X1 b1 => ?_⟩
                            obtain ⟨q1, q2, q3, q4, q5⟩ := X1.leaveThrown (eAd G y) (g := F0 m pc ls (rs.map (eVal G))) rfl rfl rfl (fun x hx => by rw [cx.2.2.2.2.2.2.2.2.2.2.2.1 hh] at hx; exact absurd hx List.not_mem_nil) (hlocks := cx.2.2.2.2.2.2.2.2.2.2.1)
                            have c4 := b1.2.2.2.1
                            have c5 := b1.2.2.2.2
                            rw [show hE.2.1 - c0 = cells1 by omega, show hE.2.2 - s0 = slots1 by omega]
                            exact ⟨_, q1, q2, q3, b1.2.1, q4, ⟨b1.2.2.1.1, b1.2.2.1.2.1⟩, locs1, q5, b1.2.2.1.2.2⟩
                          · cases hgo
                      obtain ⟨hm2, kk⟩ := key
                      have hc1 := Nat.le_trans hm2.1 hRc
                      have hs1 := Nat.le_trans hm2.2 hRs
                      rcases hcase with rfl | ⟨rfl, a, as', fs, rfl, h1, h2⟩ | ⟨rfl, a, as', rfl⟩
                      · rw [hk0 rfl] at hd
                        obtain ⟨g1, g2⟩ := gA3 rfl
                        exact e_thrS cx lw_gd_good b hM gcd2 gnm (gA2 (by omega)) g1 (by rw [hal]; exact g2) hrs2 hd hfr hc1 hs1 hm1 hst kk
                      · rw [hk1 rfl] at hd
                        obtain ⟨g1, g2, g3, g4⟩ := gA4 rfl
                        exact e_thrV cx lw_gd_good ga.2.2.2.1 b hM gcd2 gnm (gA2 (by omega)) g1 g2 h1 h2 (by rw [show as'.length + 1 = na from hal]; exact g4) hrs2 hd hfr hc1 hs1 hm1 (by rw [hst]; simp) kk
                      · exact absurd (Or.inr (Or.inr (gA5 rfl).2.2.1)) hno
                    · cases hgo
      · obtain ⟨rfl, z⟩ := e_end (below := below) (e := e) (l := l) (R := R) cx hd hlen hgo b
        rw [show hE.2.1 - c0 = cells by omega, show hE.2.2 - s0 = slots by omega]
        exact z
end ES9
end
section
theorem eAs_args (G : eG) : ∀ (as : List Value) (i n : Nat), eAs (eVal G) i (eArg as ++ List.replicate n none) = lv_args i (as.map (eVal G)) := by
  intro as
  induction as with
  | nil =>
    intro i n
    show eAs (eVal G) i (List.replicate n none) = []
    induction n generalizing i with
    | zero => rfl
    | succ n ih => exact ih (i + 1)
  | cons v r ih =>
    intro i n
    by_cases hc : v.category = 2
    · have h1 : eArg (v :: r) = some v :: none :: eArg r := by simp [eArg, hc]
      have h2 : lv_args i ((v :: r).map (eVal G)) = (i, eVal G v) :: lv_args (i + 2) (r.map (eVal G)) := by simp [lv_args, eVal_cat, hc]
      rw [h1, h2, ← ih (i + 2) n]
      rfl
    · have h1 : eArg (v :: r) = some v :: eArg r := by simp [eArg, hc]
      have h2 : lv_args i ((v :: r).map (eVal G)) = (i, eVal G v) :: lv_args (i + 1) (r.map (eVal G)) := by simp [lv_args, eVal_cat, hc]
      rw [h1, h2, ← ih (i + 1) n]
      rfl
theorem eArg_len (G : eG) : ∀ (as : List Value), (lg_sl (as.map (eVal G))).length = (eArg as).length := by
  intro as
  induction as with
  | nil => rfl
  | cons v r ih =>
    by_cases hc : v.category = 2
    · have h1 : eArg (v :: r) = some v :: none :: eArg r := by simp [eArg, hc]
      have h2 : lg_sl ((v :: r).map (eVal G)) = .val (eVal G v) :: .second :: lg_sl (r.map (eVal G)) := by simp [lg_sl, eVal_cat, hc]
      rw [h1, h2]
      simp [ih]
    · have h1 : eArg (v :: r) = some v :: eArg r := by simp [eArg, hc]
      have h2 : lg_sl ((v :: r).map (eVal G)) = .val (eVal G v) :: lg_sl (r.map (eVal G)) := by simp [lg_sl, eVal_cat, hc]
      rw [h1, h2]
      simp [ih]
theorem e_met {l : Launch} {P : eP} {N : eW} {G : eG} {X : Nat × (Nat → Int32)} {n : Nat} (ga : gAll P N G.cl) (gh : gThr P N G.cl) (htr : l.stackTraces = false) (gk : gHan P N) :
    ∀ (d k : Nat) (as : List Value) (h : eH) (r : eR) (h' : eH), gCode P N k → gName P N k → eRun P X n d k as h = some (r, h') → eMet l P N G X d k as h r h' := by
  intro d
  induction d with
  | zero => intro k as h r h' _ _ hx; cases hx
  | succ d ih =>
    intro k as h r h' hcode hname hx
    have hmm := eRun_mono _ _ _ _ _ _ hx
    simp only [eRun] at hx
    split at hx
    · cases hx
    · rename_i hnl
      unfold eMet
      refine MetFree.of_bodyS (code := N.cd k) (maxLocals := eNL P k) (ret := eRt P k) hname.1 ?_ ?_
      · intro args s m hpre hn
        have hts : ∀ w ∈ lw_gd, w.before args s = true := atoms_spec (ws := lw_gd) hpre
        rcases hcode with ⟨-, hcode⟩ | ⟨-, hs, hcode⟩
        · obtain ⟨meth, c, h1, h2, h3, h4, h5, h6, -, -⟩ := Cond.code_spec hn (hts _ hcode)
          exact ⟨meth, c, h1, h2, h3, h4, h5, h6⟩
        · obtain ⟨m', meth, c, h0, h1, h2, h3, h4, -, h5, h6, -⟩ := Cond.codeWith_spec (hts _ hcode)
          cases hn.symm.trans h0
          exact ⟨meth, c, h1, h2, h3, h4, h5, h6⟩
      · intro p e s m args below meth c s₁ B hml hP _
        obtain ⟨rfl, hK, hR, ⟨hX, hb⟩, hFx⟩ := hP
        have hts : ∀ w ∈ lw_gd, w.before (as.map (eVal G)).toArray s = true := atoms_spec (ws := lw_gd) B.pre
        have X0 := Stand.of_body B
        have hh0 : s₁.heap = s.heap := by rw [B.state]; rfl
        have hown : s.vm.findClass (N.cn (eOwn P k)) = some m.cls := by
          rw [← hname.2.2.1]
          exact findClass_of_methodNamed B.named
        have hnm : meth.name = (N.mn k).name := (name_of_methodNamed B.named B.method).1
        have hexc1 : eHs P k = [] → c.exceptionTable.toList = [] := fun hz => by
          rcases hcode with ⟨-, hcode⟩ | ⟨hn2, -⟩
          · obtain ⟨meth', c', h1, h2, -, -, -, -, h7, -⟩ := Cond.code_spec B.named (hts _ hcode)
            cases B.method.symm.trans h1
            cases X0.code.symm.trans h2
            simpa using h7
          · exact absurd hz hn2
        have hexc2 : ∀ raw, Cond.codeWith (N.mn k) (N.cd k) (eNL P k) (eRt P k) raw ∈ lw_gd → c.exceptionTable.toList.map (fun h => (h.startPc, h.endPc, h.handlerPc, h.catchType)) = raw := fun raw hraw => by
          obtain ⟨m', meth', c', h0, h1, h2, -, -, h5, -⟩ := Cond.codeWith_spec (hts _ hraw)
          cases B.named.symm.trans h0
          cases B.method.symm.trans h1
          cases X0.code.symm.trans h2
          exact h5
        have hsz : G.B < s.heap.size := by rw [hR.1]; have := hR.2.1; omega
        have cx : eCx P N G X p s m (as.map (eVal G)).toArray meth c k := ⟨B.exec, B.bytes, hml, hown, hts, hK, ⟨hX, hb, hsz⟩, hFx, fun hz => by rw [hnm]; exact hname.2.2.2.2.1 hz, B.returns, B.notSynchronized, hexc1, hexc2⟩
        have hle : (lg_sl (as.map (eVal G))).length ≤ eNL P k := by rw [eArg_len]; exact Nat.not_lt.mp hnl
        have hb0 : eBa P G s k h.2.1 h.2.2 (eEntry (eNL P k) as) h s.heap [] 0 0 ((lg_sl (as.map (eVal G)) ++ List.replicate (eNL P k - (lg_sl (as.map (eVal G))).length) Slot.unset).toArray) := by
          refine ⟨⟨?_, ?_⟩, hR, ⟨Nat.le_refl _, fun _ _ _ => rfl, fun q hq => absurd hq List.not_mem_nil⟩, by omega, by omega⟩
          · unfold eEntry
            rw [List.length_append, List.length_replicate]
            have := Nat.not_lt.mp hnl
            omega
          · unfold eEntry
            rw [eAs_args]
            exact lv_entry (as.map (eVal G)) hle
        have z := e_go (e := e) (below := below) (R := eRm (d + 1) (h'.2.1 - h.2.1) (h'.2.2 - h.2.2)) cx ga gh htr gk (fun k' as' h1 r1 h2 hc => eRun_mono _ _ _ _ _ _ hc) (fun k' as' h1 r1 h2 g1 g2 hc => ih k' as' h1 r1 h2 g1 g2 hc) ⟨by show d + 13 ≤ d + 1 + 12; omega, by show (d + 13) * 64 ≤ (d + 1 + 12) * 64; omega⟩
          (by show h'.2.1 ≤ h'.2.1 - h.2.1 + h.2.1; omega) (by show h'.2.2 ≤ h'.2.2 - h.2.2 + h.2.2; omega) n _ _ _ _ hx s.heap [] 0 0 _ hb0
        rw [lg_entry_eq]
        obtain ⟨t, a1, q1, q2, q3, q4, q5, q6⟩ := z s₁ hh0 X0
        exact ⟨t, eO G r, a1, q1, q2, ⟨rfl, q3, q5⟩, q4, q6⟩
end
section
def eB1 {α : Type} (o n : Nat) (x : Option α) : Option α := cond (Nat.blt o n) x none
def eB2 {α : Type} (o i : Nat) (x : Option α) : Option α := cond (Nat.blt o 16 && Nat.blt i 512) x none
def pI_0 : Nat → Option (Instr × Nat) := fun pc => eB1 pc 98 (cond (Nat.blt pc 49) (cond (Nat.blt pc 23) (cond (Nat.blt pc 9) (cond (Nat.blt pc 4) (cond (Nat.blt pc 1) (cond (Nat.beq pc 0) (some (.aload_n 0, 1)) none) (cond (Nat.beq pc 1) (some (.invokespecial 3, 3)) none)) (cond (Nat.blt pc 5) (cond (Nat.beq pc 4) (some (.aload_n 0, 1)) none) (cond (Nat.blt pc 8) (cond (Nat.beq pc 5) (some (.new 9, 3)) none) (cond (Nat.beq pc 8) (some (.dup, 1)) none)))) (cond (Nat.blt pc 16) (cond (Nat.blt pc 12) (cond (Nat.beq pc 9) (some (.invokespecial 11, 3)) none) (cond (Nat.blt pc 15) (cond (Nat.beq pc 12) (some (.putfield 12, 3)) none) (cond (Nat.beq pc 15) (some (.aload_n 0, 1)) none))) (cond (Nat.blt pc 19) (cond (Nat.beq pc 16) (some (.new 16, 3)) none) (cond (Nat.blt pc 20) (cond (Nat.beq pc 19) (some (.dup, 1)) none) (cond (Nat.beq pc 20) (some (.invokespecial 18, 3)) none))))) (cond (Nat.blt pc 37) (cond (Nat.blt pc 30) (cond (Nat.blt pc 26) (cond (Nat.beq pc 23) (some (.putfield 19, 3)) none) (cond (Nat.blt pc 27) (cond (Nat.beq pc 26) (some (.aload_n 0, 1)) none) (cond (Nat.beq pc 27) (some (.new 23, 3)) none))) (cond (Nat.blt pc 31) (cond (Nat.beq pc 30) (some (.dup, 1)) none) (cond (Nat.blt pc 34) (cond (Nat.beq pc 31) (some (.invokespecial 25, 3)) none) (cond (Nat.beq pc 34) (some (.putfield 26, 3)) none)))) (cond (Nat.blt pc 42) (cond (Nat.blt pc 38) (cond (Nat.beq pc 37) (some (.aload_n 0, 1)) none) (cond (Nat.blt pc 41) (cond (Nat.beq pc 38) (some (.new 30, 3)) none) (cond (Nat.beq pc 41) (some (.dup, 1)) none))) (cond (Nat.blt pc 45) (cond (Nat.beq pc 42) (some (.invokespecial 32, 3)) none) (cond (Nat.blt pc 48) (cond (Nat.beq pc 45) (some (.putfield 33, 3)) none) (cond (Nat.beq pc 48) (some (.aload_n 0, 1)) none)))))) (cond (Nat.blt pc 72) (cond (Nat.blt pc 60) (cond (Nat.blt pc 53) (cond (Nat.blt pc 52) (cond (Nat.beq pc 49) (some (.new 37, 3)) none) (cond (Nat.beq pc 52) (some (.dup, 1)) none)) (cond (Nat.blt pc 56) (cond (Nat.beq pc 53) (some (.invokespecial 39, 3)) none) (cond (Nat.blt pc 59) (cond (Nat.beq pc 56) (some (.putfield 40, 3)) none) (cond (Nat.beq pc 59) (some (.aload_n 0, 1)) none)))) (cond (Nat.blt pc 67) (cond (Nat.blt pc 62) (cond (Nat.beq pc 60) (some (.bipush 6, 2)) none) (cond (Nat.blt pc 64) (cond (Nat.beq pc 62) (some (.newarray .int, 2)) none) (cond (Nat.beq pc 64) (some (.putfield 44, 3)) none))) (cond (Nat.blt pc 68) (cond (Nat.beq pc 67) (some (.aload_n 0, 1)) none) (cond (Nat.blt pc 71) (cond (Nat.beq pc 68) (some (.new 48, 3)) none) (cond (Nat.beq pc 71) (some (.dup, 1)) none))))) (cond (Nat.blt pc 86) (cond (Nat.blt pc 79) (cond (Nat.blt pc 75) (cond (Nat.beq pc 72) (some (.invokespecial 50, 3)) none) (cond (Nat.blt pc 78) (cond (Nat.beq pc 75) (some (.putfield 51, 3)) none) (cond (Nat.beq pc 78) (some (.aload_n 0, 1)) none))) (cond (Nat.blt pc 82) (cond (Nat.beq pc 79) (some (.new 48, 3)) none) (cond (Nat.blt pc 83) (cond (Nat.beq pc 82) (some (.dup, 1)) none) (cond (Nat.beq pc 83) (some (.invokespecial 50, 3)) none)))) (cond (Nat.blt pc 93) (cond (Nat.blt pc 89) (cond (Nat.beq pc 86) (some (.putfield 55, 3)) none) (cond (Nat.blt pc 90) (cond (Nat.beq pc 89) (some (.aload_n 0, 1)) none) (cond (Nat.beq pc 90) (some (.getfield 51, 3)) none))) (cond (Nat.blt pc 94) (cond (Nat.beq pc 93) (some (.iconst 0, 1)) none) (cond (Nat.blt pc 97) (cond (Nat.beq pc 94) (some (.invokevirtual 58, 3)) none) (cond (Nat.beq pc 97) (some (.return_, 1)) none)))))))
def pI_1 : Nat → Option (Instr × Nat) := fun pc => eB1 pc 29 (cond (Nat.blt pc 13) (cond (Nat.blt pc 5) (cond (Nat.blt pc 1) (cond (Nat.beq pc 0) (some (.iload_n 1, 1)) none) (cond (Nat.blt pc 4) (cond (Nat.beq pc 1) (some (.invokestatic 62, 3)) none) (cond (Nat.beq pc 4) (some (.aload_n 0, 1)) none))) (cond (Nat.blt pc 9) (cond (Nat.blt pc 8) (cond (Nat.beq pc 5) (some (.getfield 51, 3)) none) (cond (Nat.beq pc 8) (some (.iload_n 1, 1)) none)) (cond (Nat.blt pc 12) (cond (Nat.beq pc 9) (some (.invokevirtual 58, 3)) none) (cond (Nat.beq pc 12) (some (.aload_n 0, 1)) none)))) (cond (Nat.blt pc 21) (cond (Nat.blt pc 17) (cond (Nat.blt pc 16) (cond (Nat.beq pc 13) (some (.getfield 12, 3)) none) (cond (Nat.beq pc 16) (some (.iconst 0, 1)) none)) (cond (Nat.blt pc 20) (cond (Nat.beq pc 17) (some (.putfield 65, 3)) none) (cond (Nat.beq pc 20) (some (.aload_n 0, 1)) none))) (cond (Nat.blt pc 25) (cond (Nat.blt pc 24) (cond (Nat.beq pc 21) (some (.getfield 33, 3)) none) (cond (Nat.beq pc 24) (some (.iconst 0, 1)) none)) (cond (Nat.blt pc 28) (cond (Nat.beq pc 25) (some (.putfield 69, 3)) none) (cond (Nat.beq pc 28) (some (.return_, 1)) none)))))
def pI_2 : Nat → Option (Instr × Nat) := fun pc => eB1 pc 45 (cond (Nat.blt pc 18) (cond (Nat.blt pc 9) (cond (Nat.blt pc 2) (cond (Nat.blt pc 1) (cond (Nat.beq pc 0) (some (.aload_n 0, 1)) none) (cond (Nat.beq pc 1) (some (.iload_n 1, 1)) none)) (cond (Nat.blt pc 5) (cond (Nat.beq pc 2) (some (.invokevirtual 70, 3)) none) (cond (Nat.blt pc 6) (cond (Nat.beq pc 5) (some (.iload_n 2, 1)) none) (cond (Nat.beq pc 6) (some (.invokestatic 62, 3)) none)))) (cond (Nat.blt pc 13) (cond (Nat.blt pc 10) (cond (Nat.beq pc 9) (some (.aload_n 0, 1)) none) (cond (Nat.beq pc 10) (some (.getfield 51, 3)) none)) (cond (Nat.blt pc 16) (cond (Nat.beq pc 13) (some (.invokevirtual 73, 3)) none) (cond (Nat.blt pc 17) (cond (Nat.beq pc 16) (some (.istore_n 3, 1)) none) (cond (Nat.beq pc 17) (some (.iload_n 3, 1)) none))))) (cond (Nat.blt pc 37) (cond (Nat.blt pc 32) (cond (Nat.blt pc 19) (cond (Nat.beq pc 18) (some (.iconst (-1), 1)) none) (cond (Nat.beq pc 19) (some (.if_icmp .ne 13, 3)) none)) (cond (Nat.blt pc 33) (cond (Nat.beq pc 32) (some (.aload_n 0, 1)) none) (cond (Nat.blt pc 36) (cond (Nat.beq pc 33) (some (.getfield 51, 3)) none) (cond (Nat.beq pc 36) (some (.iload_n 3, 1)) none)))) (cond (Nat.blt pc 40) (cond (Nat.blt pc 38) (cond (Nat.beq pc 37) (some (.iload_n 1, 1)) none) (cond (Nat.blt pc 39) (cond (Nat.beq pc 38) (some (.iload_n 2, 1)) none) (cond (Nat.beq pc 39) (some (.lconst 0, 1)) none))) (cond (Nat.blt pc 43) (cond (Nat.beq pc 40) (some (.invokevirtual 84, 3)) none) (cond (Nat.blt pc 44) (cond (Nat.beq pc 43) (some (.iload_n 3, 1)) none) (cond (Nat.beq pc 44) (some (.ireturn, 1)) none))))))
def pI_3 : Nat → Option (Instr × Nat) := fun pc => eB1 pc 55 (cond (Nat.blt pc 22) (cond (Nat.blt pc 10) (cond (Nat.blt pc 5) (cond (Nat.blt pc 1) (cond (Nat.beq pc 0) (some (.aload_n 0, 1)) none) (cond (Nat.blt pc 2) (cond (Nat.beq pc 1) (some (.iload_n 1, 1)) none) (cond (Nat.beq pc 2) (some (.invokevirtual 70, 3)) none))) (cond (Nat.blt pc 6) (cond (Nat.beq pc 5) (some (.iload_n 2, 1)) none) (cond (Nat.blt pc 9) (cond (Nat.beq pc 6) (some (.invokestatic 88, 3)) none) (cond (Nat.beq pc 9) (some (.aload_n 0, 1)) none)))) (cond (Nat.blt pc 17) (cond (Nat.blt pc 13) (cond (Nat.beq pc 10) (some (.getfield 51, 3)) none) (cond (Nat.blt pc 16) (cond (Nat.beq pc 13) (some (.getfield 91, 3)) none) (cond (Nat.beq pc 16) (some (.iload_n 1, 1)) none))) (cond (Nat.blt pc 18) (cond (Nat.beq pc 17) (some (.laload, 1)) none) (cond (Nat.blt pc 19) (cond (Nat.beq pc 18) (some (.iload_n 2, 1)) none) (cond (Nat.beq pc 19) (some (.invokestatic 95, 3)) none))))) (cond (Nat.blt pc 44) (cond (Nat.blt pc 25) (cond (Nat.blt pc 23) (cond (Nat.beq pc 22) (some (.ladd, 1)) none) (cond (Nat.blt pc 24) (cond (Nat.beq pc 23) (some (.lstore_n 3, 1)) none) (cond (Nat.beq pc 24) (some (.lload_n 3, 1)) none))) (cond (Nat.blt pc 28) (cond (Nat.beq pc 25) (some (.ldc2_w 101, 3)) none) (cond (Nat.blt pc 31) (cond (Nat.beq pc 28) (some (.invokestatic 103, 3)) none) (cond (Nat.beq pc 31) (some (.ifCond .ne 13, 3)) none)))) (cond (Nat.blt pc 51) (cond (Nat.blt pc 45) (cond (Nat.beq pc 44) (some (.aload_n 0, 1)) none) (cond (Nat.blt pc 48) (cond (Nat.beq pc 45) (some (.getfield 51, 3)) none) (cond (Nat.beq pc 48) (some (.getfield 91, 3)) none))) (cond (Nat.blt pc 53) (cond (Nat.blt pc 52) (cond (Nat.beq pc 51) (some (.iload_n 1, 1)) none) (cond (Nat.beq pc 52) (some (.lload_n 3, 1)) none)) (cond (Nat.blt pc 54) (cond (Nat.beq pc 53) (some (.lastore, 1)) none) (cond (Nat.beq pc 54) (some (.return_, 1)) none))))))
def pI_4 : Nat → Option (Instr × Nat) := fun pc => eB1 pc 65 (cond (Nat.blt pc 28) (cond (Nat.blt pc 12) (cond (Nat.blt pc 5) (cond (Nat.blt pc 1) (cond (Nat.beq pc 0) (some (.iload_n 1, 1)) none) (cond (Nat.blt pc 4) (cond (Nat.beq pc 1) (some (.invokestatic 62, 3)) none) (cond (Nat.beq pc 4) (some (.iload_n 2, 1)) none))) (cond (Nat.blt pc 8) (cond (Nat.beq pc 5) (some (.invokestatic 88, 3)) none) (cond (Nat.blt pc 9) (cond (Nat.beq pc 8) (some (.iload_n 3, 1)) none) (cond (Nat.beq pc 9) (some (.invokestatic 88, 3)) none)))) (cond (Nat.blt pc 18) (cond (Nat.blt pc 14) (cond (Nat.beq pc 12) (some (.iload 4, 2)) none) (cond (Nat.blt pc 17) (cond (Nat.beq pc 14) (some (.invokestatic 88, 3)) none) (cond (Nat.beq pc 17) (some (.iload_n 2, 1)) none))) (cond (Nat.blt pc 22) (cond (Nat.blt pc 21) (cond (Nat.beq pc 18) (some (.invokestatic 109, 3)) none) (cond (Nat.beq pc 21) (some (.aload_n 0, 1)) none)) (cond (Nat.blt pc 25) (cond (Nat.beq pc 22) (some (.getfield 12, 3)) none) (cond (Nat.beq pc 25) (some (.getfield 65, 3)) none))))) (cond (Nat.blt pc 49) (cond (Nat.blt pc 44) (cond (Nat.blt pc 30) (cond (Nat.beq pc 28) (some (.bipush 6, 2)) none) (cond (Nat.blt pc 43) (cond (Nat.beq pc 30) (some (.if_icmp .ne 13, 3)) none) (cond (Nat.beq pc 43) (some (.aload_n 0, 1)) none))) (cond (Nat.blt pc 47) (cond (Nat.beq pc 44) (some (.getfield 12, 3)) none) (cond (Nat.blt pc 48) (cond (Nat.beq pc 47) (some (.iload_n 1, 1)) none) (cond (Nat.beq pc 48) (some (.iload_n 2, 1)) none)))) (cond (Nat.blt pc 56) (cond (Nat.blt pc 52) (cond (Nat.beq pc 49) (some (.invokestatic 95, 3)) none) (cond (Nat.blt pc 53) (cond (Nat.beq pc 52) (some (.iload_n 3, 1)) none) (cond (Nat.beq pc 53) (some (.invokestatic 95, 3)) none))) (cond (Nat.blt pc 61) (cond (Nat.blt pc 58) (cond (Nat.beq pc 56) (some (.iload 4, 2)) none) (cond (Nat.beq pc 58) (some (.invokestatic 95, 3)) none)) (cond (Nat.blt pc 64) (cond (Nat.beq pc 61) (some (.invokevirtual 114, 3)) none) (cond (Nat.beq pc 64) (some (.ireturn, 1)) none))))))
def pI_5 : Nat → Option (Instr × Nat) := fun pc => eB1 pc 47 (cond (Nat.blt pc 24) (cond (Nat.blt pc 10) (cond (Nat.blt pc 5) (cond (Nat.blt pc 1) (cond (Nat.beq pc 0) (some (.aload_n 0, 1)) none) (cond (Nat.blt pc 2) (cond (Nat.beq pc 1) (some (.iload_n 1, 1)) none) (cond (Nat.beq pc 2) (some (.invokevirtual 118, 3)) none))) (cond (Nat.blt pc 6) (cond (Nat.beq pc 5) (some (.iload_n 2, 1)) none) (cond (Nat.blt pc 9) (cond (Nat.beq pc 6) (some (.invokestatic 62, 3)) none) (cond (Nat.beq pc 9) (some (.iload_n 3, 1)) none)))) (cond (Nat.blt pc 17) (cond (Nat.blt pc 13) (cond (Nat.beq pc 10) (some (.invokestatic 88, 3)) none) (cond (Nat.blt pc 14) (cond (Nat.beq pc 13) (some (.iload_n 3, 1)) none) (cond (Nat.beq pc 14) (some (.invokestatic 109, 3)) none))) (cond (Nat.blt pc 18) (cond (Nat.beq pc 17) (some (.aload_n 0, 1)) none) (cond (Nat.blt pc 21) (cond (Nat.beq pc 18) (some (.getfield 12, 3)) none) (cond (Nat.beq pc 21) (some (.getfield 121, 3)) none))))) (cond (Nat.blt pc 34) (cond (Nat.blt pc 27) (cond (Nat.blt pc 25) (cond (Nat.beq pc 24) (some (.iload_n 1, 1)) none) (cond (Nat.blt pc 26) (cond (Nat.beq pc 25) (some (.aaload, 1)) none) (cond (Nat.beq pc 26) (some (.iload_n 3, 1)) none))) (cond (Nat.blt pc 30) (cond (Nat.beq pc 27) (some (.invokestatic 95, 3)) none) (cond (Nat.blt pc 33) (cond (Nat.beq pc 30) (some (.putfield 125, 3)) none) (cond (Nat.beq pc 33) (some (.aload_n 0, 1)) none)))) (cond (Nat.blt pc 41) (cond (Nat.blt pc 37) (cond (Nat.beq pc 34) (some (.getfield 12, 3)) none) (cond (Nat.blt pc 40) (cond (Nat.beq pc 37) (some (.getfield 121, 3)) none) (cond (Nat.beq pc 40) (some (.iload_n 1, 1)) none))) (cond (Nat.blt pc 43) (cond (Nat.blt pc 42) (cond (Nat.beq pc 41) (some (.aaload, 1)) none) (cond (Nat.beq pc 42) (some (.iload_n 2, 1)) none)) (cond (Nat.blt pc 46) (cond (Nat.beq pc 43) (some (.putfield 131, 3)) none) (cond (Nat.beq pc 46) (some (.return_, 1)) none))))))
def pI_6 : Nat → Option (Instr × Nat) := fun pc => eB1 pc 24 (cond (Nat.blt pc 11) (cond (Nat.blt pc 5) (cond (Nat.blt pc 1) (cond (Nat.beq pc 0) (some (.aload_n 0, 1)) none) (cond (Nat.blt pc 2) (cond (Nat.beq pc 1) (some (.iload_n 1, 1)) none) (cond (Nat.beq pc 2) (some (.invokevirtual 118, 3)) none))) (cond (Nat.blt pc 7) (cond (Nat.blt pc 6) (cond (Nat.beq pc 5) (some (.aload_n 0, 1)) none) (cond (Nat.beq pc 6) (some (.iload_n 1, 1)) none)) (cond (Nat.blt pc 10) (cond (Nat.beq pc 7) (some (.invokevirtual 134, 3)) none) (cond (Nat.beq pc 10) (some (.aload_n 0, 1)) none)))) (cond (Nat.blt pc 18) (cond (Nat.blt pc 14) (cond (Nat.beq pc 11) (some (.getfield 12, 3)) none) (cond (Nat.blt pc 17) (cond (Nat.beq pc 14) (some (.getfield 121, 3)) none) (cond (Nat.beq pc 17) (some (.iload_n 1, 1)) none))) (cond (Nat.blt pc 20) (cond (Nat.blt pc 19) (cond (Nat.beq pc 18) (some (.aaload, 1)) none) (cond (Nat.beq pc 19) (some (.iconst 1, 1)) none)) (cond (Nat.blt pc 23) (cond (Nat.beq pc 20) (some (.putfield 137, 3)) none) (cond (Nat.beq pc 23) (some (.return_, 1)) none)))))
def pI_7 : Nat → Option (Instr × Nat) := fun pc => eB1 pc 44 (cond (Nat.blt pc 22) (cond (Nat.blt pc 10) (cond (Nat.blt pc 5) (cond (Nat.blt pc 1) (cond (Nat.beq pc 0) (some (.aload_n 0, 1)) none) (cond (Nat.blt pc 2) (cond (Nat.beq pc 1) (some (.iload_n 1, 1)) none) (cond (Nat.beq pc 2) (some (.invokevirtual 118, 3)) none))) (cond (Nat.blt pc 6) (cond (Nat.beq pc 5) (some (.iload_n 2, 1)) none) (cond (Nat.blt pc 9) (cond (Nat.beq pc 6) (some (.invokestatic 88, 3)) none) (cond (Nat.beq pc 9) (some (.aload_n 0, 1)) none)))) (cond (Nat.blt pc 15) (cond (Nat.blt pc 11) (cond (Nat.beq pc 10) (some (.iload_n 1, 1)) none) (cond (Nat.blt pc 14) (cond (Nat.beq pc 11) (some (.invokevirtual 134, 3)) none) (cond (Nat.beq pc 14) (some (.aload_n 0, 1)) none))) (cond (Nat.blt pc 18) (cond (Nat.beq pc 15) (some (.getfield 12, 3)) none) (cond (Nat.blt pc 21) (cond (Nat.beq pc 18) (some (.getfield 121, 3)) none) (cond (Nat.beq pc 21) (some (.iload_n 1, 1)) none))))) (cond (Nat.blt pc 34) (cond (Nat.blt pc 27) (cond (Nat.blt pc 23) (cond (Nat.beq pc 22) (some (.aaload, 1)) none) (cond (Nat.blt pc 24) (cond (Nat.beq pc 23) (some (.iconst 1, 1)) none) (cond (Nat.beq pc 24) (some (.putfield 141, 3)) none))) (cond (Nat.blt pc 28) (cond (Nat.beq pc 27) (some (.aload_n 0, 1)) none) (cond (Nat.blt pc 31) (cond (Nat.beq pc 28) (some (.getfield 12, 3)) none) (cond (Nat.beq pc 31) (some (.getfield 121, 3)) none)))) (cond (Nat.blt pc 37) (cond (Nat.blt pc 35) (cond (Nat.beq pc 34) (some (.iload_n 1, 1)) none) (cond (Nat.blt pc 36) (cond (Nat.beq pc 35) (some (.aaload, 1)) none) (cond (Nat.beq pc 36) (some (.iload_n 2, 1)) none))) (cond (Nat.blt pc 40) (cond (Nat.beq pc 37) (some (.invokestatic 95, 3)) none) (cond (Nat.blt pc 43) (cond (Nat.beq pc 40) (some (.putfield 144, 3)) none) (cond (Nat.beq pc 43) (some (.return_, 1)) none))))))
def pI_8 : Nat → Option (Instr × Nat) := fun pc => eB1 pc 113 (cond (Nat.blt pc 47) (cond (Nat.blt pc 23) (cond (Nat.blt pc 10) (cond (Nat.blt pc 3) (cond (Nat.blt pc 1) (cond (Nat.beq pc 0) (some (.iconst 0, 1)) none) (cond (Nat.blt pc 2) (cond (Nat.beq pc 1) (some (.istore_n 1, 1)) none) (cond (Nat.beq pc 2) (some (.iconst 0, 1)) none))) (cond (Nat.blt pc 5) (cond (Nat.blt pc 4) (cond (Nat.beq pc 3) (some (.istore_n 2, 1)) none) (cond (Nat.beq pc 4) (some (.iload_n 2, 1)) none)) (cond (Nat.blt pc 7) (cond (Nat.beq pc 5) (some (.bipush 6, 2)) none) (cond (Nat.beq pc 7) (some (.if_icmp .ge 43, 3)) none)))) (cond (Nat.blt pc 15) (cond (Nat.blt pc 11) (cond (Nat.beq pc 10) (some (.aload_n 0, 1)) none) (cond (Nat.blt pc 14) (cond (Nat.beq pc 11) (some (.getfield 44, 3)) none) (cond (Nat.beq pc 14) (some (.iload_n 2, 1)) none))) (cond (Nat.blt pc 19) (cond (Nat.blt pc 16) (cond (Nat.beq pc 15) (some (.aload_n 0, 1)) none) (cond (Nat.beq pc 16) (some (.getfield 19, 3)) none)) (cond (Nat.blt pc 20) (cond (Nat.beq pc 19) (some (.aload_n 0, 1)) none) (cond (Nat.beq pc 20) (some (.getfield 12, 3)) none))))) (cond (Nat.blt pc 34) (cond (Nat.blt pc 28) (cond (Nat.blt pc 24) (cond (Nat.beq pc 23) (some (.aload_n 0, 1)) none) (cond (Nat.blt pc 27) (cond (Nat.beq pc 24) (some (.getfield 51, 3)) none) (cond (Nat.beq pc 27) (some (.iload_n 2, 1)) none))) (cond (Nat.blt pc 32) (cond (Nat.blt pc 31) (cond (Nat.beq pc 28) (some (.invokevirtual 147, 3)) none) (cond (Nat.beq pc 31) (some (.iastore, 1)) none)) (cond (Nat.blt pc 33) (cond (Nat.beq pc 32) (some (.iload_n 1, 1)) none) (cond (Nat.beq pc 33) (some (.aload_n 0, 1)) none)))) (cond (Nat.blt pc 39) (cond (Nat.blt pc 37) (cond (Nat.beq pc 34) (some (.getfield 44, 3)) none) (cond (Nat.blt pc 38) (cond (Nat.beq pc 37) (some (.iload_n 2, 1)) none) (cond (Nat.beq pc 38) (some (.iaload, 1)) none))) (cond (Nat.blt pc 43) (cond (Nat.blt pc 42) (cond (Nat.beq pc 39) (some (.invokestatic 151, 3)) none) (cond (Nat.beq pc 42) (some (.iadd, 1)) none)) (cond (Nat.blt pc 44) (cond (Nat.beq pc 43) (some (.istore_n 1, 1)) none) (cond (Nat.beq pc 44) (some (.iinc 2 1, 3)) none)))))) (cond (Nat.blt pc 77) (cond (Nat.blt pc 62) (cond (Nat.blt pc 54) (cond (Nat.blt pc 50) (cond (Nat.beq pc 47) (some (.goto (-43), 3)) none) (cond (Nat.blt pc 51) (cond (Nat.beq pc 50) (some (.aload_n 0, 1)) none) (cond (Nat.beq pc 51) (some (.getfield 55, 3)) none))) (cond (Nat.blt pc 58) (cond (Nat.blt pc 55) (cond (Nat.beq pc 54) (some (.aload_n 0, 1)) none) (cond (Nat.beq pc 55) (some (.getfield 51, 3)) none)) (cond (Nat.blt pc 61) (cond (Nat.beq pc 58) (some (.invokevirtual 157, 3)) none) (cond (Nat.beq pc 61) (some (.aload_n 0, 1)) none)))) (cond (Nat.blt pc 69) (cond (Nat.blt pc 65) (cond (Nat.beq pc 62) (some (.getfield 26, 3)) none) (cond (Nat.blt pc 66) (cond (Nat.beq pc 65) (some (.aload_n 0, 1)) none) (cond (Nat.beq pc 66) (some (.getfield 12, 3)) none))) (cond (Nat.blt pc 73) (cond (Nat.blt pc 70) (cond (Nat.beq pc 69) (some (.aload_n 0, 1)) none) (cond (Nat.beq pc 70) (some (.getfield 55, 3)) none)) (cond (Nat.blt pc 74) (cond (Nat.beq pc 73) (some (.aload_n 0, 1)) none) (cond (Nat.beq pc 74) (some (.getfield 44, 3)) none))))) (cond (Nat.blt pc 100) (cond (Nat.blt pc 94) (cond (Nat.blt pc 80) (cond (Nat.beq pc 77) (some (.invokevirtual 161, 3)) none) (cond (Nat.blt pc 93) (cond (Nat.beq pc 80) (some (.ifCond .ne 13, 3)) none) (cond (Nat.beq pc 93) (some (.aload_n 0, 1)) none))) (cond (Nat.blt pc 98) (cond (Nat.blt pc 97) (cond (Nat.beq pc 94) (some (.getfield 51, 3)) none) (cond (Nat.beq pc 97) (some (.astore_n 2, 1)) none)) (cond (Nat.blt pc 99) (cond (Nat.beq pc 98) (some (.aload_n 0, 1)) none) (cond (Nat.beq pc 99) (some (.aload_n 0, 1)) none)))) (cond (Nat.blt pc 107) (cond (Nat.blt pc 103) (cond (Nat.beq pc 100) (some (.getfield 55, 3)) none) (cond (Nat.blt pc 106) (cond (Nat.beq pc 103) (some (.putfield 51, 3)) none) (cond (Nat.beq pc 106) (some (.aload_n 0, 1)) none))) (cond (Nat.blt pc 111) (cond (Nat.blt pc 108) (cond (Nat.beq pc 107) (some (.aload_n 2, 1)) none) (cond (Nat.beq pc 108) (some (.putfield 55, 3)) none)) (cond (Nat.blt pc 112) (cond (Nat.beq pc 111) (some (.iload_n 1, 1)) none) (cond (Nat.beq pc 112) (some (.ireturn, 1)) none)))))))
def pI_9 : Nat → Option (Instr × Nat) := fun pc => eB1 pc 31 (cond (Nat.blt pc 14) (cond (Nat.blt pc 6) (cond (Nat.blt pc 2) (cond (Nat.blt pc 1) (cond (Nat.beq pc 0) (some (.aload_n 0, 1)) none) (cond (Nat.beq pc 1) (some (.iload_n 1, 1)) none)) (cond (Nat.blt pc 5) (cond (Nat.beq pc 2) (some (.invokevirtual 70, 3)) none) (cond (Nat.beq pc 5) (some (.aload_n 0, 1)) none))) (cond (Nat.blt pc 10) (cond (Nat.blt pc 7) (cond (Nat.beq pc 6) (some (.iload_n 2, 1)) none) (cond (Nat.beq pc 7) (some (.invokevirtual 118, 3)) none)) (cond (Nat.blt pc 11) (cond (Nat.beq pc 10) (some (.aload_n 0, 1)) none) (cond (Nat.beq pc 11) (some (.getfield 19, 3)) none)))) (cond (Nat.blt pc 22) (cond (Nat.blt pc 18) (cond (Nat.blt pc 15) (cond (Nat.beq pc 14) (some (.aload_n 0, 1)) none) (cond (Nat.beq pc 15) (some (.getfield 12, 3)) none)) (cond (Nat.blt pc 19) (cond (Nat.beq pc 18) (some (.aload_n 0, 1)) none) (cond (Nat.beq pc 19) (some (.getfield 51, 3)) none))) (cond (Nat.blt pc 26) (cond (Nat.blt pc 23) (cond (Nat.beq pc 22) (some (.iload_n 1, 1)) none) (cond (Nat.beq pc 23) (some (.invokevirtual 147, 3)) none)) (cond (Nat.blt pc 27) (cond (Nat.beq pc 26) (some (.iload_n 2, 1)) none) (cond (Nat.blt pc 30) (cond (Nat.beq pc 27) (some (.invokestatic 167, 3)) none) (cond (Nat.beq pc 30) (some (.ireturn, 1)) none))))))
def pI_10 : Nat → Option (Instr × Nat) := fun pc => eB1 pc 28 (cond (Nat.blt pc 13) (cond (Nat.blt pc 5) (cond (Nat.blt pc 1) (cond (Nat.beq pc 0) (some (.aload_n 0, 1)) none) (cond (Nat.blt pc 2) (cond (Nat.beq pc 1) (some (.iload_n 1, 1)) none) (cond (Nat.beq pc 2) (some (.invokevirtual 70, 3)) none))) (cond (Nat.blt pc 9) (cond (Nat.blt pc 6) (cond (Nat.beq pc 5) (some (.aload_n 0, 1)) none) (cond (Nat.beq pc 6) (some (.getfield 19, 3)) none)) (cond (Nat.blt pc 10) (cond (Nat.beq pc 9) (some (.aload_n 0, 1)) none) (cond (Nat.beq pc 10) (some (.getfield 12, 3)) none)))) (cond (Nat.blt pc 18) (cond (Nat.blt pc 14) (cond (Nat.beq pc 13) (some (.aload_n 0, 1)) none) (cond (Nat.blt pc 17) (cond (Nat.beq pc 14) (some (.getfield 51, 3)) none) (cond (Nat.beq pc 17) (some (.iload_n 1, 1)) none))) (cond (Nat.blt pc 24) (cond (Nat.blt pc 21) (cond (Nat.beq pc 18) (some (.invokevirtual 171, 3)) none) (cond (Nat.beq pc 21) (some (.sipush 1000, 3)) none)) (cond (Nat.blt pc 27) (cond (Nat.beq pc 24) (some (.invokestatic 173, 3)) none) (cond (Nat.beq pc 27) (some (.ireturn, 1)) none)))))
def pI_11 : Nat → Option (Instr × Nat) := fun pc => eB1 pc 79 (cond (Nat.blt pc 40) (cond (Nat.blt pc 20) (cond (Nat.blt pc 8) (cond (Nat.blt pc 2) (cond (Nat.blt pc 1) (cond (Nat.beq pc 0) (some (.aload_n 0, 1)) none) (cond (Nat.beq pc 1) (some (.iload_n 1, 1)) none)) (cond (Nat.blt pc 5) (cond (Nat.beq pc 2) (some (.invokevirtual 70, 3)) none) (cond (Nat.blt pc 6) (cond (Nat.beq pc 5) (some (.iload_n 2, 1)) none) (cond (Nat.beq pc 6) (some (.bipush 7, 2)) none)))) (cond (Nat.blt pc 13) (cond (Nat.blt pc 11) (cond (Nat.beq pc 8) (some (.invokestatic 178, 3)) none) (cond (Nat.blt pc 12) (cond (Nat.beq pc 11) (some (.iload_n 2, 1)) none) (cond (Nat.beq pc 12) (some (.iconst 5, 1)) none))) (cond (Nat.blt pc 16) (cond (Nat.beq pc 13) (some (.if_icmp .ne 13, 3)) none) (cond (Nat.blt pc 17) (cond (Nat.beq pc 16) (some (.aload_n 0, 1)) none) (cond (Nat.beq pc 17) (some (.getfield 51, 3)) none))))) (cond (Nat.blt pc 27) (cond (Nat.blt pc 24) (cond (Nat.blt pc 23) (cond (Nat.beq pc 20) (some (.getfield 182, 3)) none) (cond (Nat.beq pc 23) (some (.iload_n 1, 1)) none)) (cond (Nat.blt pc 25) (cond (Nat.beq pc 24) (some (.iaload, 1)) none) (cond (Nat.blt pc 26) (cond (Nat.beq pc 25) (some (.ireturn, 1)) none) (cond (Nat.beq pc 26) (some (.iload_n 2, 1)) none)))) (cond (Nat.blt pc 33) (cond (Nat.blt pc 29) (cond (Nat.beq pc 27) (some (.bipush 6, 2)) none) (cond (Nat.blt pc 32) (cond (Nat.beq pc 29) (some (.if_icmp .ne 21, 3)) none) (cond (Nat.beq pc 32) (some (.iload_n 1, 1)) none))) (cond (Nat.blt pc 36) (cond (Nat.beq pc 33) (some (.ifCond .ne 7, 3)) none) (cond (Nat.blt pc 37) (cond (Nat.beq pc 36) (some (.iconst (-1), 1)) none) (cond (Nat.beq pc 37) (some (.goto 12, 3)) none)))))) (cond (Nat.blt pc 60) (cond (Nat.blt pc 49) (cond (Nat.blt pc 44) (cond (Nat.blt pc 41) (cond (Nat.beq pc 40) (some (.aload_n 0, 1)) none) (cond (Nat.beq pc 41) (some (.getfield 51, 3)) none)) (cond (Nat.blt pc 47) (cond (Nat.beq pc 44) (some (.getfield 185, 3)) none) (cond (Nat.blt pc 48) (cond (Nat.beq pc 47) (some (.iload_n 1, 1)) none) (cond (Nat.beq pc 48) (some (.iaload, 1)) none)))) (cond (Nat.blt pc 53) (cond (Nat.blt pc 50) (cond (Nat.beq pc 49) (some (.ireturn, 1)) none) (cond (Nat.blt pc 51) (cond (Nat.beq pc 50) (some (.iload_n 2, 1)) none) (cond (Nat.beq pc 51) (some (.bipush 7, 2)) none))) (cond (Nat.blt pc 56) (cond (Nat.beq pc 53) (some (.if_icmp .ne 12, 3)) none) (cond (Nat.blt pc 57) (cond (Nat.beq pc 56) (some (.aload_n 0, 1)) none) (cond (Nat.beq pc 57) (some (.getfield 51, 3)) none))))) (cond (Nat.blt pc 69) (cond (Nat.blt pc 64) (cond (Nat.blt pc 61) (cond (Nat.beq pc 60) (some (.iload_n 1, 1)) none) (cond (Nat.beq pc 61) (some (.invokevirtual 188, 3)) none)) (cond (Nat.blt pc 65) (cond (Nat.beq pc 64) (some (.ireturn, 1)) none) (cond (Nat.blt pc 66) (cond (Nat.beq pc 65) (some (.aload_n 0, 1)) none) (cond (Nat.beq pc 66) (some (.getfield 51, 3)) none)))) (cond (Nat.blt pc 74) (cond (Nat.blt pc 72) (cond (Nat.beq pc 69) (some (.getfield 91, 3)) none) (cond (Nat.blt pc 73) (cond (Nat.beq pc 72) (some (.iload_n 1, 1)) none) (cond (Nat.beq pc 73) (some (.laload, 1)) none))) (cond (Nat.blt pc 75) (cond (Nat.beq pc 74) (some (.iload_n 2, 1)) none) (cond (Nat.blt pc 78) (cond (Nat.beq pc 75) (some (.invokestatic 191, 3)) none) (cond (Nat.beq pc 78) (some (.ireturn, 1)) none)))))))
def pI_12 : Nat → Option (Instr × Nat) := fun pc => eB1 pc 9 (cond (Nat.blt pc 4) (cond (Nat.blt pc 1) (cond (Nat.beq pc 0) (some (.aload_n 0, 1)) none) (cond (Nat.beq pc 1) (some (.getfield 51, 3)) none)) (cond (Nat.blt pc 5) (cond (Nat.beq pc 4) (some (.iload_n 1, 1)) none) (cond (Nat.blt pc 8) (cond (Nat.beq pc 5) (some (.invokevirtual 194, 3)) none) (cond (Nat.beq pc 8) (some (.ireturn, 1)) none))))
def pI_13 : Nat → Option (Instr × Nat) := fun pc => eB1 pc 34 (cond (Nat.blt pc 20) (cond (Nat.blt pc 5) (cond (Nat.blt pc 1) (cond (Nat.beq pc 0) (some (.iload_n 1, 1)) none) (cond (Nat.blt pc 4) (cond (Nat.beq pc 1) (some (.ifCond .lt 8, 3)) none) (cond (Nat.beq pc 4) (some (.iload_n 1, 1)) none))) (cond (Nat.blt pc 6) (cond (Nat.beq pc 5) (some (.iconst 5, 1)) none) (cond (Nat.blt pc 19) (cond (Nat.beq pc 6) (some (.if_icmp .lt 13, 3)) none) (cond (Nat.beq pc 19) (some (.aload_n 0, 1)) none)))) (cond (Nat.blt pc 28) (cond (Nat.blt pc 23) (cond (Nat.beq pc 20) (some (.getfield 51, 3)) none) (cond (Nat.blt pc 26) (cond (Nat.beq pc 23) (some (.getfield 91, 3)) none) (cond (Nat.beq pc 26) (some (.bipush 6, 2)) none))) (cond (Nat.blt pc 30) (cond (Nat.blt pc 29) (cond (Nat.beq pc 28) (some (.laload, 1)) none) (cond (Nat.beq pc 29) (some (.iload_n 1, 1)) none)) (cond (Nat.blt pc 33) (cond (Nat.beq pc 30) (some (.invokestatic 191, 3)) none) (cond (Nat.beq pc 33) (some (.ireturn, 1)) none)))))
def pI_14 : Nat → Option (Instr × Nat) := fun pc => eB1 pc 76 (cond (Nat.blt pc 38) (cond (Nat.blt pc 24) (cond (Nat.blt pc 6) (cond (Nat.blt pc 4) (cond (Nat.blt pc 1) (cond (Nat.beq pc 0) (some (.iload_n 1, 1)) none) (cond (Nat.beq pc 1) (some (.ifCond .lt 8, 3)) none)) (cond (Nat.blt pc 5) (cond (Nat.beq pc 4) (some (.iload_n 1, 1)) none) (cond (Nat.beq pc 5) (some (.iconst 3, 1)) none))) (cond (Nat.blt pc 20) (cond (Nat.blt pc 19) (cond (Nat.beq pc 6) (some (.if_icmp .le 13, 3)) none) (cond (Nat.beq pc 19) (some (.aload_n 0, 1)) none)) (cond (Nat.blt pc 23) (cond (Nat.beq pc 20) (some (.getfield 33, 3)) none) (cond (Nat.beq pc 23) (some (.aload_n 0, 1)) none)))) (cond (Nat.blt pc 32) (cond (Nat.blt pc 30) (cond (Nat.blt pc 27) (cond (Nat.beq pc 24) (some (.getfield 51, 3)) none) (cond (Nat.beq pc 27) (some (.invokevirtual 208, 3)) none)) (cond (Nat.blt pc 31) (cond (Nat.beq pc 30) (some (.iconst 0, 1)) none) (cond (Nat.beq pc 31) (some (.istore_n 2, 1)) none))) (cond (Nat.blt pc 34) (cond (Nat.blt pc 33) (cond (Nat.beq pc 32) (some (.iload_n 2, 1)) none) (cond (Nat.beq pc 33) (some (.iload_n 1, 1)) none)) (cond (Nat.blt pc 37) (cond (Nat.beq pc 34) (some (.if_icmp .ge 34, 3)) none) (cond (Nat.beq pc 37) (some (.aload_n 0, 1)) none))))) (cond (Nat.blt pc 56) (cond (Nat.blt pc 46) (cond (Nat.blt pc 42) (cond (Nat.blt pc 41) (cond (Nat.beq pc 38) (some (.getfield 33, 3)) none) (cond (Nat.beq pc 41) (some (.aload_n 0, 1)) none)) (cond (Nat.blt pc 45) (cond (Nat.beq pc 42) (some (.getfield 12, 3)) none) (cond (Nat.beq pc 45) (some (.aload_n 0, 1)) none))) (cond (Nat.blt pc 50) (cond (Nat.blt pc 49) (cond (Nat.beq pc 46) (some (.getfield 19, 3)) none) (cond (Nat.beq pc 49) (some (.aload_n 0, 1)) none)) (cond (Nat.blt pc 53) (cond (Nat.beq pc 50) (some (.getfield 26, 3)) none) (cond (Nat.beq pc 53) (some (.invokevirtual 211, 3)) none)))) (cond (Nat.blt pc 65) (cond (Nat.blt pc 61) (cond (Nat.blt pc 59) (cond (Nat.beq pc 56) (some (.ifCond .ne 6, 3)) none) (cond (Nat.beq pc 59) (some (.bipush (-2), 2)) none)) (cond (Nat.blt pc 62) (cond (Nat.beq pc 61) (some (.ireturn, 1)) none) (cond (Nat.beq pc 62) (some (.iinc 2 1, 3)) none))) (cond (Nat.blt pc 69) (cond (Nat.blt pc 68) (cond (Nat.beq pc 65) (some (.goto (-33), 3)) none) (cond (Nat.beq pc 68) (some (.aload_n 0, 1)) none)) (cond (Nat.blt pc 72) (cond (Nat.beq pc 69) (some (.getfield 33, 3)) none) (cond (Nat.blt pc 75) (cond (Nat.beq pc 72) (some (.getfield 69, 3)) none) (cond (Nat.beq pc 75) (some (.ireturn, 1)) none)))))))
def pI_15 : Nat → Option (Instr × Nat) := fun pc => eB1 pc 98 (cond (Nat.blt pc 56) (cond (Nat.blt pc 32) (cond (Nat.blt pc 10) (cond (Nat.blt pc 5) (cond (Nat.blt pc 1) (cond (Nat.beq pc 0) (some (.aload_n 0, 1)) none) (cond (Nat.blt pc 2) (cond (Nat.beq pc 1) (some (.iload_n 1, 1)) none) (cond (Nat.beq pc 2) (some (.invokevirtual 215, 3)) none))) (cond (Nat.blt pc 6) (cond (Nat.beq pc 5) (some (.iload_n 2, 1)) none) (cond (Nat.blt pc 9) (cond (Nat.beq pc 6) (some (.ifCond .lt 9, 3)) none) (cond (Nat.beq pc 9) (some (.iload_n 2, 1)) none)))) (cond (Nat.blt pc 26) (cond (Nat.blt pc 12) (cond (Nat.beq pc 10) (some (.bipush 6, 2)) none) (cond (Nat.blt pc 25) (cond (Nat.beq pc 12) (some (.if_icmp .lt 13, 3)) none) (cond (Nat.beq pc 25) (some (.iload_n 3, 1)) none))) (cond (Nat.blt pc 28) (cond (Nat.beq pc 26) (some (.bipush 10, 2)) none) (cond (Nat.blt pc 31) (cond (Nat.beq pc 28) (some (.invokestatic 178, 3)) none) (cond (Nat.beq pc 31) (some (.aload_n 0, 1)) none))))) (cond (Nat.blt pc 43) (cond (Nat.blt pc 39) (cond (Nat.blt pc 35) (cond (Nat.beq pc 32) (some (.getfield 33, 3)) none) (cond (Nat.blt pc 38) (cond (Nat.beq pc 35) (some (.getfield 220, 3)) none) (cond (Nat.beq pc 38) (some (.iload_n 1, 1)) none))) (cond (Nat.blt pc 40) (cond (Nat.beq pc 39) (some (.aaload, 1)) none) (cond (Nat.blt pc 42) (cond (Nat.beq pc 40) (some (.astore 4, 2)) none) (cond (Nat.beq pc 42) (some (.iload_n 3, 1)) none)))) (cond (Nat.blt pc 50) (cond (Nat.blt pc 45) (cond (Nat.beq pc 43) (some (.bipush 6, 2)) none) (cond (Nat.blt pc 48) (cond (Nat.beq pc 45) (some (.if_icmp .lt 19, 3)) none) (cond (Nat.beq pc 48) (some (.aload 4, 2)) none))) (cond (Nat.blt pc 53) (cond (Nat.beq pc 50) (some (.getfield 91, 3)) none) (cond (Nat.blt pc 55) (cond (Nat.beq pc 53) (some (.bipush 6, 2)) none) (cond (Nat.beq pc 55) (some (.laload, 1)) none)))))) (cond (Nat.blt pc 78) (cond (Nat.blt pc 65) (cond (Nat.blt pc 60) (cond (Nat.blt pc 57) (cond (Nat.beq pc 56) (some (.iload_n 3, 1)) none) (cond (Nat.blt pc 59) (cond (Nat.beq pc 57) (some (.bipush 6, 2)) none) (cond (Nat.beq pc 59) (some (.isub, 1)) none))) (cond (Nat.blt pc 63) (cond (Nat.beq pc 60) (some (.invokestatic 191, 3)) none) (cond (Nat.blt pc 64) (cond (Nat.beq pc 63) (some (.ireturn, 1)) none) (cond (Nat.beq pc 64) (some (.iload_n 3, 1)) none)))) (cond (Nat.blt pc 71) (cond (Nat.blt pc 66) (cond (Nat.beq pc 65) (some (.iconst 5, 1)) none) (cond (Nat.blt pc 69) (cond (Nat.beq pc 66) (some (.if_icmp .eq 12, 3)) none) (cond (Nat.beq pc 69) (some (.aload 4, 2)) none))) (cond (Nat.blt pc 72) (cond (Nat.beq pc 71) (some (.iload_n 2, 1)) none) (cond (Nat.blt pc 75) (cond (Nat.beq pc 72) (some (.invokevirtual 194, 3)) none) (cond (Nat.beq pc 75) (some (.ifCond .ne 11, 3)) none))))) (cond (Nat.blt pc 88) (cond (Nat.blt pc 84) (cond (Nat.blt pc 80) (cond (Nat.beq pc 78) (some (.aload 4, 2)) none) (cond (Nat.blt pc 83) (cond (Nat.beq pc 80) (some (.getfield 182, 3)) none) (cond (Nat.beq pc 83) (some (.iload_n 2, 1)) none))) (cond (Nat.blt pc 85) (cond (Nat.beq pc 84) (some (.iaload, 1)) none) (cond (Nat.blt pc 86) (cond (Nat.beq pc 85) (some (.ireturn, 1)) none) (cond (Nat.beq pc 86) (some (.aload 4, 2)) none)))) (cond (Nat.blt pc 93) (cond (Nat.blt pc 91) (cond (Nat.beq pc 88) (some (.getfield 91, 3)) none) (cond (Nat.blt pc 92) (cond (Nat.beq pc 91) (some (.iload_n 2, 1)) none) (cond (Nat.beq pc 92) (some (.laload, 1)) none))) (cond (Nat.blt pc 94) (cond (Nat.beq pc 93) (some (.iload_n 3, 1)) none) (cond (Nat.blt pc 97) (cond (Nat.beq pc 94) (some (.invokestatic 191, 3)) none) (cond (Nat.beq pc 97) (some (.ireturn, 1)) none)))))))
def pI_16 : Nat → Option (Instr × Nat) := fun pc => eB1 pc 22 (cond (Nat.blt pc 10) (cond (Nat.blt pc 5) (cond (Nat.blt pc 1) (cond (Nat.beq pc 0) (some (.aload_n 0, 1)) none) (cond (Nat.blt pc 2) (cond (Nat.beq pc 1) (some (.iload_n 1, 1)) none) (cond (Nat.beq pc 2) (some (.invokevirtual 215, 3)) none))) (cond (Nat.blt pc 6) (cond (Nat.beq pc 5) (some (.aload_n 0, 1)) none) (cond (Nat.blt pc 9) (cond (Nat.beq pc 6) (some (.getfield 51, 3)) none) (cond (Nat.beq pc 9) (some (.aload_n 0, 1)) none)))) (cond (Nat.blt pc 17) (cond (Nat.blt pc 13) (cond (Nat.beq pc 10) (some (.getfield 33, 3)) none) (cond (Nat.blt pc 16) (cond (Nat.beq pc 13) (some (.getfield 220, 3)) none) (cond (Nat.beq pc 16) (some (.iload_n 1, 1)) none))) (cond (Nat.blt pc 18) (cond (Nat.beq pc 17) (some (.aaload, 1)) none) (cond (Nat.blt pc 21) (cond (Nat.beq pc 18) (some (.invokevirtual 157, 3)) none) (cond (Nat.beq pc 21) (some (.return_, 1)) none)))))
def pI_17 : Nat → Option (Instr × Nat) := fun pc => eB1 pc 13 (cond (Nat.blt pc 5) (cond (Nat.blt pc 1) (cond (Nat.beq pc 0) (some (.aload_n 0, 1)) none) (cond (Nat.blt pc 4) (cond (Nat.beq pc 1) (some (.getfield 40, 3)) none) (cond (Nat.beq pc 4) (some (.aload_n 0, 1)) none))) (cond (Nat.blt pc 9) (cond (Nat.blt pc 8) (cond (Nat.beq pc 5) (some (.getfield 51, 3)) none) (cond (Nat.beq pc 8) (some (.iload_n 1, 1)) none)) (cond (Nat.blt pc 12) (cond (Nat.beq pc 9) (some (.invokevirtual 224, 3)) none) (cond (Nat.beq pc 12) (some (.ireturn, 1)) none))))
def pI_18 : Nat → Option (Instr × Nat) := fun pc => eB1 pc 22 (cond (Nat.blt pc 5) (cond (Nat.blt pc 1) (cond (Nat.beq pc 0) (some (.aload_n 0, 1)) none) (cond (Nat.blt pc 4) (cond (Nat.beq pc 1) (some (.getfield 51, 3)) none) (cond (Nat.beq pc 4) (some (.iload_n 1, 1)) none))) (cond (Nat.blt pc 8) (cond (Nat.beq pc 5) (some (.invokevirtual 194, 3)) none) (cond (Nat.blt pc 21) (cond (Nat.beq pc 8) (some (.ifCond .ne 13, 3)) none) (cond (Nat.beq pc 21) (some (.return_, 1)) none))))
def pI_19 : Nat → Option (Instr × Nat) := fun pc => eB1 pc 26 (cond (Nat.blt pc 6) (cond (Nat.blt pc 4) (cond (Nat.blt pc 1) (cond (Nat.beq pc 0) (some (.iload_n 1, 1)) none) (cond (Nat.beq pc 1) (some (.ifCond .lt 14, 3)) none)) (cond (Nat.blt pc 5) (cond (Nat.beq pc 4) (some (.iload_n 1, 1)) none) (cond (Nat.beq pc 5) (some (.aload_n 0, 1)) none))) (cond (Nat.blt pc 12) (cond (Nat.blt pc 9) (cond (Nat.beq pc 6) (some (.getfield 12, 3)) none) (cond (Nat.beq pc 9) (some (.getfield 65, 3)) none)) (cond (Nat.blt pc 25) (cond (Nat.beq pc 12) (some (.if_icmp .lt 13, 3)) none) (cond (Nat.beq pc 25) (some (.return_, 1)) none))))
def pI_20 : Nat → Option (Instr × Nat) := fun pc => eB1 pc 26 (cond (Nat.blt pc 6) (cond (Nat.blt pc 4) (cond (Nat.blt pc 1) (cond (Nat.beq pc 0) (some (.iload_n 1, 1)) none) (cond (Nat.beq pc 1) (some (.ifCond .lt 14, 3)) none)) (cond (Nat.blt pc 5) (cond (Nat.beq pc 4) (some (.iload_n 1, 1)) none) (cond (Nat.beq pc 5) (some (.aload_n 0, 1)) none))) (cond (Nat.blt pc 12) (cond (Nat.blt pc 9) (cond (Nat.beq pc 6) (some (.getfield 33, 3)) none) (cond (Nat.beq pc 9) (some (.getfield 69, 3)) none)) (cond (Nat.blt pc 25) (cond (Nat.beq pc 12) (some (.if_icmp .lt 13, 3)) none) (cond (Nat.beq pc 25) (some (.return_, 1)) none))))
def pI_21 : Nat → Option (Instr × Nat) := fun pc => eB1 pc 20 (cond (Nat.blt pc 5) (cond (Nat.blt pc 1) (cond (Nat.beq pc 0) (some (.iload_n 0, 1)) none) (cond (Nat.blt pc 4) (cond (Nat.beq pc 1) (some (.ifCond .lt 8, 3)) none) (cond (Nat.beq pc 4) (some (.iload_n 0, 1)) none))) (cond (Nat.blt pc 6) (cond (Nat.beq pc 5) (some (.iconst 4, 1)) none) (cond (Nat.blt pc 19) (cond (Nat.beq pc 6) (some (.if_icmp .lt 13, 3)) none) (cond (Nat.beq pc 19) (some (.return_, 1)) none))))
def pI_22 : Nat → Option (Instr × Nat) := fun pc => eB1 pc 22 (cond (Nat.blt pc 5) (cond (Nat.blt pc 1) (cond (Nat.beq pc 0) (some (.iload_n 0, 1)) none) (cond (Nat.blt pc 4) (cond (Nat.beq pc 1) (some (.ifCond .lt 10, 3)) none) (cond (Nat.beq pc 4) (some (.iload_n 0, 1)) none))) (cond (Nat.blt pc 8) (cond (Nat.beq pc 5) (some (.sipush 1024, 3)) none) (cond (Nat.blt pc 21) (cond (Nat.beq pc 8) (some (.if_icmp .lt 13, 3)) none) (cond (Nat.beq pc 21) (some (.return_, 1)) none))))
def pI_23 : Nat → Option (Instr × Nat) := fun pc => eB1 pc 15 (cond (Nat.blt pc 1) (cond (Nat.beq pc 0) (some (.iload_n 0, 1)) none) (cond (Nat.blt pc 14) (cond (Nat.beq pc 1) (some (.ifCond .ne 13, 3)) none) (cond (Nat.beq pc 14) (some (.return_, 1)) none)))
def pI_24 : Nat → Option (Instr × Nat) := fun pc => eB1 pc 20 (cond (Nat.blt pc 5) (cond (Nat.blt pc 1) (cond (Nat.beq pc 0) (some (.iload_n 0, 1)) none) (cond (Nat.blt pc 4) (cond (Nat.beq pc 1) (some (.ifCond .lt 8, 3)) none) (cond (Nat.beq pc 4) (some (.iload_n 0, 1)) none))) (cond (Nat.blt pc 6) (cond (Nat.beq pc 5) (some (.iload_n 1, 1)) none) (cond (Nat.blt pc 19) (cond (Nat.beq pc 6) (some (.if_icmp .le 13, 3)) none) (cond (Nat.beq pc 19) (some (.return_, 1)) none))))
def pI_25 : Nat → Option (Instr × Nat) := fun pc => eB1 pc 26 (cond (Nat.blt pc 8) (cond (Nat.blt pc 4) (cond (Nat.blt pc 1) (cond (Nat.beq pc 0) (some (.aload_n 0, 1)) none) (cond (Nat.beq pc 1) (some (.getfield 12, 3)) none)) (cond (Nat.blt pc 7) (cond (Nat.beq pc 4) (some (.getfield 121, 3)) none) (cond (Nat.beq pc 7) (some (.iload_n 1, 1)) none))) (cond (Nat.blt pc 12) (cond (Nat.blt pc 9) (cond (Nat.beq pc 8) (some (.aaload, 1)) none) (cond (Nat.beq pc 9) (some (.invokevirtual 240, 3)) none)) (cond (Nat.blt pc 25) (cond (Nat.beq pc 12) (some (.ifCond .eq 13, 3)) none) (cond (Nat.beq pc 25) (some (.return_, 1)) none))))
def pI_26 : Nat → Option (Instr × Nat) := fun pc => eB1 pc 147 (cond (Nat.blt pc 74) (cond (Nat.blt pc 36) (cond (Nat.blt pc 17) (cond (Nat.blt pc 7) (cond (Nat.blt pc 4) (cond (Nat.blt pc 1) (cond (Nat.beq pc 0) (some (.aload_n 0, 1)) none) (cond (Nat.beq pc 1) (some (.invokespecial 1, 3)) none)) (cond (Nat.blt pc 5) (cond (Nat.beq pc 4) (some (.aload_n 0, 1)) none) (cond (Nat.beq pc 5) (some (.bipush 6, 2)) none))) (cond (Nat.blt pc 12) (cond (Nat.blt pc 9) (cond (Nat.beq pc 7) (some (.newarray .int, 2)) none) (cond (Nat.beq pc 9) (some (.putfield 7, 3)) none)) (cond (Nat.blt pc 13) (cond (Nat.beq pc 12) (some (.aload_n 0, 1)) none) (cond (Nat.blt pc 15) (cond (Nat.beq pc 13) (some (.bipush 6, 2)) none) (cond (Nat.beq pc 15) (some (.newarray .int, 2)) none))))) (cond (Nat.blt pc 25) (cond (Nat.blt pc 21) (cond (Nat.blt pc 20) (cond (Nat.beq pc 17) (some (.putfield 13, 3)) none) (cond (Nat.beq pc 20) (some (.aload_n 0, 1)) none)) (cond (Nat.blt pc 23) (cond (Nat.beq pc 21) (some (.bipush 6, 2)) none) (cond (Nat.beq pc 23) (some (.newarray .int, 2)) none))) (cond (Nat.blt pc 29) (cond (Nat.blt pc 28) (cond (Nat.beq pc 25) (some (.putfield 16, 3)) none) (cond (Nat.beq pc 28) (some (.aload_n 0, 1)) none)) (cond (Nat.blt pc 31) (cond (Nat.beq pc 29) (some (.bipush 6, 2)) none) (cond (Nat.blt pc 33) (cond (Nat.beq pc 31) (some (.newarray .int, 2)) none) (cond (Nat.beq pc 33) (some (.putfield 19, 3)) none)))))) (cond (Nat.blt pc 53) (cond (Nat.blt pc 44) (cond (Nat.blt pc 39) (cond (Nat.blt pc 37) (cond (Nat.beq pc 36) (some (.aload_n 0, 1)) none) (cond (Nat.beq pc 37) (some (.bipush 6, 2)) none)) (cond (Nat.blt pc 41) (cond (Nat.beq pc 39) (some (.newarray .int, 2)) none) (cond (Nat.beq pc 41) (some (.putfield 22, 3)) none))) (cond (Nat.blt pc 47) (cond (Nat.blt pc 45) (cond (Nat.beq pc 44) (some (.aload_n 0, 1)) none) (cond (Nat.beq pc 45) (some (.bipush 6, 2)) none)) (cond (Nat.blt pc 49) (cond (Nat.beq pc 47) (some (.newarray .int, 2)) none) (cond (Nat.blt pc 52) (cond (Nat.beq pc 49) (some (.putfield 25, 3)) none) (cond (Nat.beq pc 52) (some (.aload_n 0, 1)) none))))) (cond (Nat.blt pc 63) (cond (Nat.blt pc 57) (cond (Nat.blt pc 55) (cond (Nat.beq pc 53) (some (.bipush 6, 2)) none) (cond (Nat.beq pc 55) (some (.newarray .int, 2)) none)) (cond (Nat.blt pc 60) (cond (Nat.beq pc 57) (some (.putfield 28, 3)) none) (cond (Nat.blt pc 61) (cond (Nat.beq pc 60) (some (.aload_n 0, 1)) none) (cond (Nat.beq pc 61) (some (.bipush 6, 2)) none)))) (cond (Nat.blt pc 68) (cond (Nat.blt pc 65) (cond (Nat.beq pc 63) (some (.newarray .int, 2)) none) (cond (Nat.beq pc 65) (some (.putfield 31, 3)) none)) (cond (Nat.blt pc 69) (cond (Nat.beq pc 68) (some (.aload_n 0, 1)) none) (cond (Nat.blt pc 72) (cond (Nat.beq pc 69) (some (.sipush 3854, 3)) none) (cond (Nat.beq pc 72) (some (.newarray .int, 2)) none))))))) (cond (Nat.blt pc 110) (cond (Nat.blt pc 92) (cond (Nat.blt pc 81) (cond (Nat.blt pc 78) (cond (Nat.blt pc 77) (cond (Nat.beq pc 74) (some (.putfield 34, 3)) none) (cond (Nat.beq pc 77) (some (.aload_n 0, 1)) none)) (cond (Nat.blt pc 79) (cond (Nat.beq pc 78) (some (.iconst 5, 1)) none) (cond (Nat.beq pc 79) (some (.newarray .int, 2)) none))) (cond (Nat.blt pc 85) (cond (Nat.blt pc 84) (cond (Nat.beq pc 81) (some (.putfield 37, 3)) none) (cond (Nat.beq pc 84) (some (.aload_n 0, 1)) none)) (cond (Nat.blt pc 87) (cond (Nat.beq pc 85) (some (.bipush 6, 2)) none) (cond (Nat.blt pc 89) (cond (Nat.beq pc 87) (some (.newarray .int, 2)) none) (cond (Nat.beq pc 89) (some (.putfield 40, 3)) none))))) (cond (Nat.blt pc 101) (cond (Nat.blt pc 96) (cond (Nat.blt pc 93) (cond (Nat.beq pc 92) (some (.aload_n 0, 1)) none) (cond (Nat.beq pc 93) (some (.sipush 1100, 3)) none)) (cond (Nat.blt pc 98) (cond (Nat.beq pc 96) (some (.newarray .int, 2)) none) (cond (Nat.beq pc 98) (some (.putfield 43, 3)) none))) (cond (Nat.blt pc 104) (cond (Nat.blt pc 102) (cond (Nat.beq pc 101) (some (.aload_n 0, 1)) none) (cond (Nat.beq pc 102) (some (.bipush 6, 2)) none)) (cond (Nat.blt pc 106) (cond (Nat.beq pc 104) (some (.newarray .int, 2)) none) (cond (Nat.blt pc 109) (cond (Nat.beq pc 106) (some (.putfield 46, 3)) none) (cond (Nat.beq pc 109) (some (.aload_n 0, 1)) none)))))) (cond (Nat.blt pc 128) (cond (Nat.blt pc 118) (cond (Nat.blt pc 114) (cond (Nat.blt pc 112) (cond (Nat.beq pc 110) (some (.bipush 6, 2)) none) (cond (Nat.beq pc 112) (some (.newarray .int, 2)) none)) (cond (Nat.blt pc 117) (cond (Nat.beq pc 114) (some (.putfield 49, 3)) none) (cond (Nat.beq pc 117) (some (.aload_n 0, 1)) none))) (cond (Nat.blt pc 122) (cond (Nat.blt pc 120) (cond (Nat.beq pc 118) (some (.bipush 6, 2)) none) (cond (Nat.beq pc 120) (some (.newarray .int, 2)) none)) (cond (Nat.blt pc 125) (cond (Nat.beq pc 122) (some (.putfield 52, 3)) none) (cond (Nat.blt pc 126) (cond (Nat.beq pc 125) (some (.aload_n 0, 1)) none) (cond (Nat.beq pc 126) (some (.bipush 6, 2)) none))))) (cond (Nat.blt pc 138) (cond (Nat.blt pc 133) (cond (Nat.blt pc 130) (cond (Nat.beq pc 128) (some (.newarray .int, 2)) none) (cond (Nat.beq pc 130) (some (.putfield 55, 3)) none)) (cond (Nat.blt pc 134) (cond (Nat.beq pc 133) (some (.aload_n 0, 1)) none) (cond (Nat.blt pc 136) (cond (Nat.beq pc 134) (some (.bipush 8, 2)) none) (cond (Nat.beq pc 136) (some (.newarray .int, 2)) none)))) (cond (Nat.blt pc 142) (cond (Nat.blt pc 141) (cond (Nat.beq pc 138) (some (.putfield 58, 3)) none) (cond (Nat.beq pc 141) (some (.aload_n 0, 1)) none)) (cond (Nat.blt pc 143) (cond (Nat.beq pc 142) (some (.iconst 0, 1)) none) (cond (Nat.blt pc 146) (cond (Nat.beq pc 143) (some (.invokevirtual 61, 3)) none) (cond (Nat.beq pc 146) (some (.return_, 1)) none))))))))
def pI_27 : Nat → Option (Instr × Nat) := fun pc => eB1 pc 5 (cond (Nat.blt pc 1) (cond (Nat.beq pc 0) (some (.aload_n 0, 1)) none) (cond (Nat.blt pc 4) (cond (Nat.beq pc 1) (some (.getfield 65, 3)) none) (cond (Nat.beq pc 4) (some (.ireturn, 1)) none)))
def pI_28 : Nat → Option (Instr × Nat) := fun pc => eB1 pc 8 (cond (Nat.blt pc 4) (cond (Nat.blt pc 2) (cond (Nat.blt pc 1) (cond (Nat.beq pc 0) (some (.iload_n 0, 1)) none) (cond (Nat.beq pc 1) (some (.iconst 2, 1)) none)) (cond (Nat.blt pc 3) (cond (Nat.beq pc 2) (some (.iload_n 1, 1)) none) (cond (Nat.beq pc 3) (some (.imul, 1)) none))) (cond (Nat.blt pc 6) (cond (Nat.blt pc 5) (cond (Nat.beq pc 4) (some (.ishr, 1)) none) (cond (Nat.beq pc 5) (some (.iconst 3, 1)) none)) (cond (Nat.blt pc 7) (cond (Nat.beq pc 6) (some (.iand, 1)) none) (cond (Nat.beq pc 7) (some (.ireturn, 1)) none))))
def pI_29 : Nat → Option (Instr × Nat) := fun pc => eB1 pc 17 (cond (Nat.blt pc 10) (cond (Nat.blt pc 6) (cond (Nat.blt pc 1) (cond (Nat.beq pc 0) (some (.aload_n 0, 1)) none) (cond (Nat.blt pc 4) (cond (Nat.beq pc 1) (some (.getfield 34, 3)) none) (cond (Nat.beq pc 4) (some (.bipush 47, 2)) none))) (cond (Nat.blt pc 7) (cond (Nat.beq pc 6) (some (.iload_n 1, 1)) none) (cond (Nat.blt pc 8) (cond (Nat.beq pc 7) (some (.imul, 1)) none) (cond (Nat.beq pc 8) (some (.bipush 7, 2)) none)))) (cond (Nat.blt pc 13) (cond (Nat.blt pc 11) (cond (Nat.beq pc 10) (some (.iload_n 2, 1)) none) (cond (Nat.blt pc 12) (cond (Nat.beq pc 11) (some (.imul, 1)) none) (cond (Nat.beq pc 12) (some (.iadd, 1)) none))) (cond (Nat.blt pc 15) (cond (Nat.blt pc 14) (cond (Nat.beq pc 13) (some (.iload_n 3, 1)) none) (cond (Nat.beq pc 14) (some (.iadd, 1)) none)) (cond (Nat.blt pc 16) (cond (Nat.beq pc 15) (some (.iaload, 1)) none) (cond (Nat.beq pc 16) (some (.ireturn, 1)) none)))))
def pI_30 : Nat → Option (Instr × Nat) := fun pc => eB1 pc 19 (cond (Nat.blt pc 11) (cond (Nat.blt pc 6) (cond (Nat.blt pc 1) (cond (Nat.beq pc 0) (some (.aload_n 0, 1)) none) (cond (Nat.blt pc 4) (cond (Nat.beq pc 1) (some (.getfield 34, 3)) none) (cond (Nat.beq pc 4) (some (.bipush 47, 2)) none))) (cond (Nat.blt pc 8) (cond (Nat.blt pc 7) (cond (Nat.beq pc 6) (some (.iload_n 1, 1)) none) (cond (Nat.beq pc 7) (some (.imul, 1)) none)) (cond (Nat.blt pc 10) (cond (Nat.beq pc 8) (some (.bipush 7, 2)) none) (cond (Nat.beq pc 10) (some (.iload_n 2, 1)) none)))) (cond (Nat.blt pc 14) (cond (Nat.blt pc 12) (cond (Nat.beq pc 11) (some (.imul, 1)) none) (cond (Nat.blt pc 13) (cond (Nat.beq pc 12) (some (.iadd, 1)) none) (cond (Nat.beq pc 13) (some (.iload_n 3, 1)) none))) (cond (Nat.blt pc 17) (cond (Nat.blt pc 15) (cond (Nat.beq pc 14) (some (.iadd, 1)) none) (cond (Nat.beq pc 15) (some (.iload 4, 2)) none)) (cond (Nat.blt pc 18) (cond (Nat.beq pc 17) (some (.iastore, 1)) none) (cond (Nat.beq pc 18) (some (.return_, 1)) none)))))
def pI_31 : Nat → Option (Instr × Nat) := fun pc => eB1 pc 26 (cond (Nat.blt pc 12) (cond (Nat.blt pc 5) (cond (Nat.blt pc 1) (cond (Nat.beq pc 0) (some (.iload_n 2, 1)) none) (cond (Nat.blt pc 4) (cond (Nat.beq pc 1) (some (.ifCond .lt 23, 3)) none) (cond (Nat.beq pc 4) (some (.iload_n 2, 1)) none))) (cond (Nat.blt pc 10) (cond (Nat.blt pc 7) (cond (Nat.beq pc 5) (some (.bipush 6, 2)) none) (cond (Nat.beq pc 7) (some (.if_icmp .ge 17, 3)) none)) (cond (Nat.blt pc 11) (cond (Nat.beq pc 10) (some (.aload_n 0, 1)) none) (cond (Nat.beq pc 11) (some (.iload_n 1, 1)) none)))) (cond (Nat.blt pc 20) (cond (Nat.blt pc 14) (cond (Nat.blt pc 13) (cond (Nat.beq pc 12) (some (.iload_n 2, 1)) none) (cond (Nat.beq pc 13) (some (.iconst 5, 1)) none)) (cond (Nat.blt pc 17) (cond (Nat.beq pc 14) (some (.invokevirtual 69, 3)) none) (cond (Nat.beq pc 17) (some (.ifCond .lt 7, 3)) none))) (cond (Nat.blt pc 24) (cond (Nat.blt pc 21) (cond (Nat.beq pc 20) (some (.iconst 1, 1)) none) (cond (Nat.beq pc 21) (some (.goto 4, 3)) none)) (cond (Nat.blt pc 25) (cond (Nat.beq pc 24) (some (.iconst 0, 1)) none) (cond (Nat.beq pc 25) (some (.ireturn, 1)) none)))))
def pI_32 : Nat → Option (Instr × Nat) := fun pc => eB1 pc 37 (cond (Nat.blt pc 18) (cond (Nat.blt pc 9) (cond (Nat.blt pc 3) (cond (Nat.blt pc 1) (cond (Nat.beq pc 0) (some (.iconst 0, 1)) none) (cond (Nat.blt pc 2) (cond (Nat.beq pc 1) (some (.istore_n 3, 1)) none) (cond (Nat.beq pc 2) (some (.iload_n 3, 1)) none))) (cond (Nat.blt pc 5) (cond (Nat.beq pc 3) (some (.bipush 47, 2)) none) (cond (Nat.blt pc 8) (cond (Nat.beq pc 5) (some (.if_icmp .ge 31, 3)) none) (cond (Nat.beq pc 8) (some (.aload_n 0, 1)) none)))) (cond (Nat.blt pc 15) (cond (Nat.blt pc 12) (cond (Nat.beq pc 9) (some (.getfield 34, 3)) none) (cond (Nat.blt pc 14) (cond (Nat.beq pc 12) (some (.bipush 47, 2)) none) (cond (Nat.beq pc 14) (some (.iload_n 2, 1)) none))) (cond (Nat.blt pc 16) (cond (Nat.beq pc 15) (some (.imul, 1)) none) (cond (Nat.blt pc 17) (cond (Nat.beq pc 16) (some (.iload_n 3, 1)) none) (cond (Nat.beq pc 17) (some (.iadd, 1)) none))))) (cond (Nat.blt pc 27) (cond (Nat.blt pc 24) (cond (Nat.blt pc 19) (cond (Nat.beq pc 18) (some (.aload_n 0, 1)) none) (cond (Nat.blt pc 22) (cond (Nat.beq pc 19) (some (.getfield 34, 3)) none) (cond (Nat.beq pc 22) (some (.bipush 47, 2)) none))) (cond (Nat.blt pc 25) (cond (Nat.beq pc 24) (some (.iload_n 1, 1)) none) (cond (Nat.blt pc 26) (cond (Nat.beq pc 25) (some (.imul, 1)) none) (cond (Nat.beq pc 26) (some (.iload_n 3, 1)) none)))) (cond (Nat.blt pc 30) (cond (Nat.blt pc 28) (cond (Nat.beq pc 27) (some (.iadd, 1)) none) (cond (Nat.blt pc 29) (cond (Nat.beq pc 28) (some (.iaload, 1)) none) (cond (Nat.beq pc 29) (some (.iastore, 1)) none))) (cond (Nat.blt pc 33) (cond (Nat.beq pc 30) (some (.iinc 3 1, 3)) none) (cond (Nat.blt pc 36) (cond (Nat.beq pc 33) (some (.goto (-31), 3)) none) (cond (Nat.beq pc 36) (some (.return_, 1)) none))))))
def pI_33 : Nat → Option (Instr × Nat) := fun pc => eB1 pc 43 (cond (Nat.blt pc 20) (cond (Nat.blt pc 12) (cond (Nat.blt pc 3) (cond (Nat.blt pc 1) (cond (Nat.beq pc 0) (some (.iconst 0, 1)) none) (cond (Nat.blt pc 2) (cond (Nat.beq pc 1) (some (.istore_n 3, 1)) none) (cond (Nat.beq pc 2) (some (.iload_n 3, 1)) none))) (cond (Nat.blt pc 8) (cond (Nat.blt pc 5) (cond (Nat.beq pc 3) (some (.bipush 47, 2)) none) (cond (Nat.beq pc 5) (some (.if_icmp .ge 36, 3)) none)) (cond (Nat.blt pc 9) (cond (Nat.beq pc 8) (some (.aload_n 0, 1)) none) (cond (Nat.beq pc 9) (some (.getfield 34, 3)) none)))) (cond (Nat.blt pc 16) (cond (Nat.blt pc 14) (cond (Nat.beq pc 12) (some (.bipush 47, 2)) none) (cond (Nat.blt pc 15) (cond (Nat.beq pc 14) (some (.iload_n 1, 1)) none) (cond (Nat.beq pc 15) (some (.imul, 1)) none))) (cond (Nat.blt pc 18) (cond (Nat.blt pc 17) (cond (Nat.beq pc 16) (some (.iload_n 3, 1)) none) (cond (Nat.beq pc 17) (some (.iadd, 1)) none)) (cond (Nat.blt pc 19) (cond (Nat.beq pc 18) (some (.iaload, 1)) none) (cond (Nat.beq pc 19) (some (.aload_n 0, 1)) none))))) (cond (Nat.blt pc 30) (cond (Nat.blt pc 26) (cond (Nat.blt pc 23) (cond (Nat.beq pc 20) (some (.getfield 34, 3)) none) (cond (Nat.blt pc 25) (cond (Nat.beq pc 23) (some (.bipush 47, 2)) none) (cond (Nat.beq pc 25) (some (.iload_n 2, 1)) none))) (cond (Nat.blt pc 28) (cond (Nat.blt pc 27) (cond (Nat.beq pc 26) (some (.imul, 1)) none) (cond (Nat.beq pc 27) (some (.iload_n 3, 1)) none)) (cond (Nat.blt pc 29) (cond (Nat.beq pc 28) (some (.iadd, 1)) none) (cond (Nat.beq pc 29) (some (.iaload, 1)) none)))) (cond (Nat.blt pc 35) (cond (Nat.blt pc 33) (cond (Nat.beq pc 30) (some (.if_icmp .eq 5, 3)) none) (cond (Nat.blt pc 34) (cond (Nat.beq pc 33) (some (.iconst 0, 1)) none) (cond (Nat.beq pc 34) (some (.ireturn, 1)) none))) (cond (Nat.blt pc 41) (cond (Nat.blt pc 38) (cond (Nat.beq pc 35) (some (.iinc 3 1, 3)) none) (cond (Nat.beq pc 38) (some (.goto (-36), 3)) none)) (cond (Nat.blt pc 42) (cond (Nat.beq pc 41) (some (.iconst 1, 1)) none) (cond (Nat.beq pc 42) (some (.ireturn, 1)) none))))))
def pI_34 : Nat → Option (Instr × Nat) := fun pc => eB1 pc 71 (cond (Nat.blt pc 34) (cond (Nat.blt pc 18) (cond (Nat.blt pc 8) (cond (Nat.blt pc 2) (cond (Nat.blt pc 1) (cond (Nat.beq pc 0) (some (.iconst 0, 1)) none) (cond (Nat.beq pc 1) (some (.istore_n 2, 1)) none)) (cond (Nat.blt pc 3) (cond (Nat.beq pc 2) (some (.iload_n 2, 1)) none) (cond (Nat.blt pc 5) (cond (Nat.beq pc 3) (some (.bipush 47, 2)) none) (cond (Nat.beq pc 5) (some (.if_icmp .ge 16, 3)) none)))) (cond (Nat.blt pc 13) (cond (Nat.blt pc 9) (cond (Nat.beq pc 8) (some (.aload_n 0, 1)) none) (cond (Nat.blt pc 12) (cond (Nat.beq pc 9) (some (.getfield 34, 3)) none) (cond (Nat.beq pc 12) (some (.iload_n 2, 1)) none))) (cond (Nat.blt pc 14) (cond (Nat.beq pc 13) (some (.iconst 0, 1)) none) (cond (Nat.blt pc 15) (cond (Nat.beq pc 14) (some (.iastore, 1)) none) (cond (Nat.beq pc 15) (some (.iinc 2 1, 3)) none))))) (cond (Nat.blt pc 26) (cond (Nat.blt pc 22) (cond (Nat.blt pc 21) (cond (Nat.beq pc 18) (some (.goto (-16), 3)) none) (cond (Nat.beq pc 21) (some (.iconst 1, 1)) none)) (cond (Nat.blt pc 23) (cond (Nat.beq pc 22) (some (.istore_n 2, 1)) none) (cond (Nat.blt pc 24) (cond (Nat.beq pc 23) (some (.iload_n 2, 1)) none) (cond (Nat.beq pc 24) (some (.bipush 6, 2)) none)))) (cond (Nat.blt pc 31) (cond (Nat.blt pc 29) (cond (Nat.beq pc 26) (some (.if_icmp .ge 17, 3)) none) (cond (Nat.blt pc 30) (cond (Nat.beq pc 29) (some (.aload_n 0, 1)) none) (cond (Nat.beq pc 30) (some (.iconst 0, 1)) none))) (cond (Nat.blt pc 32) (cond (Nat.beq pc 31) (some (.iload_n 2, 1)) none) (cond (Nat.blt pc 33) (cond (Nat.beq pc 32) (some (.iconst 5, 1)) none) (cond (Nat.beq pc 33) (some (.iconst (-1), 1)) none)))))) (cond (Nat.blt pc 53) (cond (Nat.blt pc 45) (cond (Nat.blt pc 40) (cond (Nat.blt pc 37) (cond (Nat.beq pc 34) (some (.invokevirtual 73, 3)) none) (cond (Nat.beq pc 37) (some (.iinc 2 1, 3)) none)) (cond (Nat.blt pc 43) (cond (Nat.beq pc 40) (some (.goto (-17), 3)) none) (cond (Nat.blt pc 44) (cond (Nat.beq pc 43) (some (.aload_n 0, 1)) none) (cond (Nat.beq pc 44) (some (.iconst 0, 1)) none)))) (cond (Nat.blt pc 48) (cond (Nat.blt pc 46) (cond (Nat.beq pc 45) (some (.iconst 0, 1)) none) (cond (Nat.blt pc 47) (cond (Nat.beq pc 46) (some (.iconst 5, 1)) none) (cond (Nat.beq pc 47) (some (.iload_n 1, 1)) none))) (cond (Nat.blt pc 51) (cond (Nat.beq pc 48) (some (.invokevirtual 73, 3)) none) (cond (Nat.blt pc 52) (cond (Nat.beq pc 51) (some (.aload_n 0, 1)) none) (cond (Nat.beq pc 52) (some (.iconst 0, 1)) none))))) (cond (Nat.blt pc 61) (cond (Nat.blt pc 56) (cond (Nat.blt pc 54) (cond (Nat.beq pc 53) (some (.iconst 0, 1)) none) (cond (Nat.beq pc 54) (some (.bipush 6, 2)) none)) (cond (Nat.blt pc 57) (cond (Nat.beq pc 56) (some (.iconst (-1), 1)) none) (cond (Nat.blt pc 60) (cond (Nat.beq pc 57) (some (.invokevirtual 73, 3)) none) (cond (Nat.beq pc 60) (some (.aload_n 0, 1)) none)))) (cond (Nat.blt pc 66) (cond (Nat.blt pc 62) (cond (Nat.beq pc 61) (some (.iconst 0, 1)) none) (cond (Nat.blt pc 65) (cond (Nat.beq pc 62) (some (.putfield 77, 3)) none) (cond (Nat.beq pc 65) (some (.aload_n 0, 1)) none))) (cond (Nat.blt pc 67) (cond (Nat.beq pc 66) (some (.iconst 0, 1)) none) (cond (Nat.blt pc 70) (cond (Nat.beq pc 67) (some (.putfield 80, 3)) none) (cond (Nat.beq pc 70) (some (.return_, 1)) none)))))))
def pI_35 : Nat → Option (Instr × Nat) := fun pc => eB1 pc 66 (cond (Nat.blt pc 33) (cond (Nat.blt pc 16) (cond (Nat.blt pc 5) (cond (Nat.blt pc 3) (cond (Nat.blt pc 2) (cond (Nat.beq pc 0) (some (.bipush 47, 2)) none) (cond (Nat.beq pc 2) (some (.iload_n 1, 1)) none)) (cond (Nat.blt pc 4) (cond (Nat.beq pc 3) (some (.imul, 1)) none) (cond (Nat.beq pc 4) (some (.iload_n 2, 1)) none))) (cond (Nat.blt pc 10) (cond (Nat.blt pc 8) (cond (Nat.beq pc 5) (some (.ifCond .ge 8, 3)) none) (cond (Nat.beq pc 8) (some (.bipush 42, 2)) none)) (cond (Nat.blt pc 13) (cond (Nat.beq pc 10) (some (.goto 7, 3)) none) (cond (Nat.blt pc 15) (cond (Nat.beq pc 13) (some (.bipush 7, 2)) none) (cond (Nat.beq pc 15) (some (.iload_n 2, 1)) none))))) (cond (Nat.blt pc 23) (cond (Nat.blt pc 18) (cond (Nat.blt pc 17) (cond (Nat.beq pc 16) (some (.imul, 1)) none) (cond (Nat.beq pc 17) (some (.iadd, 1)) none)) (cond (Nat.blt pc 20) (cond (Nat.beq pc 18) (some (.istore 5, 2)) none) (cond (Nat.blt pc 21) (cond (Nat.beq pc 20) (some (.iconst 0, 1)) none) (cond (Nat.beq pc 21) (some (.istore 6, 2)) none)))) (cond (Nat.blt pc 26) (cond (Nat.blt pc 25) (cond (Nat.beq pc 23) (some (.iload 6, 2)) none) (cond (Nat.beq pc 25) (some (.iconst 5, 1)) none)) (cond (Nat.blt pc 29) (cond (Nat.beq pc 26) (some (.if_icmp .ge 39, 3)) none) (cond (Nat.blt pc 30) (cond (Nat.beq pc 29) (some (.aload_n 0, 1)) none) (cond (Nat.beq pc 30) (some (.getfield 34, 3)) none)))))) (cond (Nat.blt pc 48) (cond (Nat.blt pc 39) (cond (Nat.blt pc 37) (cond (Nat.blt pc 35) (cond (Nat.beq pc 33) (some (.iload 5, 2)) none) (cond (Nat.beq pc 35) (some (.iload 6, 2)) none)) (cond (Nat.blt pc 38) (cond (Nat.beq pc 37) (some (.iadd, 1)) none) (cond (Nat.beq pc 38) (some (.aload_n 0, 1)) none))) (cond (Nat.blt pc 44) (cond (Nat.blt pc 42) (cond (Nat.beq pc 39) (some (.getfield 34, 3)) none) (cond (Nat.beq pc 42) (some (.iload 5, 2)) none)) (cond (Nat.blt pc 46) (cond (Nat.beq pc 44) (some (.iload 6, 2)) none) (cond (Nat.blt pc 47) (cond (Nat.beq pc 46) (some (.iadd, 1)) none) (cond (Nat.beq pc 47) (some (.iaload, 1)) none))))) (cond (Nat.blt pc 57) (cond (Nat.blt pc 51) (cond (Nat.blt pc 50) (cond (Nat.beq pc 48) (some (.iload 4, 2)) none) (cond (Nat.beq pc 50) (some (.iload_n 3, 1)) none)) (cond (Nat.blt pc 53) (cond (Nat.beq pc 51) (some (.iload 6, 2)) none) (cond (Nat.blt pc 56) (cond (Nat.beq pc 53) (some (.invokestatic 83, 3)) none) (cond (Nat.beq pc 56) (some (.imul, 1)) none)))) (cond (Nat.blt pc 59) (cond (Nat.blt pc 58) (cond (Nat.beq pc 57) (some (.iadd, 1)) none) (cond (Nat.beq pc 58) (some (.iastore, 1)) none)) (cond (Nat.blt pc 62) (cond (Nat.beq pc 59) (some (.iinc 6 1, 3)) none) (cond (Nat.blt pc 65) (cond (Nat.beq pc 62) (some (.goto (-39), 3)) none) (cond (Nat.beq pc 65) (some (.return_, 1)) none)))))))
def pI_36 : Nat → Option (Instr × Nat) := fun pc => eB1 pc 46 (cond (Nat.blt pc 22) (cond (Nat.blt pc 9) (cond (Nat.blt pc 3) (cond (Nat.blt pc 1) (cond (Nat.beq pc 0) (some (.iconst 0, 1)) none) (cond (Nat.blt pc 2) (cond (Nat.beq pc 1) (some (.istore_n 3, 1)) none) (cond (Nat.beq pc 2) (some (.iconst 1, 1)) none))) (cond (Nat.blt pc 5) (cond (Nat.beq pc 3) (some (.istore 4, 2)) none) (cond (Nat.blt pc 7) (cond (Nat.beq pc 5) (some (.iload 4, 2)) none) (cond (Nat.beq pc 7) (some (.bipush 6, 2)) none)))) (cond (Nat.blt pc 14) (cond (Nat.blt pc 12) (cond (Nat.beq pc 9) (some (.if_icmp .ge 35, 3)) none) (cond (Nat.blt pc 13) (cond (Nat.beq pc 12) (some (.aload_n 0, 1)) none) (cond (Nat.beq pc 13) (some (.iload_n 1, 1)) none))) (cond (Nat.blt pc 16) (cond (Nat.beq pc 14) (some (.iload 4, 2)) none) (cond (Nat.blt pc 19) (cond (Nat.beq pc 16) (some (.invokevirtual 87, 3)) none) (cond (Nat.beq pc 19) (some (.ifCond .eq 19, 3)) none))))) (cond (Nat.blt pc 32) (cond (Nat.blt pc 26) (cond (Nat.blt pc 23) (cond (Nat.beq pc 22) (some (.aload_n 0, 1)) none) (cond (Nat.blt pc 24) (cond (Nat.beq pc 23) (some (.iload_n 1, 1)) none) (cond (Nat.beq pc 24) (some (.iload 4, 2)) none))) (cond (Nat.blt pc 28) (cond (Nat.beq pc 26) (some (.bipush 6, 2)) none) (cond (Nat.blt pc 31) (cond (Nat.beq pc 28) (some (.invokevirtual 69, 3)) none) (cond (Nat.beq pc 31) (some (.iload_n 2, 1)) none)))) (cond (Nat.blt pc 41) (cond (Nat.blt pc 35) (cond (Nat.beq pc 32) (some (.if_icmp .ne 6, 3)) none) (cond (Nat.blt pc 38) (cond (Nat.beq pc 35) (some (.iinc 3 1, 3)) none) (cond (Nat.beq pc 38) (some (.iinc 4 1, 3)) none))) (cond (Nat.blt pc 44) (cond (Nat.beq pc 41) (some (.goto (-36), 3)) none) (cond (Nat.blt pc 45) (cond (Nat.beq pc 44) (some (.iload_n 3, 1)) none) (cond (Nat.beq pc 45) (some (.ireturn, 1)) none))))))
def pI_37 : Nat → Option (Instr × Nat) := fun pc => eB1 pc 46 (cond (Nat.blt pc 22) (cond (Nat.blt pc 11) (cond (Nat.blt pc 5) (cond (Nat.blt pc 1) (cond (Nat.beq pc 0) (some (.iconst 1, 1)) none) (cond (Nat.blt pc 3) (cond (Nat.beq pc 1) (some (.istore 4, 2)) none) (cond (Nat.beq pc 3) (some (.iload 4, 2)) none))) (cond (Nat.blt pc 7) (cond (Nat.beq pc 5) (some (.bipush 6, 2)) none) (cond (Nat.blt pc 10) (cond (Nat.beq pc 7) (some (.if_icmp .ge 37, 3)) none) (cond (Nat.beq pc 10) (some (.aload_n 0, 1)) none)))) (cond (Nat.blt pc 15) (cond (Nat.blt pc 12) (cond (Nat.beq pc 11) (some (.iload_n 1, 1)) none) (cond (Nat.blt pc 14) (cond (Nat.beq pc 12) (some (.iload 4, 2)) none) (cond (Nat.beq pc 14) (some (.iconst 5, 1)) none))) (cond (Nat.blt pc 18) (cond (Nat.beq pc 15) (some (.invokevirtual 69, 3)) none) (cond (Nat.blt pc 19) (cond (Nat.beq pc 18) (some (.iload_n 3, 1)) none) (cond (Nat.beq pc 19) (some (.if_icmp .ne 19, 3)) none))))) (cond (Nat.blt pc 32) (cond (Nat.blt pc 26) (cond (Nat.blt pc 23) (cond (Nat.beq pc 22) (some (.aload_n 0, 1)) none) (cond (Nat.blt pc 24) (cond (Nat.beq pc 23) (some (.iload_n 1, 1)) none) (cond (Nat.beq pc 24) (some (.iload 4, 2)) none))) (cond (Nat.blt pc 28) (cond (Nat.beq pc 26) (some (.bipush 6, 2)) none) (cond (Nat.blt pc 31) (cond (Nat.beq pc 28) (some (.invokevirtual 69, 3)) none) (cond (Nat.beq pc 31) (some (.iload_n 2, 1)) none)))) (cond (Nat.blt pc 38) (cond (Nat.blt pc 35) (cond (Nat.beq pc 32) (some (.if_icmp .ne 6, 3)) none) (cond (Nat.blt pc 37) (cond (Nat.beq pc 35) (some (.iload 4, 2)) none) (cond (Nat.beq pc 37) (some (.ireturn, 1)) none))) (cond (Nat.blt pc 44) (cond (Nat.blt pc 41) (cond (Nat.beq pc 38) (some (.iinc 4 1, 3)) none) (cond (Nat.beq pc 41) (some (.goto (-38), 3)) none)) (cond (Nat.blt pc 45) (cond (Nat.beq pc 44) (some (.iconst (-1), 1)) none) (cond (Nat.beq pc 45) (some (.ireturn, 1)) none))))))
def pI_38 : Nat → Option (Instr × Nat) := fun pc => eB1 pc 27 (cond (Nat.blt pc 11) (cond (Nat.blt pc 5) (cond (Nat.blt pc 2) (cond (Nat.blt pc 1) (cond (Nat.beq pc 0) (some (.iconst 1, 1)) none) (cond (Nat.beq pc 1) (some (.istore_n 2, 1)) none)) (cond (Nat.blt pc 3) (cond (Nat.beq pc 2) (some (.iload_n 2, 1)) none) (cond (Nat.beq pc 3) (some (.bipush 6, 2)) none))) (cond (Nat.blt pc 9) (cond (Nat.blt pc 8) (cond (Nat.beq pc 5) (some (.if_icmp .ge 20, 3)) none) (cond (Nat.beq pc 8) (some (.aload_n 0, 1)) none)) (cond (Nat.blt pc 10) (cond (Nat.beq pc 9) (some (.iload_n 1, 1)) none) (cond (Nat.beq pc 10) (some (.iload_n 2, 1)) none)))) (cond (Nat.blt pc 19) (cond (Nat.blt pc 17) (cond (Nat.blt pc 14) (cond (Nat.beq pc 11) (some (.invokevirtual 87, 3)) none) (cond (Nat.beq pc 14) (some (.ifCond .ne 5, 3)) none)) (cond (Nat.blt pc 18) (cond (Nat.beq pc 17) (some (.iload_n 2, 1)) none) (cond (Nat.beq pc 18) (some (.ireturn, 1)) none))) (cond (Nat.blt pc 25) (cond (Nat.blt pc 22) (cond (Nat.beq pc 19) (some (.iinc 2 1, 3)) none) (cond (Nat.beq pc 22) (some (.goto (-20), 3)) none)) (cond (Nat.blt pc 26) (cond (Nat.beq pc 25) (some (.iconst (-1), 1)) none) (cond (Nat.beq pc 26) (some (.ireturn, 1)) none)))))
def pI_39 : Nat → Option (Instr × Nat) := fun pc => eB1 pc 31 (cond (Nat.blt pc 14) (cond (Nat.blt pc 6) (cond (Nat.blt pc 2) (cond (Nat.blt pc 1) (cond (Nat.beq pc 0) (some (.aload_n 0, 1)) none) (cond (Nat.beq pc 1) (some (.iload_n 1, 1)) none)) (cond (Nat.blt pc 5) (cond (Nat.beq pc 2) (some (.ifCond .lt 8, 3)) none) (cond (Nat.beq pc 5) (some (.iload_n 1, 1)) none))) (cond (Nat.blt pc 10) (cond (Nat.blt pc 7) (cond (Nat.beq pc 6) (some (.iconst 3, 1)) none) (cond (Nat.beq pc 7) (some (.if_icmp .le 7, 3)) none)) (cond (Nat.blt pc 11) (cond (Nat.beq pc 10) (some (.iconst 1, 1)) none) (cond (Nat.beq pc 11) (some (.goto 4, 3)) none)))) (cond (Nat.blt pc 22) (cond (Nat.blt pc 18) (cond (Nat.blt pc 15) (cond (Nat.beq pc 14) (some (.iconst 0, 1)) none) (cond (Nat.beq pc 15) (some (.putfield 65, 3)) none)) (cond (Nat.blt pc 19) (cond (Nat.beq pc 18) (some (.aload_n 0, 1)) none) (cond (Nat.beq pc 19) (some (.getfield 65, 3)) none))) (cond (Nat.blt pc 26) (cond (Nat.blt pc 25) (cond (Nat.beq pc 22) (some (.ifCond .ne 8, 3)) none) (cond (Nat.beq pc 25) (some (.aload_n 0, 1)) none)) (cond (Nat.blt pc 27) (cond (Nat.beq pc 26) (some (.iload_n 1, 1)) none) (cond (Nat.blt pc 30) (cond (Nat.beq pc 27) (some (.invokevirtual 61, 3)) none) (cond (Nat.beq pc 30) (some (.return_, 1)) none))))))
def pI_40 : Nat → Option (Instr × Nat) := fun pc => eB1 pc 97 (cond (Nat.blt pc 52) (cond (Nat.blt pc 24) (cond (Nat.blt pc 9) (cond (Nat.blt pc 5) (cond (Nat.blt pc 1) (cond (Nat.beq pc 0) (some (.aload_n 0, 1)) none) (cond (Nat.blt pc 2) (cond (Nat.beq pc 1) (some (.iconst 0, 1)) none) (cond (Nat.beq pc 2) (some (.invokevirtual 91, 3)) none))) (cond (Nat.blt pc 7) (cond (Nat.blt pc 6) (cond (Nat.beq pc 5) (some (.istore_n 3, 1)) none) (cond (Nat.beq pc 6) (some (.aload_n 0, 1)) none)) (cond (Nat.blt pc 8) (cond (Nat.beq pc 7) (some (.aload_n 0, 1)) none) (cond (Nat.beq pc 8) (some (.iconst 0, 1)) none)))) (cond (Nat.blt pc 16) (cond (Nat.blt pc 10) (cond (Nat.beq pc 9) (some (.iload_n 1, 1)) none) (cond (Nat.blt pc 13) (cond (Nat.beq pc 10) (some (.invokevirtual 87, 3)) none) (cond (Nat.beq pc 13) (some (.ifCond .ne 7, 3)) none))) (cond (Nat.blt pc 20) (cond (Nat.blt pc 17) (cond (Nat.beq pc 16) (some (.iconst 1, 1)) none) (cond (Nat.beq pc 17) (some (.goto 25, 3)) none)) (cond (Nat.blt pc 21) (cond (Nat.beq pc 20) (some (.iload_n 2, 1)) none) (cond (Nat.beq pc 21) (some (.ifCond .lt 8, 3)) none))))) (cond (Nat.blt pc 37) (cond (Nat.blt pc 29) (cond (Nat.blt pc 25) (cond (Nat.beq pc 24) (some (.iload_n 2, 1)) none) (cond (Nat.blt pc 26) (cond (Nat.beq pc 25) (some (.iconst 3, 1)) none) (cond (Nat.beq pc 26) (some (.if_icmp .le 7, 3)) none))) (cond (Nat.blt pc 33) (cond (Nat.blt pc 30) (cond (Nat.beq pc 29) (some (.iconst 2, 1)) none) (cond (Nat.beq pc 30) (some (.goto 12, 3)) none)) (cond (Nat.blt pc 34) (cond (Nat.beq pc 33) (some (.iload_n 3, 1)) none) (cond (Nat.beq pc 34) (some (.ifCond .ge 7, 3)) none)))) (cond (Nat.blt pc 42) (cond (Nat.blt pc 38) (cond (Nat.beq pc 37) (some (.iconst 3, 1)) none) (cond (Nat.blt pc 41) (cond (Nat.beq pc 38) (some (.goto 4, 3)) none) (cond (Nat.beq pc 41) (some (.iconst 0, 1)) none))) (cond (Nat.blt pc 46) (cond (Nat.blt pc 45) (cond (Nat.beq pc 42) (some (.putfield 65, 3)) none) (cond (Nat.beq pc 45) (some (.aload_n 0, 1)) none)) (cond (Nat.blt pc 49) (cond (Nat.beq pc 46) (some (.getfield 65, 3)) none) (cond (Nat.beq pc 49) (some (.ifCond .le 5, 3)) none)))))) (cond (Nat.blt pc 75) (cond (Nat.blt pc 63) (cond (Nat.blt pc 55) (cond (Nat.blt pc 53) (cond (Nat.beq pc 52) (some (.iconst 0, 1)) none) (cond (Nat.blt pc 54) (cond (Nat.beq pc 53) (some (.ireturn, 1)) none) (cond (Nat.beq pc 54) (some (.iconst 0, 1)) none))) (cond (Nat.blt pc 59) (cond (Nat.blt pc 57) (cond (Nat.beq pc 55) (some (.istore 4, 2)) none) (cond (Nat.beq pc 57) (some (.iload 4, 2)) none)) (cond (Nat.blt pc 60) (cond (Nat.beq pc 59) (some (.iconst 5, 1)) none) (cond (Nat.beq pc 60) (some (.if_icmp .ge 18, 3)) none)))) (cond (Nat.blt pc 66) (cond (Nat.blt pc 64) (cond (Nat.beq pc 63) (some (.aload_n 0, 1)) none) (cond (Nat.blt pc 65) (cond (Nat.beq pc 64) (some (.iconst 0, 1)) none) (cond (Nat.beq pc 65) (some (.iload_n 3, 1)) none))) (cond (Nat.blt pc 69) (cond (Nat.blt pc 68) (cond (Nat.beq pc 66) (some (.iload 4, 2)) none) (cond (Nat.beq pc 68) (some (.iconst 0, 1)) none)) (cond (Nat.blt pc 72) (cond (Nat.beq pc 69) (some (.invokevirtual 73, 3)) none) (cond (Nat.beq pc 72) (some (.iinc 4 1, 3)) none))))) (cond (Nat.blt pc 86) (cond (Nat.blt pc 80) (cond (Nat.blt pc 78) (cond (Nat.beq pc 75) (some (.goto (-18), 3)) none) (cond (Nat.blt pc 79) (cond (Nat.beq pc 78) (some (.aload_n 0, 1)) none) (cond (Nat.beq pc 79) (some (.iconst 0, 1)) none))) (cond (Nat.blt pc 82) (cond (Nat.blt pc 81) (cond (Nat.beq pc 80) (some (.iload_n 3, 1)) none) (cond (Nat.beq pc 81) (some (.iconst 5, 1)) none)) (cond (Nat.blt pc 83) (cond (Nat.beq pc 82) (some (.iload_n 2, 1)) none) (cond (Nat.beq pc 83) (some (.invokevirtual 73, 3)) none)))) (cond (Nat.blt pc 91) (cond (Nat.blt pc 88) (cond (Nat.blt pc 87) (cond (Nat.beq pc 86) (some (.aload_n 0, 1)) none) (cond (Nat.beq pc 87) (some (.iconst 0, 1)) none)) (cond (Nat.blt pc 89) (cond (Nat.beq pc 88) (some (.iload_n 3, 1)) none) (cond (Nat.beq pc 89) (some (.bipush 6, 2)) none))) (cond (Nat.blt pc 95) (cond (Nat.blt pc 92) (cond (Nat.beq pc 91) (some (.iload_n 1, 1)) none) (cond (Nat.beq pc 92) (some (.invokevirtual 73, 3)) none)) (cond (Nat.blt pc 96) (cond (Nat.beq pc 95) (some (.iload_n 3, 1)) none) (cond (Nat.beq pc 96) (some (.ireturn, 1)) none)))))))
def pI_41 : Nat → Option (Instr × Nat) := fun pc => eB1 pc 17 (cond (Nat.blt pc 8) (cond (Nat.blt pc 4) (cond (Nat.blt pc 1) (cond (Nat.beq pc 0) (some (.iload_n 0, 1)) none) (cond (Nat.beq pc 1) (some (.ifCond .lt 10, 3)) none)) (cond (Nat.blt pc 5) (cond (Nat.beq pc 4) (some (.iload_n 0, 1)) none) (cond (Nat.beq pc 5) (some (.sipush 1023, 3)) none))) (cond (Nat.blt pc 12) (cond (Nat.blt pc 11) (cond (Nat.beq pc 8) (some (.if_icmp .le 7, 3)) none) (cond (Nat.beq pc 11) (some (.iconst 1, 1)) none)) (cond (Nat.blt pc 15) (cond (Nat.beq pc 12) (some (.goto 4, 3)) none) (cond (Nat.blt pc 16) (cond (Nat.beq pc 15) (some (.iconst 0, 1)) none) (cond (Nat.beq pc 16) (some (.ireturn, 1)) none)))))
def pI_42 : Nat → Option (Instr × Nat) := fun pc => eB1 pc 92 (cond (Nat.blt pc 45) (cond (Nat.blt pc 22) (cond (Nat.blt pc 10) (cond (Nat.blt pc 3) (cond (Nat.blt pc 1) (cond (Nat.beq pc 0) (some (.aload_n 0, 1)) none) (cond (Nat.blt pc 2) (cond (Nat.beq pc 1) (some (.aload_n 0, 1)) none) (cond (Nat.beq pc 2) (some (.iconst 0, 1)) none))) (cond (Nat.blt pc 4) (cond (Nat.beq pc 3) (some (.iload_n 1, 1)) none) (cond (Nat.blt pc 7) (cond (Nat.beq pc 4) (some (.invokevirtual 87, 3)) none) (cond (Nat.beq pc 7) (some (.ifCond .ne 7, 3)) none)))) (cond (Nat.blt pc 15) (cond (Nat.blt pc 11) (cond (Nat.beq pc 10) (some (.iconst 1, 1)) none) (cond (Nat.blt pc 14) (cond (Nat.beq pc 11) (some (.goto 15, 3)) none) (cond (Nat.beq pc 14) (some (.iload_n 2, 1)) none))) (cond (Nat.blt pc 18) (cond (Nat.beq pc 15) (some (.invokestatic 95, 3)) none) (cond (Nat.blt pc 21) (cond (Nat.beq pc 18) (some (.ifCond .eq 7, 3)) none) (cond (Nat.beq pc 21) (some (.iconst 2, 1)) none))))) (cond (Nat.blt pc 32) (cond (Nat.blt pc 29) (cond (Nat.blt pc 25) (cond (Nat.beq pc 22) (some (.goto 4, 3)) none) (cond (Nat.blt pc 26) (cond (Nat.beq pc 25) (some (.iconst 0, 1)) none) (cond (Nat.beq pc 26) (some (.putfield 65, 3)) none))) (cond (Nat.blt pc 30) (cond (Nat.beq pc 29) (some (.iconst 0, 1)) none) (cond (Nat.blt pc 31) (cond (Nat.beq pc 30) (some (.istore_n 3, 1)) none) (cond (Nat.beq pc 31) (some (.iload_n 3, 1)) none)))) (cond (Nat.blt pc 37) (cond (Nat.blt pc 33) (cond (Nat.beq pc 32) (some (.iconst 5, 1)) none) (cond (Nat.blt pc 36) (cond (Nat.beq pc 33) (some (.if_icmp .ge 43, 3)) none) (cond (Nat.beq pc 36) (some (.aload_n 0, 1)) none))) (cond (Nat.blt pc 43) (cond (Nat.blt pc 40) (cond (Nat.beq pc 37) (some (.getfield 65, 3)) none) (cond (Nat.beq pc 40) (some (.ifCond .ne 36, 3)) none)) (cond (Nat.blt pc 44) (cond (Nat.beq pc 43) (some (.aload_n 0, 1)) none) (cond (Nat.beq pc 44) (some (.aload_n 0, 1)) none)))))) (cond (Nat.blt pc 67) (cond (Nat.blt pc 53) (cond (Nat.blt pc 48) (cond (Nat.blt pc 46) (cond (Nat.beq pc 45) (some (.iconst 0, 1)) none) (cond (Nat.blt pc 47) (cond (Nat.beq pc 46) (some (.iload_n 1, 1)) none) (cond (Nat.beq pc 47) (some (.iload_n 3, 1)) none))) (cond (Nat.blt pc 51) (cond (Nat.beq pc 48) (some (.invokevirtual 69, 3)) none) (cond (Nat.blt pc 52) (cond (Nat.beq pc 51) (some (.iload_n 2, 1)) none) (cond (Nat.beq pc 52) (some (.iload_n 3, 1)) none)))) (cond (Nat.blt pc 59) (cond (Nat.blt pc 56) (cond (Nat.beq pc 53) (some (.invokestatic 83, 3)) none) (cond (Nat.blt pc 57) (cond (Nat.beq pc 56) (some (.iadd, 1)) none) (cond (Nat.beq pc 57) (some (.bipush 12, 2)) none))) (cond (Nat.blt pc 63) (cond (Nat.blt pc 62) (cond (Nat.beq pc 59) (some (.if_icmp .le 7, 3)) none) (cond (Nat.beq pc 62) (some (.iconst 3, 1)) none)) (cond (Nat.blt pc 66) (cond (Nat.beq pc 63) (some (.goto 4, 3)) none) (cond (Nat.beq pc 66) (some (.iconst 0, 1)) none))))) (cond (Nat.blt pc 83) (cond (Nat.blt pc 76) (cond (Nat.blt pc 70) (cond (Nat.beq pc 67) (some (.putfield 65, 3)) none) (cond (Nat.blt pc 73) (cond (Nat.beq pc 70) (some (.iinc 3 1, 3)) none) (cond (Nat.beq pc 73) (some (.goto (-42), 3)) none))) (cond (Nat.blt pc 77) (cond (Nat.beq pc 76) (some (.aload_n 0, 1)) none) (cond (Nat.blt pc 80) (cond (Nat.beq pc 77) (some (.getfield 65, 3)) none) (cond (Nat.beq pc 80) (some (.ifCond .ne 11, 3)) none)))) (cond (Nat.blt pc 86) (cond (Nat.blt pc 84) (cond (Nat.beq pc 83) (some (.aload_n 0, 1)) none) (cond (Nat.blt pc 85) (cond (Nat.beq pc 84) (some (.iconst 0, 1)) none) (cond (Nat.beq pc 85) (some (.iload_n 1, 1)) none))) (cond (Nat.blt pc 88) (cond (Nat.blt pc 87) (cond (Nat.beq pc 86) (some (.iload_n 2, 1)) none) (cond (Nat.beq pc 87) (some (.iconst 1, 1)) none)) (cond (Nat.blt pc 91) (cond (Nat.beq pc 88) (some (.invokevirtual 99, 3)) none) (cond (Nat.beq pc 91) (some (.return_, 1)) none)))))))
def pI_43 : Nat → Option (Instr × Nat) := fun pc => eB1 pc 144 (cond (Nat.blt pc 77) (cond (Nat.blt pc 40) (cond (Nat.blt pc 17) (cond (Nat.blt pc 6) (cond (Nat.blt pc 2) (cond (Nat.blt pc 1) (cond (Nat.beq pc 0) (some (.aload_n 0, 1)) none) (cond (Nat.beq pc 1) (some (.iload_n 1, 1)) none)) (cond (Nat.blt pc 5) (cond (Nat.beq pc 2) (some (.ifCond .lt 34, 3)) none) (cond (Nat.beq pc 5) (some (.iload_n 1, 1)) none))) (cond (Nat.blt pc 10) (cond (Nat.blt pc 7) (cond (Nat.beq pc 6) (some (.iconst 3, 1)) none) (cond (Nat.beq pc 7) (some (.if_icmp .gt 29, 3)) none)) (cond (Nat.blt pc 11) (cond (Nat.beq pc 10) (some (.iload_n 2, 1)) none) (cond (Nat.blt pc 14) (cond (Nat.beq pc 11) (some (.invokestatic 95, 3)) none) (cond (Nat.beq pc 14) (some (.ifCond .ne 22, 3)) none))))) (cond (Nat.blt pc 28) (cond (Nat.blt pc 21) (cond (Nat.blt pc 18) (cond (Nat.beq pc 17) (some (.iload_n 2, 1)) none) (cond (Nat.beq pc 18) (some (.ifCond .eq 18, 3)) none)) (cond (Nat.blt pc 22) (cond (Nat.beq pc 21) (some (.iload_n 3, 1)) none) (cond (Nat.blt pc 25) (cond (Nat.beq pc 22) (some (.invokestatic 95, 3)) none) (cond (Nat.beq pc 25) (some (.ifCond .ne 11, 3)) none)))) (cond (Nat.blt pc 33) (cond (Nat.blt pc 30) (cond (Nat.beq pc 28) (some (.iload 4, 2)) none) (cond (Nat.beq pc 30) (some (.invokestatic 95, 3)) none)) (cond (Nat.blt pc 36) (cond (Nat.beq pc 33) (some (.ifCond .eq 7, 3)) none) (cond (Nat.blt pc 37) (cond (Nat.beq pc 36) (some (.iconst 1, 1)) none) (cond (Nat.beq pc 37) (some (.goto 17, 3)) none)))))) (cond (Nat.blt pc 61) (cond (Nat.blt pc 50) (cond (Nat.blt pc 44) (cond (Nat.blt pc 41) (cond (Nat.beq pc 40) (some (.aload_n 0, 1)) none) (cond (Nat.beq pc 41) (some (.getfield 77, 3)) none)) (cond (Nat.blt pc 46) (cond (Nat.beq pc 44) (some (.bipush 6, 2)) none) (cond (Nat.blt pc 49) (cond (Nat.beq pc 46) (some (.if_icmp .ne 7, 3)) none) (cond (Nat.beq pc 49) (some (.iconst 2, 1)) none)))) (cond (Nat.blt pc 54) (cond (Nat.blt pc 53) (cond (Nat.beq pc 50) (some (.goto 4, 3)) none) (cond (Nat.beq pc 53) (some (.iconst 0, 1)) none)) (cond (Nat.blt pc 57) (cond (Nat.beq pc 54) (some (.putfield 65, 3)) none) (cond (Nat.blt pc 58) (cond (Nat.beq pc 57) (some (.aload_n 0, 1)) none) (cond (Nat.beq pc 58) (some (.getfield 65, 3)) none))))) (cond (Nat.blt pc 70) (cond (Nat.blt pc 65) (cond (Nat.blt pc 64) (cond (Nat.beq pc 61) (some (.ifCond .le 5, 3)) none) (cond (Nat.beq pc 64) (some (.iconst 0, 1)) none)) (cond (Nat.blt pc 66) (cond (Nat.beq pc 65) (some (.ireturn, 1)) none) (cond (Nat.blt pc 67) (cond (Nat.beq pc 66) (some (.aload_n 0, 1)) none) (cond (Nat.beq pc 67) (some (.getfield 7, 3)) none)))) (cond (Nat.blt pc 74) (cond (Nat.blt pc 71) (cond (Nat.beq pc 70) (some (.aload_n 0, 1)) none) (cond (Nat.beq pc 71) (some (.getfield 77, 3)) none)) (cond (Nat.blt pc 75) (cond (Nat.beq pc 74) (some (.iload_n 1, 1)) none) (cond (Nat.blt pc 76) (cond (Nat.beq pc 75) (some (.iastore, 1)) none) (cond (Nat.beq pc 76) (some (.aload_n 0, 1)) none))))))) (cond (Nat.blt pc 112) (cond (Nat.blt pc 95) (cond (Nat.blt pc 86) (cond (Nat.blt pc 81) (cond (Nat.blt pc 80) (cond (Nat.beq pc 77) (some (.getfield 13, 3)) none) (cond (Nat.beq pc 80) (some (.aload_n 0, 1)) none)) (cond (Nat.blt pc 84) (cond (Nat.beq pc 81) (some (.getfield 77, 3)) none) (cond (Nat.blt pc 85) (cond (Nat.beq pc 84) (some (.iload_n 2, 1)) none) (cond (Nat.beq pc 85) (some (.iastore, 1)) none)))) (cond (Nat.blt pc 90) (cond (Nat.blt pc 87) (cond (Nat.beq pc 86) (some (.aload_n 0, 1)) none) (cond (Nat.beq pc 87) (some (.getfield 16, 3)) none)) (cond (Nat.blt pc 91) (cond (Nat.beq pc 90) (some (.aload_n 0, 1)) none) (cond (Nat.blt pc 94) (cond (Nat.beq pc 91) (some (.getfield 77, 3)) none) (cond (Nat.beq pc 94) (some (.iload_n 3, 1)) none))))) (cond (Nat.blt pc 104) (cond (Nat.blt pc 97) (cond (Nat.blt pc 96) (cond (Nat.beq pc 95) (some (.iastore, 1)) none) (cond (Nat.beq pc 96) (some (.aload_n 0, 1)) none)) (cond (Nat.blt pc 100) (cond (Nat.beq pc 97) (some (.getfield 19, 3)) none) (cond (Nat.blt pc 101) (cond (Nat.beq pc 100) (some (.aload_n 0, 1)) none) (cond (Nat.beq pc 101) (some (.getfield 77, 3)) none)))) (cond (Nat.blt pc 107) (cond (Nat.blt pc 106) (cond (Nat.beq pc 104) (some (.iload 4, 2)) none) (cond (Nat.beq pc 106) (some (.iastore, 1)) none)) (cond (Nat.blt pc 108) (cond (Nat.beq pc 107) (some (.aload_n 0, 1)) none) (cond (Nat.blt pc 111) (cond (Nat.beq pc 108) (some (.getfield 22, 3)) none) (cond (Nat.beq pc 111) (some (.aload_n 0, 1)) none)))))) (cond (Nat.blt pc 128) (cond (Nat.blt pc 121) (cond (Nat.blt pc 116) (cond (Nat.blt pc 115) (cond (Nat.beq pc 112) (some (.getfield 77, 3)) none) (cond (Nat.beq pc 115) (some (.iconst 0, 1)) none)) (cond (Nat.blt pc 117) (cond (Nat.beq pc 116) (some (.iastore, 1)) none) (cond (Nat.blt pc 118) (cond (Nat.beq pc 117) (some (.aload_n 0, 1)) none) (cond (Nat.beq pc 118) (some (.getfield 28, 3)) none)))) (cond (Nat.blt pc 125) (cond (Nat.blt pc 122) (cond (Nat.beq pc 121) (some (.aload_n 0, 1)) none) (cond (Nat.beq pc 122) (some (.getfield 77, 3)) none)) (cond (Nat.blt pc 126) (cond (Nat.beq pc 125) (some (.iconst 0, 1)) none) (cond (Nat.blt pc 127) (cond (Nat.beq pc 126) (some (.iastore, 1)) none) (cond (Nat.beq pc 127) (some (.aload_n 0, 1)) none))))) (cond (Nat.blt pc 137) (cond (Nat.blt pc 132) (cond (Nat.blt pc 129) (cond (Nat.beq pc 128) (some (.dup, 1)) none) (cond (Nat.beq pc 129) (some (.getfield 77, 3)) none)) (cond (Nat.blt pc 133) (cond (Nat.beq pc 132) (some (.iconst 1, 1)) none) (cond (Nat.blt pc 134) (cond (Nat.beq pc 133) (some (.iadd, 1)) none) (cond (Nat.beq pc 134) (some (.putfield 77, 3)) none)))) (cond (Nat.blt pc 141) (cond (Nat.blt pc 138) (cond (Nat.beq pc 137) (some (.aload_n 0, 1)) none) (cond (Nat.beq pc 138) (some (.getfield 77, 3)) none)) (cond (Nat.blt pc 142) (cond (Nat.beq pc 141) (some (.iconst 1, 1)) none) (cond (Nat.blt pc 143) (cond (Nat.beq pc 142) (some (.isub, 1)) none) (cond (Nat.beq pc 143) (some (.ireturn, 1)) none))))))))
def pI_44 : Nat → Option (Instr × Nat) := fun pc => eB1 pc 18 (cond (Nat.blt pc 9) (cond (Nat.blt pc 4) (cond (Nat.blt pc 1) (cond (Nat.beq pc 0) (some (.iload_n 1, 1)) none) (cond (Nat.beq pc 1) (some (.ifCond .lt 11, 3)) none)) (cond (Nat.blt pc 5) (cond (Nat.beq pc 4) (some (.iload_n 1, 1)) none) (cond (Nat.blt pc 6) (cond (Nat.beq pc 5) (some (.aload_n 0, 1)) none) (cond (Nat.beq pc 6) (some (.getfield 77, 3)) none)))) (cond (Nat.blt pc 13) (cond (Nat.blt pc 12) (cond (Nat.beq pc 9) (some (.if_icmp .lt 7, 3)) none) (cond (Nat.beq pc 12) (some (.iconst 1, 1)) none)) (cond (Nat.blt pc 16) (cond (Nat.beq pc 13) (some (.goto 4, 3)) none) (cond (Nat.blt pc 17) (cond (Nat.beq pc 16) (some (.iconst 0, 1)) none) (cond (Nat.beq pc 17) (some (.ireturn, 1)) none)))))
def pI_45 : Nat → Option (Instr × Nat) := fun pc => eB1 pc 64 (cond (Nat.blt pc 34) (cond (Nat.blt pc 17) (cond (Nat.blt pc 6) (cond (Nat.blt pc 2) (cond (Nat.blt pc 1) (cond (Nat.beq pc 0) (some (.aload_n 0, 1)) none) (cond (Nat.beq pc 1) (some (.aload_n 0, 1)) none)) (cond (Nat.blt pc 3) (cond (Nat.beq pc 2) (some (.iload_n 1, 1)) none) (cond (Nat.beq pc 3) (some (.invokevirtual 102, 3)) none))) (cond (Nat.blt pc 10) (cond (Nat.blt pc 9) (cond (Nat.beq pc 6) (some (.ifCond .eq 7, 3)) none) (cond (Nat.beq pc 9) (some (.iconst 1, 1)) none)) (cond (Nat.blt pc 13) (cond (Nat.beq pc 10) (some (.goto 28, 3)) none) (cond (Nat.blt pc 14) (cond (Nat.beq pc 13) (some (.iload_n 2, 1)) none) (cond (Nat.beq pc 14) (some (.ifCond .lt 19, 3)) none))))) (cond (Nat.blt pc 23) (cond (Nat.blt pc 19) (cond (Nat.blt pc 18) (cond (Nat.beq pc 17) (some (.iload_n 2, 1)) none) (cond (Nat.beq pc 18) (some (.iconst 3, 1)) none)) (cond (Nat.blt pc 22) (cond (Nat.beq pc 19) (some (.if_icmp .gt 14, 3)) none) (cond (Nat.beq pc 22) (some (.iload_n 3, 1)) none))) (cond (Nat.blt pc 29) (cond (Nat.blt pc 26) (cond (Nat.beq pc 23) (some (.invokestatic 95, 3)) none) (cond (Nat.beq pc 26) (some (.ifCond .ne 7, 3)) none)) (cond (Nat.blt pc 30) (cond (Nat.beq pc 29) (some (.iload_n 3, 1)) none) (cond (Nat.blt pc 33) (cond (Nat.beq pc 30) (some (.ifCond .ne 7, 3)) none) (cond (Nat.beq pc 33) (some (.iconst 2, 1)) none)))))) (cond (Nat.blt pc 53) (cond (Nat.blt pc 42) (cond (Nat.blt pc 38) (cond (Nat.blt pc 37) (cond (Nat.beq pc 34) (some (.goto 4, 3)) none) (cond (Nat.beq pc 37) (some (.iconst 0, 1)) none)) (cond (Nat.blt pc 41) (cond (Nat.beq pc 38) (some (.putfield 65, 3)) none) (cond (Nat.beq pc 41) (some (.aload_n 0, 1)) none))) (cond (Nat.blt pc 48) (cond (Nat.blt pc 45) (cond (Nat.beq pc 42) (some (.getfield 65, 3)) none) (cond (Nat.beq pc 45) (some (.ifCond .le 4, 3)) none)) (cond (Nat.blt pc 49) (cond (Nat.beq pc 48) (some (.return_, 1)) none) (cond (Nat.blt pc 50) (cond (Nat.beq pc 49) (some (.aload_n 0, 1)) none) (cond (Nat.beq pc 50) (some (.getfield 22, 3)) none))))) (cond (Nat.blt pc 57) (cond (Nat.blt pc 55) (cond (Nat.blt pc 54) (cond (Nat.beq pc 53) (some (.iload_n 1, 1)) none) (cond (Nat.beq pc 54) (some (.iload_n 3, 1)) none)) (cond (Nat.blt pc 56) (cond (Nat.beq pc 55) (some (.iastore, 1)) none) (cond (Nat.beq pc 56) (some (.aload_n 0, 1)) none))) (cond (Nat.blt pc 61) (cond (Nat.blt pc 60) (cond (Nat.beq pc 57) (some (.getfield 25, 3)) none) (cond (Nat.beq pc 60) (some (.iload_n 1, 1)) none)) (cond (Nat.blt pc 62) (cond (Nat.beq pc 61) (some (.iload_n 2, 1)) none) (cond (Nat.blt pc 63) (cond (Nat.beq pc 62) (some (.iastore, 1)) none) (cond (Nat.beq pc 63) (some (.return_, 1)) none)))))))
def pI_46 : Nat → Option (Instr × Nat) := fun pc => eB1 pc 45 (cond (Nat.blt pc 22) (cond (Nat.blt pc 10) (cond (Nat.blt pc 3) (cond (Nat.blt pc 1) (cond (Nat.beq pc 0) (some (.aload_n 0, 1)) none) (cond (Nat.blt pc 2) (cond (Nat.beq pc 1) (some (.aload_n 0, 1)) none) (cond (Nat.beq pc 2) (some (.iload_n 1, 1)) none))) (cond (Nat.blt pc 6) (cond (Nat.beq pc 3) (some (.invokevirtual 102, 3)) none) (cond (Nat.blt pc 9) (cond (Nat.beq pc 6) (some (.ifCond .eq 7, 3)) none) (cond (Nat.beq pc 9) (some (.iconst 1, 1)) none)))) (cond (Nat.blt pc 17) (cond (Nat.blt pc 13) (cond (Nat.beq pc 10) (some (.goto 17, 3)) none) (cond (Nat.blt pc 14) (cond (Nat.beq pc 13) (some (.aload_n 0, 1)) none) (cond (Nat.beq pc 14) (some (.getfield 28, 3)) none))) (cond (Nat.blt pc 18) (cond (Nat.beq pc 17) (some (.iload_n 1, 1)) none) (cond (Nat.blt pc 19) (cond (Nat.beq pc 18) (some (.iaload, 1)) none) (cond (Nat.beq pc 19) (some (.ifCond .le 7, 3)) none))))) (cond (Nat.blt pc 34) (cond (Nat.blt pc 27) (cond (Nat.blt pc 23) (cond (Nat.beq pc 22) (some (.iconst 2, 1)) none) (cond (Nat.blt pc 26) (cond (Nat.beq pc 23) (some (.goto 4, 3)) none) (cond (Nat.beq pc 26) (some (.iconst 0, 1)) none))) (cond (Nat.blt pc 30) (cond (Nat.beq pc 27) (some (.putfield 65, 3)) none) (cond (Nat.blt pc 31) (cond (Nat.beq pc 30) (some (.aload_n 0, 1)) none) (cond (Nat.beq pc 31) (some (.getfield 65, 3)) none)))) (cond (Nat.blt pc 41) (cond (Nat.blt pc 37) (cond (Nat.beq pc 34) (some (.ifCond .ne 10, 3)) none) (cond (Nat.blt pc 38) (cond (Nat.beq pc 37) (some (.aload_n 0, 1)) none) (cond (Nat.beq pc 38) (some (.getfield 28, 3)) none))) (cond (Nat.blt pc 43) (cond (Nat.blt pc 42) (cond (Nat.beq pc 41) (some (.iload_n 1, 1)) none) (cond (Nat.beq pc 42) (some (.iconst 1, 1)) none)) (cond (Nat.blt pc 44) (cond (Nat.beq pc 43) (some (.iastore, 1)) none) (cond (Nat.beq pc 44) (some (.return_, 1)) none))))))
def pI_47 : Nat → Option (Instr × Nat) := fun pc => eB1 pc 64 (cond (Nat.blt pc 34) (cond (Nat.blt pc 17) (cond (Nat.blt pc 6) (cond (Nat.blt pc 2) (cond (Nat.blt pc 1) (cond (Nat.beq pc 0) (some (.aload_n 0, 1)) none) (cond (Nat.beq pc 1) (some (.aload_n 0, 1)) none)) (cond (Nat.blt pc 3) (cond (Nat.beq pc 2) (some (.iload_n 1, 1)) none) (cond (Nat.beq pc 3) (some (.invokevirtual 102, 3)) none))) (cond (Nat.blt pc 10) (cond (Nat.blt pc 9) (cond (Nat.beq pc 6) (some (.ifCond .eq 7, 3)) none) (cond (Nat.beq pc 9) (some (.iconst 1, 1)) none)) (cond (Nat.blt pc 13) (cond (Nat.beq pc 10) (some (.goto 28, 3)) none) (cond (Nat.blt pc 14) (cond (Nat.beq pc 13) (some (.iload_n 2, 1)) none) (cond (Nat.beq pc 14) (some (.invokestatic 95, 3)) none))))) (cond (Nat.blt pc 25) (cond (Nat.blt pc 21) (cond (Nat.blt pc 20) (cond (Nat.beq pc 17) (some (.ifCond .eq 7, 3)) none) (cond (Nat.beq pc 20) (some (.iconst 2, 1)) none)) (cond (Nat.blt pc 24) (cond (Nat.beq pc 21) (some (.goto 17, 3)) none) (cond (Nat.beq pc 24) (some (.aload_n 0, 1)) none))) (cond (Nat.blt pc 29) (cond (Nat.blt pc 28) (cond (Nat.beq pc 25) (some (.getfield 28, 3)) none) (cond (Nat.beq pc 28) (some (.iload_n 1, 1)) none)) (cond (Nat.blt pc 30) (cond (Nat.beq pc 29) (some (.iaload, 1)) none) (cond (Nat.blt pc 33) (cond (Nat.beq pc 30) (some (.ifCond .le 7, 3)) none) (cond (Nat.beq pc 33) (some (.iconst 3, 1)) none)))))) (cond (Nat.blt pc 53) (cond (Nat.blt pc 42) (cond (Nat.blt pc 38) (cond (Nat.blt pc 37) (cond (Nat.beq pc 34) (some (.goto 4, 3)) none) (cond (Nat.beq pc 37) (some (.iconst 0, 1)) none)) (cond (Nat.blt pc 41) (cond (Nat.beq pc 38) (some (.putfield 65, 3)) none) (cond (Nat.beq pc 41) (some (.aload_n 0, 1)) none))) (cond (Nat.blt pc 48) (cond (Nat.blt pc 45) (cond (Nat.beq pc 42) (some (.getfield 65, 3)) none) (cond (Nat.beq pc 45) (some (.ifCond .le 4, 3)) none)) (cond (Nat.blt pc 49) (cond (Nat.beq pc 48) (some (.return_, 1)) none) (cond (Nat.blt pc 50) (cond (Nat.beq pc 49) (some (.aload_n 0, 1)) none) (cond (Nat.beq pc 50) (some (.getfield 28, 3)) none))))) (cond (Nat.blt pc 57) (cond (Nat.blt pc 55) (cond (Nat.blt pc 54) (cond (Nat.beq pc 53) (some (.iload_n 1, 1)) none) (cond (Nat.beq pc 54) (some (.iconst 2, 1)) none)) (cond (Nat.blt pc 56) (cond (Nat.beq pc 55) (some (.iastore, 1)) none) (cond (Nat.beq pc 56) (some (.aload_n 0, 1)) none))) (cond (Nat.blt pc 61) (cond (Nat.blt pc 60) (cond (Nat.beq pc 57) (some (.getfield 31, 3)) none) (cond (Nat.beq pc 60) (some (.iload_n 1, 1)) none)) (cond (Nat.blt pc 62) (cond (Nat.beq pc 61) (some (.iload_n 2, 1)) none) (cond (Nat.blt pc 63) (cond (Nat.beq pc 62) (some (.iastore, 1)) none) (cond (Nat.beq pc 63) (some (.return_, 1)) none)))))))
def pI_48 : Nat → Option (Instr × Nat) := fun pc => eB1 pc 53 (cond (Nat.blt pc 26) (cond (Nat.blt pc 12) (cond (Nat.blt pc 4) (cond (Nat.blt pc 2) (cond (Nat.blt pc 1) (cond (Nat.beq pc 0) (some (.iconst 0, 1)) none) (cond (Nat.beq pc 1) (some (.istore_n 3, 1)) none)) (cond (Nat.blt pc 3) (cond (Nat.beq pc 2) (some (.iload_n 3, 1)) none) (cond (Nat.beq pc 3) (some (.iconst 5, 1)) none))) (cond (Nat.blt pc 8) (cond (Nat.blt pc 7) (cond (Nat.beq pc 4) (some (.if_icmp .ge 22, 3)) none) (cond (Nat.beq pc 7) (some (.aload_n 0, 1)) none)) (cond (Nat.blt pc 11) (cond (Nat.beq pc 8) (some (.getfield 37, 3)) none) (cond (Nat.beq pc 11) (some (.iload_n 3, 1)) none)))) (cond (Nat.blt pc 16) (cond (Nat.blt pc 14) (cond (Nat.blt pc 13) (cond (Nat.beq pc 12) (some (.aload_n 0, 1)) none) (cond (Nat.beq pc 13) (some (.iload_n 1, 1)) none)) (cond (Nat.blt pc 15) (cond (Nat.beq pc 14) (some (.iload_n 2, 1)) none) (cond (Nat.beq pc 15) (some (.iload_n 3, 1)) none))) (cond (Nat.blt pc 20) (cond (Nat.blt pc 19) (cond (Nat.beq pc 16) (some (.invokevirtual 69, 3)) none) (cond (Nat.beq pc 19) (some (.iastore, 1)) none)) (cond (Nat.blt pc 23) (cond (Nat.beq pc 20) (some (.iinc 3 1, 3)) none) (cond (Nat.beq pc 23) (some (.goto (-21), 3)) none))))) (cond (Nat.blt pc 39) (cond (Nat.blt pc 31) (cond (Nat.blt pc 28) (cond (Nat.blt pc 27) (cond (Nat.beq pc 26) (some (.iconst 0, 1)) none) (cond (Nat.beq pc 27) (some (.istore_n 3, 1)) none)) (cond (Nat.blt pc 29) (cond (Nat.beq pc 28) (some (.iload_n 3, 1)) none) (cond (Nat.beq pc 29) (some (.bipush 6, 2)) none))) (cond (Nat.blt pc 35) (cond (Nat.blt pc 34) (cond (Nat.beq pc 31) (some (.if_icmp .ge 16, 3)) none) (cond (Nat.beq pc 34) (some (.aload_n 0, 1)) none)) (cond (Nat.blt pc 38) (cond (Nat.beq pc 35) (some (.getfield 40, 3)) none) (cond (Nat.beq pc 38) (some (.iload_n 3, 1)) none)))) (cond (Nat.blt pc 47) (cond (Nat.blt pc 41) (cond (Nat.blt pc 40) (cond (Nat.beq pc 39) (some (.iconst 0, 1)) none) (cond (Nat.beq pc 40) (some (.iastore, 1)) none)) (cond (Nat.blt pc 44) (cond (Nat.beq pc 41) (some (.iinc 3 1, 3)) none) (cond (Nat.beq pc 44) (some (.goto (-16), 3)) none))) (cond (Nat.blt pc 49) (cond (Nat.blt pc 48) (cond (Nat.beq pc 47) (some (.aload_n 0, 1)) none) (cond (Nat.beq pc 48) (some (.iconst 0, 1)) none)) (cond (Nat.blt pc 52) (cond (Nat.beq pc 49) (some (.putfield 105, 3)) none) (cond (Nat.beq pc 52) (some (.return_, 1)) none))))))
def pI_49 : Nat → Option (Instr × Nat) := fun pc => eB1 pc 62 (cond (Nat.blt pc 31) (cond (Nat.blt pc 14) (cond (Nat.blt pc 5) (cond (Nat.blt pc 3) (cond (Nat.blt pc 2) (cond (Nat.beq pc 0) (some (.bipush 99, 2)) none) (cond (Nat.beq pc 2) (some (.istore_n 2, 1)) none)) (cond (Nat.blt pc 4) (cond (Nat.beq pc 3) (some (.iconst 0, 1)) none) (cond (Nat.beq pc 4) (some (.istore_n 3, 1)) none))) (cond (Nat.blt pc 7) (cond (Nat.blt pc 6) (cond (Nat.beq pc 5) (some (.iload_n 3, 1)) none) (cond (Nat.beq pc 6) (some (.iconst 5, 1)) none)) (cond (Nat.blt pc 10) (cond (Nat.beq pc 7) (some (.if_icmp .ge 53, 3)) none) (cond (Nat.blt pc 11) (cond (Nat.beq pc 10) (some (.aload_n 0, 1)) none) (cond (Nat.beq pc 11) (some (.getfield 13, 3)) none))))) (cond (Nat.blt pc 20) (cond (Nat.blt pc 16) (cond (Nat.blt pc 15) (cond (Nat.beq pc 14) (some (.iload_n 1, 1)) none) (cond (Nat.beq pc 15) (some (.iaload, 1)) none)) (cond (Nat.blt pc 17) (cond (Nat.beq pc 16) (some (.iload_n 3, 1)) none) (cond (Nat.beq pc 17) (some (.invokestatic 83, 3)) none))) (cond (Nat.blt pc 24) (cond (Nat.blt pc 22) (cond (Nat.beq pc 20) (some (.istore 4, 2)) none) (cond (Nat.beq pc 22) (some (.iload 4, 2)) none)) (cond (Nat.blt pc 27) (cond (Nat.beq pc 24) (some (.ifCond .le 28, 3)) none) (cond (Nat.blt pc 28) (cond (Nat.beq pc 27) (some (.aload_n 0, 1)) none) (cond (Nat.beq pc 28) (some (.getfield 37, 3)) none)))))) (cond (Nat.blt pc 45) (cond (Nat.blt pc 36) (cond (Nat.blt pc 33) (cond (Nat.blt pc 32) (cond (Nat.beq pc 31) (some (.iload_n 3, 1)) none) (cond (Nat.beq pc 32) (some (.iaload, 1)) none)) (cond (Nat.blt pc 35) (cond (Nat.beq pc 33) (some (.iload 4, 2)) none) (cond (Nat.beq pc 35) (some (.idiv, 1)) none))) (cond (Nat.blt pc 40) (cond (Nat.blt pc 37) (cond (Nat.beq pc 36) (some (.iload_n 2, 1)) none) (cond (Nat.beq pc 37) (some (.if_icmp .ge 15, 3)) none)) (cond (Nat.blt pc 41) (cond (Nat.beq pc 40) (some (.aload_n 0, 1)) none) (cond (Nat.blt pc 44) (cond (Nat.beq pc 41) (some (.getfield 37, 3)) none) (cond (Nat.beq pc 44) (some (.iload_n 3, 1)) none))))) (cond (Nat.blt pc 53) (cond (Nat.blt pc 48) (cond (Nat.blt pc 46) (cond (Nat.beq pc 45) (some (.iaload, 1)) none) (cond (Nat.beq pc 46) (some (.iload 4, 2)) none)) (cond (Nat.blt pc 49) (cond (Nat.beq pc 48) (some (.idiv, 1)) none) (cond (Nat.blt pc 52) (cond (Nat.beq pc 49) (some (.goto 4, 3)) none) (cond (Nat.beq pc 52) (some (.iload_n 2, 1)) none)))) (cond (Nat.blt pc 57) (cond (Nat.blt pc 54) (cond (Nat.beq pc 53) (some (.istore_n 2, 1)) none) (cond (Nat.beq pc 54) (some (.iinc 3 1, 3)) none)) (cond (Nat.blt pc 60) (cond (Nat.beq pc 57) (some (.goto (-52), 3)) none) (cond (Nat.blt pc 61) (cond (Nat.beq pc 60) (some (.iload_n 2, 1)) none) (cond (Nat.beq pc 61) (some (.ireturn, 1)) none)))))))
def pI_50 : Nat → Option (Instr × Nat) := fun pc => eB1 pc 112 (cond (Nat.blt pc 52) (cond (Nat.blt pc 26) (cond (Nat.blt pc 10) (cond (Nat.blt pc 6) (cond (Nat.blt pc 4) (cond (Nat.blt pc 1) (cond (Nat.beq pc 0) (some (.aload_n 0, 1)) none) (cond (Nat.beq pc 1) (some (.getfield 7, 3)) none)) (cond (Nat.blt pc 5) (cond (Nat.beq pc 4) (some (.iload_n 3, 1)) none) (cond (Nat.beq pc 5) (some (.iaload, 1)) none))) (cond (Nat.blt pc 8) (cond (Nat.blt pc 7) (cond (Nat.beq pc 6) (some (.aload_n 0, 1)) none) (cond (Nat.beq pc 7) (some (.iload_n 1, 1)) none)) (cond (Nat.blt pc 9) (cond (Nat.beq pc 8) (some (.iload_n 2, 1)) none) (cond (Nat.beq pc 9) (some (.iconst 5, 1)) none)))) (cond (Nat.blt pc 20) (cond (Nat.blt pc 16) (cond (Nat.blt pc 13) (cond (Nat.beq pc 10) (some (.invokevirtual 69, 3)) none) (cond (Nat.beq pc 13) (some (.if_icmp .ne 27, 3)) none)) (cond (Nat.blt pc 17) (cond (Nat.beq pc 16) (some (.aload_n 0, 1)) none) (cond (Nat.beq pc 17) (some (.getfield 22, 3)) none))) (cond (Nat.blt pc 22) (cond (Nat.blt pc 21) (cond (Nat.beq pc 20) (some (.iload_n 3, 1)) none) (cond (Nat.beq pc 21) (some (.iaload, 1)) none)) (cond (Nat.blt pc 25) (cond (Nat.beq pc 22) (some (.ifCond .le 20, 3)) none) (cond (Nat.beq pc 25) (some (.aload_n 0, 1)) none))))) (cond (Nat.blt pc 40) (cond (Nat.blt pc 32) (cond (Nat.blt pc 28) (cond (Nat.blt pc 27) (cond (Nat.beq pc 26) (some (.iload_n 1, 1)) none) (cond (Nat.beq pc 27) (some (.iload_n 2, 1)) none)) (cond (Nat.blt pc 29) (cond (Nat.beq pc 28) (some (.aload_n 0, 1)) none) (cond (Nat.beq pc 29) (some (.getfield 25, 3)) none))) (cond (Nat.blt pc 34) (cond (Nat.blt pc 33) (cond (Nat.beq pc 32) (some (.iload_n 3, 1)) none) (cond (Nat.beq pc 33) (some (.iaload, 1)) none)) (cond (Nat.blt pc 37) (cond (Nat.beq pc 34) (some (.invokevirtual 109, 3)) none) (cond (Nat.beq pc 37) (some (.ifCond .ge 5, 3)) none)))) (cond (Nat.blt pc 46) (cond (Nat.blt pc 42) (cond (Nat.blt pc 41) (cond (Nat.beq pc 40) (some (.iconst 0, 1)) none) (cond (Nat.beq pc 41) (some (.ireturn, 1)) none)) (cond (Nat.blt pc 43) (cond (Nat.beq pc 42) (some (.aload_n 0, 1)) none) (cond (Nat.beq pc 43) (some (.getfield 28, 3)) none))) (cond (Nat.blt pc 48) (cond (Nat.blt pc 47) (cond (Nat.beq pc 46) (some (.iload_n 3, 1)) none) (cond (Nat.beq pc 47) (some (.iaload, 1)) none)) (cond (Nat.blt pc 51) (cond (Nat.beq pc 48) (some (.ifCond .le 35, 3)) none) (cond (Nat.beq pc 51) (some (.aload_n 0, 1)) none)))))) (cond (Nat.blt pc 82) (cond (Nat.blt pc 68) (cond (Nat.blt pc 62) (cond (Nat.blt pc 58) (cond (Nat.blt pc 55) (cond (Nat.beq pc 52) (some (.getfield 105, 3)) none) (cond (Nat.beq pc 55) (some (.ifCond .ne 26, 3)) none)) (cond (Nat.blt pc 59) (cond (Nat.beq pc 58) (some (.iload_n 2, 1)) none) (cond (Nat.beq pc 59) (some (.ifCond .eq 22, 3)) none))) (cond (Nat.blt pc 66) (cond (Nat.blt pc 63) (cond (Nat.beq pc 62) (some (.aload_n 0, 1)) none) (cond (Nat.beq pc 63) (some (.getfield 28, 3)) none)) (cond (Nat.blt pc 67) (cond (Nat.beq pc 66) (some (.iload_n 3, 1)) none) (cond (Nat.beq pc 67) (some (.iaload, 1)) none)))) (cond (Nat.blt pc 74) (cond (Nat.blt pc 72) (cond (Nat.blt pc 69) (cond (Nat.beq pc 68) (some (.iconst 2, 1)) none) (cond (Nat.beq pc 69) (some (.if_icmp .ne 14, 3)) none)) (cond (Nat.blt pc 73) (cond (Nat.beq pc 72) (some (.aload_n 0, 1)) none) (cond (Nat.beq pc 73) (some (.iload_n 1, 1)) none))) (cond (Nat.blt pc 78) (cond (Nat.blt pc 75) (cond (Nat.beq pc 74) (some (.iload_n 2, 1)) none) (cond (Nat.beq pc 75) (some (.invokevirtual 112, 3)) none)) (cond (Nat.blt pc 81) (cond (Nat.beq pc 78) (some (.ifCond .le 5, 3)) none) (cond (Nat.beq pc 81) (some (.iconst 0, 1)) none))))) (cond (Nat.blt pc 95) (cond (Nat.blt pc 88) (cond (Nat.blt pc 84) (cond (Nat.blt pc 83) (cond (Nat.beq pc 82) (some (.ireturn, 1)) none) (cond (Nat.beq pc 83) (some (.aload_n 0, 1)) none)) (cond (Nat.blt pc 85) (cond (Nat.beq pc 84) (some (.iload_n 3, 1)) none) (cond (Nat.beq pc 85) (some (.invokevirtual 115, 3)) none))) (cond (Nat.blt pc 91) (cond (Nat.blt pc 90) (cond (Nat.beq pc 88) (some (.istore 4, 2)) none) (cond (Nat.beq pc 90) (some (.aload_n 0, 1)) none)) (cond (Nat.blt pc 94) (cond (Nat.beq pc 91) (some (.getfield 28, 3)) none) (cond (Nat.beq pc 94) (some (.iload_n 3, 1)) none)))) (cond (Nat.blt pc 102) (cond (Nat.blt pc 99) (cond (Nat.blt pc 96) (cond (Nat.beq pc 95) (some (.iaload, 1)) none) (cond (Nat.beq pc 96) (some (.ifCond .le 13, 3)) none)) (cond (Nat.blt pc 101) (cond (Nat.beq pc 99) (some (.iload 4, 2)) none) (cond (Nat.beq pc 101) (some (.iconst 1, 1)) none))) (cond (Nat.blt pc 106) (cond (Nat.blt pc 105) (cond (Nat.beq pc 102) (some (.if_icmp .le 7, 3)) none) (cond (Nat.beq pc 105) (some (.iconst 1, 1)) none)) (cond (Nat.blt pc 109) (cond (Nat.beq pc 106) (some (.goto 5, 3)) none) (cond (Nat.blt pc 111) (cond (Nat.beq pc 109) (some (.iload 4, 2)) none) (cond (Nat.beq pc 111) (some (.ireturn, 1)) none))))))))
def pI_51 : Nat → Option (Instr × Nat) := fun pc => eB1 pc 86 (cond (Nat.blt pc 38) (cond (Nat.blt pc 17) (cond (Nat.blt pc 10) (cond (Nat.blt pc 5) (cond (Nat.blt pc 1) (cond (Nat.beq pc 0) (some (.aload_n 0, 1)) none) (cond (Nat.blt pc 4) (cond (Nat.beq pc 1) (some (.getfield 40, 3)) none) (cond (Nat.beq pc 4) (some (.iload_n 1, 1)) none))) (cond (Nat.blt pc 6) (cond (Nat.beq pc 5) (some (.aload_n 0, 1)) none) (cond (Nat.blt pc 9) (cond (Nat.beq pc 6) (some (.getfield 40, 3)) none) (cond (Nat.beq pc 9) (some (.iload_n 1, 1)) none)))) (cond (Nat.blt pc 13) (cond (Nat.blt pc 11) (cond (Nat.beq pc 10) (some (.iaload, 1)) none) (cond (Nat.blt pc 12) (cond (Nat.beq pc 11) (some (.iload_n 2, 1)) none) (cond (Nat.beq pc 12) (some (.iadd, 1)) none))) (cond (Nat.blt pc 15) (cond (Nat.blt pc 14) (cond (Nat.beq pc 13) (some (.iastore, 1)) none) (cond (Nat.beq pc 14) (some (.iconst 0, 1)) none)) (cond (Nat.blt pc 16) (cond (Nat.beq pc 15) (some (.istore_n 3, 1)) none) (cond (Nat.beq pc 16) (some (.iload_n 3, 1)) none))))) (cond (Nat.blt pc 27) (cond (Nat.blt pc 22) (cond (Nat.blt pc 18) (cond (Nat.beq pc 17) (some (.iconst 5, 1)) none) (cond (Nat.blt pc 21) (cond (Nat.beq pc 18) (some (.if_icmp .ge 34, 3)) none) (cond (Nat.beq pc 21) (some (.aload_n 0, 1)) none))) (cond (Nat.blt pc 25) (cond (Nat.beq pc 22) (some (.getfield 37, 3)) none) (cond (Nat.blt pc 26) (cond (Nat.beq pc 25) (some (.iload_n 3, 1)) none) (cond (Nat.beq pc 26) (some (.aload_n 0, 1)) none)))) (cond (Nat.blt pc 32) (cond (Nat.blt pc 30) (cond (Nat.beq pc 27) (some (.getfield 37, 3)) none) (cond (Nat.blt pc 31) (cond (Nat.beq pc 30) (some (.iload_n 3, 1)) none) (cond (Nat.beq pc 31) (some (.iaload, 1)) none))) (cond (Nat.blt pc 34) (cond (Nat.blt pc 33) (cond (Nat.beq pc 32) (some (.iload_n 2, 1)) none) (cond (Nat.beq pc 33) (some (.aload_n 0, 1)) none)) (cond (Nat.blt pc 37) (cond (Nat.beq pc 34) (some (.getfield 13, 3)) none) (cond (Nat.beq pc 37) (some (.iload_n 1, 1)) none)))))) (cond (Nat.blt pc 59) (cond (Nat.blt pc 46) (cond (Nat.blt pc 43) (cond (Nat.blt pc 39) (cond (Nat.beq pc 38) (some (.iaload, 1)) none) (cond (Nat.blt pc 40) (cond (Nat.beq pc 39) (some (.iload_n 3, 1)) none) (cond (Nat.beq pc 40) (some (.invokestatic 83, 3)) none))) (cond (Nat.blt pc 44) (cond (Nat.beq pc 43) (some (.imul, 1)) none) (cond (Nat.blt pc 45) (cond (Nat.beq pc 44) (some (.isub, 1)) none) (cond (Nat.beq pc 45) (some (.iastore, 1)) none)))) (cond (Nat.blt pc 53) (cond (Nat.blt pc 49) (cond (Nat.beq pc 46) (some (.iinc 3 1, 3)) none) (cond (Nat.blt pc 52) (cond (Nat.beq pc 49) (some (.goto (-33), 3)) none) (cond (Nat.beq pc 52) (some (.aload_n 0, 1)) none))) (cond (Nat.blt pc 57) (cond (Nat.blt pc 54) (cond (Nat.beq pc 53) (some (.aload_n 0, 1)) none) (cond (Nat.beq pc 54) (some (.getfield 28, 3)) none)) (cond (Nat.blt pc 58) (cond (Nat.beq pc 57) (some (.iload_n 1, 1)) none) (cond (Nat.beq pc 58) (some (.iaload, 1)) none))))) (cond (Nat.blt pc 71) (cond (Nat.blt pc 66) (cond (Nat.blt pc 62) (cond (Nat.beq pc 59) (some (.ifCond .le 19, 3)) none) (cond (Nat.blt pc 63) (cond (Nat.beq pc 62) (some (.iload_n 2, 1)) none) (cond (Nat.beq pc 63) (some (.ifCond .eq 15, 3)) none))) (cond (Nat.blt pc 67) (cond (Nat.beq pc 66) (some (.iload_n 2, 1)) none) (cond (Nat.blt pc 70) (cond (Nat.beq pc 67) (some (.ifCond .le 7, 3)) none) (cond (Nat.beq pc 70) (some (.iconst 1, 1)) none)))) (cond (Nat.blt pc 78) (cond (Nat.blt pc 74) (cond (Nat.beq pc 71) (some (.goto 11, 3)) none) (cond (Nat.blt pc 75) (cond (Nat.beq pc 74) (some (.iconst 0, 1)) none) (cond (Nat.beq pc 75) (some (.goto 7, 3)) none))) (cond (Nat.blt pc 82) (cond (Nat.blt pc 79) (cond (Nat.beq pc 78) (some (.aload_n 0, 1)) none) (cond (Nat.beq pc 79) (some (.getfield 105, 3)) none)) (cond (Nat.blt pc 85) (cond (Nat.beq pc 82) (some (.putfield 105, 3)) none) (cond (Nat.beq pc 85) (some (.return_, 1)) none)))))))
def pI_52 : Nat → Option (Instr × Nat) := fun pc => eB1 pc 6 (cond (Nat.blt pc 3) (cond (Nat.blt pc 1) (cond (Nat.beq pc 0) (some (.iload_n 1, 1)) none) (cond (Nat.blt pc 2) (cond (Nat.beq pc 1) (some (.iconst 5, 1)) none) (cond (Nat.beq pc 2) (some (.iload_n 0, 1)) none))) (cond (Nat.blt pc 4) (cond (Nat.beq pc 3) (some (.imul, 1)) none) (cond (Nat.blt pc 5) (cond (Nat.beq pc 4) (some (.ishl, 1)) none) (cond (Nat.beq pc 5) (some (.ireturn, 1)) none))))
def pI_53 : Nat → Option (Instr × Nat) := fun pc => eB1 pc 33 (cond (Nat.blt pc 14) (cond (Nat.blt pc 5) (cond (Nat.blt pc 2) (cond (Nat.blt pc 1) (cond (Nat.beq pc 0) (some (.iconst 0, 1)) none) (cond (Nat.beq pc 1) (some (.istore_n 1, 1)) none)) (cond (Nat.blt pc 3) (cond (Nat.beq pc 2) (some (.iconst 0, 1)) none) (cond (Nat.blt pc 4) (cond (Nat.beq pc 3) (some (.istore_n 2, 1)) none) (cond (Nat.beq pc 4) (some (.iload_n 2, 1)) none)))) (cond (Nat.blt pc 9) (cond (Nat.blt pc 6) (cond (Nat.beq pc 5) (some (.aload_n 0, 1)) none) (cond (Nat.beq pc 6) (some (.getfield 77, 3)) none)) (cond (Nat.blt pc 12) (cond (Nat.beq pc 9) (some (.if_icmp .ge 22, 3)) none) (cond (Nat.blt pc 13) (cond (Nat.beq pc 12) (some (.iload_n 1, 1)) none) (cond (Nat.beq pc 13) (some (.iload_n 2, 1)) none))))) (cond (Nat.blt pc 23) (cond (Nat.blt pc 18) (cond (Nat.blt pc 15) (cond (Nat.beq pc 14) (some (.aload_n 0, 1)) none) (cond (Nat.beq pc 15) (some (.getfield 40, 3)) none)) (cond (Nat.blt pc 19) (cond (Nat.beq pc 18) (some (.iload_n 2, 1)) none) (cond (Nat.blt pc 20) (cond (Nat.beq pc 19) (some (.iaload, 1)) none) (cond (Nat.beq pc 20) (some (.invokestatic 118, 3)) none)))) (cond (Nat.blt pc 28) (cond (Nat.blt pc 24) (cond (Nat.beq pc 23) (some (.ior, 1)) none) (cond (Nat.blt pc 25) (cond (Nat.beq pc 24) (some (.istore_n 1, 1)) none) (cond (Nat.beq pc 25) (some (.iinc 2 1, 3)) none))) (cond (Nat.blt pc 31) (cond (Nat.beq pc 28) (some (.goto (-24), 3)) none) (cond (Nat.blt pc 32) (cond (Nat.beq pc 31) (some (.iload_n 1, 1)) none) (cond (Nat.beq pc 32) (some (.ireturn, 1)) none))))))
def pI_54 : Nat → Option (Instr × Nat) := fun pc => eB1 pc 9 (cond (Nat.blt pc 4) (cond (Nat.blt pc 2) (cond (Nat.blt pc 1) (cond (Nat.beq pc 0) (some (.iload_n 0, 1)) none) (cond (Nat.beq pc 1) (some (.iconst 5, 1)) none)) (cond (Nat.blt pc 3) (cond (Nat.beq pc 2) (some (.iload_n 1, 1)) none) (cond (Nat.beq pc 3) (some (.imul, 1)) none))) (cond (Nat.blt pc 7) (cond (Nat.blt pc 5) (cond (Nat.beq pc 4) (some (.ishr, 1)) none) (cond (Nat.beq pc 5) (some (.bipush 31, 2)) none)) (cond (Nat.blt pc 8) (cond (Nat.beq pc 7) (some (.iand, 1)) none) (cond (Nat.beq pc 8) (some (.ireturn, 1)) none))))
def pI_55 : Nat → Option (Instr × Nat) := fun pc => eB1 pc 39 (cond (Nat.blt pc 17) (cond (Nat.blt pc 7) (cond (Nat.blt pc 2) (cond (Nat.blt pc 1) (cond (Nat.beq pc 0) (some (.aload_n 0, 1)) none) (cond (Nat.beq pc 1) (some (.iload_n 1, 1)) none)) (cond (Nat.blt pc 3) (cond (Nat.beq pc 2) (some (.iload_n 2, 1)) none) (cond (Nat.blt pc 6) (cond (Nat.beq pc 3) (some (.invokevirtual 121, 3)) none) (cond (Nat.beq pc 6) (some (.iconst 0, 1)) none)))) (cond (Nat.blt pc 10) (cond (Nat.blt pc 8) (cond (Nat.beq pc 7) (some (.istore_n 3, 1)) none) (cond (Nat.blt pc 9) (cond (Nat.beq pc 8) (some (.iload_n 3, 1)) none) (cond (Nat.beq pc 9) (some (.aload_n 0, 1)) none))) (cond (Nat.blt pc 13) (cond (Nat.beq pc 10) (some (.getfield 77, 3)) none) (cond (Nat.blt pc 16) (cond (Nat.beq pc 13) (some (.if_icmp .ge 21, 3)) none) (cond (Nat.beq pc 16) (some (.aload_n 0, 1)) none))))) (cond (Nat.blt pc 25) (cond (Nat.blt pc 20) (cond (Nat.blt pc 18) (cond (Nat.beq pc 17) (some (.iload_n 3, 1)) none) (cond (Nat.blt pc 19) (cond (Nat.beq pc 18) (some (.aload_n 0, 1)) none) (cond (Nat.beq pc 19) (some (.iload_n 1, 1)) none))) (cond (Nat.blt pc 21) (cond (Nat.beq pc 20) (some (.iload_n 2, 1)) none) (cond (Nat.blt pc 22) (cond (Nat.beq pc 21) (some (.iload_n 3, 1)) none) (cond (Nat.beq pc 22) (some (.invokevirtual 125, 3)) none)))) (cond (Nat.blt pc 34) (cond (Nat.blt pc 28) (cond (Nat.beq pc 25) (some (.invokevirtual 128, 3)) none) (cond (Nat.blt pc 31) (cond (Nat.beq pc 28) (some (.iinc 3 1, 3)) none) (cond (Nat.beq pc 31) (some (.goto (-23), 3)) none))) (cond (Nat.blt pc 35) (cond (Nat.beq pc 34) (some (.aload_n 0, 1)) none) (cond (Nat.blt pc 38) (cond (Nat.beq pc 35) (some (.invokevirtual 131, 3)) none) (cond (Nat.beq pc 38) (some (.ireturn, 1)) none))))))
def pI_56 : Nat → Option (Instr × Nat) := fun pc => eB1 pc 230 (cond (Nat.blt pc 107) (cond (Nat.blt pc 52) (cond (Nat.blt pc 25) (cond (Nat.blt pc 12) (cond (Nat.blt pc 4) (cond (Nat.blt pc 1) (cond (Nat.beq pc 0) (some (.iconst 0, 1)) none) (cond (Nat.blt pc 3) (cond (Nat.beq pc 1) (some (.istore 5, 2)) none) (cond (Nat.beq pc 3) (some (.iload_n 3, 1)) none))) (cond (Nat.blt pc 8) (cond (Nat.blt pc 6) (cond (Nat.beq pc 4) (some (.istore 6, 2)) none) (cond (Nat.beq pc 6) (some (.iload 6, 2)) none)) (cond (Nat.blt pc 9) (cond (Nat.beq pc 8) (some (.aload_n 0, 1)) none) (cond (Nat.beq pc 9) (some (.getfield 77, 3)) none)))) (cond (Nat.blt pc 18) (cond (Nat.blt pc 15) (cond (Nat.beq pc 12) (some (.if_icmp .ge 35, 3)) none) (cond (Nat.blt pc 17) (cond (Nat.beq pc 15) (some (.iload 5, 2)) none) (cond (Nat.beq pc 17) (some (.aload_n 0, 1)) none))) (cond (Nat.blt pc 20) (cond (Nat.blt pc 19) (cond (Nat.beq pc 18) (some (.iload_n 1, 1)) none) (cond (Nat.beq pc 19) (some (.iload_n 2, 1)) none)) (cond (Nat.blt pc 22) (cond (Nat.beq pc 20) (some (.iload 6, 2)) none) (cond (Nat.beq pc 22) (some (.invokevirtual 125, 3)) none))))) (cond (Nat.blt pc 38) (cond (Nat.blt pc 31) (cond (Nat.blt pc 26) (cond (Nat.beq pc 25) (some (.aload_n 0, 1)) none) (cond (Nat.blt pc 29) (cond (Nat.beq pc 26) (some (.getfield 13, 3)) none) (cond (Nat.beq pc 29) (some (.iload 6, 2)) none))) (cond (Nat.blt pc 34) (cond (Nat.blt pc 32) (cond (Nat.beq pc 31) (some (.iaload, 1)) none) (cond (Nat.beq pc 32) (some (.iload 4, 2)) none)) (cond (Nat.blt pc 37) (cond (Nat.beq pc 34) (some (.invokestatic 83, 3)) none) (cond (Nat.beq pc 37) (some (.imul, 1)) none)))) (cond (Nat.blt pc 44) (cond (Nat.blt pc 39) (cond (Nat.beq pc 38) (some (.iadd, 1)) none) (cond (Nat.blt pc 41) (cond (Nat.beq pc 39) (some (.istore 5, 2)) none) (cond (Nat.beq pc 41) (some (.iinc 6 1, 3)) none))) (cond (Nat.blt pc 48) (cond (Nat.blt pc 47) (cond (Nat.beq pc 44) (some (.goto (-38), 3)) none) (cond (Nat.beq pc 47) (some (.iconst 0, 1)) none)) (cond (Nat.blt pc 50) (cond (Nat.beq pc 48) (some (.istore 6, 2)) none) (cond (Nat.beq pc 50) (some (.iload 6, 2)) none)))))) (cond (Nat.blt pc 76) (cond (Nat.blt pc 63) (cond (Nat.blt pc 57) (cond (Nat.blt pc 53) (cond (Nat.beq pc 52) (some (.iconst 5, 1)) none) (cond (Nat.blt pc 56) (cond (Nat.beq pc 53) (some (.if_icmp .ge 174, 3)) none) (cond (Nat.beq pc 56) (some (.iconst 1, 1)) none))) (cond (Nat.blt pc 60) (cond (Nat.blt pc 59) (cond (Nat.beq pc 57) (some (.istore 7, 2)) none) (cond (Nat.beq pc 59) (some (.iconst 0, 1)) none)) (cond (Nat.blt pc 62) (cond (Nat.beq pc 60) (some (.istore 8, 2)) none) (cond (Nat.beq pc 62) (some (.iload_n 3, 1)) none)))) (cond (Nat.blt pc 68) (cond (Nat.blt pc 65) (cond (Nat.beq pc 63) (some (.istore 9, 2)) none) (cond (Nat.blt pc 67) (cond (Nat.beq pc 65) (some (.iload 9, 2)) none) (cond (Nat.beq pc 67) (some (.aload_n 0, 1)) none))) (cond (Nat.blt pc 74) (cond (Nat.blt pc 71) (cond (Nat.beq pc 68) (some (.getfield 77, 3)) none) (cond (Nat.beq pc 71) (some (.if_icmp .ge 114, 3)) none)) (cond (Nat.blt pc 75) (cond (Nat.beq pc 74) (some (.aload_n 0, 1)) none) (cond (Nat.beq pc 75) (some (.iload_n 1, 1)) none))))) (cond (Nat.blt pc 91) (cond (Nat.blt pc 82) (cond (Nat.blt pc 77) (cond (Nat.beq pc 76) (some (.iload_n 2, 1)) none) (cond (Nat.blt pc 79) (cond (Nat.beq pc 77) (some (.iload 9, 2)) none) (cond (Nat.beq pc 79) (some (.invokevirtual 125, 3)) none))) (cond (Nat.blt pc 86) (cond (Nat.blt pc 85) (cond (Nat.beq pc 82) (some (.ifCond .le 18, 3)) none) (cond (Nat.beq pc 85) (some (.aload_n 0, 1)) none)) (cond (Nat.blt pc 89) (cond (Nat.beq pc 86) (some (.getfield 13, 3)) none) (cond (Nat.beq pc 89) (some (.iload 9, 2)) none)))) (cond (Nat.blt pc 100) (cond (Nat.blt pc 94) (cond (Nat.blt pc 92) (cond (Nat.beq pc 91) (some (.iaload, 1)) none) (cond (Nat.beq pc 92) (some (.iload 4, 2)) none)) (cond (Nat.blt pc 97) (cond (Nat.beq pc 94) (some (.invokestatic 83, 3)) none) (cond (Nat.beq pc 97) (some (.goto 4, 3)) none))) (cond (Nat.blt pc 103) (cond (Nat.blt pc 101) (cond (Nat.beq pc 100) (some (.iconst 0, 1)) none) (cond (Nat.beq pc 101) (some (.istore 10, 2)) none)) (cond (Nat.blt pc 104) (cond (Nat.beq pc 103) (some (.aload_n 0, 1)) none) (cond (Nat.beq pc 104) (some (.getfield 13, 3)) none))))))) (cond (Nat.blt pc 167) (cond (Nat.blt pc 137) (cond (Nat.blt pc 122) (cond (Nat.blt pc 112) (cond (Nat.blt pc 109) (cond (Nat.beq pc 107) (some (.iload 9, 2)) none) (cond (Nat.blt pc 110) (cond (Nat.beq pc 109) (some (.iaload, 1)) none) (cond (Nat.beq pc 110) (some (.iload 6, 2)) none))) (cond (Nat.blt pc 117) (cond (Nat.blt pc 115) (cond (Nat.beq pc 112) (some (.invokestatic 83, 3)) none) (cond (Nat.beq pc 115) (some (.istore 11, 2)) none)) (cond (Nat.blt pc 119) (cond (Nat.beq pc 117) (some (.iload 7, 2)) none) (cond (Nat.beq pc 119) (some (.ifCond .eq 17, 3)) none)))) (cond (Nat.blt pc 129) (cond (Nat.blt pc 124) (cond (Nat.beq pc 122) (some (.iload 10, 2)) none) (cond (Nat.blt pc 127) (cond (Nat.beq pc 124) (some (.ifCond .eq 8, 3)) none) (cond (Nat.beq pc 127) (some (.iload 11, 2)) none))) (cond (Nat.blt pc 133) (cond (Nat.blt pc 132) (cond (Nat.beq pc 129) (some (.ifCond .le 7, 3)) none) (cond (Nat.beq pc 132) (some (.iconst 1, 1)) none)) (cond (Nat.blt pc 136) (cond (Nat.beq pc 133) (some (.goto 4, 3)) none) (cond (Nat.beq pc 136) (some (.iconst 0, 1)) none))))) (cond (Nat.blt pc 153) (cond (Nat.blt pc 144) (cond (Nat.blt pc 139) (cond (Nat.beq pc 137) (some (.istore 7, 2)) none) (cond (Nat.blt pc 141) (cond (Nat.beq pc 139) (some (.iload 10, 2)) none) (cond (Nat.beq pc 141) (some (.ifCond .le 19, 3)) none))) (cond (Nat.blt pc 149) (cond (Nat.blt pc 146) (cond (Nat.beq pc 144) (some (.iload 11, 2)) none) (cond (Nat.beq pc 146) (some (.ifCond .le 14, 3)) none)) (cond (Nat.blt pc 151) (cond (Nat.beq pc 149) (some (.bipush 6, 2)) none) (cond (Nat.beq pc 151) (some (.iload 10, 2)) none)))) (cond (Nat.blt pc 160) (cond (Nat.blt pc 156) (cond (Nat.blt pc 154) (cond (Nat.beq pc 153) (some (.imul, 1)) none) (cond (Nat.beq pc 154) (some (.iload 11, 2)) none)) (cond (Nat.blt pc 157) (cond (Nat.beq pc 156) (some (.idiv, 1)) none) (cond (Nat.beq pc 157) (some (.goto 4, 3)) none))) (cond (Nat.blt pc 163) (cond (Nat.blt pc 161) (cond (Nat.beq pc 160) (some (.iconst 0, 1)) none) (cond (Nat.beq pc 161) (some (.istore 12, 2)) none)) (cond (Nat.blt pc 165) (cond (Nat.beq pc 163) (some (.iload 12, 2)) none) (cond (Nat.beq pc 165) (some (.iload 8, 2)) none)))))) (cond (Nat.blt pc 197) (cond (Nat.blt pc 185) (cond (Nat.blt pc 175) (cond (Nat.blt pc 170) (cond (Nat.beq pc 167) (some (.if_icmp .le 8, 3)) none) (cond (Nat.blt pc 172) (cond (Nat.beq pc 170) (some (.iload 12, 2)) none) (cond (Nat.beq pc 172) (some (.goto 5, 3)) none))) (cond (Nat.blt pc 179) (cond (Nat.blt pc 177) (cond (Nat.beq pc 175) (some (.iload 8, 2)) none) (cond (Nat.beq pc 177) (some (.istore 8, 2)) none)) (cond (Nat.blt pc 182) (cond (Nat.beq pc 179) (some (.iinc 9 1, 3)) none) (cond (Nat.beq pc 182) (some (.goto (-117), 3)) none)))) (cond (Nat.blt pc 191) (cond (Nat.blt pc 186) (cond (Nat.beq pc 185) (some (.aload_n 0, 1)) none) (cond (Nat.blt pc 189) (cond (Nat.beq pc 186) (some (.getfield 37, 3)) none) (cond (Nat.beq pc 189) (some (.iload 6, 2)) none))) (cond (Nat.blt pc 194) (cond (Nat.blt pc 192) (cond (Nat.beq pc 191) (some (.iaload, 1)) none) (cond (Nat.beq pc 192) (some (.iload 8, 2)) none)) (cond (Nat.blt pc 195) (cond (Nat.beq pc 194) (some (.imul, 1)) none) (cond (Nat.beq pc 195) (some (.bipush 6, 2)) none))))) (cond (Nat.blt pc 212) (cond (Nat.blt pc 202) (cond (Nat.blt pc 198) (cond (Nat.beq pc 197) (some (.idiv, 1)) none) (cond (Nat.blt pc 200) (cond (Nat.beq pc 198) (some (.istore 9, 2)) none) (cond (Nat.beq pc 200) (some (.iload 7, 2)) none))) (cond (Nat.blt pc 207) (cond (Nat.blt pc 205) (cond (Nat.beq pc 202) (some (.ifCond .eq 15, 3)) none) (cond (Nat.beq pc 205) (some (.iload 9, 2)) none)) (cond (Nat.blt pc 209) (cond (Nat.beq pc 207) (some (.iload 5, 2)) none) (cond (Nat.beq pc 209) (some (.if_icmp .ge 8, 3)) none)))) (cond (Nat.blt pc 221) (cond (Nat.blt pc 217) (cond (Nat.blt pc 214) (cond (Nat.beq pc 212) (some (.iload 9, 2)) none) (cond (Nat.beq pc 214) (some (.goto 5, 3)) none)) (cond (Nat.blt pc 219) (cond (Nat.beq pc 217) (some (.iload 5, 2)) none) (cond (Nat.beq pc 219) (some (.istore 5, 2)) none))) (cond (Nat.blt pc 227) (cond (Nat.blt pc 224) (cond (Nat.beq pc 221) (some (.iinc 6 1, 3)) none) (cond (Nat.beq pc 224) (some (.goto (-174), 3)) none)) (cond (Nat.blt pc 229) (cond (Nat.beq pc 227) (some (.iload 5, 2)) none) (cond (Nat.beq pc 229) (some (.ireturn, 1)) none))))))))
def pI_57 : Nat → Option (Instr × Nat) := fun pc => eB1 pc 167 (cond (Nat.blt pc 79) (cond (Nat.blt pc 38) (cond (Nat.blt pc 17) (cond (Nat.blt pc 9) (cond (Nat.blt pc 3) (cond (Nat.blt pc 1) (cond (Nat.beq pc 0) (some (.iconst 0, 1)) none) (cond (Nat.beq pc 1) (some (.istore 4, 2)) none)) (cond (Nat.blt pc 5) (cond (Nat.beq pc 3) (some (.iload 4, 2)) none) (cond (Nat.blt pc 6) (cond (Nat.beq pc 5) (some (.iload_n 3, 1)) none) (cond (Nat.beq pc 6) (some (.if_icmp .ge 159, 3)) none)))) (cond (Nat.blt pc 11) (cond (Nat.blt pc 10) (cond (Nat.beq pc 9) (some (.aload_n 0, 1)) none) (cond (Nat.beq pc 10) (some (.iload_n 1, 1)) none)) (cond (Nat.blt pc 12) (cond (Nat.beq pc 11) (some (.iload_n 2, 1)) none) (cond (Nat.blt pc 14) (cond (Nat.beq pc 12) (some (.iload 4, 2)) none) (cond (Nat.beq pc 14) (some (.invokevirtual 125, 3)) none))))) (cond (Nat.blt pc 26) (cond (Nat.blt pc 21) (cond (Nat.blt pc 20) (cond (Nat.beq pc 17) (some (.ifCond .le 142, 3)) none) (cond (Nat.beq pc 20) (some (.iconst 1, 1)) none)) (cond (Nat.blt pc 23) (cond (Nat.beq pc 21) (some (.istore 5, 2)) none) (cond (Nat.blt pc 24) (cond (Nat.beq pc 23) (some (.iconst 0, 1)) none) (cond (Nat.beq pc 24) (some (.istore 6, 2)) none)))) (cond (Nat.blt pc 32) (cond (Nat.blt pc 28) (cond (Nat.beq pc 26) (some (.iload 6, 2)) none) (cond (Nat.blt pc 29) (cond (Nat.beq pc 28) (some (.iconst 5, 1)) none) (cond (Nat.beq pc 29) (some (.if_icmp .ge 62, 3)) none))) (cond (Nat.blt pc 33) (cond (Nat.beq pc 32) (some (.aload_n 0, 1)) none) (cond (Nat.blt pc 36) (cond (Nat.beq pc 33) (some (.getfield 13, 3)) none) (cond (Nat.beq pc 36) (some (.iload 4, 2)) none)))))) (cond (Nat.blt pc 62) (cond (Nat.blt pc 48) (cond (Nat.blt pc 41) (cond (Nat.blt pc 39) (cond (Nat.beq pc 38) (some (.iaload, 1)) none) (cond (Nat.beq pc 39) (some (.iload 6, 2)) none)) (cond (Nat.blt pc 44) (cond (Nat.beq pc 41) (some (.invokestatic 83, 3)) none) (cond (Nat.blt pc 46) (cond (Nat.beq pc 44) (some (.istore 7, 2)) none) (cond (Nat.beq pc 46) (some (.iload 5, 2)) none)))) (cond (Nat.blt pc 56) (cond (Nat.blt pc 51) (cond (Nat.beq pc 48) (some (.ifCond .eq 34, 3)) none) (cond (Nat.blt pc 53) (cond (Nat.beq pc 51) (some (.iload 7, 2)) none) (cond (Nat.beq pc 53) (some (.ifCond .eq 25, 3)) none))) (cond (Nat.blt pc 57) (cond (Nat.beq pc 56) (some (.aload_n 0, 1)) none) (cond (Nat.blt pc 60) (cond (Nat.beq pc 57) (some (.getfield 37, 3)) none) (cond (Nat.beq pc 60) (some (.iload 6, 2)) none))))) (cond (Nat.blt pc 67) (cond (Nat.blt pc 64) (cond (Nat.blt pc 63) (cond (Nat.beq pc 62) (some (.iaload, 1)) none) (cond (Nat.beq pc 63) (some (.aload_n 0, 1)) none)) (cond (Nat.blt pc 65) (cond (Nat.beq pc 64) (some (.iload_n 1, 1)) none) (cond (Nat.blt pc 66) (cond (Nat.beq pc 65) (some (.iload_n 2, 1)) none) (cond (Nat.beq pc 66) (some (.iload_n 3, 1)) none)))) (cond (Nat.blt pc 73) (cond (Nat.blt pc 69) (cond (Nat.beq pc 67) (some (.iload 6, 2)) none) (cond (Nat.blt pc 72) (cond (Nat.beq pc 69) (some (.invokevirtual 135, 3)) none) (cond (Nat.beq pc 72) (some (.isub, 1)) none))) (cond (Nat.blt pc 75) (cond (Nat.beq pc 73) (some (.iload 7, 2)) none) (cond (Nat.blt pc 78) (cond (Nat.beq pc 75) (some (.if_icmp .lt 7, 3)) none) (cond (Nat.beq pc 78) (some (.iconst 1, 1)) none))))))) (cond (Nat.blt pc 124) (cond (Nat.blt pc 100) (cond (Nat.blt pc 91) (cond (Nat.blt pc 83) (cond (Nat.blt pc 82) (cond (Nat.beq pc 79) (some (.goto 4, 3)) none) (cond (Nat.beq pc 82) (some (.iconst 0, 1)) none)) (cond (Nat.blt pc 85) (cond (Nat.beq pc 83) (some (.istore 5, 2)) none) (cond (Nat.blt pc 88) (cond (Nat.beq pc 85) (some (.iinc 6 1, 3)) none) (cond (Nat.beq pc 88) (some (.goto (-62), 3)) none)))) (cond (Nat.blt pc 94) (cond (Nat.blt pc 92) (cond (Nat.beq pc 91) (some (.iload_n 3, 1)) none) (cond (Nat.beq pc 92) (some (.istore 6, 2)) none)) (cond (Nat.blt pc 96) (cond (Nat.beq pc 94) (some (.iload 6, 2)) none) (cond (Nat.blt pc 97) (cond (Nat.beq pc 96) (some (.aload_n 0, 1)) none) (cond (Nat.beq pc 97) (some (.getfield 77, 3)) none))))) (cond (Nat.blt pc 112) (cond (Nat.blt pc 105) (cond (Nat.blt pc 103) (cond (Nat.beq pc 100) (some (.if_icmp .ge 52, 3)) none) (cond (Nat.beq pc 103) (some (.iload 5, 2)) none)) (cond (Nat.blt pc 108) (cond (Nat.beq pc 105) (some (.ifCond .eq 38, 3)) none) (cond (Nat.blt pc 109) (cond (Nat.beq pc 108) (some (.aload_n 0, 1)) none) (cond (Nat.beq pc 109) (some (.getfield 28, 3)) none)))) (cond (Nat.blt pc 118) (cond (Nat.blt pc 114) (cond (Nat.beq pc 112) (some (.iload 4, 2)) none) (cond (Nat.blt pc 115) (cond (Nat.beq pc 114) (some (.iaload, 1)) none) (cond (Nat.beq pc 115) (some (.ifCond .le 24, 3)) none))) (cond (Nat.blt pc 119) (cond (Nat.beq pc 118) (some (.aload_n 0, 1)) none) (cond (Nat.blt pc 122) (cond (Nat.beq pc 119) (some (.getfield 28, 3)) none) (cond (Nat.beq pc 122) (some (.iload 6, 2)) none)))))) (cond (Nat.blt pc 144) (cond (Nat.blt pc 131) (cond (Nat.blt pc 128) (cond (Nat.blt pc 125) (cond (Nat.beq pc 124) (some (.iaload, 1)) none) (cond (Nat.beq pc 125) (some (.ifCond .le 14, 3)) none)) (cond (Nat.blt pc 129) (cond (Nat.beq pc 128) (some (.aload_n 0, 1)) none) (cond (Nat.blt pc 130) (cond (Nat.beq pc 129) (some (.iload_n 1, 1)) none) (cond (Nat.beq pc 130) (some (.iload_n 2, 1)) none)))) (cond (Nat.blt pc 139) (cond (Nat.blt pc 133) (cond (Nat.beq pc 131) (some (.iload 6, 2)) none) (cond (Nat.blt pc 136) (cond (Nat.beq pc 133) (some (.invokevirtual 125, 3)) none) (cond (Nat.beq pc 136) (some (.ifCond .gt 7, 3)) none))) (cond (Nat.blt pc 140) (cond (Nat.beq pc 139) (some (.iconst 1, 1)) none) (cond (Nat.blt pc 143) (cond (Nat.beq pc 140) (some (.goto 4, 3)) none) (cond (Nat.beq pc 143) (some (.iconst 0, 1)) none))))) (cond (Nat.blt pc 157) (cond (Nat.blt pc 149) (cond (Nat.blt pc 146) (cond (Nat.beq pc 144) (some (.istore 5, 2)) none) (cond (Nat.beq pc 146) (some (.iinc 6 1, 3)) none)) (cond (Nat.blt pc 152) (cond (Nat.beq pc 149) (some (.goto (-55), 3)) none) (cond (Nat.blt pc 154) (cond (Nat.beq pc 152) (some (.iload 5, 2)) none) (cond (Nat.beq pc 154) (some (.ifCond .eq 5, 3)) none)))) (cond (Nat.blt pc 162) (cond (Nat.blt pc 158) (cond (Nat.beq pc 157) (some (.iconst 1, 1)) none) (cond (Nat.blt pc 159) (cond (Nat.beq pc 158) (some (.ireturn, 1)) none) (cond (Nat.beq pc 159) (some (.iinc 4 1, 3)) none))) (cond (Nat.blt pc 165) (cond (Nat.beq pc 162) (some (.goto (-159), 3)) none) (cond (Nat.blt pc 166) (cond (Nat.beq pc 165) (some (.iconst 0, 1)) none) (cond (Nat.beq pc 166) (some (.ireturn, 1)) none))))))))
def pI_58 : Nat → Option (Instr × Nat) := fun pc => eB1 pc 151 (cond (Nat.blt pc 69) (cond (Nat.blt pc 31) (cond (Nat.blt pc 14) (cond (Nat.blt pc 5) (cond (Nat.blt pc 3) (cond (Nat.blt pc 1) (cond (Nat.beq pc 0) (some (.iconst 0, 1)) none) (cond (Nat.beq pc 1) (some (.istore 4, 2)) none)) (cond (Nat.blt pc 4) (cond (Nat.beq pc 3) (some (.aload_n 0, 1)) none) (cond (Nat.beq pc 4) (some (.iload_n 1, 1)) none))) (cond (Nat.blt pc 9) (cond (Nat.blt pc 6) (cond (Nat.beq pc 5) (some (.iload_n 2, 1)) none) (cond (Nat.beq pc 6) (some (.invokevirtual 121, 3)) none)) (cond (Nat.blt pc 10) (cond (Nat.beq pc 9) (some (.iconst 0, 1)) none) (cond (Nat.blt pc 12) (cond (Nat.beq pc 10) (some (.istore 5, 2)) none) (cond (Nat.beq pc 12) (some (.iload 5, 2)) none))))) (cond (Nat.blt pc 23) (cond (Nat.blt pc 19) (cond (Nat.blt pc 17) (cond (Nat.beq pc 14) (some (.ifCond .lt 134, 3)) none) (cond (Nat.beq pc 17) (some (.iload 4, 2)) none)) (cond (Nat.blt pc 20) (cond (Nat.beq pc 19) (some (.iload_n 3, 1)) none) (cond (Nat.beq pc 20) (some (.if_icmp .ge 128, 3)) none))) (cond (Nat.blt pc 25) (cond (Nat.blt pc 24) (cond (Nat.beq pc 23) (some (.aload_n 0, 1)) none) (cond (Nat.beq pc 24) (some (.iload_n 1, 1)) none)) (cond (Nat.blt pc 26) (cond (Nat.beq pc 25) (some (.iload_n 2, 1)) none) (cond (Nat.blt pc 28) (cond (Nat.beq pc 26) (some (.iload 5, 2)) none) (cond (Nat.beq pc 28) (some (.invokevirtual 139, 3)) none)))))) (cond (Nat.blt pc 49) (cond (Nat.blt pc 39) (cond (Nat.blt pc 35) (cond (Nat.blt pc 34) (cond (Nat.beq pc 31) (some (.ifCond .ne 7, 3)) none) (cond (Nat.beq pc 34) (some (.iconst 1, 1)) none)) (cond (Nat.blt pc 38) (cond (Nat.beq pc 35) (some (.goto 4, 3)) none) (cond (Nat.beq pc 38) (some (.iconst 0, 1)) none))) (cond (Nat.blt pc 43) (cond (Nat.blt pc 41) (cond (Nat.beq pc 39) (some (.istore 6, 2)) none) (cond (Nat.beq pc 41) (some (.iload 6, 2)) none)) (cond (Nat.blt pc 46) (cond (Nat.beq pc 43) (some (.ifCond .eq 32, 3)) none) (cond (Nat.blt pc 48) (cond (Nat.beq pc 46) (some (.iload 5, 2)) none) (cond (Nat.beq pc 48) (some (.aload_n 0, 1)) none))))) (cond (Nat.blt pc 59) (cond (Nat.blt pc 55) (cond (Nat.blt pc 52) (cond (Nat.beq pc 49) (some (.getfield 77, 3)) none) (cond (Nat.beq pc 52) (some (.if_icmp .ge 23, 3)) none)) (cond (Nat.blt pc 56) (cond (Nat.beq pc 55) (some (.aload_n 0, 1)) none) (cond (Nat.blt pc 58) (cond (Nat.beq pc 56) (some (.iload 5, 2)) none) (cond (Nat.beq pc 58) (some (.aload_n 0, 1)) none)))) (cond (Nat.blt pc 61) (cond (Nat.blt pc 60) (cond (Nat.beq pc 59) (some (.iload_n 1, 1)) none) (cond (Nat.beq pc 60) (some (.iload_n 2, 1)) none)) (cond (Nat.blt pc 63) (cond (Nat.beq pc 61) (some (.iload 5, 2)) none) (cond (Nat.blt pc 66) (cond (Nat.beq pc 63) (some (.invokevirtual 125, 3)) none) (cond (Nat.beq pc 66) (some (.invokevirtual 128, 3)) none))))))) (cond (Nat.blt pc 109) (cond (Nat.blt pc 89) (cond (Nat.blt pc 80) (cond (Nat.blt pc 75) (cond (Nat.blt pc 72) (cond (Nat.beq pc 69) (some (.iinc 5 1, 3)) none) (cond (Nat.beq pc 72) (some (.goto 73, 3)) none)) (cond (Nat.blt pc 77) (cond (Nat.beq pc 75) (some (.iload 6, 2)) none) (cond (Nat.beq pc 77) (some (.ifCond .eq 29, 3)) none))) (cond (Nat.blt pc 84) (cond (Nat.blt pc 81) (cond (Nat.beq pc 80) (some (.aload_n 0, 1)) none) (cond (Nat.beq pc 81) (some (.getfield 43, 3)) none)) (cond (Nat.blt pc 85) (cond (Nat.beq pc 84) (some (.aload_n 0, 1)) none) (cond (Nat.blt pc 88) (cond (Nat.beq pc 85) (some (.getfield 143, 3)) none) (cond (Nat.beq pc 88) (some (.aload_n 0, 1)) none))))) (cond (Nat.blt pc 98) (cond (Nat.blt pc 93) (cond (Nat.blt pc 92) (cond (Nat.beq pc 89) (some (.invokevirtual 131, 3)) none) (cond (Nat.beq pc 92) (some (.iastore, 1)) none)) (cond (Nat.blt pc 94) (cond (Nat.beq pc 93) (some (.aload_n 0, 1)) none) (cond (Nat.blt pc 95) (cond (Nat.beq pc 94) (some (.dup, 1)) none) (cond (Nat.beq pc 95) (some (.getfield 143, 3)) none)))) (cond (Nat.blt pc 100) (cond (Nat.blt pc 99) (cond (Nat.beq pc 98) (some (.iconst 1, 1)) none) (cond (Nat.beq pc 99) (some (.iadd, 1)) none)) (cond (Nat.blt pc 103) (cond (Nat.beq pc 100) (some (.putfield 143, 3)) none) (cond (Nat.blt pc 106) (cond (Nat.beq pc 103) (some (.iinc 4 1, 3)) none) (cond (Nat.beq pc 106) (some (.iinc 5 (-1), 3)) none)))))) (cond (Nat.blt pc 130) (cond (Nat.blt pc 118) (cond (Nat.blt pc 114) (cond (Nat.blt pc 111) (cond (Nat.beq pc 109) (some (.iload 5, 2)) none) (cond (Nat.beq pc 111) (some (.ifCond .lt 19, 3)) none)) (cond (Nat.blt pc 115) (cond (Nat.beq pc 114) (some (.aload_n 0, 1)) none) (cond (Nat.beq pc 115) (some (.getfield 40, 3)) none))) (cond (Nat.blt pc 121) (cond (Nat.blt pc 120) (cond (Nat.beq pc 118) (some (.iload 5, 2)) none) (cond (Nat.beq pc 120) (some (.iaload, 1)) none)) (cond (Nat.blt pc 124) (cond (Nat.beq pc 121) (some (.ifCond .ne 9, 3)) none) (cond (Nat.blt pc 127) (cond (Nat.beq pc 124) (some (.iinc 5 (-1), 3)) none) (cond (Nat.beq pc 127) (some (.goto (-18), 3)) none))))) (cond (Nat.blt pc 139) (cond (Nat.blt pc 135) (cond (Nat.blt pc 132) (cond (Nat.beq pc 130) (some (.iload 5, 2)) none) (cond (Nat.beq pc 132) (some (.ifCond .lt 13, 3)) none)) (cond (Nat.blt pc 136) (cond (Nat.beq pc 135) (some (.aload_n 0, 1)) none) (cond (Nat.blt pc 138) (cond (Nat.beq pc 136) (some (.iload 5, 2)) none) (cond (Nat.beq pc 138) (some (.iconst (-1), 1)) none)))) (cond (Nat.blt pc 145) (cond (Nat.blt pc 142) (cond (Nat.beq pc 139) (some (.invokevirtual 128, 3)) none) (cond (Nat.beq pc 142) (some (.iinc 5 1, 3)) none)) (cond (Nat.blt pc 148) (cond (Nat.beq pc 145) (some (.goto (-133), 3)) none) (cond (Nat.blt pc 150) (cond (Nat.beq pc 148) (some (.iload 4, 2)) none) (cond (Nat.beq pc 150) (some (.ireturn, 1)) none))))))))
def pI_59 : Nat → Option (Instr × Nat) := fun pc => eB1 pc 404 (cond (Nat.blt pc 194) (cond (Nat.blt pc 94) (cond (Nat.blt pc 47) (cond (Nat.blt pc 22) (cond (Nat.blt pc 10) (cond (Nat.blt pc 4) (cond (Nat.blt pc 1) (cond (Nat.beq pc 0) (some (.aload_n 0, 1)) none) (cond (Nat.blt pc 2) (cond (Nat.beq pc 1) (some (.iload_n 1, 1)) none) (cond (Nat.beq pc 2) (some (.bipush 81, 2)) none))) (cond (Nat.blt pc 8) (cond (Nat.blt pc 7) (cond (Nat.beq pc 4) (some (.invokevirtual 146, 3)) none) (cond (Nat.beq pc 7) (some (.iconst 0, 1)) none)) (cond (Nat.blt pc 9) (cond (Nat.beq pc 8) (some (.istore_n 2, 1)) none) (cond (Nat.beq pc 9) (some (.iload_n 2, 1)) none)))) (cond (Nat.blt pc 16) (cond (Nat.blt pc 12) (cond (Nat.beq pc 10) (some (.bipush 6, 2)) none) (cond (Nat.blt pc 15) (cond (Nat.beq pc 12) (some (.if_icmp .ge 140, 3)) none) (cond (Nat.beq pc 15) (some (.iconst 0, 1)) none))) (cond (Nat.blt pc 18) (cond (Nat.blt pc 17) (cond (Nat.beq pc 16) (some (.istore_n 3, 1)) none) (cond (Nat.beq pc 17) (some (.iload_n 3, 1)) none)) (cond (Nat.blt pc 19) (cond (Nat.beq pc 18) (some (.aload_n 0, 1)) none) (cond (Nat.beq pc 19) (some (.getfield 77, 3)) none))))) (cond (Nat.blt pc 35) (cond (Nat.blt pc 29) (cond (Nat.blt pc 25) (cond (Nat.beq pc 22) (some (.if_icmp .ge 124, 3)) none) (cond (Nat.blt pc 26) (cond (Nat.beq pc 25) (some (.aload_n 0, 1)) none) (cond (Nat.beq pc 26) (some (.getfield 55, 3)) none))) (cond (Nat.blt pc 31) (cond (Nat.blt pc 30) (cond (Nat.beq pc 29) (some (.iload_n 2, 1)) none) (cond (Nat.beq pc 30) (some (.iaload, 1)) none)) (cond (Nat.blt pc 32) (cond (Nat.beq pc 31) (some (.iload_n 3, 1)) none) (cond (Nat.beq pc 32) (some (.invokestatic 149, 3)) none)))) (cond (Nat.blt pc 42) (cond (Nat.blt pc 37) (cond (Nat.beq pc 35) (some (.istore 4, 2)) none) (cond (Nat.blt pc 39) (cond (Nat.beq pc 37) (some (.iload 4, 2)) none) (cond (Nat.beq pc 39) (some (.ifCond .le 101, 3)) none))) (cond (Nat.blt pc 45) (cond (Nat.blt pc 43) (cond (Nat.beq pc 42) (some (.aload_n 0, 1)) none) (cond (Nat.beq pc 43) (some (.bipush 81, 2)) none)) (cond (Nat.blt pc 46) (cond (Nat.beq pc 45) (some (.iload_n 2, 1)) none) (cond (Nat.beq pc 46) (some (.aload_n 0, 1)) none)))))) (cond (Nat.blt pc 71) (cond (Nat.blt pc 59) (cond (Nat.blt pc 52) (cond (Nat.blt pc 50) (cond (Nat.beq pc 47) (some (.getfield 13, 3)) none) (cond (Nat.blt pc 51) (cond (Nat.beq pc 50) (some (.iload_n 3, 1)) none) (cond (Nat.beq pc 51) (some (.iaload, 1)) none))) (cond (Nat.blt pc 55) (cond (Nat.blt pc 54) (cond (Nat.beq pc 52) (some (.iload 4, 2)) none) (cond (Nat.beq pc 54) (some (.ineg, 1)) none)) (cond (Nat.blt pc 58) (cond (Nat.beq pc 55) (some (.invokevirtual 99, 3)) none) (cond (Nat.beq pc 58) (some (.aload_n 0, 1)) none)))) (cond (Nat.blt pc 64) (cond (Nat.blt pc 62) (cond (Nat.beq pc 59) (some (.getfield 28, 3)) none) (cond (Nat.blt pc 63) (cond (Nat.beq pc 62) (some (.iload_n 3, 1)) none) (cond (Nat.beq pc 63) (some (.iaload, 1)) none))) (cond (Nat.blt pc 68) (cond (Nat.blt pc 65) (cond (Nat.beq pc 64) (some (.iconst 2, 1)) none) (cond (Nat.beq pc 65) (some (.if_icmp .ge 18, 3)) none)) (cond (Nat.blt pc 69) (cond (Nat.beq pc 68) (some (.aload_n 0, 1)) none) (cond (Nat.beq pc 69) (some (.bipush 81, 2)) none))))) (cond (Nat.blt pc 83) (cond (Nat.blt pc 76) (cond (Nat.blt pc 72) (cond (Nat.beq pc 71) (some (.iload_n 2, 1)) none) (cond (Nat.blt pc 73) (cond (Nat.beq pc 72) (some (.aload_n 0, 1)) none) (cond (Nat.beq pc 73) (some (.getfield 16, 3)) none))) (cond (Nat.blt pc 78) (cond (Nat.blt pc 77) (cond (Nat.beq pc 76) (some (.iload_n 3, 1)) none) (cond (Nat.beq pc 77) (some (.iaload, 1)) none)) (cond (Nat.blt pc 80) (cond (Nat.beq pc 78) (some (.iload 4, 2)) none) (cond (Nat.beq pc 80) (some (.invokevirtual 99, 3)) none)))) (cond (Nat.blt pc 87) (cond (Nat.blt pc 84) (cond (Nat.beq pc 83) (some (.aload_n 0, 1)) none) (cond (Nat.blt pc 86) (cond (Nat.beq pc 84) (some (.bipush 81, 2)) none) (cond (Nat.beq pc 86) (some (.aload_n 0, 1)) none))) (cond (Nat.blt pc 89) (cond (Nat.blt pc 88) (cond (Nat.beq pc 87) (some (.iload_n 1, 1)) none) (cond (Nat.beq pc 88) (some (.iload_n 2, 1)) none)) (cond (Nat.blt pc 91) (cond (Nat.beq pc 89) (some (.bipush 6, 2)) none) (cond (Nat.beq pc 91) (some (.invokevirtual 69, 3)) none))))))) (cond (Nat.blt pc 143) (cond (Nat.blt pc 118) (cond (Nat.blt pc 106) (cond (Nat.blt pc 99) (cond (Nat.blt pc 95) (cond (Nat.beq pc 94) (some (.aload_n 0, 1)) none) (cond (Nat.blt pc 98) (cond (Nat.beq pc 95) (some (.getfield 19, 3)) none) (cond (Nat.beq pc 98) (some (.iload_n 3, 1)) none))) (cond (Nat.blt pc 102) (cond (Nat.blt pc 100) (cond (Nat.beq pc 99) (some (.iaload, 1)) none) (cond (Nat.beq pc 100) (some (.iload 4, 2)) none)) (cond (Nat.blt pc 105) (cond (Nat.beq pc 102) (some (.invokevirtual 99, 3)) none) (cond (Nat.beq pc 105) (some (.aload_n 0, 1)) none)))) (cond (Nat.blt pc 111) (cond (Nat.blt pc 109) (cond (Nat.beq pc 106) (some (.getfield 22, 3)) none) (cond (Nat.blt pc 110) (cond (Nat.beq pc 109) (some (.iload_n 3, 1)) none) (cond (Nat.beq pc 110) (some (.iaload, 1)) none))) (cond (Nat.blt pc 115) (cond (Nat.blt pc 114) (cond (Nat.beq pc 111) (some (.ifCond .le 29, 3)) none) (cond (Nat.beq pc 114) (some (.aload_n 0, 1)) none)) (cond (Nat.blt pc 117) (cond (Nat.beq pc 115) (some (.bipush 81, 2)) none) (cond (Nat.beq pc 117) (some (.aload_n 0, 1)) none))))) (cond (Nat.blt pc 129) (cond (Nat.blt pc 121) (cond (Nat.blt pc 119) (cond (Nat.beq pc 118) (some (.iload_n 1, 1)) none) (cond (Nat.blt pc 120) (cond (Nat.beq pc 119) (some (.iload_n 2, 1)) none) (cond (Nat.beq pc 120) (some (.aload_n 0, 1)) none))) (cond (Nat.blt pc 125) (cond (Nat.blt pc 124) (cond (Nat.beq pc 121) (some (.getfield 25, 3)) none) (cond (Nat.beq pc 124) (some (.iload_n 3, 1)) none)) (cond (Nat.blt pc 126) (cond (Nat.beq pc 125) (some (.iaload, 1)) none) (cond (Nat.beq pc 126) (some (.invokevirtual 109, 3)) none)))) (cond (Nat.blt pc 134) (cond (Nat.blt pc 130) (cond (Nat.beq pc 129) (some (.aload_n 0, 1)) none) (cond (Nat.blt pc 133) (cond (Nat.beq pc 130) (some (.getfield 22, 3)) none) (cond (Nat.beq pc 133) (some (.iload_n 3, 1)) none))) (cond (Nat.blt pc 137) (cond (Nat.blt pc 135) (cond (Nat.beq pc 134) (some (.iaload, 1)) none) (cond (Nat.beq pc 135) (some (.iload 4, 2)) none)) (cond (Nat.blt pc 140) (cond (Nat.beq pc 137) (some (.invokevirtual 99, 3)) none) (cond (Nat.beq pc 140) (some (.iinc 3 1, 3)) none)))))) (cond (Nat.blt pc 170) (cond (Nat.blt pc 157) (cond (Nat.blt pc 152) (cond (Nat.blt pc 146) (cond (Nat.beq pc 143) (some (.goto (-126), 3)) none) (cond (Nat.blt pc 149) (cond (Nat.beq pc 146) (some (.iinc 2 1, 3)) none) (cond (Nat.beq pc 149) (some (.goto (-140), 3)) none))) (cond (Nat.blt pc 154) (cond (Nat.blt pc 153) (cond (Nat.beq pc 152) (some (.iconst 1, 1)) none) (cond (Nat.beq pc 153) (some (.istore_n 2, 1)) none)) (cond (Nat.blt pc 155) (cond (Nat.beq pc 154) (some (.iload_n 2, 1)) none) (cond (Nat.beq pc 155) (some (.bipush 6, 2)) none)))) (cond (Nat.blt pc 162) (cond (Nat.blt pc 160) (cond (Nat.beq pc 157) (some (.if_icmp .ge 127, 3)) none) (cond (Nat.blt pc 161) (cond (Nat.beq pc 160) (some (.iconst 0, 1)) none) (cond (Nat.beq pc 161) (some (.istore_n 3, 1)) none))) (cond (Nat.blt pc 164) (cond (Nat.blt pc 163) (cond (Nat.beq pc 162) (some (.iload_n 3, 1)) none) (cond (Nat.beq pc 163) (some (.aload_n 0, 1)) none)) (cond (Nat.blt pc 167) (cond (Nat.beq pc 164) (some (.getfield 77, 3)) none) (cond (Nat.beq pc 167) (some (.if_icmp .ge 111, 3)) none))))) (cond (Nat.blt pc 181) (cond (Nat.blt pc 175) (cond (Nat.blt pc 171) (cond (Nat.beq pc 170) (some (.aload_n 0, 1)) none) (cond (Nat.blt pc 174) (cond (Nat.beq pc 171) (some (.getfield 28, 3)) none) (cond (Nat.beq pc 174) (some (.iload_n 3, 1)) none))) (cond (Nat.blt pc 177) (cond (Nat.blt pc 176) (cond (Nat.beq pc 175) (some (.iaload, 1)) none) (cond (Nat.beq pc 176) (some (.iconst 2, 1)) none)) (cond (Nat.blt pc 180) (cond (Nat.beq pc 177) (some (.if_icmp .ne 95, 3)) none) (cond (Nat.beq pc 180) (some (.aload_n 0, 1)) none)))) (cond (Nat.blt pc 186) (cond (Nat.blt pc 184) (cond (Nat.beq pc 181) (some (.getfield 55, 3)) none) (cond (Nat.blt pc 185) (cond (Nat.beq pc 184) (some (.iload_n 2, 1)) none) (cond (Nat.beq pc 185) (some (.iaload, 1)) none))) (cond (Nat.blt pc 190) (cond (Nat.blt pc 187) (cond (Nat.beq pc 186) (some (.iload_n 3, 1)) none) (cond (Nat.beq pc 187) (some (.invokestatic 149, 3)) none)) (cond (Nat.blt pc 193) (cond (Nat.beq pc 190) (some (.ifCond .le 82, 3)) none) (cond (Nat.beq pc 193) (some (.aload_n 0, 1)) none)))))))) (cond (Nat.blt pc 299) (cond (Nat.blt pc 248) (cond (Nat.blt pc 221) (cond (Nat.blt pc 208) (cond (Nat.blt pc 201) (cond (Nat.blt pc 196) (cond (Nat.beq pc 194) (some (.bipush 81, 2)) none) (cond (Nat.blt pc 199) (cond (Nat.beq pc 196) (some (.invokevirtual 91, 3)) none) (cond (Nat.beq pc 199) (some (.istore 4, 2)) none))) (cond (Nat.blt pc 206) (cond (Nat.blt pc 203) (cond (Nat.beq pc 201) (some (.iload 4, 2)) none) (cond (Nat.beq pc 203) (some (.ifCond .ge 5, 3)) none)) (cond (Nat.blt pc 207) (cond (Nat.beq pc 206) (some (.iconst 0, 1)) none) (cond (Nat.beq pc 207) (some (.ireturn, 1)) none)))) (cond (Nat.blt pc 213) (cond (Nat.blt pc 209) (cond (Nat.beq pc 208) (some (.iconst 0, 1)) none) (cond (Nat.blt pc 211) (cond (Nat.beq pc 209) (some (.istore 5, 2)) none) (cond (Nat.beq pc 211) (some (.iload 5, 2)) none))) (cond (Nat.blt pc 218) (cond (Nat.blt pc 215) (cond (Nat.beq pc 213) (some (.bipush 7, 2)) none) (cond (Nat.beq pc 215) (some (.if_icmp .ge 28, 3)) none)) (cond (Nat.blt pc 219) (cond (Nat.beq pc 218) (some (.aload_n 0, 1)) none) (cond (Nat.beq pc 219) (some (.bipush 81, 2)) none))))) (cond (Nat.blt pc 234) (cond (Nat.blt pc 226) (cond (Nat.blt pc 223) (cond (Nat.beq pc 221) (some (.iload 4, 2)) none) (cond (Nat.blt pc 225) (cond (Nat.beq pc 223) (some (.iload 5, 2)) none) (cond (Nat.beq pc 225) (some (.aload_n 0, 1)) none))) (cond (Nat.blt pc 229) (cond (Nat.blt pc 228) (cond (Nat.beq pc 226) (some (.bipush 81, 2)) none) (cond (Nat.beq pc 228) (some (.iload_n 2, 1)) none)) (cond (Nat.blt pc 231) (cond (Nat.beq pc 229) (some (.iload 5, 2)) none) (cond (Nat.beq pc 231) (some (.invokevirtual 69, 3)) none)))) (cond (Nat.blt pc 243) (cond (Nat.blt pc 237) (cond (Nat.beq pc 234) (some (.invokevirtual 73, 3)) none) (cond (Nat.blt pc 240) (cond (Nat.beq pc 237) (some (.iinc 5 1, 3)) none) (cond (Nat.beq pc 240) (some (.goto (-29), 3)) none))) (cond (Nat.blt pc 246) (cond (Nat.blt pc 244) (cond (Nat.beq pc 243) (some (.aload_n 0, 1)) none) (cond (Nat.beq pc 244) (some (.bipush 81, 2)) none)) (cond (Nat.blt pc 247) (cond (Nat.beq pc 246) (some (.iload_n 2, 1)) none) (cond (Nat.beq pc 247) (some (.aload_n 0, 1)) none)))))) (cond (Nat.blt pc 272) (cond (Nat.blt pc 260) (cond (Nat.blt pc 253) (cond (Nat.blt pc 251) (cond (Nat.beq pc 248) (some (.getfield 16, 3)) none) (cond (Nat.blt pc 252) (cond (Nat.beq pc 251) (some (.iload_n 3, 1)) none) (cond (Nat.beq pc 252) (some (.iaload, 1)) none))) (cond (Nat.blt pc 257) (cond (Nat.blt pc 254) (cond (Nat.beq pc 253) (some (.iconst 1, 1)) none) (cond (Nat.beq pc 254) (some (.invokevirtual 99, 3)) none)) (cond (Nat.blt pc 258) (cond (Nat.beq pc 257) (some (.aload_n 0, 1)) none) (cond (Nat.beq pc 258) (some (.bipush 81, 2)) none)))) (cond (Nat.blt pc 266) (cond (Nat.blt pc 262) (cond (Nat.beq pc 260) (some (.iload 4, 2)) none) (cond (Nat.blt pc 263) (cond (Nat.beq pc 262) (some (.aload_n 0, 1)) none) (cond (Nat.beq pc 263) (some (.getfield 31, 3)) none))) (cond (Nat.blt pc 268) (cond (Nat.blt pc 267) (cond (Nat.beq pc 266) (some (.iload_n 3, 1)) none) (cond (Nat.beq pc 267) (some (.iaload, 1)) none)) (cond (Nat.blt pc 269) (cond (Nat.beq pc 268) (some (.iconst 1, 1)) none) (cond (Nat.beq pc 269) (some (.invokevirtual 99, 3)) none))))) (cond (Nat.blt pc 287) (cond (Nat.blt pc 281) (cond (Nat.blt pc 275) (cond (Nat.beq pc 272) (some (.iinc 3 1, 3)) none) (cond (Nat.blt pc 278) (cond (Nat.beq pc 275) (some (.goto (-113), 3)) none) (cond (Nat.beq pc 278) (some (.iinc 2 1, 3)) none))) (cond (Nat.blt pc 285) (cond (Nat.blt pc 284) (cond (Nat.beq pc 281) (some (.goto (-127), 3)) none) (cond (Nat.beq pc 284) (some (.iconst 1, 1)) none)) (cond (Nat.blt pc 286) (cond (Nat.beq pc 285) (some (.istore_n 2, 1)) none) (cond (Nat.beq pc 286) (some (.iload_n 2, 1)) none)))) (cond (Nat.blt pc 293) (cond (Nat.blt pc 289) (cond (Nat.beq pc 287) (some (.bipush 6, 2)) none) (cond (Nat.blt pc 292) (cond (Nat.beq pc 289) (some (.if_icmp .ge 53, 3)) none) (cond (Nat.beq pc 292) (some (.iconst 0, 1)) none))) (cond (Nat.blt pc 295) (cond (Nat.blt pc 294) (cond (Nat.beq pc 293) (some (.istore_n 3, 1)) none) (cond (Nat.beq pc 294) (some (.iload_n 3, 1)) none)) (cond (Nat.blt pc 296) (cond (Nat.beq pc 295) (some (.aload_n 0, 1)) none) (cond (Nat.beq pc 296) (some (.getfield 77, 3)) none))))))) (cond (Nat.blt pc 353) (cond (Nat.blt pc 325) (cond (Nat.blt pc 312) (cond (Nat.blt pc 306) (cond (Nat.blt pc 302) (cond (Nat.beq pc 299) (some (.if_icmp .ge 37, 3)) none) (cond (Nat.blt pc 303) (cond (Nat.beq pc 302) (some (.aload_n 0, 1)) none) (cond (Nat.beq pc 303) (some (.getfield 28, 3)) none))) (cond (Nat.blt pc 308) (cond (Nat.blt pc 307) (cond (Nat.beq pc 306) (some (.iload_n 3, 1)) none) (cond (Nat.beq pc 307) (some (.iaload, 1)) none)) (cond (Nat.blt pc 309) (cond (Nat.beq pc 308) (some (.iconst 1, 1)) none) (cond (Nat.beq pc 309) (some (.if_icmp .ne 21, 3)) none)))) (cond (Nat.blt pc 317) (cond (Nat.blt pc 313) (cond (Nat.beq pc 312) (some (.aload_n 0, 1)) none) (cond (Nat.blt pc 316) (cond (Nat.beq pc 313) (some (.getfield 55, 3)) none) (cond (Nat.beq pc 316) (some (.iload_n 2, 1)) none))) (cond (Nat.blt pc 319) (cond (Nat.blt pc 318) (cond (Nat.beq pc 317) (some (.iaload, 1)) none) (cond (Nat.beq pc 318) (some (.iload_n 3, 1)) none)) (cond (Nat.blt pc 322) (cond (Nat.beq pc 319) (some (.invokestatic 149, 3)) none) (cond (Nat.beq pc 322) (some (.ifCond .le 8, 3)) none))))) (cond (Nat.blt pc 342) (cond (Nat.blt pc 330) (cond (Nat.blt pc 326) (cond (Nat.beq pc 325) (some (.aload_n 0, 1)) none) (cond (Nat.blt pc 327) (cond (Nat.beq pc 326) (some (.iload_n 2, 1)) none) (cond (Nat.beq pc 327) (some (.invokevirtual 152, 3)) none))) (cond (Nat.blt pc 336) (cond (Nat.blt pc 333) (cond (Nat.beq pc 330) (some (.iinc 3 1, 3)) none) (cond (Nat.beq pc 333) (some (.goto (-39), 3)) none)) (cond (Nat.blt pc 339) (cond (Nat.beq pc 336) (some (.iinc 2 1, 3)) none) (cond (Nat.beq pc 339) (some (.goto (-53), 3)) none)))) (cond (Nat.blt pc 345) (cond (Nat.blt pc 343) (cond (Nat.beq pc 342) (some (.iconst 0, 1)) none) (cond (Nat.blt pc 344) (cond (Nat.beq pc 343) (some (.istore_n 2, 1)) none) (cond (Nat.beq pc 344) (some (.iload_n 2, 1)) none))) (cond (Nat.blt pc 349) (cond (Nat.blt pc 346) (cond (Nat.beq pc 345) (some (.iconst 5, 1)) none) (cond (Nat.beq pc 346) (some (.if_icmp .ge 56, 3)) none)) (cond (Nat.blt pc 350) (cond (Nat.beq pc 349) (some (.aload_n 0, 1)) none) (cond (Nat.beq pc 350) (some (.getfield 34, 3)) none)))))) (cond (Nat.blt pc 376) (cond (Nat.blt pc 366) (cond (Nat.blt pc 358) (cond (Nat.blt pc 356) (cond (Nat.beq pc 353) (some (.sipush 3849, 3)) none) (cond (Nat.blt pc 357) (cond (Nat.beq pc 356) (some (.iload_n 2, 1)) none) (cond (Nat.beq pc 357) (some (.iadd, 1)) none))) (cond (Nat.blt pc 362) (cond (Nat.blt pc 359) (cond (Nat.beq pc 358) (some (.iaload, 1)) none) (cond (Nat.beq pc 359) (some (.sipush 999, 3)) none)) (cond (Nat.blt pc 365) (cond (Nat.beq pc 362) (some (.if_icmp .le 5, 3)) none) (cond (Nat.beq pc 365) (some (.iconst 0, 1)) none)))) (cond (Nat.blt pc 369) (cond (Nat.blt pc 367) (cond (Nat.beq pc 366) (some (.ireturn, 1)) none) (cond (Nat.blt pc 368) (cond (Nat.beq pc 367) (some (.iconst 0, 1)) none) (cond (Nat.beq pc 368) (some (.istore_n 3, 1)) none))) (cond (Nat.blt pc 372) (cond (Nat.blt pc 370) (cond (Nat.beq pc 369) (some (.iload_n 3, 1)) none) (cond (Nat.beq pc 370) (some (.bipush 6, 2)) none)) (cond (Nat.blt pc 375) (cond (Nat.beq pc 372) (some (.if_icmp .ge 24, 3)) none) (cond (Nat.beq pc 375) (some (.aload_n 0, 1)) none))))) (cond (Nat.blt pc 389) (cond (Nat.blt pc 380) (cond (Nat.blt pc 378) (cond (Nat.beq pc 376) (some (.bipush 81, 2)) none) (cond (Nat.blt pc 379) (cond (Nat.beq pc 378) (some (.iload_n 3, 1)) none) (cond (Nat.beq pc 379) (some (.iload_n 2, 1)) none))) (cond (Nat.blt pc 385) (cond (Nat.blt pc 383) (cond (Nat.beq pc 380) (some (.invokevirtual 69, 3)) none) (cond (Nat.beq pc 383) (some (.bipush 12, 2)) none)) (cond (Nat.blt pc 388) (cond (Nat.beq pc 385) (some (.if_icmp .le 5, 3)) none) (cond (Nat.beq pc 388) (some (.iconst 0, 1)) none)))) (cond (Nat.blt pc 396) (cond (Nat.blt pc 390) (cond (Nat.beq pc 389) (some (.ireturn, 1)) none) (cond (Nat.blt pc 393) (cond (Nat.beq pc 390) (some (.iinc 3 1, 3)) none) (cond (Nat.beq pc 393) (some (.goto (-24), 3)) none))) (cond (Nat.blt pc 402) (cond (Nat.blt pc 399) (cond (Nat.beq pc 396) (some (.iinc 2 1, 3)) none) (cond (Nat.beq pc 399) (some (.goto (-55), 3)) none)) (cond (Nat.blt pc 403) (cond (Nat.beq pc 402) (some (.iconst 1, 1)) none) (cond (Nat.beq pc 403) (some (.ireturn, 1)) none)))))))))
def pI_60 : Nat → Option (Instr × Nat) := fun pc => eB1 pc 124 (cond (Nat.blt pc 58) (cond (Nat.blt pc 26) (cond (Nat.blt pc 13) (cond (Nat.blt pc 6) (cond (Nat.blt pc 3) (cond (Nat.blt pc 1) (cond (Nat.beq pc 0) (some (.aload_n 0, 1)) none) (cond (Nat.beq pc 1) (some (.bipush 81, 2)) none)) (cond (Nat.blt pc 4) (cond (Nat.beq pc 3) (some (.iload_n 1, 1)) none) (cond (Nat.beq pc 4) (some (.bipush 6, 2)) none))) (cond (Nat.blt pc 10) (cond (Nat.blt pc 9) (cond (Nat.beq pc 6) (some (.invokevirtual 69, 3)) none) (cond (Nat.beq pc 9) (some (.istore_n 2, 1)) none)) (cond (Nat.blt pc 11) (cond (Nat.beq pc 10) (some (.iconst 0, 1)) none) (cond (Nat.blt pc 12) (cond (Nat.beq pc 11) (some (.istore_n 3, 1)) none) (cond (Nat.beq pc 12) (some (.iload_n 3, 1)) none))))) (cond (Nat.blt pc 20) (cond (Nat.blt pc 17) (cond (Nat.blt pc 14) (cond (Nat.beq pc 13) (some (.iconst 5, 1)) none) (cond (Nat.beq pc 14) (some (.if_icmp .ge 43, 3)) none)) (cond (Nat.blt pc 18) (cond (Nat.beq pc 17) (some (.aload_n 0, 1)) none) (cond (Nat.beq pc 18) (some (.bipush 81, 2)) none))) (cond (Nat.blt pc 22) (cond (Nat.blt pc 21) (cond (Nat.beq pc 20) (some (.iload_n 2, 1)) none) (cond (Nat.beq pc 21) (some (.iload_n 3, 1)) none)) (cond (Nat.blt pc 23) (cond (Nat.beq pc 22) (some (.aload_n 0, 1)) none) (cond (Nat.blt pc 25) (cond (Nat.beq pc 23) (some (.bipush 81, 2)) none) (cond (Nat.beq pc 25) (some (.iload_n 2, 1)) none)))))) (cond (Nat.blt pc 42) (cond (Nat.blt pc 33) (cond (Nat.blt pc 30) (cond (Nat.blt pc 27) (cond (Nat.beq pc 26) (some (.iload_n 3, 1)) none) (cond (Nat.beq pc 27) (some (.invokevirtual 69, 3)) none)) (cond (Nat.blt pc 31) (cond (Nat.beq pc 30) (some (.aload_n 0, 1)) none) (cond (Nat.beq pc 31) (some (.bipush 81, 2)) none))) (cond (Nat.blt pc 35) (cond (Nat.blt pc 34) (cond (Nat.beq pc 33) (some (.iload_n 1, 1)) none) (cond (Nat.beq pc 34) (some (.iload_n 3, 1)) none)) (cond (Nat.blt pc 38) (cond (Nat.beq pc 35) (some (.invokevirtual 69, 3)) none) (cond (Nat.blt pc 39) (cond (Nat.beq pc 38) (some (.iadd, 1)) none) (cond (Nat.beq pc 39) (some (.invokevirtual 73, 3)) none))))) (cond (Nat.blt pc 47) (cond (Nat.blt pc 45) (cond (Nat.blt pc 43) (cond (Nat.beq pc 42) (some (.aload_n 0, 1)) none) (cond (Nat.beq pc 43) (some (.bipush 81, 2)) none)) (cond (Nat.blt pc 46) (cond (Nat.beq pc 45) (some (.iload_n 1, 1)) none) (cond (Nat.beq pc 46) (some (.iload_n 3, 1)) none))) (cond (Nat.blt pc 51) (cond (Nat.blt pc 48) (cond (Nat.beq pc 47) (some (.iconst 0, 1)) none) (cond (Nat.beq pc 48) (some (.invokevirtual 73, 3)) none)) (cond (Nat.blt pc 54) (cond (Nat.beq pc 51) (some (.iinc 3 1, 3)) none) (cond (Nat.blt pc 57) (cond (Nat.beq pc 54) (some (.goto (-42), 3)) none) (cond (Nat.beq pc 57) (some (.iconst 1, 1)) none))))))) (cond (Nat.blt pc 91) (cond (Nat.blt pc 75) (cond (Nat.blt pc 65) (cond (Nat.blt pc 60) (cond (Nat.blt pc 59) (cond (Nat.beq pc 58) (some (.istore_n 3, 1)) none) (cond (Nat.beq pc 59) (some (.iload_n 3, 1)) none)) (cond (Nat.blt pc 62) (cond (Nat.beq pc 60) (some (.bipush 6, 2)) none) (cond (Nat.beq pc 62) (some (.if_icmp .ge 42, 3)) none))) (cond (Nat.blt pc 68) (cond (Nat.blt pc 66) (cond (Nat.beq pc 65) (some (.aload_n 0, 1)) none) (cond (Nat.beq pc 66) (some (.bipush 81, 2)) none)) (cond (Nat.blt pc 69) (cond (Nat.beq pc 68) (some (.iload_n 3, 1)) none) (cond (Nat.blt pc 72) (cond (Nat.beq pc 69) (some (.invokevirtual 87, 3)) none) (cond (Nat.beq pc 72) (some (.ifCond .eq 26, 3)) none))))) (cond (Nat.blt pc 81) (cond (Nat.blt pc 78) (cond (Nat.blt pc 76) (cond (Nat.beq pc 75) (some (.aload_n 0, 1)) none) (cond (Nat.beq pc 76) (some (.bipush 81, 2)) none)) (cond (Nat.blt pc 79) (cond (Nat.beq pc 78) (some (.iload_n 3, 1)) none) (cond (Nat.beq pc 79) (some (.bipush 6, 2)) none))) (cond (Nat.blt pc 85) (cond (Nat.blt pc 84) (cond (Nat.beq pc 81) (some (.invokevirtual 69, 3)) none) (cond (Nat.beq pc 84) (some (.iload_n 1, 1)) none)) (cond (Nat.blt pc 88) (cond (Nat.beq pc 85) (some (.if_icmp .ne 13, 3)) none) (cond (Nat.blt pc 89) (cond (Nat.beq pc 88) (some (.aload_n 0, 1)) none) (cond (Nat.beq pc 89) (some (.bipush 81, 2)) none)))))) (cond (Nat.blt pc 108) (cond (Nat.blt pc 98) (cond (Nat.blt pc 94) (cond (Nat.blt pc 92) (cond (Nat.beq pc 91) (some (.iload_n 3, 1)) none) (cond (Nat.beq pc 92) (some (.bipush 6, 2)) none)) (cond (Nat.blt pc 95) (cond (Nat.beq pc 94) (some (.iload_n 2, 1)) none) (cond (Nat.beq pc 95) (some (.invokevirtual 73, 3)) none))) (cond (Nat.blt pc 104) (cond (Nat.blt pc 101) (cond (Nat.beq pc 98) (some (.iinc 3 1, 3)) none) (cond (Nat.beq pc 101) (some (.goto (-42), 3)) none)) (cond (Nat.blt pc 105) (cond (Nat.beq pc 104) (some (.aload_n 0, 1)) none) (cond (Nat.blt pc 107) (cond (Nat.beq pc 105) (some (.bipush 81, 2)) none) (cond (Nat.beq pc 107) (some (.iload_n 1, 1)) none))))) (cond (Nat.blt pc 116) (cond (Nat.blt pc 110) (cond (Nat.blt pc 109) (cond (Nat.beq pc 108) (some (.iconst 5, 1)) none) (cond (Nat.beq pc 109) (some (.iconst (-1), 1)) none)) (cond (Nat.blt pc 113) (cond (Nat.beq pc 110) (some (.invokevirtual 73, 3)) none) (cond (Nat.blt pc 114) (cond (Nat.beq pc 113) (some (.aload_n 0, 1)) none) (cond (Nat.beq pc 114) (some (.bipush 81, 2)) none)))) (cond (Nat.blt pc 119) (cond (Nat.blt pc 117) (cond (Nat.beq pc 116) (some (.iload_n 1, 1)) none) (cond (Nat.beq pc 117) (some (.bipush 6, 2)) none)) (cond (Nat.blt pc 120) (cond (Nat.beq pc 119) (some (.iconst 0, 1)) none) (cond (Nat.blt pc 123) (cond (Nat.beq pc 120) (some (.invokevirtual 73, 3)) none) (cond (Nat.beq pc 123) (some (.return_, 1)) none))))))))
def pI_61 : Nat → Option (Instr × Nat) := fun pc => eB1 pc 99 (cond (Nat.blt pc 44) (cond (Nat.blt pc 21) (cond (Nat.blt pc 9) (cond (Nat.blt pc 5) (cond (Nat.blt pc 1) (cond (Nat.beq pc 0) (some (.aload_n 0, 1)) none) (cond (Nat.blt pc 2) (cond (Nat.beq pc 1) (some (.iconst 0, 1)) none) (cond (Nat.beq pc 2) (some (.putfield 65, 3)) none))) (cond (Nat.blt pc 7) (cond (Nat.blt pc 6) (cond (Nat.beq pc 5) (some (.iconst 0, 1)) none) (cond (Nat.beq pc 6) (some (.istore_n 1, 1)) none)) (cond (Nat.blt pc 8) (cond (Nat.beq pc 7) (some (.iconst 0, 1)) none) (cond (Nat.beq pc 8) (some (.istore_n 2, 1)) none)))) (cond (Nat.blt pc 15) (cond (Nat.blt pc 10) (cond (Nat.beq pc 9) (some (.iload_n 2, 1)) none) (cond (Nat.blt pc 12) (cond (Nat.beq pc 10) (some (.bipush 6, 2)) none) (cond (Nat.beq pc 12) (some (.if_icmp .ge 63, 3)) none))) (cond (Nat.blt pc 19) (cond (Nat.blt pc 16) (cond (Nat.beq pc 15) (some (.aload_n 0, 1)) none) (cond (Nat.beq pc 16) (some (.getfield 55, 3)) none)) (cond (Nat.blt pc 20) (cond (Nat.beq pc 19) (some (.iload_n 2, 1)) none) (cond (Nat.beq pc 20) (some (.aload_n 0, 1)) none))))) (cond (Nat.blt pc 32) (cond (Nat.blt pc 26) (cond (Nat.blt pc 22) (cond (Nat.beq pc 21) (some (.iconst 0, 1)) none) (cond (Nat.blt pc 23) (cond (Nat.beq pc 22) (some (.iload_n 2, 1)) none) (cond (Nat.beq pc 23) (some (.invokevirtual 87, 3)) none))) (cond (Nat.blt pc 30) (cond (Nat.blt pc 29) (cond (Nat.beq pc 26) (some (.ifCond .eq 12, 3)) none) (cond (Nat.beq pc 29) (some (.aload_n 0, 1)) none)) (cond (Nat.blt pc 31) (cond (Nat.beq pc 30) (some (.iconst 0, 1)) none) (cond (Nat.beq pc 31) (some (.iload_n 2, 1)) none)))) (cond (Nat.blt pc 40) (cond (Nat.blt pc 38) (cond (Nat.blt pc 35) (cond (Nat.beq pc 32) (some (.invokevirtual 155, 3)) none) (cond (Nat.beq pc 35) (some (.goto 4, 3)) none)) (cond (Nat.blt pc 39) (cond (Nat.beq pc 38) (some (.iconst 0, 1)) none) (cond (Nat.beq pc 39) (some (.iastore, 1)) none))) (cond (Nat.blt pc 42) (cond (Nat.blt pc 41) (cond (Nat.beq pc 40) (some (.iconst 0, 1)) none) (cond (Nat.beq pc 41) (some (.istore_n 3, 1)) none)) (cond (Nat.blt pc 43) (cond (Nat.beq pc 42) (some (.iload_n 3, 1)) none) (cond (Nat.beq pc 43) (some (.aload_n 0, 1)) none)))))) (cond (Nat.blt pc 75) (cond (Nat.blt pc 57) (cond (Nat.blt pc 51) (cond (Nat.blt pc 47) (cond (Nat.beq pc 44) (some (.getfield 77, 3)) none) (cond (Nat.blt pc 50) (cond (Nat.beq pc 47) (some (.if_icmp .ge 22, 3)) none) (cond (Nat.beq pc 50) (some (.iload_n 1, 1)) none))) (cond (Nat.blt pc 55) (cond (Nat.blt pc 52) (cond (Nat.beq pc 51) (some (.aload_n 0, 1)) none) (cond (Nat.beq pc 52) (some (.getfield 55, 3)) none)) (cond (Nat.blt pc 56) (cond (Nat.beq pc 55) (some (.iload_n 2, 1)) none) (cond (Nat.beq pc 56) (some (.iaload, 1)) none)))) (cond (Nat.blt pc 63) (cond (Nat.blt pc 61) (cond (Nat.blt pc 58) (cond (Nat.beq pc 57) (some (.iload_n 3, 1)) none) (cond (Nat.beq pc 58) (some (.invokestatic 149, 3)) none)) (cond (Nat.blt pc 62) (cond (Nat.beq pc 61) (some (.iadd, 1)) none) (cond (Nat.beq pc 62) (some (.istore_n 1, 1)) none))) (cond (Nat.blt pc 69) (cond (Nat.blt pc 66) (cond (Nat.beq pc 63) (some (.iinc 3 1, 3)) none) (cond (Nat.beq pc 66) (some (.goto (-24), 3)) none)) (cond (Nat.blt pc 72) (cond (Nat.beq pc 69) (some (.iinc 2 1, 3)) none) (cond (Nat.beq pc 72) (some (.goto (-63), 3)) none))))) (cond (Nat.blt pc 88) (cond (Nat.blt pc 80) (cond (Nat.blt pc 76) (cond (Nat.beq pc 75) (some (.aload_n 0, 1)) none) (cond (Nat.blt pc 77) (cond (Nat.beq pc 76) (some (.iconst 0, 1)) none) (cond (Nat.beq pc 77) (some (.invokevirtual 158, 3)) none))) (cond (Nat.blt pc 84) (cond (Nat.blt pc 83) (cond (Nat.beq pc 80) (some (.ifCond .ne 10, 3)) none) (cond (Nat.beq pc 83) (some (.aload_n 0, 1)) none)) (cond (Nat.blt pc 85) (cond (Nat.beq pc 84) (some (.iconst 1, 1)) none) (cond (Nat.beq pc 85) (some (.putfield 65, 3)) none)))) (cond (Nat.blt pc 93) (cond (Nat.blt pc 90) (cond (Nat.blt pc 89) (cond (Nat.beq pc 88) (some (.iconst 0, 1)) none) (cond (Nat.beq pc 89) (some (.ireturn, 1)) none)) (cond (Nat.blt pc 91) (cond (Nat.beq pc 90) (some (.aload_n 0, 1)) none) (cond (Nat.beq pc 91) (some (.bipush 81, 2)) none))) (cond (Nat.blt pc 97) (cond (Nat.blt pc 94) (cond (Nat.beq pc 93) (some (.iconst 0, 1)) none) (cond (Nat.beq pc 94) (some (.invokevirtual 146, 3)) none)) (cond (Nat.blt pc 98) (cond (Nat.beq pc 97) (some (.iload_n 1, 1)) none) (cond (Nat.beq pc 98) (some (.ireturn, 1)) none)))))))
def pI_62 : Nat → Option (Instr × Nat) := fun pc => eB1 pc 48 (cond (Nat.blt pc 23) (cond (Nat.blt pc 10) (cond (Nat.blt pc 3) (cond (Nat.blt pc 1) (cond (Nat.beq pc 0) (some (.aload_n 0, 1)) none) (cond (Nat.blt pc 2) (cond (Nat.beq pc 1) (some (.aload_n 0, 1)) none) (cond (Nat.beq pc 2) (some (.iconst 0, 1)) none))) (cond (Nat.blt pc 4) (cond (Nat.beq pc 3) (some (.iload_n 1, 1)) none) (cond (Nat.blt pc 7) (cond (Nat.beq pc 4) (some (.invokevirtual 87, 3)) none) (cond (Nat.beq pc 7) (some (.ifCond .eq 11, 3)) none)))) (cond (Nat.blt pc 15) (cond (Nat.blt pc 11) (cond (Nat.beq pc 10) (some (.aload_n 0, 1)) none) (cond (Nat.blt pc 12) (cond (Nat.beq pc 11) (some (.iload_n 2, 1)) none) (cond (Nat.beq pc 12) (some (.invokevirtual 102, 3)) none))) (cond (Nat.blt pc 19) (cond (Nat.blt pc 18) (cond (Nat.beq pc 15) (some (.ifCond .eq 7, 3)) none) (cond (Nat.beq pc 18) (some (.iconst 1, 1)) none)) (cond (Nat.blt pc 22) (cond (Nat.beq pc 19) (some (.goto 4, 3)) none) (cond (Nat.beq pc 22) (some (.iconst 0, 1)) none))))) (cond (Nat.blt pc 37) (cond (Nat.blt pc 30) (cond (Nat.blt pc 26) (cond (Nat.beq pc 23) (some (.putfield 65, 3)) none) (cond (Nat.blt pc 27) (cond (Nat.beq pc 26) (some (.aload_n 0, 1)) none) (cond (Nat.beq pc 27) (some (.getfield 65, 3)) none))) (cond (Nat.blt pc 33) (cond (Nat.beq pc 30) (some (.ifCond .le 7, 3)) none) (cond (Nat.blt pc 34) (cond (Nat.beq pc 33) (some (.iconst 0, 1)) none) (cond (Nat.beq pc 34) (some (.goto 13, 3)) none)))) (cond (Nat.blt pc 40) (cond (Nat.blt pc 38) (cond (Nat.beq pc 37) (some (.aload_n 0, 1)) none) (cond (Nat.blt pc 39) (cond (Nat.beq pc 38) (some (.iconst 0, 1)) none) (cond (Nat.beq pc 39) (some (.iload_n 1, 1)) none))) (cond (Nat.blt pc 44) (cond (Nat.blt pc 43) (cond (Nat.beq pc 40) (some (.invokevirtual 155, 3)) none) (cond (Nat.beq pc 43) (some (.iload_n 2, 1)) none)) (cond (Nat.blt pc 47) (cond (Nat.beq pc 44) (some (.invokestatic 149, 3)) none) (cond (Nat.beq pc 47) (some (.ireturn, 1)) none))))))
def pI_63 : Nat → Option (Instr × Nat) := fun pc => eB1 pc 42 (cond (Nat.blt pc 22) (cond (Nat.blt pc 10) (cond (Nat.blt pc 3) (cond (Nat.blt pc 1) (cond (Nat.beq pc 0) (some (.aload_n 0, 1)) none) (cond (Nat.blt pc 2) (cond (Nat.beq pc 1) (some (.aload_n 0, 1)) none) (cond (Nat.beq pc 2) (some (.iconst 0, 1)) none))) (cond (Nat.blt pc 4) (cond (Nat.beq pc 3) (some (.iload_n 1, 1)) none) (cond (Nat.blt pc 7) (cond (Nat.beq pc 4) (some (.invokevirtual 87, 3)) none) (cond (Nat.beq pc 7) (some (.ifCond .eq 7, 3)) none)))) (cond (Nat.blt pc 15) (cond (Nat.blt pc 11) (cond (Nat.beq pc 10) (some (.iconst 0, 1)) none) (cond (Nat.blt pc 14) (cond (Nat.beq pc 11) (some (.goto 4, 3)) none) (cond (Nat.beq pc 14) (some (.iconst 1, 1)) none))) (cond (Nat.blt pc 18) (cond (Nat.beq pc 15) (some (.putfield 65, 3)) none) (cond (Nat.blt pc 19) (cond (Nat.beq pc 18) (some (.aload_n 0, 1)) none) (cond (Nat.beq pc 19) (some (.getfield 65, 3)) none))))) (cond (Nat.blt pc 32) (cond (Nat.blt pc 27) (cond (Nat.blt pc 25) (cond (Nat.beq pc 22) (some (.ifCond .le 5, 3)) none) (cond (Nat.blt pc 26) (cond (Nat.beq pc 25) (some (.iconst 0, 1)) none) (cond (Nat.beq pc 26) (some (.ireturn, 1)) none))) (cond (Nat.blt pc 28) (cond (Nat.beq pc 27) (some (.aload_n 0, 1)) none) (cond (Nat.blt pc 29) (cond (Nat.beq pc 28) (some (.iconst 0, 1)) none) (cond (Nat.beq pc 29) (some (.putfield 143, 3)) none)))) (cond (Nat.blt pc 35) (cond (Nat.blt pc 33) (cond (Nat.beq pc 32) (some (.aload_n 0, 1)) none) (cond (Nat.blt pc 34) (cond (Nat.beq pc 33) (some (.iconst 0, 1)) none) (cond (Nat.beq pc 34) (some (.iload_n 1, 1)) none))) (cond (Nat.blt pc 38) (cond (Nat.beq pc 35) (some (.sipush 1000, 3)) none) (cond (Nat.blt pc 41) (cond (Nat.beq pc 38) (some (.invokevirtual 161, 3)) none) (cond (Nat.beq pc 41) (some (.ireturn, 1)) none))))))
def pI_64 : Nat → Option (Instr × Nat) := fun pc => eB1 pc 64 (cond (Nat.blt pc 33) (cond (Nat.blt pc 15) (cond (Nat.blt pc 4) (cond (Nat.blt pc 2) (cond (Nat.blt pc 1) (cond (Nat.beq pc 0) (some (.aload_n 0, 1)) none) (cond (Nat.beq pc 1) (some (.aload_n 0, 1)) none)) (cond (Nat.blt pc 3) (cond (Nat.beq pc 2) (some (.iconst 0, 1)) none) (cond (Nat.beq pc 3) (some (.iload_n 1, 1)) none))) (cond (Nat.blt pc 10) (cond (Nat.blt pc 7) (cond (Nat.beq pc 4) (some (.invokevirtual 87, 3)) none) (cond (Nat.beq pc 7) (some (.ifCond .ne 7, 3)) none)) (cond (Nat.blt pc 11) (cond (Nat.beq pc 10) (some (.iconst 1, 1)) none) (cond (Nat.blt pc 14) (cond (Nat.beq pc 11) (some (.goto 18, 3)) none) (cond (Nat.beq pc 14) (some (.iload_n 2, 1)) none))))) (cond (Nat.blt pc 24) (cond (Nat.blt pc 19) (cond (Nat.blt pc 18) (cond (Nat.beq pc 15) (some (.ifCond .lt 9, 3)) none) (cond (Nat.beq pc 18) (some (.iload_n 2, 1)) none)) (cond (Nat.blt pc 21) (cond (Nat.beq pc 19) (some (.bipush 7, 2)) none) (cond (Nat.beq pc 21) (some (.if_icmp .le 7, 3)) none))) (cond (Nat.blt pc 28) (cond (Nat.blt pc 25) (cond (Nat.beq pc 24) (some (.iconst 2, 1)) none) (cond (Nat.beq pc 25) (some (.goto 4, 3)) none)) (cond (Nat.blt pc 29) (cond (Nat.beq pc 28) (some (.iconst 0, 1)) none) (cond (Nat.blt pc 32) (cond (Nat.beq pc 29) (some (.putfield 65, 3)) none) (cond (Nat.beq pc 32) (some (.aload_n 0, 1)) none)))))) (cond (Nat.blt pc 49) (cond (Nat.blt pc 41) (cond (Nat.blt pc 39) (cond (Nat.blt pc 36) (cond (Nat.beq pc 33) (some (.getfield 65, 3)) none) (cond (Nat.beq pc 36) (some (.ifCond .le 5, 3)) none)) (cond (Nat.blt pc 40) (cond (Nat.beq pc 39) (some (.iconst 0, 1)) none) (cond (Nat.beq pc 40) (some (.ireturn, 1)) none))) (cond (Nat.blt pc 44) (cond (Nat.blt pc 42) (cond (Nat.beq pc 41) (some (.iload_n 2, 1)) none) (cond (Nat.beq pc 42) (some (.bipush 7, 2)) none)) (cond (Nat.blt pc 47) (cond (Nat.beq pc 44) (some (.if_icmp .ne 12, 3)) none) (cond (Nat.blt pc 48) (cond (Nat.beq pc 47) (some (.aload_n 0, 1)) none) (cond (Nat.beq pc 48) (some (.iconst 0, 1)) none))))) (cond (Nat.blt pc 57) (cond (Nat.blt pc 53) (cond (Nat.blt pc 50) (cond (Nat.beq pc 49) (some (.iload_n 1, 1)) none) (cond (Nat.beq pc 50) (some (.invokevirtual 112, 3)) none)) (cond (Nat.blt pc 56) (cond (Nat.beq pc 53) (some (.goto 10, 3)) none) (cond (Nat.beq pc 56) (some (.aload_n 0, 1)) none))) (cond (Nat.blt pc 59) (cond (Nat.blt pc 58) (cond (Nat.beq pc 57) (some (.iconst 0, 1)) none) (cond (Nat.beq pc 58) (some (.iload_n 1, 1)) none)) (cond (Nat.blt pc 60) (cond (Nat.beq pc 59) (some (.iload_n 2, 1)) none) (cond (Nat.blt pc 63) (cond (Nat.beq pc 60) (some (.invokevirtual 69, 3)) none) (cond (Nat.beq pc 63) (some (.ireturn, 1)) none)))))))
def pI_65 : Nat → Option (Instr × Nat) := fun pc => eB1 pc 12 (cond (Nat.blt pc 6) (cond (Nat.blt pc 2) (cond (Nat.blt pc 1) (cond (Nat.beq pc 0) (some (.aload_n 0, 1)) none) (cond (Nat.beq pc 1) (some (.iconst 0, 1)) none)) (cond (Nat.blt pc 5) (cond (Nat.beq pc 2) (some (.putfield 65, 3)) none) (cond (Nat.beq pc 5) (some (.aload_n 0, 1)) none))) (cond (Nat.blt pc 8) (cond (Nat.blt pc 7) (cond (Nat.beq pc 6) (some (.iconst 0, 1)) none) (cond (Nat.beq pc 7) (some (.iload_n 1, 1)) none)) (cond (Nat.blt pc 11) (cond (Nat.beq pc 8) (some (.invokevirtual 87, 3)) none) (cond (Nat.beq pc 11) (some (.ireturn, 1)) none))))
def pI_66 : Nat → Option (Instr × Nat) := fun pc => eB1 pc 39 (cond (Nat.blt pc 19) (cond (Nat.blt pc 7) (cond (Nat.blt pc 2) (cond (Nat.blt pc 1) (cond (Nat.beq pc 0) (some (.aload_n 0, 1)) none) (cond (Nat.beq pc 1) (some (.iload_n 1, 1)) none)) (cond (Nat.blt pc 5) (cond (Nat.beq pc 2) (some (.ifCond .lt 8, 3)) none) (cond (Nat.blt pc 6) (cond (Nat.beq pc 5) (some (.iload_n 1, 1)) none) (cond (Nat.beq pc 6) (some (.iconst 4, 1)) none)))) (cond (Nat.blt pc 14) (cond (Nat.blt pc 10) (cond (Nat.beq pc 7) (some (.if_icmp .le 7, 3)) none) (cond (Nat.blt pc 11) (cond (Nat.beq pc 10) (some (.iconst 1, 1)) none) (cond (Nat.beq pc 11) (some (.goto 4, 3)) none))) (cond (Nat.blt pc 15) (cond (Nat.beq pc 14) (some (.iconst 0, 1)) none) (cond (Nat.blt pc 18) (cond (Nat.beq pc 15) (some (.putfield 65, 3)) none) (cond (Nat.beq pc 18) (some (.aload_n 0, 1)) none))))) (cond (Nat.blt pc 30) (cond (Nat.blt pc 25) (cond (Nat.blt pc 22) (cond (Nat.beq pc 19) (some (.getfield 65, 3)) none) (cond (Nat.beq pc 22) (some (.ifCond .le 7, 3)) none)) (cond (Nat.blt pc 26) (cond (Nat.beq pc 25) (some (.iconst 0, 1)) none) (cond (Nat.blt pc 29) (cond (Nat.beq pc 26) (some (.goto 12, 3)) none) (cond (Nat.beq pc 29) (some (.aload_n 0, 1)) none)))) (cond (Nat.blt pc 36) (cond (Nat.blt pc 33) (cond (Nat.beq pc 30) (some (.getfield 34, 3)) none) (cond (Nat.blt pc 35) (cond (Nat.beq pc 33) (some (.bipush 42, 2)) none) (cond (Nat.beq pc 35) (some (.iload_n 1, 1)) none))) (cond (Nat.blt pc 37) (cond (Nat.beq pc 36) (some (.iadd, 1)) none) (cond (Nat.blt pc 38) (cond (Nat.beq pc 37) (some (.iaload, 1)) none) (cond (Nat.beq pc 38) (some (.ireturn, 1)) none))))))
def pI_67 : Nat → Option (Instr × Nat) := fun pc => eB1 pc 67 (cond (Nat.blt pc 35) (cond (Nat.blt pc 14) (cond (Nat.blt pc 4) (cond (Nat.blt pc 2) (cond (Nat.blt pc 1) (cond (Nat.beq pc 0) (some (.iconst 0, 1)) none) (cond (Nat.beq pc 1) (some (.istore_n 1, 1)) none)) (cond (Nat.blt pc 3) (cond (Nat.beq pc 2) (some (.iload_n 1, 1)) none) (cond (Nat.beq pc 3) (some (.aload_n 0, 1)) none))) (cond (Nat.blt pc 10) (cond (Nat.blt pc 7) (cond (Nat.beq pc 4) (some (.getfield 164, 3)) none) (cond (Nat.beq pc 7) (some (.if_icmp .ge 24, 3)) none)) (cond (Nat.blt pc 11) (cond (Nat.beq pc 10) (some (.aload_n 0, 1)) none) (cond (Nat.blt pc 13) (cond (Nat.beq pc 11) (some (.bipush 41, 2)) none) (cond (Nat.beq pc 13) (some (.iload_n 1, 1)) none))))) (cond (Nat.blt pc 24) (cond (Nat.blt pc 17) (cond (Nat.blt pc 15) (cond (Nat.beq pc 14) (some (.iadd, 1)) none) (cond (Nat.beq pc 15) (some (.bipush 81, 2)) none)) (cond (Nat.blt pc 20) (cond (Nat.beq pc 17) (some (.invokevirtual 167, 3)) none) (cond (Nat.blt pc 23) (cond (Nat.beq pc 20) (some (.ifCond .eq 5, 3)) none) (cond (Nat.beq pc 23) (some (.iconst 1, 1)) none)))) (cond (Nat.blt pc 28) (cond (Nat.blt pc 25) (cond (Nat.beq pc 24) (some (.ireturn, 1)) none) (cond (Nat.beq pc 25) (some (.iinc 1 1, 3)) none)) (cond (Nat.blt pc 31) (cond (Nat.beq pc 28) (some (.goto (-26), 3)) none) (cond (Nat.blt pc 32) (cond (Nat.beq pc 31) (some (.aload_n 0, 1)) none) (cond (Nat.beq pc 32) (some (.getfield 164, 3)) none)))))) (cond (Nat.blt pc 51) (cond (Nat.blt pc 42) (cond (Nat.blt pc 40) (cond (Nat.blt pc 37) (cond (Nat.beq pc 35) (some (.bipush 40, 2)) none) (cond (Nat.beq pc 37) (some (.if_icmp .ne 5, 3)) none)) (cond (Nat.blt pc 41) (cond (Nat.beq pc 40) (some (.iconst 0, 1)) none) (cond (Nat.beq pc 41) (some (.ireturn, 1)) none))) (cond (Nat.blt pc 45) (cond (Nat.blt pc 43) (cond (Nat.beq pc 42) (some (.aload_n 0, 1)) none) (cond (Nat.beq pc 43) (some (.bipush 81, 2)) none)) (cond (Nat.blt pc 47) (cond (Nat.beq pc 45) (some (.bipush 41, 2)) none) (cond (Nat.blt pc 48) (cond (Nat.beq pc 47) (some (.aload_n 0, 1)) none) (cond (Nat.beq pc 48) (some (.getfield 164, 3)) none))))) (cond (Nat.blt pc 60) (cond (Nat.blt pc 55) (cond (Nat.blt pc 52) (cond (Nat.beq pc 51) (some (.iadd, 1)) none) (cond (Nat.beq pc 52) (some (.invokevirtual 146, 3)) none)) (cond (Nat.blt pc 56) (cond (Nat.beq pc 55) (some (.aload_n 0, 1)) none) (cond (Nat.blt pc 57) (cond (Nat.beq pc 56) (some (.dup, 1)) none) (cond (Nat.beq pc 57) (some (.getfield 164, 3)) none)))) (cond (Nat.blt pc 62) (cond (Nat.blt pc 61) (cond (Nat.beq pc 60) (some (.iconst 1, 1)) none) (cond (Nat.beq pc 61) (some (.iadd, 1)) none)) (cond (Nat.blt pc 65) (cond (Nat.beq pc 62) (some (.putfield 164, 3)) none) (cond (Nat.blt pc 66) (cond (Nat.beq pc 65) (some (.iconst 1, 1)) none) (cond (Nat.beq pc 66) (some (.ireturn, 1)) none)))))))
def pI_68 : Nat → Option (Instr × Nat) := fun pc => eB1 pc 247 (cond (Nat.blt pc 117) (cond (Nat.blt pc 55) (cond (Nat.blt pc 27) (cond (Nat.blt pc 12) (cond (Nat.blt pc 6) (cond (Nat.blt pc 2) (cond (Nat.blt pc 1) (cond (Nat.beq pc 0) (some (.aload_n 0, 1)) none) (cond (Nat.beq pc 1) (some (.iconst 0, 1)) none)) (cond (Nat.blt pc 5) (cond (Nat.beq pc 2) (some (.putfield 143, 3)) none) (cond (Nat.beq pc 5) (some (.iconst 1, 1)) none))) (cond (Nat.blt pc 8) (cond (Nat.blt pc 7) (cond (Nat.beq pc 6) (some (.istore_n 2, 1)) none) (cond (Nat.beq pc 7) (some (.iconst 0, 1)) none)) (cond (Nat.blt pc 9) (cond (Nat.beq pc 8) (some (.istore_n 3, 1)) none) (cond (Nat.blt pc 10) (cond (Nat.beq pc 9) (some (.iload_n 3, 1)) none) (cond (Nat.beq pc 10) (some (.bipush 6, 2)) none))))) (cond (Nat.blt pc 20) (cond (Nat.blt pc 16) (cond (Nat.blt pc 15) (cond (Nat.beq pc 12) (some (.if_icmp .ge 83, 3)) none) (cond (Nat.beq pc 15) (some (.aload_n 0, 1)) none)) (cond (Nat.blt pc 19) (cond (Nat.beq pc 16) (some (.getfield 52, 3)) none) (cond (Nat.beq pc 19) (some (.iload_n 3, 1)) none))) (cond (Nat.blt pc 22) (cond (Nat.blt pc 21) (cond (Nat.beq pc 20) (some (.iconst 0, 1)) none) (cond (Nat.beq pc 21) (some (.iastore, 1)) none)) (cond (Nat.blt pc 23) (cond (Nat.beq pc 22) (some (.aload_n 0, 1)) none) (cond (Nat.blt pc 26) (cond (Nat.beq pc 23) (some (.getfield 46, 3)) none) (cond (Nat.beq pc 26) (some (.iload_n 3, 1)) none)))))) (cond (Nat.blt pc 40) (cond (Nat.blt pc 33) (cond (Nat.blt pc 31) (cond (Nat.blt pc 28) (cond (Nat.beq pc 27) (some (.aload_n 0, 1)) none) (cond (Nat.beq pc 28) (some (.getfield 143, 3)) none)) (cond (Nat.blt pc 32) (cond (Nat.beq pc 31) (some (.iastore, 1)) none) (cond (Nat.beq pc 32) (some (.aload_n 0, 1)) none))) (cond (Nat.blt pc 37) (cond (Nat.blt pc 36) (cond (Nat.beq pc 33) (some (.getfield 49, 3)) none) (cond (Nat.beq pc 36) (some (.iload_n 3, 1)) none)) (cond (Nat.blt pc 38) (cond (Nat.beq pc 37) (some (.iconst 1, 1)) none) (cond (Nat.blt pc 39) (cond (Nat.beq pc 38) (some (.iastore, 1)) none) (cond (Nat.beq pc 39) (some (.aload_n 0, 1)) none))))) (cond (Nat.blt pc 48) (cond (Nat.blt pc 42) (cond (Nat.blt pc 41) (cond (Nat.beq pc 40) (some (.iload_n 1, 1)) none) (cond (Nat.beq pc 41) (some (.iload_n 3, 1)) none)) (cond (Nat.blt pc 45) (cond (Nat.beq pc 42) (some (.invokevirtual 87, 3)) none) (cond (Nat.beq pc 45) (some (.ifCond .eq 44, 3)) none))) (cond (Nat.blt pc 52) (cond (Nat.blt pc 51) (cond (Nat.beq pc 48) (some (.sipush 1000, 3)) none) (cond (Nat.beq pc 51) (some (.iload_n 2, 1)) none)) (cond (Nat.blt pc 53) (cond (Nat.beq pc 52) (some (.idiv, 1)) none) (cond (Nat.blt pc 54) (cond (Nat.beq pc 53) (some (.iconst 1, 1)) none) (cond (Nat.beq pc 54) (some (.iadd, 1)) none))))))) (cond (Nat.blt pc 81) (cond (Nat.blt pc 70) (cond (Nat.blt pc 62) (cond (Nat.blt pc 58) (cond (Nat.blt pc 57) (cond (Nat.beq pc 55) (some (.istore 4, 2)) none) (cond (Nat.beq pc 57) (some (.aload_n 0, 1)) none)) (cond (Nat.blt pc 61) (cond (Nat.beq pc 58) (some (.getfield 49, 3)) none) (cond (Nat.beq pc 61) (some (.iload_n 3, 1)) none))) (cond (Nat.blt pc 64) (cond (Nat.blt pc 63) (cond (Nat.beq pc 62) (some (.aload_n 0, 1)) none) (cond (Nat.beq pc 63) (some (.iload_n 1, 1)) none)) (cond (Nat.blt pc 65) (cond (Nat.beq pc 64) (some (.iload_n 3, 1)) none) (cond (Nat.blt pc 67) (cond (Nat.beq pc 65) (some (.iload 4, 2)) none) (cond (Nat.beq pc 67) (some (.invokevirtual 161, 3)) none))))) (cond (Nat.blt pc 76) (cond (Nat.blt pc 72) (cond (Nat.blt pc 71) (cond (Nat.beq pc 70) (some (.iastore, 1)) none) (cond (Nat.beq pc 71) (some (.iload_n 2, 1)) none)) (cond (Nat.blt pc 73) (cond (Nat.beq pc 72) (some (.aload_n 0, 1)) none) (cond (Nat.beq pc 73) (some (.getfield 49, 3)) none))) (cond (Nat.blt pc 78) (cond (Nat.blt pc 77) (cond (Nat.beq pc 76) (some (.iload_n 3, 1)) none) (cond (Nat.beq pc 77) (some (.iaload, 1)) none)) (cond (Nat.blt pc 79) (cond (Nat.beq pc 78) (some (.imul, 1)) none) (cond (Nat.blt pc 80) (cond (Nat.beq pc 79) (some (.istore_n 2, 1)) none) (cond (Nat.beq pc 80) (some (.iload_n 2, 1)) none)))))) (cond (Nat.blt pc 98) (cond (Nat.blt pc 89) (cond (Nat.blt pc 87) (cond (Nat.blt pc 84) (cond (Nat.beq pc 81) (some (.sipush 1000, 3)) none) (cond (Nat.beq pc 84) (some (.if_icmp .le 5, 3)) none)) (cond (Nat.blt pc 88) (cond (Nat.beq pc 87) (some (.iconst 0, 1)) none) (cond (Nat.beq pc 88) (some (.ireturn, 1)) none))) (cond (Nat.blt pc 95) (cond (Nat.blt pc 92) (cond (Nat.beq pc 89) (some (.iinc 3 1, 3)) none) (cond (Nat.beq pc 92) (some (.goto (-83), 3)) none)) (cond (Nat.blt pc 96) (cond (Nat.beq pc 95) (some (.iconst 1, 1)) none) (cond (Nat.blt pc 97) (cond (Nat.beq pc 96) (some (.istore_n 3, 1)) none) (cond (Nat.beq pc 97) (some (.iload_n 3, 1)) none))))) (cond (Nat.blt pc 106) (cond (Nat.blt pc 102) (cond (Nat.blt pc 101) (cond (Nat.beq pc 98) (some (.ifCond .eq 147, 3)) none) (cond (Nat.beq pc 101) (some (.iconst 0, 1)) none)) (cond (Nat.blt pc 104) (cond (Nat.beq pc 102) (some (.istore 4, 2)) none) (cond (Nat.beq pc 104) (some (.iload 4, 2)) none))) (cond (Nat.blt pc 111) (cond (Nat.blt pc 108) (cond (Nat.beq pc 106) (some (.bipush 6, 2)) none) (cond (Nat.beq pc 108) (some (.if_icmp .ge 50, 3)) none)) (cond (Nat.blt pc 112) (cond (Nat.beq pc 111) (some (.aload_n 0, 1)) none) (cond (Nat.blt pc 115) (cond (Nat.beq pc 112) (some (.getfield 55, 3)) none) (cond (Nat.beq pc 115) (some (.iload 4, 2)) none)))))))) (cond (Nat.blt pc 184) (cond (Nat.blt pc 150) (cond (Nat.blt pc 135) (cond (Nat.blt pc 124) (cond (Nat.blt pc 119) (cond (Nat.blt pc 118) (cond (Nat.beq pc 117) (some (.aload_n 0, 1)) none) (cond (Nat.beq pc 118) (some (.iload_n 1, 1)) none)) (cond (Nat.blt pc 121) (cond (Nat.beq pc 119) (some (.iload 4, 2)) none) (cond (Nat.beq pc 121) (some (.invokevirtual 87, 3)) none))) (cond (Nat.blt pc 128) (cond (Nat.blt pc 127) (cond (Nat.beq pc 124) (some (.ifCond .eq 26, 3)) none) (cond (Nat.beq pc 127) (some (.aload_n 0, 1)) none)) (cond (Nat.blt pc 131) (cond (Nat.beq pc 128) (some (.getfield 43, 3)) none) (cond (Nat.blt pc 132) (cond (Nat.beq pc 131) (some (.aload_n 0, 1)) none) (cond (Nat.beq pc 132) (some (.getfield 46, 3)) none))))) (cond (Nat.blt pc 142) (cond (Nat.blt pc 138) (cond (Nat.blt pc 137) (cond (Nat.beq pc 135) (some (.iload 4, 2)) none) (cond (Nat.beq pc 137) (some (.iaload, 1)) none)) (cond (Nat.blt pc 139) (cond (Nat.beq pc 138) (some (.aload_n 0, 1)) none) (cond (Nat.beq pc 139) (some (.getfield 52, 3)) none))) (cond (Nat.blt pc 145) (cond (Nat.blt pc 144) (cond (Nat.beq pc 142) (some (.iload 4, 2)) none) (cond (Nat.beq pc 144) (some (.iaload, 1)) none)) (cond (Nat.blt pc 146) (cond (Nat.beq pc 145) (some (.iadd, 1)) none) (cond (Nat.blt pc 147) (cond (Nat.beq pc 146) (some (.iaload, 1)) none) (cond (Nat.beq pc 147) (some (.goto 4, 3)) none)))))) (cond (Nat.blt pc 167) (cond (Nat.blt pc 158) (cond (Nat.blt pc 152) (cond (Nat.blt pc 151) (cond (Nat.beq pc 150) (some (.iconst 0, 1)) none) (cond (Nat.beq pc 151) (some (.iastore, 1)) none)) (cond (Nat.blt pc 155) (cond (Nat.beq pc 152) (some (.iinc 4 1, 3)) none) (cond (Nat.beq pc 155) (some (.goto (-51), 3)) none))) (cond (Nat.blt pc 160) (cond (Nat.blt pc 159) (cond (Nat.beq pc 158) (some (.aload_n 0, 1)) none) (cond (Nat.beq pc 159) (some (.iload_n 1, 1)) none)) (cond (Nat.blt pc 163) (cond (Nat.beq pc 160) (some (.invokevirtual 158, 3)) none) (cond (Nat.blt pc 166) (cond (Nat.beq pc 163) (some (.ifCond .eq 12, 3)) none) (cond (Nat.beq pc 166) (some (.aload_n 0, 1)) none))))) (cond (Nat.blt pc 175) (cond (Nat.blt pc 173) (cond (Nat.blt pc 170) (cond (Nat.beq pc 167) (some (.invokevirtual 170, 3)) none) (cond (Nat.beq pc 170) (some (.ifCond .ne 5, 3)) none)) (cond (Nat.blt pc 174) (cond (Nat.beq pc 173) (some (.iconst 0, 1)) none) (cond (Nat.beq pc 174) (some (.ireturn, 1)) none))) (cond (Nat.blt pc 178) (cond (Nat.blt pc 176) (cond (Nat.beq pc 175) (some (.iconst 5, 1)) none) (cond (Nat.beq pc 176) (some (.istore 4, 2)) none)) (cond (Nat.blt pc 180) (cond (Nat.beq pc 178) (some (.iload 4, 2)) none) (cond (Nat.blt pc 183) (cond (Nat.beq pc 180) (some (.ifCond .lt 36, 3)) none) (cond (Nat.beq pc 183) (some (.aload_n 0, 1)) none))))))) (cond (Nat.blt pc 218) (cond (Nat.blt pc 199) (cond (Nat.blt pc 191) (cond (Nat.blt pc 189) (cond (Nat.blt pc 187) (cond (Nat.beq pc 184) (some (.getfield 52, 3)) none) (cond (Nat.beq pc 187) (some (.iload 4, 2)) none)) (cond (Nat.blt pc 190) (cond (Nat.beq pc 189) (some (.iaload, 1)) none) (cond (Nat.beq pc 190) (some (.aload_n 0, 1)) none))) (cond (Nat.blt pc 196) (cond (Nat.blt pc 194) (cond (Nat.beq pc 191) (some (.getfield 49, 3)) none) (cond (Nat.beq pc 194) (some (.iload 4, 2)) none)) (cond (Nat.blt pc 197) (cond (Nat.beq pc 196) (some (.iaload, 1)) none) (cond (Nat.blt pc 198) (cond (Nat.beq pc 197) (some (.iconst 1, 1)) none) (cond (Nat.beq pc 198) (some (.isub, 1)) none))))) (cond (Nat.blt pc 208) (cond (Nat.blt pc 203) (cond (Nat.blt pc 202) (cond (Nat.beq pc 199) (some (.if_icmp .ne 17, 3)) none) (cond (Nat.beq pc 202) (some (.aload_n 0, 1)) none)) (cond (Nat.blt pc 206) (cond (Nat.beq pc 203) (some (.getfield 52, 3)) none) (cond (Nat.beq pc 206) (some (.iload 4, 2)) none))) (cond (Nat.blt pc 210) (cond (Nat.blt pc 209) (cond (Nat.beq pc 208) (some (.iconst 0, 1)) none) (cond (Nat.beq pc 209) (some (.iastore, 1)) none)) (cond (Nat.blt pc 213) (cond (Nat.beq pc 210) (some (.iinc 4 (-1), 3)) none) (cond (Nat.blt pc 216) (cond (Nat.beq pc 213) (some (.goto (-35), 3)) none) (cond (Nat.beq pc 216) (some (.iload 4, 2)) none)))))) (cond (Nat.blt pc 235) (cond (Nat.blt pc 226) (cond (Nat.blt pc 222) (cond (Nat.blt pc 221) (cond (Nat.beq pc 218) (some (.ifCond .lt 7, 3)) none) (cond (Nat.beq pc 221) (some (.iconst 1, 1)) none)) (cond (Nat.blt pc 225) (cond (Nat.beq pc 222) (some (.goto 4, 3)) none) (cond (Nat.beq pc 225) (some (.iconst 0, 1)) none))) (cond (Nat.blt pc 228) (cond (Nat.blt pc 227) (cond (Nat.beq pc 226) (some (.istore_n 3, 1)) none) (cond (Nat.beq pc 227) (some (.iload_n 3, 1)) none)) (cond (Nat.blt pc 231) (cond (Nat.beq pc 228) (some (.ifCond .eq 14, 3)) none) (cond (Nat.blt pc 232) (cond (Nat.beq pc 231) (some (.aload_n 0, 1)) none) (cond (Nat.beq pc 232) (some (.getfield 52, 3)) none))))) (cond (Nat.blt pc 240) (cond (Nat.blt pc 238) (cond (Nat.blt pc 237) (cond (Nat.beq pc 235) (some (.iload 4, 2)) none) (cond (Nat.beq pc 237) (some (.dup2, 1)) none)) (cond (Nat.blt pc 239) (cond (Nat.beq pc 238) (some (.iaload, 1)) none) (cond (Nat.beq pc 239) (some (.iconst 1, 1)) none))) (cond (Nat.blt pc 242) (cond (Nat.blt pc 241) (cond (Nat.beq pc 240) (some (.iadd, 1)) none) (cond (Nat.beq pc 241) (some (.iastore, 1)) none)) (cond (Nat.blt pc 245) (cond (Nat.beq pc 242) (some (.goto (-145), 3)) none) (cond (Nat.blt pc 246) (cond (Nat.beq pc 245) (some (.iconst 1, 1)) none) (cond (Nat.beq pc 246) (some (.ireturn, 1)) none)))))))))
def pI_69 : Nat → Option (Instr × Nat) := fun pc => eB1 pc 130 (cond (Nat.blt pc 61) (cond (Nat.blt pc 32) (cond (Nat.blt pc 15) (cond (Nat.blt pc 6) (cond (Nat.blt pc 2) (cond (Nat.blt pc 1) (cond (Nat.beq pc 0) (some (.aload_n 0, 1)) none) (cond (Nat.beq pc 1) (some (.iload_n 1, 1)) none)) (cond (Nat.blt pc 5) (cond (Nat.beq pc 2) (some (.ifCond .lt 8, 3)) none) (cond (Nat.beq pc 5) (some (.iload_n 1, 1)) none))) (cond (Nat.blt pc 10) (cond (Nat.blt pc 7) (cond (Nat.beq pc 6) (some (.iconst 3, 1)) none) (cond (Nat.beq pc 7) (some (.if_icmp .le 7, 3)) none)) (cond (Nat.blt pc 11) (cond (Nat.beq pc 10) (some (.iconst 1, 1)) none) (cond (Nat.blt pc 14) (cond (Nat.beq pc 11) (some (.goto 4, 3)) none) (cond (Nat.beq pc 14) (some (.iconst 0, 1)) none))))) (cond (Nat.blt pc 25) (cond (Nat.blt pc 19) (cond (Nat.blt pc 18) (cond (Nat.beq pc 15) (some (.putfield 65, 3)) none) (cond (Nat.beq pc 18) (some (.aload_n 0, 1)) none)) (cond (Nat.blt pc 22) (cond (Nat.beq pc 19) (some (.getfield 65, 3)) none) (cond (Nat.beq pc 22) (some (.ifCond .le 5, 3)) none))) (cond (Nat.blt pc 27) (cond (Nat.blt pc 26) (cond (Nat.beq pc 25) (some (.iconst 0, 1)) none) (cond (Nat.beq pc 26) (some (.ireturn, 1)) none)) (cond (Nat.blt pc 28) (cond (Nat.beq pc 27) (some (.aload_n 0, 1)) none) (cond (Nat.blt pc 29) (cond (Nat.beq pc 28) (some (.iconst 1, 1)) none) (cond (Nat.beq pc 29) (some (.putfield 80, 3)) none)))))) (cond (Nat.blt pc 45) (cond (Nat.blt pc 38) (cond (Nat.blt pc 34) (cond (Nat.blt pc 33) (cond (Nat.beq pc 32) (some (.aload_n 0, 1)) none) (cond (Nat.beq pc 33) (some (.iconst 0, 1)) none)) (cond (Nat.blt pc 35) (cond (Nat.beq pc 34) (some (.iconst 1, 1)) none) (cond (Nat.beq pc 35) (some (.invokevirtual 146, 3)) none))) (cond (Nat.blt pc 40) (cond (Nat.blt pc 39) (cond (Nat.beq pc 38) (some (.iconst 0, 1)) none) (cond (Nat.beq pc 39) (some (.istore_n 2, 1)) none)) (cond (Nat.blt pc 41) (cond (Nat.beq pc 40) (some (.iload_n 2, 1)) none) (cond (Nat.blt pc 42) (cond (Nat.beq pc 41) (some (.iload_n 1, 1)) none) (cond (Nat.beq pc 42) (some (.if_icmp .ge 83, 3)) none))))) (cond (Nat.blt pc 52) (cond (Nat.blt pc 47) (cond (Nat.blt pc 46) (cond (Nat.beq pc 45) (some (.aload_n 0, 1)) none) (cond (Nat.beq pc 46) (some (.iconst 0, 1)) none)) (cond (Nat.blt pc 50) (cond (Nat.beq pc 47) (some (.putfield 164, 3)) none) (cond (Nat.blt pc 51) (cond (Nat.beq pc 50) (some (.iconst 0, 1)) none) (cond (Nat.beq pc 51) (some (.istore_n 3, 1)) none)))) (cond (Nat.blt pc 54) (cond (Nat.blt pc 53) (cond (Nat.beq pc 52) (some (.iload_n 3, 1)) none) (cond (Nat.beq pc 53) (some (.aload_n 0, 1)) none)) (cond (Nat.blt pc 57) (cond (Nat.beq pc 54) (some (.getfield 80, 3)) none) (cond (Nat.blt pc 60) (cond (Nat.beq pc 57) (some (.if_icmp .ge 27, 3)) none) (cond (Nat.beq pc 60) (some (.aload_n 0, 1)) none))))))) (cond (Nat.blt pc 94) (cond (Nat.blt pc 77) (cond (Nat.blt pc 67) (cond (Nat.blt pc 63) (cond (Nat.blt pc 62) (cond (Nat.beq pc 61) (some (.iconst 1, 1)) none) (cond (Nat.beq pc 62) (some (.iload_n 3, 1)) none)) (cond (Nat.blt pc 64) (cond (Nat.beq pc 63) (some (.iadd, 1)) none) (cond (Nat.beq pc 64) (some (.invokevirtual 174, 3)) none))) (cond (Nat.blt pc 71) (cond (Nat.blt pc 70) (cond (Nat.beq pc 67) (some (.ifCond .ne 11, 3)) none) (cond (Nat.beq pc 70) (some (.aload_n 0, 1)) none)) (cond (Nat.blt pc 72) (cond (Nat.beq pc 71) (some (.iconst 0, 1)) none) (cond (Nat.blt pc 75) (cond (Nat.beq pc 72) (some (.putfield 80, 3)) none) (cond (Nat.beq pc 75) (some (.bipush (-2), 2)) none))))) (cond (Nat.blt pc 85) (cond (Nat.blt pc 81) (cond (Nat.blt pc 78) (cond (Nat.beq pc 77) (some (.ireturn, 1)) none) (cond (Nat.beq pc 78) (some (.iinc 3 1, 3)) none)) (cond (Nat.blt pc 84) (cond (Nat.beq pc 81) (some (.goto (-29), 3)) none) (cond (Nat.beq pc 84) (some (.aload_n 0, 1)) none))) (cond (Nat.blt pc 89) (cond (Nat.blt pc 86) (cond (Nat.beq pc 85) (some (.aload_n 0, 1)) none) (cond (Nat.beq pc 86) (some (.getfield 164, 3)) none)) (cond (Nat.blt pc 92) (cond (Nat.beq pc 89) (some (.putfield 80, 3)) none) (cond (Nat.blt pc 93) (cond (Nat.beq pc 92) (some (.iconst 0, 1)) none) (cond (Nat.beq pc 93) (some (.istore_n 3, 1)) none)))))) (cond (Nat.blt pc 108) (cond (Nat.blt pc 102) (cond (Nat.blt pc 96) (cond (Nat.blt pc 95) (cond (Nat.beq pc 94) (some (.iload_n 3, 1)) none) (cond (Nat.beq pc 95) (some (.aload_n 0, 1)) none)) (cond (Nat.blt pc 99) (cond (Nat.beq pc 96) (some (.getfield 80, 3)) none) (cond (Nat.beq pc 99) (some (.if_icmp .ge 20, 3)) none))) (cond (Nat.blt pc 105) (cond (Nat.blt pc 103) (cond (Nat.beq pc 102) (some (.aload_n 0, 1)) none) (cond (Nat.beq pc 103) (some (.bipush 41, 2)) none)) (cond (Nat.blt pc 106) (cond (Nat.beq pc 105) (some (.iload_n 3, 1)) none) (cond (Nat.blt pc 107) (cond (Nat.beq pc 106) (some (.iadd, 1)) none) (cond (Nat.beq pc 107) (some (.iconst 1, 1)) none))))) (cond (Nat.blt pc 119) (cond (Nat.blt pc 110) (cond (Nat.blt pc 109) (cond (Nat.beq pc 108) (some (.iload_n 3, 1)) none) (cond (Nat.beq pc 109) (some (.iadd, 1)) none)) (cond (Nat.blt pc 113) (cond (Nat.beq pc 110) (some (.invokevirtual 146, 3)) none) (cond (Nat.blt pc 116) (cond (Nat.beq pc 113) (some (.iinc 3 1, 3)) none) (cond (Nat.beq pc 116) (some (.goto (-22), 3)) none)))) (cond (Nat.blt pc 125) (cond (Nat.blt pc 122) (cond (Nat.beq pc 119) (some (.iinc 2 1, 3)) none) (cond (Nat.beq pc 122) (some (.goto (-82), 3)) none)) (cond (Nat.blt pc 126) (cond (Nat.beq pc 125) (some (.aload_n 0, 1)) none) (cond (Nat.blt pc 129) (cond (Nat.beq pc 126) (some (.getfield 80, 3)) none) (cond (Nat.beq pc 129) (some (.ireturn, 1)) none))))))))
def pI_70 : Nat → Option (Instr × Nat) := fun pc => eB1 pc 100 (cond (Nat.blt pc 55) (cond (Nat.blt pc 27) (cond (Nat.blt pc 13) (cond (Nat.blt pc 5) (cond (Nat.blt pc 1) (cond (Nat.beq pc 0) (some (.aload_n 0, 1)) none) (cond (Nat.blt pc 2) (cond (Nat.beq pc 1) (some (.iload_n 1, 1)) none) (cond (Nat.beq pc 2) (some (.ifCond .lt 20, 3)) none))) (cond (Nat.blt pc 7) (cond (Nat.blt pc 6) (cond (Nat.beq pc 5) (some (.iload_n 1, 1)) none) (cond (Nat.beq pc 6) (some (.aload_n 0, 1)) none)) (cond (Nat.blt pc 10) (cond (Nat.beq pc 7) (some (.getfield 80, 3)) none) (cond (Nat.beq pc 10) (some (.if_icmp .ge 12, 3)) none)))) (cond (Nat.blt pc 19) (cond (Nat.blt pc 17) (cond (Nat.blt pc 14) (cond (Nat.beq pc 13) (some (.iload_n 2, 1)) none) (cond (Nat.beq pc 14) (some (.ifCond .lt 8, 3)) none)) (cond (Nat.blt pc 18) (cond (Nat.beq pc 17) (some (.iload_n 2, 1)) none) (cond (Nat.beq pc 18) (some (.iconst 5, 1)) none))) (cond (Nat.blt pc 23) (cond (Nat.blt pc 22) (cond (Nat.beq pc 19) (some (.if_icmp .le 7, 3)) none) (cond (Nat.beq pc 22) (some (.iconst 1, 1)) none)) (cond (Nat.blt pc 26) (cond (Nat.beq pc 23) (some (.goto 18, 3)) none) (cond (Nat.beq pc 26) (some (.iload_n 3, 1)) none))))) (cond (Nat.blt pc 41) (cond (Nat.blt pc 33) (cond (Nat.blt pc 30) (cond (Nat.beq pc 27) (some (.ifCond .lt 9, 3)) none) (cond (Nat.blt pc 31) (cond (Nat.beq pc 30) (some (.iload_n 3, 1)) none) (cond (Nat.beq pc 31) (some (.bipush 10, 2)) none))) (cond (Nat.blt pc 37) (cond (Nat.blt pc 36) (cond (Nat.beq pc 33) (some (.if_icmp .le 7, 3)) none) (cond (Nat.beq pc 36) (some (.iconst 2, 1)) none)) (cond (Nat.blt pc 40) (cond (Nat.beq pc 37) (some (.goto 4, 3)) none) (cond (Nat.beq pc 40) (some (.iconst 0, 1)) none)))) (cond (Nat.blt pc 51) (cond (Nat.blt pc 45) (cond (Nat.blt pc 44) (cond (Nat.beq pc 41) (some (.putfield 65, 3)) none) (cond (Nat.beq pc 44) (some (.aload_n 0, 1)) none)) (cond (Nat.blt pc 48) (cond (Nat.beq pc 45) (some (.getfield 65, 3)) none) (cond (Nat.beq pc 48) (some (.ifCond .le 5, 3)) none))) (cond (Nat.blt pc 53) (cond (Nat.blt pc 52) (cond (Nat.beq pc 51) (some (.iconst 0, 1)) none) (cond (Nat.beq pc 52) (some (.ireturn, 1)) none)) (cond (Nat.blt pc 54) (cond (Nat.beq pc 53) (some (.iload_n 3, 1)) none) (cond (Nat.beq pc 54) (some (.iconst 5, 1)) none)))))) (cond (Nat.blt pc 76) (cond (Nat.blt pc 67) (cond (Nat.blt pc 62) (cond (Nat.blt pc 58) (cond (Nat.beq pc 55) (some (.if_icmp .le 20, 3)) none) (cond (Nat.blt pc 59) (cond (Nat.beq pc 58) (some (.aload_n 0, 1)) none) (cond (Nat.beq pc 59) (some (.getfield 34, 3)) none))) (cond (Nat.blt pc 65) (cond (Nat.blt pc 64) (cond (Nat.beq pc 62) (some (.bipush 47, 2)) none) (cond (Nat.beq pc 64) (some (.iconst 1, 1)) none)) (cond (Nat.blt pc 66) (cond (Nat.beq pc 65) (some (.iload_n 1, 1)) none) (cond (Nat.beq pc 66) (some (.iadd, 1)) none)))) (cond (Nat.blt pc 72) (cond (Nat.blt pc 70) (cond (Nat.blt pc 68) (cond (Nat.beq pc 67) (some (.imul, 1)) none) (cond (Nat.beq pc 68) (some (.bipush 36, 2)) none)) (cond (Nat.blt pc 71) (cond (Nat.beq pc 70) (some (.iadd, 1)) none) (cond (Nat.beq pc 71) (some (.iload_n 3, 1)) none))) (cond (Nat.blt pc 74) (cond (Nat.blt pc 73) (cond (Nat.beq pc 72) (some (.iadd, 1)) none) (cond (Nat.beq pc 73) (some (.iaload, 1)) none)) (cond (Nat.blt pc 75) (cond (Nat.beq pc 74) (some (.ireturn, 1)) none) (cond (Nat.beq pc 75) (some (.aload_n 0, 1)) none))))) (cond (Nat.blt pc 88) (cond (Nat.blt pc 80) (cond (Nat.blt pc 78) (cond (Nat.blt pc 77) (cond (Nat.beq pc 76) (some (.iconst 1, 1)) none) (cond (Nat.beq pc 77) (some (.iload_n 1, 1)) none)) (cond (Nat.blt pc 79) (cond (Nat.beq pc 78) (some (.iadd, 1)) none) (cond (Nat.beq pc 79) (some (.iload_n 2, 1)) none))) (cond (Nat.blt pc 86) (cond (Nat.blt pc 83) (cond (Nat.beq pc 80) (some (.invokevirtual 87, 3)) none) (cond (Nat.beq pc 83) (some (.ifCond .eq 15, 3)) none)) (cond (Nat.blt pc 87) (cond (Nat.beq pc 86) (some (.aload_n 0, 1)) none) (cond (Nat.beq pc 87) (some (.iconst 1, 1)) none)))) (cond (Nat.blt pc 92) (cond (Nat.blt pc 90) (cond (Nat.blt pc 89) (cond (Nat.beq pc 88) (some (.iload_n 1, 1)) none) (cond (Nat.beq pc 89) (some (.iadd, 1)) none)) (cond (Nat.blt pc 91) (cond (Nat.beq pc 90) (some (.iload_n 2, 1)) none) (cond (Nat.beq pc 91) (some (.iload_n 3, 1)) none))) (cond (Nat.blt pc 98) (cond (Nat.blt pc 95) (cond (Nat.beq pc 92) (some (.invokevirtual 69, 3)) none) (cond (Nat.beq pc 95) (some (.goto 4, 3)) none)) (cond (Nat.blt pc 99) (cond (Nat.beq pc 98) (some (.iconst (-1), 1)) none) (cond (Nat.beq pc 99) (some (.ireturn, 1)) none)))))))
def pI_71 : Nat → Option (Instr × Nat) := fun pc => eB1 pc 37 (cond (Nat.blt pc 18) (cond (Nat.blt pc 7) (cond (Nat.blt pc 2) (cond (Nat.blt pc 1) (cond (Nat.beq pc 0) (some (.aload_n 0, 1)) none) (cond (Nat.beq pc 1) (some (.iload_n 1, 1)) none)) (cond (Nat.blt pc 5) (cond (Nat.beq pc 2) (some (.ifCond .lt 11, 3)) none) (cond (Nat.blt pc 6) (cond (Nat.beq pc 5) (some (.iload_n 1, 1)) none) (cond (Nat.beq pc 6) (some (.aload_n 0, 1)) none)))) (cond (Nat.blt pc 13) (cond (Nat.blt pc 10) (cond (Nat.beq pc 7) (some (.getfield 80, 3)) none) (cond (Nat.beq pc 10) (some (.if_icmp .lt 7, 3)) none)) (cond (Nat.blt pc 14) (cond (Nat.beq pc 13) (some (.iconst 1, 1)) none) (cond (Nat.blt pc 17) (cond (Nat.beq pc 14) (some (.goto 4, 3)) none) (cond (Nat.beq pc 17) (some (.iconst 0, 1)) none))))) (cond (Nat.blt pc 29) (cond (Nat.blt pc 22) (cond (Nat.blt pc 21) (cond (Nat.beq pc 18) (some (.putfield 65, 3)) none) (cond (Nat.beq pc 21) (some (.aload_n 0, 1)) none)) (cond (Nat.blt pc 25) (cond (Nat.beq pc 22) (some (.getfield 65, 3)) none) (cond (Nat.blt pc 28) (cond (Nat.beq pc 25) (some (.ifCond .ne 11, 3)) none) (cond (Nat.beq pc 28) (some (.aload_n 0, 1)) none)))) (cond (Nat.blt pc 32) (cond (Nat.blt pc 30) (cond (Nat.beq pc 29) (some (.iconst 1, 1)) none) (cond (Nat.blt pc 31) (cond (Nat.beq pc 30) (some (.iload_n 1, 1)) none) (cond (Nat.beq pc 31) (some (.iadd, 1)) none))) (cond (Nat.blt pc 33) (cond (Nat.beq pc 32) (some (.iconst 0, 1)) none) (cond (Nat.blt pc 36) (cond (Nat.beq pc 33) (some (.invokevirtual 146, 3)) none) (cond (Nat.beq pc 36) (some (.return_, 1)) none))))))
def pI_72 : Nat → Option (Instr × Nat) := fun pc => eB1 pc 34 (cond (Nat.blt pc 17) (cond (Nat.blt pc 6) (cond (Nat.blt pc 2) (cond (Nat.blt pc 1) (cond (Nat.beq pc 0) (some (.aload_n 0, 1)) none) (cond (Nat.beq pc 1) (some (.aload_n 0, 1)) none)) (cond (Nat.blt pc 5) (cond (Nat.beq pc 2) (some (.getfield 177, 3)) none) (cond (Nat.beq pc 5) (some (.aload_n 0, 1)) none))) (cond (Nat.blt pc 12) (cond (Nat.blt pc 9) (cond (Nat.beq pc 6) (some (.getfield 180, 3)) none) (cond (Nat.beq pc 9) (some (.if_icmp .ne 7, 3)) none)) (cond (Nat.blt pc 13) (cond (Nat.beq pc 12) (some (.iload_n 1, 1)) none) (cond (Nat.blt pc 16) (cond (Nat.beq pc 13) (some (.goto 7, 3)) none) (cond (Nat.beq pc 16) (some (.aload_n 0, 1)) none))))) (cond (Nat.blt pc 25) (cond (Nat.blt pc 23) (cond (Nat.blt pc 20) (cond (Nat.beq pc 17) (some (.getfield 183, 3)) none) (cond (Nat.beq pc 20) (some (.putfield 183, 3)) none)) (cond (Nat.blt pc 24) (cond (Nat.beq pc 23) (some (.aload_n 0, 1)) none) (cond (Nat.beq pc 24) (some (.dup, 1)) none))) (cond (Nat.blt pc 29) (cond (Nat.blt pc 28) (cond (Nat.beq pc 25) (some (.getfield 177, 3)) none) (cond (Nat.beq pc 28) (some (.iconst 1, 1)) none)) (cond (Nat.blt pc 30) (cond (Nat.beq pc 29) (some (.iadd, 1)) none) (cond (Nat.blt pc 33) (cond (Nat.beq pc 30) (some (.putfield 177, 3)) none) (cond (Nat.beq pc 33) (some (.return_, 1)) none))))))
def pI_73 : Nat → Option (Instr × Nat) := fun pc => eB1 pc 61 (cond (Nat.blt pc 28) (cond (Nat.blt pc 14) (cond (Nat.blt pc 5) (cond (Nat.blt pc 3) (cond (Nat.blt pc 1) (cond (Nat.beq pc 0) (some (.aload_n 0, 1)) none) (cond (Nat.beq pc 1) (some (.bipush 48, 2)) none)) (cond (Nat.blt pc 4) (cond (Nat.beq pc 3) (some (.aload_n 0, 1)) none) (cond (Nat.beq pc 4) (some (.iconst 0, 1)) none))) (cond (Nat.blt pc 7) (cond (Nat.blt pc 6) (cond (Nat.beq pc 5) (some (.iload_n 1, 1)) none) (cond (Nat.beq pc 6) (some (.iconst 5, 1)) none)) (cond (Nat.blt pc 10) (cond (Nat.beq pc 7) (some (.invokevirtual 69, 3)) none) (cond (Nat.blt pc 11) (cond (Nat.beq pc 10) (some (.iadd, 1)) none) (cond (Nat.beq pc 11) (some (.invokevirtual 186, 3)) none))))) (cond (Nat.blt pc 21) (cond (Nat.blt pc 17) (cond (Nat.blt pc 15) (cond (Nat.beq pc 14) (some (.aload_n 0, 1)) none) (cond (Nat.beq pc 15) (some (.bipush 40, 2)) none)) (cond (Nat.blt pc 20) (cond (Nat.beq pc 17) (some (.invokevirtual 186, 3)) none) (cond (Nat.beq pc 20) (some (.iconst 0, 1)) none))) (cond (Nat.blt pc 23) (cond (Nat.blt pc 22) (cond (Nat.beq pc 21) (some (.istore_n 2, 1)) none) (cond (Nat.beq pc 22) (some (.iload_n 2, 1)) none)) (cond (Nat.blt pc 24) (cond (Nat.beq pc 23) (some (.iconst 5, 1)) none) (cond (Nat.blt pc 27) (cond (Nat.beq pc 24) (some (.if_icmp .ge 36, 3)) none) (cond (Nat.beq pc 27) (some (.iconst 0, 1)) none)))))) (cond (Nat.blt pc 41) (cond (Nat.blt pc 32) (cond (Nat.blt pc 30) (cond (Nat.blt pc 29) (cond (Nat.beq pc 28) (some (.istore_n 3, 1)) none) (cond (Nat.beq pc 29) (some (.iload_n 3, 1)) none)) (cond (Nat.blt pc 31) (cond (Nat.beq pc 30) (some (.aload_n 0, 1)) none) (cond (Nat.beq pc 31) (some (.iconst 0, 1)) none))) (cond (Nat.blt pc 34) (cond (Nat.blt pc 33) (cond (Nat.beq pc 32) (some (.iload_n 1, 1)) none) (cond (Nat.beq pc 33) (some (.iload_n 2, 1)) none)) (cond (Nat.blt pc 37) (cond (Nat.beq pc 34) (some (.invokevirtual 69, 3)) none) (cond (Nat.blt pc 40) (cond (Nat.beq pc 37) (some (.if_icmp .ge 17, 3)) none) (cond (Nat.beq pc 40) (some (.aload_n 0, 1)) none))))) (cond (Nat.blt pc 48) (cond (Nat.blt pc 44) (cond (Nat.blt pc 43) (cond (Nat.beq pc 41) (some (.bipush 97, 2)) none) (cond (Nat.beq pc 43) (some (.iload_n 2, 1)) none)) (cond (Nat.blt pc 45) (cond (Nat.beq pc 44) (some (.iadd, 1)) none) (cond (Nat.beq pc 45) (some (.invokevirtual 186, 3)) none))) (cond (Nat.blt pc 54) (cond (Nat.blt pc 51) (cond (Nat.beq pc 48) (some (.iinc 3 1, 3)) none) (cond (Nat.beq pc 51) (some (.goto (-22), 3)) none)) (cond (Nat.blt pc 57) (cond (Nat.beq pc 54) (some (.iinc 2 1, 3)) none) (cond (Nat.blt pc 60) (cond (Nat.beq pc 57) (some (.goto (-35), 3)) none) (cond (Nat.beq pc 60) (some (.return_, 1)) none)))))))
def pI_74 : Nat → Option (Instr × Nat) := fun pc => eB1 pc 41 (cond (Nat.blt pc 19) (cond (Nat.blt pc 7) (cond (Nat.blt pc 3) (cond (Nat.blt pc 1) (cond (Nat.beq pc 0) (some (.iload_n 2, 1)) none) (cond (Nat.blt pc 2) (cond (Nat.beq pc 1) (some (.iconst 1, 1)) none) (cond (Nat.beq pc 2) (some (.iadd, 1)) none))) (cond (Nat.blt pc 4) (cond (Nat.beq pc 3) (some (.istore_n 3, 1)) none) (cond (Nat.blt pc 5) (cond (Nat.beq pc 4) (some (.iload_n 3, 1)) none) (cond (Nat.beq pc 5) (some (.bipush 6, 2)) none)))) (cond (Nat.blt pc 12) (cond (Nat.blt pc 10) (cond (Nat.beq pc 7) (some (.if_icmp .ge 32, 3)) none) (cond (Nat.blt pc 11) (cond (Nat.beq pc 10) (some (.aload_n 0, 1)) none) (cond (Nat.beq pc 11) (some (.iconst 0, 1)) none))) (cond (Nat.blt pc 13) (cond (Nat.beq pc 12) (some (.iload_n 3, 1)) none) (cond (Nat.blt pc 16) (cond (Nat.beq pc 13) (some (.invokevirtual 87, 3)) none) (cond (Nat.beq pc 16) (some (.ifCond .eq 17, 3)) none))))) (cond (Nat.blt pc 28) (cond (Nat.blt pc 22) (cond (Nat.blt pc 20) (cond (Nat.beq pc 19) (some (.aload_n 0, 1)) none) (cond (Nat.blt pc 21) (cond (Nat.beq pc 20) (some (.iconst 0, 1)) none) (cond (Nat.beq pc 21) (some (.iload_n 3, 1)) none))) (cond (Nat.blt pc 24) (cond (Nat.beq pc 22) (some (.bipush 6, 2)) none) (cond (Nat.blt pc 27) (cond (Nat.beq pc 24) (some (.invokevirtual 69, 3)) none) (cond (Nat.beq pc 27) (some (.iload_n 1, 1)) none)))) (cond (Nat.blt pc 33) (cond (Nat.blt pc 31) (cond (Nat.beq pc 28) (some (.if_icmp .ne 5, 3)) none) (cond (Nat.blt pc 32) (cond (Nat.beq pc 31) (some (.iload_n 3, 1)) none) (cond (Nat.beq pc 32) (some (.ireturn, 1)) none))) (cond (Nat.blt pc 39) (cond (Nat.blt pc 36) (cond (Nat.beq pc 33) (some (.iinc 3 1, 3)) none) (cond (Nat.beq pc 36) (some (.goto (-32), 3)) none)) (cond (Nat.blt pc 40) (cond (Nat.beq pc 39) (some (.iconst (-1), 1)) none) (cond (Nat.beq pc 40) (some (.ireturn, 1)) none))))))
def pI_75 : Nat → Option (Instr × Nat) := fun pc => eB1 pc 104 (cond (Nat.blt pc 46) (cond (Nat.blt pc 23) (cond (Nat.blt pc 11) (cond (Nat.blt pc 5) (cond (Nat.blt pc 1) (cond (Nat.beq pc 0) (some (.aload_n 0, 1)) none) (cond (Nat.blt pc 2) (cond (Nat.beq pc 1) (some (.iconst 0, 1)) none) (cond (Nat.beq pc 2) (some (.putfield 65, 3)) none))) (cond (Nat.blt pc 7) (cond (Nat.blt pc 6) (cond (Nat.beq pc 5) (some (.aload_n 0, 1)) none) (cond (Nat.beq pc 6) (some (.iconst 0, 1)) none)) (cond (Nat.blt pc 10) (cond (Nat.beq pc 7) (some (.putfield 177, 3)) none) (cond (Nat.beq pc 10) (some (.aload_n 0, 1)) none)))) (cond (Nat.blt pc 17) (cond (Nat.blt pc 15) (cond (Nat.blt pc 12) (cond (Nat.beq pc 11) (some (.iload_n 1, 1)) none) (cond (Nat.beq pc 12) (some (.putfield 180, 3)) none)) (cond (Nat.blt pc 16) (cond (Nat.beq pc 15) (some (.aload_n 0, 1)) none) (cond (Nat.beq pc 16) (some (.iconst (-1), 1)) none))) (cond (Nat.blt pc 21) (cond (Nat.blt pc 20) (cond (Nat.beq pc 17) (some (.putfield 183, 3)) none) (cond (Nat.beq pc 20) (some (.iconst 0, 1)) none)) (cond (Nat.blt pc 22) (cond (Nat.beq pc 21) (some (.istore_n 2, 1)) none) (cond (Nat.beq pc 22) (some (.aload_n 0, 1)) none))))) (cond (Nat.blt pc 34) (cond (Nat.blt pc 28) (cond (Nat.blt pc 26) (cond (Nat.beq pc 23) (some (.getfield 58, 3)) none) (cond (Nat.blt pc 27) (cond (Nat.beq pc 26) (some (.iconst 0, 1)) none) (cond (Nat.beq pc 27) (some (.iconst 0, 1)) none))) (cond (Nat.blt pc 30) (cond (Nat.blt pc 29) (cond (Nat.beq pc 28) (some (.iastore, 1)) none) (cond (Nat.beq pc 29) (some (.aload_n 0, 1)) none)) (cond (Nat.blt pc 31) (cond (Nat.beq pc 30) (some (.iconst 0, 1)) none) (cond (Nat.beq pc 31) (some (.invokevirtual 189, 3)) none)))) (cond (Nat.blt pc 40) (cond (Nat.blt pc 36) (cond (Nat.blt pc 35) (cond (Nat.beq pc 34) (some (.iconst 0, 1)) none) (cond (Nat.beq pc 35) (some (.istore_n 3, 1)) none)) (cond (Nat.blt pc 37) (cond (Nat.beq pc 36) (some (.iload_n 2, 1)) none) (cond (Nat.beq pc 37) (some (.ifCond .lt 62, 3)) none))) (cond (Nat.blt pc 42) (cond (Nat.blt pc 41) (cond (Nat.beq pc 40) (some (.aload_n 0, 1)) none) (cond (Nat.beq pc 41) (some (.aload_n 0, 1)) none)) (cond (Nat.blt pc 45) (cond (Nat.beq pc 42) (some (.getfield 58, 3)) none) (cond (Nat.beq pc 45) (some (.iload_n 2, 1)) none)))))) (cond (Nat.blt pc 75) (cond (Nat.blt pc 61) (cond (Nat.blt pc 51) (cond (Nat.blt pc 47) (cond (Nat.beq pc 46) (some (.iaload, 1)) none) (cond (Nat.blt pc 48) (cond (Nat.beq pc 47) (some (.iload_n 3, 1)) none) (cond (Nat.beq pc 48) (some (.invokevirtual 192, 3)) none))) (cond (Nat.blt pc 55) (cond (Nat.blt pc 53) (cond (Nat.beq pc 51) (some (.istore 4, 2)) none) (cond (Nat.beq pc 53) (some (.iload 4, 2)) none)) (cond (Nat.blt pc 58) (cond (Nat.beq pc 55) (some (.ifCond .lt 25, 3)) none) (cond (Nat.beq pc 58) (some (.iinc 2 1, 3)) none)))) (cond (Nat.blt pc 68) (cond (Nat.blt pc 65) (cond (Nat.blt pc 62) (cond (Nat.beq pc 61) (some (.aload_n 0, 1)) none) (cond (Nat.beq pc 62) (some (.getfield 58, 3)) none)) (cond (Nat.blt pc 66) (cond (Nat.beq pc 65) (some (.iload_n 2, 1)) none) (cond (Nat.beq pc 66) (some (.iload 4, 2)) none))) (cond (Nat.blt pc 70) (cond (Nat.blt pc 69) (cond (Nat.beq pc 68) (some (.iastore, 1)) none) (cond (Nat.beq pc 69) (some (.aload_n 0, 1)) none)) (cond (Nat.blt pc 72) (cond (Nat.beq pc 70) (some (.iload 4, 2)) none) (cond (Nat.beq pc 72) (some (.invokevirtual 189, 3)) none))))) (cond (Nat.blt pc 90) (cond (Nat.blt pc 81) (cond (Nat.blt pc 77) (cond (Nat.blt pc 76) (cond (Nat.beq pc 75) (some (.iconst 0, 1)) none) (cond (Nat.beq pc 76) (some (.istore_n 3, 1)) none)) (cond (Nat.blt pc 80) (cond (Nat.beq pc 77) (some (.goto 19, 3)) none) (cond (Nat.beq pc 80) (some (.aload_n 0, 1)) none))) (cond (Nat.blt pc 86) (cond (Nat.blt pc 83) (cond (Nat.beq pc 81) (some (.bipush 41, 2)) none) (cond (Nat.beq pc 83) (some (.invokevirtual 186, 3)) none)) (cond (Nat.blt pc 87) (cond (Nat.beq pc 86) (some (.aload_n 0, 1)) none) (cond (Nat.beq pc 87) (some (.getfield 58, 3)) none)))) (cond (Nat.blt pc 96) (cond (Nat.blt pc 92) (cond (Nat.blt pc 91) (cond (Nat.beq pc 90) (some (.iload_n 2, 1)) none) (cond (Nat.beq pc 91) (some (.iaload, 1)) none)) (cond (Nat.blt pc 93) (cond (Nat.beq pc 92) (some (.istore_n 3, 1)) none) (cond (Nat.beq pc 93) (some (.iinc 2 (-1), 3)) none))) (cond (Nat.blt pc 100) (cond (Nat.blt pc 99) (cond (Nat.beq pc 96) (some (.goto (-60), 3)) none) (cond (Nat.beq pc 99) (some (.aload_n 0, 1)) none)) (cond (Nat.blt pc 103) (cond (Nat.beq pc 100) (some (.getfield 183, 3)) none) (cond (Nat.beq pc 103) (some (.ireturn, 1)) none)))))))
def pI_76 : Nat → Option (Instr × Nat) := fun pc => eB1 pc 8 (cond (Nat.blt pc 4) (cond (Nat.blt pc 2) (cond (Nat.blt pc 1) (cond (Nat.beq pc 0) (some (.iload_n 0, 1)) none) (cond (Nat.beq pc 1) (some (.iload_n 2, 1)) none)) (cond (Nat.blt pc 3) (cond (Nat.beq pc 2) (some (.iconst 4, 1)) none) (cond (Nat.beq pc 3) (some (.iload_n 1, 1)) none))) (cond (Nat.blt pc 6) (cond (Nat.blt pc 5) (cond (Nat.beq pc 4) (some (.imul, 1)) none) (cond (Nat.beq pc 5) (some (.ishl, 1)) none)) (cond (Nat.blt pc 7) (cond (Nat.beq pc 6) (some (.ior, 1)) none) (cond (Nat.beq pc 7) (some (.ireturn, 1)) none))))
def pI_77 : Nat → Option (Instr × Nat) := fun pc => eB1 pc 9 (cond (Nat.blt pc 4) (cond (Nat.blt pc 2) (cond (Nat.blt pc 1) (cond (Nat.beq pc 0) (some (.iload_n 0, 1)) none) (cond (Nat.beq pc 1) (some (.iconst 4, 1)) none)) (cond (Nat.blt pc 3) (cond (Nat.beq pc 2) (some (.iload_n 1, 1)) none) (cond (Nat.beq pc 3) (some (.imul, 1)) none))) (cond (Nat.blt pc 7) (cond (Nat.blt pc 5) (cond (Nat.beq pc 4) (some (.ishr, 1)) none) (cond (Nat.beq pc 5) (some (.bipush 15, 2)) none)) (cond (Nat.blt pc 8) (cond (Nat.beq pc 7) (some (.iand, 1)) none) (cond (Nat.beq pc 8) (some (.ireturn, 1)) none))))
def pI_78 : Nat → Option (Instr × Nat) := fun pc => eB1 pc 26 (cond (Nat.blt pc 11) (cond (Nat.blt pc 4) (cond (Nat.blt pc 2) (cond (Nat.blt pc 1) (cond (Nat.beq pc 0) (some (.iconst 0, 1)) none) (cond (Nat.beq pc 1) (some (.istore_n 1, 1)) none)) (cond (Nat.blt pc 3) (cond (Nat.beq pc 2) (some (.iconst 0, 1)) none) (cond (Nat.beq pc 3) (some (.istore_n 2, 1)) none))) (cond (Nat.blt pc 7) (cond (Nat.blt pc 5) (cond (Nat.beq pc 4) (some (.iload_n 2, 1)) none) (cond (Nat.beq pc 5) (some (.bipush 6, 2)) none)) (cond (Nat.blt pc 10) (cond (Nat.beq pc 7) (some (.if_icmp .ge 17, 3)) none) (cond (Nat.beq pc 10) (some (.iload_n 1, 1)) none)))) (cond (Nat.blt pc 17) (cond (Nat.blt pc 13) (cond (Nat.blt pc 12) (cond (Nat.beq pc 11) (some (.iload_n 0, 1)) none) (cond (Nat.beq pc 12) (some (.iload_n 2, 1)) none)) (cond (Nat.blt pc 16) (cond (Nat.beq pc 13) (some (.invokestatic 11, 3)) none) (cond (Nat.beq pc 16) (some (.iadd, 1)) none))) (cond (Nat.blt pc 21) (cond (Nat.blt pc 18) (cond (Nat.beq pc 17) (some (.istore_n 1, 1)) none) (cond (Nat.beq pc 18) (some (.iinc 2 1, 3)) none)) (cond (Nat.blt pc 24) (cond (Nat.beq pc 21) (some (.goto (-17), 3)) none) (cond (Nat.blt pc 25) (cond (Nat.beq pc 24) (some (.iload_n 1, 1)) none) (cond (Nat.beq pc 25) (some (.ireturn, 1)) none))))))
def pI_79 : Nat → Option (Instr × Nat) := fun pc => eB1 pc 39 (cond (Nat.blt pc 19) (cond (Nat.blt pc 7) (cond (Nat.blt pc 4) (cond (Nat.blt pc 1) (cond (Nat.beq pc 0) (some (.aload_n 0, 1)) none) (cond (Nat.beq pc 1) (some (.invokespecial 3, 3)) none)) (cond (Nat.blt pc 5) (cond (Nat.beq pc 4) (some (.aload_n 0, 1)) none) (cond (Nat.beq pc 5) (some (.bipush 6, 2)) none))) (cond (Nat.blt pc 13) (cond (Nat.blt pc 10) (cond (Nat.beq pc 7) (some (.anewarray 9, 3)) none) (cond (Nat.beq pc 10) (some (.putfield 11, 3)) none)) (cond (Nat.blt pc 14) (cond (Nat.beq pc 13) (some (.aload_n 0, 1)) none) (cond (Nat.blt pc 17) (cond (Nat.beq pc 14) (some (.sipush 2012, 3)) none) (cond (Nat.beq pc 17) (some (.newarray .int, 2)) none))))) (cond (Nat.blt pc 30) (cond (Nat.blt pc 23) (cond (Nat.blt pc 22) (cond (Nat.beq pc 19) (some (.putfield 17, 3)) none) (cond (Nat.beq pc 22) (some (.aload_n 0, 1)) none)) (cond (Nat.blt pc 25) (cond (Nat.beq pc 23) (some (.bipush 7, 2)) none) (cond (Nat.blt pc 27) (cond (Nat.beq pc 25) (some (.newarray .int, 2)) none) (cond (Nat.beq pc 27) (some (.putfield 21, 3)) none)))) (cond (Nat.blt pc 33) (cond (Nat.blt pc 31) (cond (Nat.beq pc 30) (some (.aload_n 0, 1)) none) (cond (Nat.beq pc 31) (some (.bipush 6, 2)) none)) (cond (Nat.blt pc 35) (cond (Nat.beq pc 33) (some (.newarray .int, 2)) none) (cond (Nat.blt pc 38) (cond (Nat.beq pc 35) (some (.putfield 24, 3)) none) (cond (Nat.beq pc 38) (some (.return_, 1)) none))))))
def pI_80 : Nat → Option (Instr × Nat) := fun pc => eB1 pc 126 (cond (Nat.blt pc 58) (cond (Nat.blt pc 24) (cond (Nat.blt pc 12) (cond (Nat.blt pc 4) (cond (Nat.blt pc 2) (cond (Nat.blt pc 1) (cond (Nat.beq pc 0) (some (.aload_n 0, 1)) none) (cond (Nat.beq pc 1) (some (.aload_n 1, 1)) none)) (cond (Nat.blt pc 3) (cond (Nat.beq pc 2) (some (.aload_n 2, 1)) none) (cond (Nat.beq pc 3) (some (.iload_n 3, 1)) none))) (cond (Nat.blt pc 8) (cond (Nat.blt pc 7) (cond (Nat.beq pc 4) (some (.invokevirtual 27, 3)) none) (cond (Nat.beq pc 7) (some (.aload_n 2, 1)) none)) (cond (Nat.blt pc 11) (cond (Nat.beq pc 8) (some (.getfield 31, 3)) none) (cond (Nat.beq pc 11) (some (.iload_n 3, 1)) none)))) (cond (Nat.blt pc 18) (cond (Nat.blt pc 15) (cond (Nat.blt pc 13) (cond (Nat.beq pc 12) (some (.laload, 1)) none) (cond (Nat.beq pc 13) (some (.lstore 4, 2)) none)) (cond (Nat.blt pc 16) (cond (Nat.beq pc 15) (some (.iconst 0, 1)) none) (cond (Nat.beq pc 16) (some (.istore 6, 2)) none))) (cond (Nat.blt pc 21) (cond (Nat.blt pc 19) (cond (Nat.beq pc 18) (some (.iconst 0, 1)) none) (cond (Nat.beq pc 19) (some (.istore 7, 2)) none)) (cond (Nat.blt pc 22) (cond (Nat.beq pc 21) (some (.iconst 0, 1)) none) (cond (Nat.beq pc 22) (some (.istore 8, 2)) none))))) (cond (Nat.blt pc 40) (cond (Nat.blt pc 33) (cond (Nat.blt pc 27) (cond (Nat.blt pc 26) (cond (Nat.beq pc 24) (some (.iload 8, 2)) none) (cond (Nat.beq pc 26) (some (.aload_n 0, 1)) none)) (cond (Nat.blt pc 30) (cond (Nat.beq pc 27) (some (.getfield 37, 3)) none) (cond (Nat.beq pc 30) (some (.if_icmp .ge 93, 3)) none))) (cond (Nat.blt pc 37) (cond (Nat.blt pc 34) (cond (Nat.beq pc 33) (some (.aload_n 0, 1)) none) (cond (Nat.beq pc 34) (some (.getfield 11, 3)) none)) (cond (Nat.blt pc 39) (cond (Nat.beq pc 37) (some (.iload 8, 2)) none) (cond (Nat.beq pc 39) (some (.aaload, 1)) none)))) (cond (Nat.blt pc 49) (cond (Nat.blt pc 44) (cond (Nat.blt pc 42) (cond (Nat.beq pc 40) (some (.lload 4, 2)) none) (cond (Nat.beq pc 42) (some (.iload 6, 2)) none)) (cond (Nat.blt pc 47) (cond (Nat.beq pc 44) (some (.invokevirtual 41, 3)) none) (cond (Nat.beq pc 47) (some (.istore 9, 2)) none))) (cond (Nat.blt pc 53) (cond (Nat.blt pc 51) (cond (Nat.beq pc 49) (some (.lload 4, 2)) none) (cond (Nat.beq pc 51) (some (.iload 9, 2)) none)) (cond (Nat.blt pc 54) (cond (Nat.beq pc 53) (some (.i2l, 1)) none) (cond (Nat.blt pc 55) (cond (Nat.beq pc 54) (some (.aload_n 0, 1)) none) (cond (Nat.beq pc 55) (some (.getfield 11, 3)) none))))))) (cond (Nat.blt pc 91) (cond (Nat.blt pc 73) (cond (Nat.blt pc 65) (cond (Nat.blt pc 61) (cond (Nat.blt pc 60) (cond (Nat.beq pc 58) (some (.iload 8, 2)) none) (cond (Nat.beq pc 60) (some (.aaload, 1)) none)) (cond (Nat.blt pc 64) (cond (Nat.beq pc 61) (some (.getfield 45, 3)) none) (cond (Nat.beq pc 64) (some (.lmul, 1)) none))) (cond (Nat.blt pc 68) (cond (Nat.blt pc 66) (cond (Nat.beq pc 65) (some (.lsub, 1)) none) (cond (Nat.beq pc 66) (some (.lstore 4, 2)) none)) (cond (Nat.blt pc 70) (cond (Nat.beq pc 68) (some (.iload 6, 2)) none) (cond (Nat.beq pc 70) (some (.ifCond .ne 21, 3)) none)))) (cond (Nat.blt pc 82) (cond (Nat.blt pc 78) (cond (Nat.blt pc 75) (cond (Nat.beq pc 73) (some (.iload 9, 2)) none) (cond (Nat.beq pc 75) (some (.ifCond .le 20, 3)) none)) (cond (Nat.blt pc 79) (cond (Nat.beq pc 78) (some (.aload_n 0, 1)) none) (cond (Nat.beq pc 79) (some (.getfield 11, 3)) none))) (cond (Nat.blt pc 85) (cond (Nat.blt pc 84) (cond (Nat.beq pc 82) (some (.iload 8, 2)) none) (cond (Nat.beq pc 84) (some (.aaload, 1)) none)) (cond (Nat.blt pc 88) (cond (Nat.beq pc 85) (some (.invokevirtual 49, 3)) none) (cond (Nat.beq pc 88) (some (.ifCond .eq 7, 3)) none))))) (cond (Nat.blt pc 106) (cond (Nat.blt pc 98) (cond (Nat.blt pc 95) (cond (Nat.blt pc 92) (cond (Nat.beq pc 91) (some (.iconst 1, 1)) none) (cond (Nat.beq pc 92) (some (.goto 4, 3)) none)) (cond (Nat.blt pc 96) (cond (Nat.beq pc 95) (some (.iconst 0, 1)) none) (cond (Nat.beq pc 96) (some (.istore 6, 2)) none))) (cond (Nat.blt pc 101) (cond (Nat.blt pc 100) (cond (Nat.beq pc 98) (some (.iload 7, 2)) none) (cond (Nat.beq pc 100) (some (.aload_n 0, 1)) none)) (cond (Nat.blt pc 104) (cond (Nat.beq pc 101) (some (.getfield 11, 3)) none) (cond (Nat.beq pc 104) (some (.iload 8, 2)) none)))) (cond (Nat.blt pc 115) (cond (Nat.blt pc 110) (cond (Nat.blt pc 107) (cond (Nat.beq pc 106) (some (.aaload, 1)) none) (cond (Nat.beq pc 107) (some (.getfield 53, 3)) none)) (cond (Nat.blt pc 112) (cond (Nat.beq pc 110) (some (.iload 9, 2)) none) (cond (Nat.beq pc 112) (some (.invokestatic 56, 3)) none))) (cond (Nat.blt pc 120) (cond (Nat.blt pc 117) (cond (Nat.beq pc 115) (some (.istore 7, 2)) none) (cond (Nat.beq pc 117) (some (.iinc 8 1, 3)) none)) (cond (Nat.blt pc 123) (cond (Nat.beq pc 120) (some (.goto (-96), 3)) none) (cond (Nat.blt pc 125) (cond (Nat.beq pc 123) (some (.iload 7, 2)) none) (cond (Nat.beq pc 125) (some (.ireturn, 1)) none))))))))
def pI_81 : Nat → Option (Instr × Nat) := fun pc => eB1 pc 22 (cond (Nat.blt pc 9) (cond (Nat.blt pc 5) (cond (Nat.blt pc 1) (cond (Nat.beq pc 0) (some (.aload_n 0, 1)) none) (cond (Nat.blt pc 2) (cond (Nat.beq pc 1) (some (.iconst 0, 1)) none) (cond (Nat.beq pc 2) (some (.putfield 62, 3)) none))) (cond (Nat.blt pc 7) (cond (Nat.blt pc 6) (cond (Nat.beq pc 5) (some (.aload_n 0, 1)) none) (cond (Nat.beq pc 6) (some (.aload_n 1, 1)) none)) (cond (Nat.blt pc 8) (cond (Nat.beq pc 7) (some (.aload_n 2, 1)) none) (cond (Nat.beq pc 8) (some (.iload_n 3, 1)) none)))) (cond (Nat.blt pc 16) (cond (Nat.blt pc 12) (cond (Nat.beq pc 9) (some (.invokevirtual 65, 3)) none) (cond (Nat.blt pc 13) (cond (Nat.beq pc 12) (some (.aload_n 0, 1)) none) (cond (Nat.beq pc 13) (some (.getfield 62, 3)) none))) (cond (Nat.blt pc 20) (cond (Nat.blt pc 17) (cond (Nat.beq pc 16) (some (.aload_n 0, 1)) none) (cond (Nat.beq pc 17) (some (.getfield 68, 3)) none)) (cond (Nat.blt pc 21) (cond (Nat.beq pc 20) (some (.isub, 1)) none) (cond (Nat.beq pc 21) (some (.ireturn, 1)) none)))))
def pI_82 : Nat → Option (Instr × Nat) := fun pc => eB1 pc 93 (cond (Nat.blt pc 47) (cond (Nat.blt pc 24) (cond (Nat.blt pc 8) (cond (Nat.blt pc 3) (cond (Nat.blt pc 1) (cond (Nat.beq pc 0) (some (.iconst 1, 1)) none) (cond (Nat.blt pc 2) (cond (Nat.beq pc 1) (some (.istore_n 3, 1)) none) (cond (Nat.beq pc 2) (some (.aload_n 0, 1)) none))) (cond (Nat.blt pc 4) (cond (Nat.beq pc 3) (some (.iconst 0, 1)) none) (cond (Nat.blt pc 7) (cond (Nat.beq pc 4) (some (.putfield 62, 3)) none) (cond (Nat.beq pc 7) (some (.iconst 0, 1)) none)))) (cond (Nat.blt pc 14) (cond (Nat.blt pc 10) (cond (Nat.beq pc 8) (some (.istore 4, 2)) none) (cond (Nat.blt pc 12) (cond (Nat.beq pc 10) (some (.iload 4, 2)) none) (cond (Nat.beq pc 12) (some (.bipush 6, 2)) none))) (cond (Nat.blt pc 18) (cond (Nat.blt pc 17) (cond (Nat.beq pc 14) (some (.if_icmp .ge 71, 3)) none) (cond (Nat.beq pc 17) (some (.iload_n 3, 1)) none)) (cond (Nat.blt pc 21) (cond (Nat.beq pc 18) (some (.sipush 1000, 3)) none) (cond (Nat.beq pc 21) (some (.if_icmp .gt 64, 3)) none))))) (cond (Nat.blt pc 33) (cond (Nat.blt pc 27) (cond (Nat.blt pc 25) (cond (Nat.beq pc 24) (some (.aload_n 0, 1)) none) (cond (Nat.blt pc 26) (cond (Nat.beq pc 25) (some (.aload_n 1, 1)) none) (cond (Nat.beq pc 26) (some (.aload_n 2, 1)) none))) (cond (Nat.blt pc 29) (cond (Nat.beq pc 27) (some (.iload 4, 2)) none) (cond (Nat.blt pc 32) (cond (Nat.beq pc 29) (some (.invokevirtual 65, 3)) none) (cond (Nat.beq pc 32) (some (.aload_n 0, 1)) none)))) (cond (Nat.blt pc 39) (cond (Nat.blt pc 36) (cond (Nat.beq pc 33) (some (.getfield 21, 3)) none) (cond (Nat.blt pc 38) (cond (Nat.beq pc 36) (some (.iload 4, 2)) none) (cond (Nat.beq pc 38) (some (.aload_n 0, 1)) none))) (cond (Nat.blt pc 43) (cond (Nat.blt pc 42) (cond (Nat.beq pc 39) (some (.getfield 68, 3)) none) (cond (Nat.beq pc 42) (some (.iastore, 1)) none)) (cond (Nat.blt pc 44) (cond (Nat.beq pc 43) (some (.aload_n 0, 1)) none) (cond (Nat.beq pc 44) (some (.getfield 21, 3)) none)))))) (cond (Nat.blt pc 68) (cond (Nat.blt pc 56) (cond (Nat.blt pc 51) (cond (Nat.blt pc 49) (cond (Nat.beq pc 47) (some (.iload 4, 2)) none) (cond (Nat.blt pc 50) (cond (Nat.beq pc 49) (some (.iconst 1, 1)) none) (cond (Nat.beq pc 50) (some (.iadd, 1)) none))) (cond (Nat.blt pc 52) (cond (Nat.beq pc 51) (some (.aload_n 0, 1)) none) (cond (Nat.blt pc 55) (cond (Nat.beq pc 52) (some (.getfield 62, 3)) none) (cond (Nat.beq pc 55) (some (.iastore, 1)) none)))) (cond (Nat.blt pc 62) (cond (Nat.blt pc 57) (cond (Nat.beq pc 56) (some (.aload_n 0, 1)) none) (cond (Nat.blt pc 60) (cond (Nat.beq pc 57) (some (.getfield 24, 3)) none) (cond (Nat.beq pc 60) (some (.iload 4, 2)) none))) (cond (Nat.blt pc 66) (cond (Nat.blt pc 63) (cond (Nat.beq pc 62) (some (.aload_n 0, 1)) none) (cond (Nat.beq pc 63) (some (.getfield 68, 3)) none)) (cond (Nat.blt pc 67) (cond (Nat.beq pc 66) (some (.iastore, 1)) none) (cond (Nat.beq pc 67) (some (.iload_n 3, 1)) none))))) (cond (Nat.blt pc 78) (cond (Nat.blt pc 73) (cond (Nat.blt pc 69) (cond (Nat.beq pc 68) (some (.aload_n 0, 1)) none) (cond (Nat.blt pc 72) (cond (Nat.beq pc 69) (some (.getfield 62, 3)) none) (cond (Nat.beq pc 72) (some (.aload_n 0, 1)) none))) (cond (Nat.blt pc 76) (cond (Nat.beq pc 73) (some (.getfield 68, 3)) none) (cond (Nat.blt pc 77) (cond (Nat.beq pc 76) (some (.isub, 1)) none) (cond (Nat.beq pc 77) (some (.imul, 1)) none)))) (cond (Nat.blt pc 85) (cond (Nat.blt pc 79) (cond (Nat.beq pc 78) (some (.istore_n 3, 1)) none) (cond (Nat.blt pc 82) (cond (Nat.beq pc 79) (some (.iinc 4 1, 3)) none) (cond (Nat.beq pc 82) (some (.goto (-72), 3)) none))) (cond (Nat.blt pc 89) (cond (Nat.blt pc 86) (cond (Nat.beq pc 85) (some (.iload_n 3, 1)) none) (cond (Nat.beq pc 86) (some (.sipush 1001, 3)) none)) (cond (Nat.blt pc 92) (cond (Nat.beq pc 89) (some (.invokestatic 71, 3)) none) (cond (Nat.beq pc 92) (some (.ireturn, 1)) none)))))))
def pI_83 : Nat → Option (Instr × Nat) := fun pc => eB1 pc 82 (cond (Nat.blt pc 37) (cond (Nat.blt pc 19) (cond (Nat.blt pc 8) (cond (Nat.blt pc 3) (cond (Nat.blt pc 1) (cond (Nat.beq pc 0) (some (.iconst 1, 1)) none) (cond (Nat.blt pc 2) (cond (Nat.beq pc 1) (some (.istore_n 2, 1)) none) (cond (Nat.beq pc 2) (some (.iconst 5, 1)) none))) (cond (Nat.blt pc 4) (cond (Nat.beq pc 3) (some (.istore_n 3, 1)) none) (cond (Nat.blt pc 5) (cond (Nat.beq pc 4) (some (.iload_n 3, 1)) none) (cond (Nat.beq pc 5) (some (.ifCond .lt 76, 3)) none)))) (cond (Nat.blt pc 11) (cond (Nat.blt pc 9) (cond (Nat.beq pc 8) (some (.aload_n 1, 1)) none) (cond (Nat.blt pc 10) (cond (Nat.beq pc 9) (some (.iload_n 3, 1)) none) (cond (Nat.beq pc 10) (some (.aload_n 0, 1)) none))) (cond (Nat.blt pc 15) (cond (Nat.blt pc 14) (cond (Nat.beq pc 11) (some (.getfield 17, 3)) none) (cond (Nat.beq pc 14) (some (.aload_n 0, 1)) none)) (cond (Nat.blt pc 18) (cond (Nat.beq pc 15) (some (.getfield 24, 3)) none) (cond (Nat.beq pc 18) (some (.iload_n 3, 1)) none))))) (cond (Nat.blt pc 30) (cond (Nat.blt pc 22) (cond (Nat.blt pc 20) (cond (Nat.beq pc 19) (some (.iaload, 1)) none) (cond (Nat.blt pc 21) (cond (Nat.beq pc 20) (some (.iaload, 1)) none) (cond (Nat.beq pc 21) (some (.iastore, 1)) none))) (cond (Nat.blt pc 26) (cond (Nat.blt pc 23) (cond (Nat.beq pc 22) (some (.iload_n 2, 1)) none) (cond (Nat.beq pc 23) (some (.ifCond .eq 52, 3)) none)) (cond (Nat.blt pc 27) (cond (Nat.beq pc 26) (some (.aload_n 0, 1)) none) (cond (Nat.beq pc 27) (some (.getfield 24, 3)) none)))) (cond (Nat.blt pc 33) (cond (Nat.blt pc 31) (cond (Nat.beq pc 30) (some (.iload_n 3, 1)) none) (cond (Nat.blt pc 32) (cond (Nat.beq pc 31) (some (.dup2, 1)) none) (cond (Nat.beq pc 32) (some (.iaload, 1)) none))) (cond (Nat.blt pc 35) (cond (Nat.blt pc 34) (cond (Nat.beq pc 33) (some (.iconst 1, 1)) none) (cond (Nat.beq pc 34) (some (.iadd, 1)) none)) (cond (Nat.blt pc 36) (cond (Nat.beq pc 35) (some (.iastore, 1)) none) (cond (Nat.beq pc 36) (some (.aload_n 0, 1)) none)))))) (cond (Nat.blt pc 58) (cond (Nat.blt pc 47) (cond (Nat.blt pc 42) (cond (Nat.blt pc 40) (cond (Nat.beq pc 37) (some (.getfield 24, 3)) none) (cond (Nat.blt pc 41) (cond (Nat.beq pc 40) (some (.iload_n 3, 1)) none) (cond (Nat.beq pc 41) (some (.iaload, 1)) none))) (cond (Nat.blt pc 43) (cond (Nat.beq pc 42) (some (.aload_n 0, 1)) none) (cond (Nat.blt pc 46) (cond (Nat.beq pc 43) (some (.getfield 21, 3)) none) (cond (Nat.beq pc 46) (some (.iload_n 3, 1)) none)))) (cond (Nat.blt pc 50) (cond (Nat.blt pc 48) (cond (Nat.beq pc 47) (some (.iconst 1, 1)) none) (cond (Nat.blt pc 49) (cond (Nat.beq pc 48) (some (.iadd, 1)) none) (cond (Nat.beq pc 49) (some (.iaload, 1)) none))) (cond (Nat.blt pc 54) (cond (Nat.blt pc 53) (cond (Nat.beq pc 50) (some (.if_icmp .ne 7, 3)) none) (cond (Nat.beq pc 53) (some (.iconst 1, 1)) none)) (cond (Nat.blt pc 57) (cond (Nat.beq pc 54) (some (.goto 4, 3)) none) (cond (Nat.beq pc 57) (some (.iconst 0, 1)) none))))) (cond (Nat.blt pc 69) (cond (Nat.blt pc 63) (cond (Nat.blt pc 59) (cond (Nat.beq pc 58) (some (.istore_n 2, 1)) none) (cond (Nat.blt pc 60) (cond (Nat.beq pc 59) (some (.iload_n 2, 1)) none) (cond (Nat.beq pc 60) (some (.ifCond .eq 15, 3)) none))) (cond (Nat.blt pc 67) (cond (Nat.blt pc 64) (cond (Nat.beq pc 63) (some (.aload_n 0, 1)) none) (cond (Nat.beq pc 64) (some (.getfield 24, 3)) none)) (cond (Nat.blt pc 68) (cond (Nat.beq pc 67) (some (.iload_n 3, 1)) none) (cond (Nat.beq pc 68) (some (.aload_n 0, 1)) none)))) (cond (Nat.blt pc 74) (cond (Nat.blt pc 72) (cond (Nat.beq pc 69) (some (.getfield 21, 3)) none) (cond (Nat.blt pc 73) (cond (Nat.beq pc 72) (some (.iload_n 3, 1)) none) (cond (Nat.beq pc 73) (some (.iaload, 1)) none))) (cond (Nat.blt pc 78) (cond (Nat.blt pc 75) (cond (Nat.beq pc 74) (some (.iastore, 1)) none) (cond (Nat.beq pc 75) (some (.iinc 3 (-1), 3)) none)) (cond (Nat.blt pc 81) (cond (Nat.beq pc 78) (some (.goto (-74), 3)) none) (cond (Nat.beq pc 81) (some (.return_, 1)) none)))))))
def pI_84 : Nat → Option (Instr × Nat) := fun pc => eB1 pc 29 (cond (Nat.blt pc 15) (cond (Nat.blt pc 4) (cond (Nat.blt pc 2) (cond (Nat.blt pc 1) (cond (Nat.beq pc 0) (some (.aload_n 0, 1)) none) (cond (Nat.beq pc 1) (some (.aload_n 1, 1)) none)) (cond (Nat.blt pc 3) (cond (Nat.beq pc 2) (some (.aload_n 2, 1)) none) (cond (Nat.beq pc 3) (some (.iload_n 3, 1)) none))) (cond (Nat.blt pc 8) (cond (Nat.blt pc 7) (cond (Nat.beq pc 4) (some (.invokevirtual 27, 3)) none) (cond (Nat.beq pc 7) (some (.aload_n 0, 1)) none)) (cond (Nat.blt pc 9) (cond (Nat.beq pc 8) (some (.aload_n 0, 1)) none) (cond (Nat.blt pc 12) (cond (Nat.beq pc 9) (some (.getfield 62, 3)) none) (cond (Nat.beq pc 12) (some (.putfield 68, 3)) none))))) (cond (Nat.blt pc 22) (cond (Nat.blt pc 17) (cond (Nat.blt pc 16) (cond (Nat.beq pc 15) (some (.aload_n 0, 1)) none) (cond (Nat.beq pc 16) (some (.iconst 0, 1)) none)) (cond (Nat.blt pc 18) (cond (Nat.beq pc 17) (some (.aload_n 2, 1)) none) (cond (Nat.blt pc 21) (cond (Nat.beq pc 18) (some (.getfield 31, 3)) none) (cond (Nat.beq pc 21) (some (.iload_n 3, 1)) none)))) (cond (Nat.blt pc 24) (cond (Nat.blt pc 23) (cond (Nat.beq pc 22) (some (.laload, 1)) none) (cond (Nat.beq pc 23) (some (.iconst 0, 1)) none)) (cond (Nat.blt pc 25) (cond (Nat.beq pc 24) (some (.iconst 0, 1)) none) (cond (Nat.blt pc 28) (cond (Nat.beq pc 25) (some (.invokevirtual 77, 3)) none) (cond (Nat.beq pc 28) (some (.return_, 1)) none))))))
def pI_85 : Nat → Option (Instr × Nat) := fun pc => eB1 pc 78 (cond (Nat.blt pc 37) (cond (Nat.blt pc 18) (cond (Nat.blt pc 8) (cond (Nat.blt pc 2) (cond (Nat.blt pc 1) (cond (Nat.beq pc 0) (some (.aload_n 0, 1)) none) (cond (Nat.beq pc 1) (some (.iconst 0, 1)) none)) (cond (Nat.blt pc 5) (cond (Nat.beq pc 2) (some (.putfield 37, 3)) none) (cond (Nat.blt pc 6) (cond (Nat.beq pc 5) (some (.iconst 0, 1)) none) (cond (Nat.beq pc 6) (some (.istore 4, 2)) none)))) (cond (Nat.blt pc 11) (cond (Nat.blt pc 10) (cond (Nat.beq pc 8) (some (.iload 4, 2)) none) (cond (Nat.beq pc 10) (some (.aload_n 1, 1)) none)) (cond (Nat.blt pc 14) (cond (Nat.beq pc 11) (some (.getfield 81, 3)) none) (cond (Nat.blt pc 17) (cond (Nat.beq pc 14) (some (.if_icmp .ge 63, 3)) none) (cond (Nat.beq pc 17) (some (.aload_n 1, 1)) none))))) (cond (Nat.blt pc 28) (cond (Nat.blt pc 23) (cond (Nat.blt pc 21) (cond (Nat.beq pc 18) (some (.getfield 86, 3)) none) (cond (Nat.beq pc 21) (some (.iload 4, 2)) none)) (cond (Nat.blt pc 24) (cond (Nat.beq pc 23) (some (.aaload, 1)) none) (cond (Nat.blt pc 26) (cond (Nat.beq pc 24) (some (.astore 5, 2)) none) (cond (Nat.beq pc 26) (some (.aload 5, 2)) none)))) (cond (Nat.blt pc 32) (cond (Nat.blt pc 31) (cond (Nat.beq pc 28) (some (.getfield 89, 3)) none) (cond (Nat.beq pc 31) (some (.aload_n 2, 1)) none)) (cond (Nat.blt pc 35) (cond (Nat.beq pc 32) (some (.getfield 92, 3)) none) (cond (Nat.blt pc 36) (cond (Nat.beq pc 35) (some (.iload_n 3, 1)) none) (cond (Nat.beq pc 36) (some (.iaload, 1)) none)))))) (cond (Nat.blt pc 58) (cond (Nat.blt pc 47) (cond (Nat.blt pc 42) (cond (Nat.blt pc 40) (cond (Nat.beq pc 37) (some (.if_icmp .ne 34, 3)) none) (cond (Nat.beq pc 40) (some (.aload 5, 2)) none)) (cond (Nat.blt pc 43) (cond (Nat.beq pc 42) (some (.aload_n 2, 1)) none) (cond (Nat.blt pc 44) (cond (Nat.beq pc 43) (some (.iload_n 3, 1)) none) (cond (Nat.beq pc 44) (some (.invokestatic 95, 3)) none)))) (cond (Nat.blt pc 51) (cond (Nat.blt pc 50) (cond (Nat.beq pc 47) (some (.ifCond .eq 24, 3)) none) (cond (Nat.beq pc 50) (some (.aload_n 0, 1)) none)) (cond (Nat.blt pc 54) (cond (Nat.beq pc 51) (some (.getfield 11, 3)) none) (cond (Nat.blt pc 55) (cond (Nat.beq pc 54) (some (.aload_n 0, 1)) none) (cond (Nat.beq pc 55) (some (.getfield 37, 3)) none))))) (cond (Nat.blt pc 66) (cond (Nat.blt pc 61) (cond (Nat.blt pc 60) (cond (Nat.beq pc 58) (some (.aload 5, 2)) none) (cond (Nat.beq pc 60) (some (.aastore, 1)) none)) (cond (Nat.blt pc 62) (cond (Nat.beq pc 61) (some (.aload_n 0, 1)) none) (cond (Nat.blt pc 63) (cond (Nat.beq pc 62) (some (.dup, 1)) none) (cond (Nat.beq pc 63) (some (.getfield 37, 3)) none)))) (cond (Nat.blt pc 71) (cond (Nat.blt pc 67) (cond (Nat.beq pc 66) (some (.iconst 1, 1)) none) (cond (Nat.blt pc 68) (cond (Nat.beq pc 67) (some (.iadd, 1)) none) (cond (Nat.beq pc 68) (some (.putfield 37, 3)) none))) (cond (Nat.blt pc 74) (cond (Nat.beq pc 71) (some (.iinc 4 1, 3)) none) (cond (Nat.blt pc 77) (cond (Nat.beq pc 74) (some (.goto (-66), 3)) none) (cond (Nat.beq pc 77) (some (.return_, 1)) none)))))))
def pI_86 : Nat → Option (Instr × Nat) := fun pc => eB1 pc 58 (cond (Nat.blt pc 30) (cond (Nat.blt pc 14) (cond (Nat.blt pc 8) (cond (Nat.blt pc 4) (cond (Nat.blt pc 1) (cond (Nat.beq pc 0) (some (.aload_n 0, 1)) none) (cond (Nat.beq pc 1) (some (.invokevirtual 49, 3)) none)) (cond (Nat.blt pc 7) (cond (Nat.beq pc 4) (some (.ifCond .eq 9, 3)) none) (cond (Nat.beq pc 7) (some (.iload_n 2, 1)) none))) (cond (Nat.blt pc 12) (cond (Nat.blt pc 11) (cond (Nat.beq pc 8) (some (.ifCond .ne 5, 3)) none) (cond (Nat.beq pc 11) (some (.iconst 0, 1)) none)) (cond (Nat.blt pc 13) (cond (Nat.beq pc 12) (some (.ireturn, 1)) none) (cond (Nat.beq pc 13) (some (.aload_n 0, 1)) none)))) (cond (Nat.blt pc 22) (cond (Nat.blt pc 20) (cond (Nat.blt pc 17) (cond (Nat.beq pc 14) (some (.getfield 99, 3)) none) (cond (Nat.beq pc 17) (some (.ifCond .eq 13, 3)) none)) (cond (Nat.blt pc 21) (cond (Nat.beq pc 20) (some (.aload_n 1, 1)) none) (cond (Nat.beq pc 21) (some (.iload_n 2, 1)) none))) (cond (Nat.blt pc 28) (cond (Nat.blt pc 25) (cond (Nat.beq pc 22) (some (.invokevirtual 103, 3)) none) (cond (Nat.beq pc 25) (some (.ifCond .le 5, 3)) none)) (cond (Nat.blt pc 29) (cond (Nat.beq pc 28) (some (.iconst 0, 1)) none) (cond (Nat.beq pc 29) (some (.ireturn, 1)) none))))) (cond (Nat.blt pc 42) (cond (Nat.blt pc 36) (cond (Nat.blt pc 34) (cond (Nat.blt pc 31) (cond (Nat.beq pc 30) (some (.aload_n 0, 1)) none) (cond (Nat.beq pc 31) (some (.getfield 107, 3)) none)) (cond (Nat.blt pc 35) (cond (Nat.beq pc 34) (some (.lconst 0, 1)) none) (cond (Nat.beq pc 35) (some (.lcmp, 1)) none))) (cond (Nat.blt pc 40) (cond (Nat.blt pc 39) (cond (Nat.beq pc 36) (some (.ifCond .eq 16, 3)) none) (cond (Nat.beq pc 39) (some (.aload_n 1, 1)) none)) (cond (Nat.blt pc 41) (cond (Nat.beq pc 40) (some (.iload_n 2, 1)) none) (cond (Nat.beq pc 41) (some (.aload_n 0, 1)) none)))) (cond (Nat.blt pc 52) (cond (Nat.blt pc 48) (cond (Nat.blt pc 45) (cond (Nat.beq pc 42) (some (.getfield 110, 3)) none) (cond (Nat.beq pc 45) (some (.invokevirtual 113, 3)) none)) (cond (Nat.blt pc 49) (cond (Nat.beq pc 48) (some (.iconst (-1), 1)) none) (cond (Nat.beq pc 49) (some (.if_icmp .eq 7, 3)) none))) (cond (Nat.blt pc 56) (cond (Nat.blt pc 53) (cond (Nat.beq pc 52) (some (.iconst 1, 1)) none) (cond (Nat.beq pc 53) (some (.goto 4, 3)) none)) (cond (Nat.blt pc 57) (cond (Nat.beq pc 56) (some (.iconst 0, 1)) none) (cond (Nat.beq pc 57) (some (.ireturn, 1)) none))))))
def pI_87 : Nat → Option (Instr × Nat) := fun pc => eB1 pc 161 (cond (Nat.blt pc 79) (cond (Nat.blt pc 42) (cond (Nat.blt pc 22) (cond (Nat.blt pc 9) (cond (Nat.blt pc 4) (cond (Nat.blt pc 1) (cond (Nat.beq pc 0) (some (.aload_n 0, 1)) none) (cond (Nat.beq pc 1) (some (.getfield 62, 3)) none)) (cond (Nat.blt pc 5) (cond (Nat.beq pc 4) (some (.aload_n 0, 1)) none) (cond (Nat.blt pc 8) (cond (Nat.beq pc 5) (some (.getfield 68, 3)) none) (cond (Nat.beq pc 8) (some (.isub, 1)) none)))) (cond (Nat.blt pc 15) (cond (Nat.blt pc 12) (cond (Nat.beq pc 9) (some (.sipush 1000, 3)) none) (cond (Nat.beq pc 12) (some (.if_icmp .gt 13, 3)) none)) (cond (Nat.blt pc 16) (cond (Nat.beq pc 15) (some (.aload_n 0, 1)) none) (cond (Nat.blt pc 19) (cond (Nat.beq pc 16) (some (.getfield 62, 3)) none) (cond (Nat.beq pc 19) (some (.sipush 2012, 3)) none))))) (cond (Nat.blt pc 31) (cond (Nat.blt pc 26) (cond (Nat.blt pc 25) (cond (Nat.beq pc 22) (some (.if_icmp .lt 4, 3)) none) (cond (Nat.beq pc 25) (some (.return_, 1)) none)) (cond (Nat.blt pc 27) (cond (Nat.beq pc 26) (some (.iload_n 1, 1)) none) (cond (Nat.blt pc 28) (cond (Nat.beq pc 27) (some (.aload_n 0, 1)) none) (cond (Nat.beq pc 28) (some (.getfield 37, 3)) none)))) (cond (Nat.blt pc 35) (cond (Nat.blt pc 34) (cond (Nat.beq pc 31) (some (.if_icmp .lt 25, 3)) none) (cond (Nat.beq pc 34) (some (.aload_n 0, 1)) none)) (cond (Nat.blt pc 38) (cond (Nat.beq pc 35) (some (.getfield 17, 3)) none) (cond (Nat.blt pc 39) (cond (Nat.beq pc 38) (some (.aload_n 0, 1)) none) (cond (Nat.beq pc 39) (some (.getfield 62, 3)) none)))))) (cond (Nat.blt pc 57) (cond (Nat.blt pc 50) (cond (Nat.blt pc 45) (cond (Nat.blt pc 44) (cond (Nat.beq pc 42) (some (.iload 4, 2)) none) (cond (Nat.beq pc 44) (some (.iastore, 1)) none)) (cond (Nat.blt pc 46) (cond (Nat.beq pc 45) (some (.aload_n 0, 1)) none) (cond (Nat.blt pc 47) (cond (Nat.beq pc 46) (some (.dup, 1)) none) (cond (Nat.beq pc 47) (some (.getfield 62, 3)) none)))) (cond (Nat.blt pc 52) (cond (Nat.blt pc 51) (cond (Nat.beq pc 50) (some (.iconst 1, 1)) none) (cond (Nat.beq pc 51) (some (.iadd, 1)) none)) (cond (Nat.blt pc 55) (cond (Nat.beq pc 52) (some (.putfield 62, 3)) none) (cond (Nat.blt pc 56) (cond (Nat.beq pc 55) (some (.return_, 1)) none) (cond (Nat.beq pc 56) (some (.aload_n 0, 1)) none))))) (cond (Nat.blt pc 66) (cond (Nat.blt pc 61) (cond (Nat.blt pc 60) (cond (Nat.beq pc 57) (some (.getfield 11, 3)) none) (cond (Nat.beq pc 60) (some (.iload_n 1, 1)) none)) (cond (Nat.blt pc 62) (cond (Nat.beq pc 61) (some (.aaload, 1)) none) (cond (Nat.blt pc 64) (cond (Nat.beq pc 62) (some (.astore 6, 2)) none) (cond (Nat.beq pc 64) (some (.aload 6, 2)) none)))) (cond (Nat.blt pc 72) (cond (Nat.blt pc 67) (cond (Nat.beq pc 66) (some (.lload_n 2, 1)) none) (cond (Nat.blt pc 69) (cond (Nat.beq pc 67) (some (.iload 5, 2)) none) (cond (Nat.beq pc 69) (some (.invokevirtual 41, 3)) none))) (cond (Nat.blt pc 74) (cond (Nat.beq pc 72) (some (.istore 7, 2)) none) (cond (Nat.blt pc 76) (cond (Nat.beq pc 74) (some (.iload 7, 2)) none) (cond (Nat.beq pc 76) (some (.ifCond .lt 84, 3)) none))))))) (cond (Nat.blt pc 119) (cond (Nat.blt pc 97) (cond (Nat.blt pc 88) (cond (Nat.blt pc 82) (cond (Nat.blt pc 80) (cond (Nat.beq pc 79) (some (.lload_n 2, 1)) none) (cond (Nat.beq pc 80) (some (.iload 7, 2)) none)) (cond (Nat.blt pc 83) (cond (Nat.beq pc 82) (some (.i2l, 1)) none) (cond (Nat.blt pc 85) (cond (Nat.beq pc 83) (some (.aload 6, 2)) none) (cond (Nat.beq pc 85) (some (.getfield 45, 3)) none)))) (cond (Nat.blt pc 90) (cond (Nat.blt pc 89) (cond (Nat.beq pc 88) (some (.lmul, 1)) none) (cond (Nat.beq pc 89) (some (.lsub, 1)) none)) (cond (Nat.blt pc 92) (cond (Nat.beq pc 90) (some (.lstore 8, 2)) none) (cond (Nat.blt pc 94) (cond (Nat.beq pc 92) (some (.iload 5, 2)) none) (cond (Nat.beq pc 94) (some (.ifCond .ne 16, 3)) none))))) (cond (Nat.blt pc 110) (cond (Nat.blt pc 102) (cond (Nat.blt pc 99) (cond (Nat.beq pc 97) (some (.iload 7, 2)) none) (cond (Nat.beq pc 99) (some (.ifCond .le 15, 3)) none)) (cond (Nat.blt pc 104) (cond (Nat.beq pc 102) (some (.aload 6, 2)) none) (cond (Nat.blt pc 107) (cond (Nat.beq pc 104) (some (.invokevirtual 49, 3)) none) (cond (Nat.beq pc 107) (some (.ifCond .eq 7, 3)) none)))) (cond (Nat.blt pc 115) (cond (Nat.blt pc 111) (cond (Nat.beq pc 110) (some (.iconst 1, 1)) none) (cond (Nat.blt pc 114) (cond (Nat.beq pc 111) (some (.goto 4, 3)) none) (cond (Nat.beq pc 114) (some (.iconst 0, 1)) none))) (cond (Nat.blt pc 117) (cond (Nat.beq pc 115) (some (.istore 10, 2)) none) (cond (Nat.blt pc 118) (cond (Nat.beq pc 117) (some (.aload_n 0, 1)) none) (cond (Nat.beq pc 118) (some (.iload_n 1, 1)) none)))))) (cond (Nat.blt pc 135) (cond (Nat.blt pc 128) (cond (Nat.blt pc 121) (cond (Nat.blt pc 120) (cond (Nat.beq pc 119) (some (.iconst 1, 1)) none) (cond (Nat.beq pc 120) (some (.iadd, 1)) none)) (cond (Nat.blt pc 123) (cond (Nat.beq pc 121) (some (.lload 8, 2)) none) (cond (Nat.blt pc 125) (cond (Nat.beq pc 123) (some (.iload 10, 2)) none) (cond (Nat.beq pc 125) (some (.invokevirtual 116, 3)) none)))) (cond (Nat.blt pc 132) (cond (Nat.blt pc 131) (cond (Nat.beq pc 128) (some (.ifCond .eq 26, 3)) none) (cond (Nat.beq pc 131) (some (.aload_n 0, 1)) none)) (cond (Nat.blt pc 133) (cond (Nat.beq pc 132) (some (.iload_n 1, 1)) none) (cond (Nat.blt pc 134) (cond (Nat.beq pc 133) (some (.iconst 1, 1)) none) (cond (Nat.beq pc 134) (some (.iadd, 1)) none))))) (cond (Nat.blt pc 146) (cond (Nat.blt pc 139) (cond (Nat.blt pc 137) (cond (Nat.beq pc 135) (some (.lload 8, 2)) none) (cond (Nat.beq pc 137) (some (.iload 4, 2)) none)) (cond (Nat.blt pc 141) (cond (Nat.beq pc 139) (some (.aload 6, 2)) none) (cond (Nat.blt pc 144) (cond (Nat.beq pc 141) (some (.getfield 53, 3)) none) (cond (Nat.beq pc 144) (some (.iload 7, 2)) none)))) (cond (Nat.blt pc 154) (cond (Nat.blt pc 149) (cond (Nat.beq pc 146) (some (.invokestatic 56, 3)) none) (cond (Nat.blt pc 151) (cond (Nat.beq pc 149) (some (.iload 10, 2)) none) (cond (Nat.beq pc 151) (some (.invokevirtual 77, 3)) none))) (cond (Nat.blt pc 157) (cond (Nat.beq pc 154) (some (.iinc 7 (-1), 3)) none) (cond (Nat.blt pc 160) (cond (Nat.beq pc 157) (some (.goto (-83), 3)) none) (cond (Nat.beq pc 160) (some (.return_, 1)) none))))))))
def pI_88 : Nat → Option (Instr × Nat) := fun pc => eB1 pc 173 (cond (Nat.blt pc 86) (cond (Nat.blt pc 40) (cond (Nat.blt pc 20) (cond (Nat.blt pc 8) (cond (Nat.blt pc 3) (cond (Nat.blt pc 1) (cond (Nat.beq pc 0) (some (.lconst 0, 1)) none) (cond (Nat.beq pc 1) (some (.lstore 5, 2)) none)) (cond (Nat.blt pc 5) (cond (Nat.beq pc 3) (some (.iload 4, 2)) none) (cond (Nat.blt pc 7) (cond (Nat.beq pc 5) (some (.istore 7, 2)) none) (cond (Nat.beq pc 7) (some (.iload_n 1, 1)) none)))) (cond (Nat.blt pc 13) (cond (Nat.blt pc 10) (cond (Nat.beq pc 8) (some (.istore 8, 2)) none) (cond (Nat.blt pc 12) (cond (Nat.beq pc 10) (some (.iload 8, 2)) none) (cond (Nat.beq pc 12) (some (.aload_n 0, 1)) none))) (cond (Nat.blt pc 16) (cond (Nat.beq pc 13) (some (.getfield 37, 3)) none) (cond (Nat.blt pc 19) (cond (Nat.beq pc 16) (some (.if_icmp .ge 73, 3)) none) (cond (Nat.beq pc 19) (some (.aload_n 0, 1)) none))))) (cond (Nat.blt pc 29) (cond (Nat.blt pc 25) (cond (Nat.blt pc 23) (cond (Nat.beq pc 20) (some (.getfield 11, 3)) none) (cond (Nat.beq pc 23) (some (.iload 8, 2)) none)) (cond (Nat.blt pc 26) (cond (Nat.beq pc 25) (some (.aaload, 1)) none) (cond (Nat.blt pc 27) (cond (Nat.beq pc 26) (some (.lload_n 2, 1)) none) (cond (Nat.beq pc 27) (some (.iload 4, 2)) none)))) (cond (Nat.blt pc 36) (cond (Nat.blt pc 32) (cond (Nat.beq pc 29) (some (.invokevirtual 41, 3)) none) (cond (Nat.blt pc 34) (cond (Nat.beq pc 32) (some (.istore 9, 2)) none) (cond (Nat.beq pc 34) (some (.lload 5, 2)) none))) (cond (Nat.blt pc 38) (cond (Nat.beq pc 36) (some (.iload 9, 2)) none) (cond (Nat.blt pc 39) (cond (Nat.beq pc 38) (some (.i2l, 1)) none) (cond (Nat.beq pc 39) (some (.aload_n 0, 1)) none)))))) (cond (Nat.blt pc 63) (cond (Nat.blt pc 50) (cond (Nat.blt pc 45) (cond (Nat.blt pc 43) (cond (Nat.beq pc 40) (some (.getfield 11, 3)) none) (cond (Nat.beq pc 43) (some (.iload 8, 2)) none)) (cond (Nat.blt pc 46) (cond (Nat.beq pc 45) (some (.aaload, 1)) none) (cond (Nat.blt pc 49) (cond (Nat.beq pc 46) (some (.getfield 45, 3)) none) (cond (Nat.beq pc 49) (some (.lmul, 1)) none)))) (cond (Nat.blt pc 55) (cond (Nat.blt pc 51) (cond (Nat.beq pc 50) (some (.ladd, 1)) none) (cond (Nat.blt pc 53) (cond (Nat.beq pc 51) (some (.lstore 5, 2)) none) (cond (Nat.beq pc 53) (some (.iload 7, 2)) none))) (cond (Nat.blt pc 58) (cond (Nat.beq pc 55) (some (.ifCond .ne 21, 3)) none) (cond (Nat.blt pc 60) (cond (Nat.beq pc 58) (some (.iload 9, 2)) none) (cond (Nat.beq pc 60) (some (.ifCond .le 20, 3)) none))))) (cond (Nat.blt pc 73) (cond (Nat.blt pc 67) (cond (Nat.blt pc 64) (cond (Nat.beq pc 63) (some (.aload_n 0, 1)) none) (cond (Nat.beq pc 64) (some (.getfield 11, 3)) none)) (cond (Nat.blt pc 69) (cond (Nat.beq pc 67) (some (.iload 8, 2)) none) (cond (Nat.blt pc 70) (cond (Nat.beq pc 69) (some (.aaload, 1)) none) (cond (Nat.beq pc 70) (some (.invokevirtual 49, 3)) none)))) (cond (Nat.blt pc 80) (cond (Nat.blt pc 76) (cond (Nat.beq pc 73) (some (.ifCond .eq 7, 3)) none) (cond (Nat.blt pc 77) (cond (Nat.beq pc 76) (some (.iconst 1, 1)) none) (cond (Nat.beq pc 77) (some (.goto 4, 3)) none))) (cond (Nat.blt pc 81) (cond (Nat.beq pc 80) (some (.iconst 0, 1)) none) (cond (Nat.blt pc 83) (cond (Nat.beq pc 81) (some (.istore 7, 2)) none) (cond (Nat.beq pc 83) (some (.iinc 8 1, 3)) none))))))) (cond (Nat.blt pc 130) (cond (Nat.blt pc 108) (cond (Nat.blt pc 95) (cond (Nat.blt pc 90) (cond (Nat.blt pc 89) (cond (Nat.beq pc 86) (some (.goto (-76), 3)) none) (cond (Nat.beq pc 89) (some (.iconst 0, 1)) none)) (cond (Nat.blt pc 92) (cond (Nat.beq pc 90) (some (.istore 8, 2)) none) (cond (Nat.blt pc 94) (cond (Nat.beq pc 92) (some (.iload 8, 2)) none) (cond (Nat.beq pc 94) (some (.iload_n 1, 1)) none)))) (cond (Nat.blt pc 102) (cond (Nat.blt pc 98) (cond (Nat.beq pc 95) (some (.if_icmp .ge 76, 3)) none) (cond (Nat.blt pc 99) (cond (Nat.beq pc 98) (some (.aload_n 0, 1)) none) (cond (Nat.beq pc 99) (some (.getfield 11, 3)) none))) (cond (Nat.blt pc 104) (cond (Nat.beq pc 102) (some (.iload 8, 2)) none) (cond (Nat.blt pc 105) (cond (Nat.beq pc 104) (some (.aaload, 1)) none) (cond (Nat.beq pc 105) (some (.invokevirtual 49, 3)) none))))) (cond (Nat.blt pc 120) (cond (Nat.blt pc 113) (cond (Nat.blt pc 111) (cond (Nat.beq pc 108) (some (.ifCond .eq 12, 3)) none) (cond (Nat.beq pc 111) (some (.iload 7, 2)) none)) (cond (Nat.blt pc 116) (cond (Nat.beq pc 113) (some (.ifCond .eq 7, 3)) none) (cond (Nat.blt pc 117) (cond (Nat.beq pc 116) (some (.iconst 1, 1)) none) (cond (Nat.beq pc 117) (some (.goto 4, 3)) none)))) (cond (Nat.blt pc 124) (cond (Nat.blt pc 121) (cond (Nat.beq pc 120) (some (.iconst 0, 1)) none) (cond (Nat.blt pc 123) (cond (Nat.beq pc 121) (some (.istore 9, 2)) none) (cond (Nat.beq pc 123) (some (.aload_n 0, 1)) none))) (cond (Nat.blt pc 127) (cond (Nat.beq pc 124) (some (.getfield 11, 3)) none) (cond (Nat.blt pc 129) (cond (Nat.beq pc 127) (some (.iload 8, 2)) none) (cond (Nat.beq pc 129) (some (.aaload, 1)) none)))))) (cond (Nat.blt pc 151) (cond (Nat.blt pc 141) (cond (Nat.blt pc 135) (cond (Nat.blt pc 133) (cond (Nat.beq pc 130) (some (.getfield 45, 3)) none) (cond (Nat.beq pc 133) (some (.lload 5, 2)) none)) (cond (Nat.blt pc 136) (cond (Nat.beq pc 135) (some (.aload_n 0, 1)) none) (cond (Nat.blt pc 139) (cond (Nat.beq pc 136) (some (.getfield 11, 3)) none) (cond (Nat.beq pc 139) (some (.iload 8, 2)) none)))) (cond (Nat.blt pc 146) (cond (Nat.blt pc 142) (cond (Nat.beq pc 141) (some (.aaload, 1)) none) (cond (Nat.blt pc 145) (cond (Nat.beq pc 142) (some (.getfield 120, 3)) none) (cond (Nat.beq pc 145) (some (.land, 1)) none))) (cond (Nat.blt pc 147) (cond (Nat.beq pc 146) (some (.ladd, 1)) none) (cond (Nat.blt pc 149) (cond (Nat.beq pc 147) (some (.lstore 10, 2)) none) (cond (Nat.beq pc 149) (some (.iload 9, 2)) none))))) (cond (Nat.blt pc 163) (cond (Nat.blt pc 155) (cond (Nat.blt pc 154) (cond (Nat.beq pc 151) (some (.ifCond .ne 14, 3)) none) (cond (Nat.beq pc 154) (some (.lload_n 2, 1)) none)) (cond (Nat.blt pc 157) (cond (Nat.beq pc 155) (some (.lload 10, 2)) none) (cond (Nat.blt pc 160) (cond (Nat.beq pc 157) (some (.invokestatic 123, 3)) none) (cond (Nat.beq pc 160) (some (.ifCond .eq 5, 3)) none)))) (cond (Nat.blt pc 168) (cond (Nat.blt pc 164) (cond (Nat.beq pc 163) (some (.iconst 0, 1)) none) (cond (Nat.blt pc 165) (cond (Nat.beq pc 164) (some (.ireturn, 1)) none) (cond (Nat.beq pc 165) (some (.iinc 8 1, 3)) none))) (cond (Nat.blt pc 171) (cond (Nat.beq pc 168) (some (.goto (-76), 3)) none) (cond (Nat.blt pc 172) (cond (Nat.beq pc 171) (some (.iconst 1, 1)) none) (cond (Nat.beq pc 172) (some (.ireturn, 1)) none))))))))
def pI_89 : Nat → Option (Instr × Nat) := fun pc => eB1 pc 29 (cond (Nat.blt pc 13) (cond (Nat.blt pc 5) (cond (Nat.blt pc 1) (cond (Nat.beq pc 0) (some (.aload_n 0, 1)) none) (cond (Nat.blt pc 4) (cond (Nat.beq pc 1) (some (.invokespecial 3, 3)) none) (cond (Nat.beq pc 4) (some (.aload_n 0, 1)) none))) (cond (Nat.blt pc 9) (cond (Nat.blt pc 7) (cond (Nat.beq pc 5) (some (.bipush 6, 2)) none) (cond (Nat.beq pc 7) (some (.newarray .int, 2)) none)) (cond (Nat.blt pc 12) (cond (Nat.beq pc 9) (some (.putfield 9, 3)) none) (cond (Nat.beq pc 12) (some (.aload_n 0, 1)) none)))) (cond (Nat.blt pc 21) (cond (Nat.blt pc 17) (cond (Nat.blt pc 15) (cond (Nat.beq pc 13) (some (.bipush 6, 2)) none) (cond (Nat.beq pc 15) (some (.newarray .int, 2)) none)) (cond (Nat.blt pc 20) (cond (Nat.beq pc 17) (some (.putfield 15, 3)) none) (cond (Nat.beq pc 20) (some (.aload_n 0, 1)) none))) (cond (Nat.blt pc 25) (cond (Nat.blt pc 23) (cond (Nat.beq pc 21) (some (.bipush 7, 2)) none) (cond (Nat.beq pc 23) (some (.newarray .long, 2)) none)) (cond (Nat.blt pc 28) (cond (Nat.beq pc 25) (some (.putfield 18, 3)) none) (cond (Nat.beq pc 28) (some (.return_, 1)) none)))))
def pI_90 : Nat → Option (Instr × Nat) := fun pc => eB1 pc 37 (cond (Nat.blt pc 20) (cond (Nat.blt pc 8) (cond (Nat.blt pc 2) (cond (Nat.blt pc 1) (cond (Nat.beq pc 0) (some (.iconst 0, 1)) none) (cond (Nat.beq pc 1) (some (.istore_n 2, 1)) none)) (cond (Nat.blt pc 3) (cond (Nat.beq pc 2) (some (.iload_n 2, 1)) none) (cond (Nat.blt pc 5) (cond (Nat.beq pc 3) (some (.bipush 6, 2)) none) (cond (Nat.beq pc 5) (some (.if_icmp .ge 14, 3)) none)))) (cond (Nat.blt pc 13) (cond (Nat.blt pc 9) (cond (Nat.beq pc 8) (some (.aload_n 0, 1)) none) (cond (Nat.blt pc 10) (cond (Nat.beq pc 9) (some (.iload_n 2, 1)) none) (cond (Nat.beq pc 10) (some (.invokevirtual 22, 3)) none))) (cond (Nat.blt pc 16) (cond (Nat.beq pc 13) (some (.iinc 2 1, 3)) none) (cond (Nat.blt pc 19) (cond (Nat.beq pc 16) (some (.goto (-14), 3)) none) (cond (Nat.beq pc 19) (some (.aload_n 0, 1)) none))))) (cond (Nat.blt pc 28) (cond (Nat.blt pc 23) (cond (Nat.blt pc 21) (cond (Nat.beq pc 20) (some (.iconst 0, 1)) none) (cond (Nat.beq pc 21) (some (.bipush 6, 2)) none)) (cond (Nat.blt pc 24) (cond (Nat.beq pc 23) (some (.iload_n 1, 1)) none) (cond (Nat.blt pc 25) (cond (Nat.beq pc 24) (some (.lconst 0, 1)) none) (cond (Nat.beq pc 25) (some (.invokevirtual 26, 3)) none)))) (cond (Nat.blt pc 34) (cond (Nat.blt pc 29) (cond (Nat.beq pc 28) (some (.aload_n 0, 1)) none) (cond (Nat.blt pc 32) (cond (Nat.beq pc 29) (some (.getfield 18, 3)) none) (cond (Nat.beq pc 32) (some (.bipush 6, 2)) none))) (cond (Nat.blt pc 35) (cond (Nat.beq pc 34) (some (.lconst 0, 1)) none) (cond (Nat.blt pc 36) (cond (Nat.beq pc 35) (some (.lastore, 1)) none) (cond (Nat.beq pc 36) (some (.return_, 1)) none))))))
def pI_91 : Nat → Option (Instr × Nat) := fun pc => eB1 pc 23 (cond (Nat.blt pc 12) (cond (Nat.blt pc 6) (cond (Nat.blt pc 4) (cond (Nat.blt pc 1) (cond (Nat.beq pc 0) (some (.aload_n 0, 1)) none) (cond (Nat.beq pc 1) (some (.getfield 9, 3)) none)) (cond (Nat.blt pc 5) (cond (Nat.beq pc 4) (some (.iload_n 1, 1)) none) (cond (Nat.beq pc 5) (some (.iload_n 3, 1)) none))) (cond (Nat.blt pc 8) (cond (Nat.blt pc 7) (cond (Nat.beq pc 6) (some (.iastore, 1)) none) (cond (Nat.beq pc 7) (some (.aload_n 0, 1)) none)) (cond (Nat.blt pc 11) (cond (Nat.beq pc 8) (some (.getfield 15, 3)) none) (cond (Nat.beq pc 11) (some (.iload_n 1, 1)) none)))) (cond (Nat.blt pc 18) (cond (Nat.blt pc 14) (cond (Nat.blt pc 13) (cond (Nat.beq pc 12) (some (.iload_n 2, 1)) none) (cond (Nat.beq pc 13) (some (.iastore, 1)) none)) (cond (Nat.blt pc 15) (cond (Nat.beq pc 14) (some (.aload_n 0, 1)) none) (cond (Nat.beq pc 15) (some (.getfield 18, 3)) none))) (cond (Nat.blt pc 21) (cond (Nat.blt pc 19) (cond (Nat.beq pc 18) (some (.iload_n 1, 1)) none) (cond (Nat.beq pc 19) (some (.lload 4, 2)) none)) (cond (Nat.blt pc 22) (cond (Nat.beq pc 21) (some (.lastore, 1)) none) (cond (Nat.beq pc 22) (some (.return_, 1)) none)))))
def pI_92 : Nat → Option (Instr × Nat) := fun pc => eB1 pc 9 (cond (Nat.blt pc 3) (cond (Nat.blt pc 1) (cond (Nat.beq pc 0) (some (.aload_n 0, 1)) none) (cond (Nat.blt pc 2) (cond (Nat.beq pc 1) (some (.iload_n 1, 1)) none) (cond (Nat.beq pc 2) (some (.iconst (-1), 1)) none))) (cond (Nat.blt pc 5) (cond (Nat.blt pc 4) (cond (Nat.beq pc 3) (some (.iconst (-1), 1)) none) (cond (Nat.beq pc 4) (some (.lconst 0, 1)) none)) (cond (Nat.blt pc 8) (cond (Nat.beq pc 5) (some (.invokevirtual 26, 3)) none) (cond (Nat.beq pc 8) (some (.return_, 1)) none))))
def pI_93 : Nat → Option (Instr × Nat) := fun pc => eB1 pc 46 (cond (Nat.blt pc 21) (cond (Nat.blt pc 10) (cond (Nat.blt pc 5) (cond (Nat.blt pc 1) (cond (Nat.beq pc 0) (some (.aload_n 1, 1)) none) (cond (Nat.blt pc 4) (cond (Nat.beq pc 1) (some (.getfield 9, 3)) none) (cond (Nat.beq pc 4) (some (.iconst 0, 1)) none))) (cond (Nat.blt pc 6) (cond (Nat.beq pc 5) (some (.aload_n 0, 1)) none) (cond (Nat.blt pc 9) (cond (Nat.beq pc 6) (some (.getfield 9, 3)) none) (cond (Nat.beq pc 9) (some (.iconst 0, 1)) none)))) (cond (Nat.blt pc 16) (cond (Nat.blt pc 12) (cond (Nat.beq pc 10) (some (.bipush 6, 2)) none) (cond (Nat.blt pc 15) (cond (Nat.beq pc 12) (some (.invokestatic 30, 3)) none) (cond (Nat.beq pc 15) (some (.aload_n 1, 1)) none))) (cond (Nat.blt pc 19) (cond (Nat.beq pc 16) (some (.getfield 15, 3)) none) (cond (Nat.blt pc 20) (cond (Nat.beq pc 19) (some (.iconst 0, 1)) none) (cond (Nat.beq pc 20) (some (.aload_n 0, 1)) none))))) (cond (Nat.blt pc 34) (cond (Nat.blt pc 27) (cond (Nat.blt pc 24) (cond (Nat.beq pc 21) (some (.getfield 15, 3)) none) (cond (Nat.blt pc 25) (cond (Nat.beq pc 24) (some (.iconst 0, 1)) none) (cond (Nat.beq pc 25) (some (.bipush 6, 2)) none))) (cond (Nat.blt pc 30) (cond (Nat.beq pc 27) (some (.invokestatic 30, 3)) none) (cond (Nat.blt pc 31) (cond (Nat.beq pc 30) (some (.aload_n 1, 1)) none) (cond (Nat.beq pc 31) (some (.getfield 18, 3)) none)))) (cond (Nat.blt pc 39) (cond (Nat.blt pc 35) (cond (Nat.beq pc 34) (some (.iconst 0, 1)) none) (cond (Nat.blt pc 36) (cond (Nat.beq pc 35) (some (.aload_n 0, 1)) none) (cond (Nat.beq pc 36) (some (.getfield 18, 3)) none))) (cond (Nat.blt pc 42) (cond (Nat.blt pc 40) (cond (Nat.beq pc 39) (some (.iconst 0, 1)) none) (cond (Nat.beq pc 40) (some (.bipush 7, 2)) none)) (cond (Nat.blt pc 45) (cond (Nat.beq pc 42) (some (.invokestatic 30, 3)) none) (cond (Nat.beq pc 45) (some (.return_, 1)) none))))))
def pI_94 : Nat → Option (Instr × Nat) := fun pc => eB1 pc 86 (cond (Nat.blt pc 40) (cond (Nat.blt pc 19) (cond (Nat.blt pc 9) (cond (Nat.blt pc 3) (cond (Nat.blt pc 1) (cond (Nat.beq pc 0) (some (.iconst 0, 1)) none) (cond (Nat.blt pc 2) (cond (Nat.beq pc 1) (some (.istore_n 2, 1)) none) (cond (Nat.beq pc 2) (some (.iload_n 2, 1)) none))) (cond (Nat.blt pc 5) (cond (Nat.beq pc 3) (some (.bipush 6, 2)) none) (cond (Nat.blt pc 8) (cond (Nat.beq pc 5) (some (.if_icmp .ge 57, 3)) none) (cond (Nat.beq pc 8) (some (.aload_n 0, 1)) none)))) (cond (Nat.blt pc 14) (cond (Nat.blt pc 12) (cond (Nat.beq pc 9) (some (.getfield 18, 3)) none) (cond (Nat.blt pc 13) (cond (Nat.beq pc 12) (some (.iload_n 2, 1)) none) (cond (Nat.beq pc 13) (some (.laload, 1)) none))) (cond (Nat.blt pc 15) (cond (Nat.beq pc 14) (some (.aload_n 1, 1)) none) (cond (Nat.blt pc 18) (cond (Nat.beq pc 15) (some (.getfield 18, 3)) none) (cond (Nat.beq pc 18) (some (.iload_n 2, 1)) none))))) (cond (Nat.blt pc 29) (cond (Nat.blt pc 24) (cond (Nat.blt pc 20) (cond (Nat.beq pc 19) (some (.laload, 1)) none) (cond (Nat.blt pc 21) (cond (Nat.beq pc 20) (some (.lcmp, 1)) none) (cond (Nat.beq pc 21) (some (.ifCond .ne 33, 3)) none))) (cond (Nat.blt pc 25) (cond (Nat.beq pc 24) (some (.aload_n 0, 1)) none) (cond (Nat.blt pc 28) (cond (Nat.beq pc 25) (some (.getfield 9, 3)) none) (cond (Nat.beq pc 28) (some (.iload_n 2, 1)) none)))) (cond (Nat.blt pc 34) (cond (Nat.blt pc 30) (cond (Nat.beq pc 29) (some (.iaload, 1)) none) (cond (Nat.blt pc 31) (cond (Nat.beq pc 30) (some (.aload_n 1, 1)) none) (cond (Nat.beq pc 31) (some (.getfield 9, 3)) none))) (cond (Nat.blt pc 36) (cond (Nat.blt pc 35) (cond (Nat.beq pc 34) (some (.iload_n 2, 1)) none) (cond (Nat.beq pc 35) (some (.iaload, 1)) none)) (cond (Nat.blt pc 39) (cond (Nat.beq pc 36) (some (.if_icmp .ne 18, 3)) none) (cond (Nat.beq pc 39) (some (.aload_n 0, 1)) none)))))) (cond (Nat.blt pc 63) (cond (Nat.blt pc 50) (cond (Nat.blt pc 45) (cond (Nat.blt pc 43) (cond (Nat.beq pc 40) (some (.getfield 15, 3)) none) (cond (Nat.blt pc 44) (cond (Nat.beq pc 43) (some (.iload_n 2, 1)) none) (cond (Nat.beq pc 44) (some (.iaload, 1)) none))) (cond (Nat.blt pc 46) (cond (Nat.beq pc 45) (some (.aload_n 1, 1)) none) (cond (Nat.blt pc 49) (cond (Nat.beq pc 46) (some (.getfield 15, 3)) none) (cond (Nat.beq pc 49) (some (.iload_n 2, 1)) none)))) (cond (Nat.blt pc 55) (cond (Nat.blt pc 51) (cond (Nat.beq pc 50) (some (.iaload, 1)) none) (cond (Nat.blt pc 54) (cond (Nat.beq pc 51) (some (.if_icmp .eq 5, 3)) none) (cond (Nat.beq pc 54) (some (.iconst 0, 1)) none))) (cond (Nat.blt pc 59) (cond (Nat.blt pc 56) (cond (Nat.beq pc 55) (some (.ireturn, 1)) none) (cond (Nat.beq pc 56) (some (.iinc 2 1, 3)) none)) (cond (Nat.blt pc 62) (cond (Nat.beq pc 59) (some (.goto (-57), 3)) none) (cond (Nat.beq pc 62) (some (.aload_n 0, 1)) none))))) (cond (Nat.blt pc 75) (cond (Nat.blt pc 69) (cond (Nat.blt pc 66) (cond (Nat.beq pc 63) (some (.getfield 18, 3)) none) (cond (Nat.blt pc 68) (cond (Nat.beq pc 66) (some (.bipush 6, 2)) none) (cond (Nat.beq pc 68) (some (.laload, 1)) none))) (cond (Nat.blt pc 70) (cond (Nat.beq pc 69) (some (.aload_n 1, 1)) none) (cond (Nat.blt pc 73) (cond (Nat.beq pc 70) (some (.getfield 18, 3)) none) (cond (Nat.beq pc 73) (some (.bipush 6, 2)) none)))) (cond (Nat.blt pc 80) (cond (Nat.blt pc 76) (cond (Nat.beq pc 75) (some (.laload, 1)) none) (cond (Nat.blt pc 77) (cond (Nat.beq pc 76) (some (.lcmp, 1)) none) (cond (Nat.beq pc 77) (some (.ifCond .ne 7, 3)) none))) (cond (Nat.blt pc 84) (cond (Nat.blt pc 81) (cond (Nat.beq pc 80) (some (.iconst 1, 1)) none) (cond (Nat.beq pc 81) (some (.goto 4, 3)) none)) (cond (Nat.blt pc 85) (cond (Nat.beq pc 84) (some (.iconst 0, 1)) none) (cond (Nat.beq pc 85) (some (.ireturn, 1)) none)))))))
def pI_95 : Nat → Option (Instr × Nat) := fun pc => eB1 pc 26 (cond (Nat.blt pc 14) (cond (Nat.blt pc 5) (cond (Nat.blt pc 1) (cond (Nat.beq pc 0) (some (.iload_n 1, 1)) none) (cond (Nat.blt pc 4) (cond (Nat.beq pc 1) (some (.ifCond .lt 23, 3)) none) (cond (Nat.beq pc 4) (some (.iload_n 1, 1)) none))) (cond (Nat.blt pc 10) (cond (Nat.blt pc 7) (cond (Nat.beq pc 5) (some (.bipush 6, 2)) none) (cond (Nat.beq pc 7) (some (.if_icmp .ge 17, 3)) none)) (cond (Nat.blt pc 11) (cond (Nat.beq pc 10) (some (.aload_n 0, 1)) none) (cond (Nat.beq pc 11) (some (.getfield 9, 3)) none)))) (cond (Nat.blt pc 20) (cond (Nat.blt pc 16) (cond (Nat.blt pc 15) (cond (Nat.beq pc 14) (some (.iload_n 1, 1)) none) (cond (Nat.beq pc 15) (some (.iaload, 1)) none)) (cond (Nat.blt pc 17) (cond (Nat.beq pc 16) (some (.iconst (-1), 1)) none) (cond (Nat.beq pc 17) (some (.if_icmp .eq 7, 3)) none))) (cond (Nat.blt pc 24) (cond (Nat.blt pc 21) (cond (Nat.beq pc 20) (some (.iconst 1, 1)) none) (cond (Nat.beq pc 21) (some (.goto 4, 3)) none)) (cond (Nat.blt pc 25) (cond (Nat.beq pc 24) (some (.iconst 0, 1)) none) (cond (Nat.beq pc 25) (some (.ireturn, 1)) none)))))
def pI_96 : Nat → Option (Instr × Nat) := fun pc => eB1 pc 28 (cond (Nat.blt pc 13) (cond (Nat.blt pc 5) (cond (Nat.blt pc 2) (cond (Nat.blt pc 1) (cond (Nat.beq pc 0) (some (.iconst 0, 1)) none) (cond (Nat.beq pc 1) (some (.istore_n 1, 1)) none)) (cond (Nat.blt pc 3) (cond (Nat.beq pc 2) (some (.iload_n 1, 1)) none) (cond (Nat.beq pc 3) (some (.bipush 6, 2)) none))) (cond (Nat.blt pc 9) (cond (Nat.blt pc 8) (cond (Nat.beq pc 5) (some (.if_icmp .ge 21, 3)) none) (cond (Nat.beq pc 8) (some (.aload_n 0, 1)) none)) (cond (Nat.blt pc 12) (cond (Nat.beq pc 9) (some (.getfield 9, 3)) none) (cond (Nat.beq pc 12) (some (.iload_n 1, 1)) none)))) (cond (Nat.blt pc 19) (cond (Nat.blt pc 15) (cond (Nat.blt pc 14) (cond (Nat.beq pc 13) (some (.iaload, 1)) none) (cond (Nat.beq pc 14) (some (.iconst (-1), 1)) none)) (cond (Nat.blt pc 18) (cond (Nat.beq pc 15) (some (.if_icmp .ne 5, 3)) none) (cond (Nat.beq pc 18) (some (.iload_n 1, 1)) none))) (cond (Nat.blt pc 23) (cond (Nat.blt pc 20) (cond (Nat.beq pc 19) (some (.ireturn, 1)) none) (cond (Nat.beq pc 20) (some (.iinc 1 1, 3)) none)) (cond (Nat.blt pc 26) (cond (Nat.beq pc 23) (some (.goto (-21), 3)) none) (cond (Nat.blt pc 27) (cond (Nat.beq pc 26) (some (.iconst (-1), 1)) none) (cond (Nat.beq pc 27) (some (.ireturn, 1)) none))))))
def pI_97 : Nat → Option (Instr × Nat) := fun pc => eB1 pc 31 (cond (Nat.blt pc 14) (cond (Nat.blt pc 4) (cond (Nat.blt pc 2) (cond (Nat.blt pc 1) (cond (Nat.beq pc 0) (some (.iconst 0, 1)) none) (cond (Nat.beq pc 1) (some (.istore_n 2, 1)) none)) (cond (Nat.blt pc 3) (cond (Nat.beq pc 2) (some (.iconst 0, 1)) none) (cond (Nat.beq pc 3) (some (.istore_n 3, 1)) none))) (cond (Nat.blt pc 7) (cond (Nat.blt pc 5) (cond (Nat.beq pc 4) (some (.iload_n 3, 1)) none) (cond (Nat.beq pc 5) (some (.bipush 6, 2)) none)) (cond (Nat.blt pc 10) (cond (Nat.beq pc 7) (some (.if_icmp .ge 22, 3)) none) (cond (Nat.blt pc 11) (cond (Nat.beq pc 10) (some (.aload_n 0, 1)) none) (cond (Nat.beq pc 11) (some (.getfield 15, 3)) none))))) (cond (Nat.blt pc 20) (cond (Nat.blt pc 16) (cond (Nat.blt pc 15) (cond (Nat.beq pc 14) (some (.iload_n 3, 1)) none) (cond (Nat.beq pc 15) (some (.iaload, 1)) none)) (cond (Nat.blt pc 17) (cond (Nat.beq pc 16) (some (.iload_n 1, 1)) none) (cond (Nat.beq pc 17) (some (.if_icmp .ne 6, 3)) none))) (cond (Nat.blt pc 26) (cond (Nat.blt pc 23) (cond (Nat.beq pc 20) (some (.iinc 2 1, 3)) none) (cond (Nat.beq pc 23) (some (.iinc 3 1, 3)) none)) (cond (Nat.blt pc 29) (cond (Nat.beq pc 26) (some (.goto (-22), 3)) none) (cond (Nat.blt pc 30) (cond (Nat.beq pc 29) (some (.iload_n 2, 1)) none) (cond (Nat.beq pc 30) (some (.ireturn, 1)) none))))))
def pI_98 : Nat → Option (Instr × Nat) := fun pc => eB1 pc 38 (cond (Nat.blt pc 18) (cond (Nat.blt pc 8) (cond (Nat.blt pc 2) (cond (Nat.blt pc 1) (cond (Nat.beq pc 0) (some (.iconst 0, 1)) none) (cond (Nat.beq pc 1) (some (.istore_n 3, 1)) none)) (cond (Nat.blt pc 3) (cond (Nat.beq pc 2) (some (.iload_n 3, 1)) none) (cond (Nat.blt pc 5) (cond (Nat.beq pc 3) (some (.bipush 6, 2)) none) (cond (Nat.beq pc 5) (some (.if_icmp .ge 31, 3)) none)))) (cond (Nat.blt pc 13) (cond (Nat.blt pc 9) (cond (Nat.beq pc 8) (some (.aload_n 0, 1)) none) (cond (Nat.blt pc 12) (cond (Nat.beq pc 9) (some (.getfield 15, 3)) none) (cond (Nat.beq pc 12) (some (.iload_n 3, 1)) none))) (cond (Nat.blt pc 14) (cond (Nat.beq pc 13) (some (.iaload, 1)) none) (cond (Nat.blt pc 15) (cond (Nat.beq pc 14) (some (.iload_n 1, 1)) none) (cond (Nat.beq pc 15) (some (.if_icmp .ne 15, 3)) none))))) (cond (Nat.blt pc 28) (cond (Nat.blt pc 23) (cond (Nat.blt pc 19) (cond (Nat.beq pc 18) (some (.aload_n 0, 1)) none) (cond (Nat.blt pc 22) (cond (Nat.beq pc 19) (some (.getfield 9, 3)) none) (cond (Nat.beq pc 22) (some (.iload_n 3, 1)) none))) (cond (Nat.blt pc 24) (cond (Nat.beq pc 23) (some (.iaload, 1)) none) (cond (Nat.blt pc 25) (cond (Nat.beq pc 24) (some (.iload_n 2, 1)) none) (cond (Nat.beq pc 25) (some (.if_icmp .ne 5, 3)) none)))) (cond (Nat.blt pc 33) (cond (Nat.blt pc 29) (cond (Nat.beq pc 28) (some (.iload_n 3, 1)) none) (cond (Nat.blt pc 30) (cond (Nat.beq pc 29) (some (.ireturn, 1)) none) (cond (Nat.beq pc 30) (some (.iinc 3 1, 3)) none))) (cond (Nat.blt pc 36) (cond (Nat.beq pc 33) (some (.goto (-31), 3)) none) (cond (Nat.blt pc 37) (cond (Nat.beq pc 36) (some (.iconst (-1), 1)) none) (cond (Nat.beq pc 37) (some (.ireturn, 1)) none))))))
def pI_99 : Nat → Option (Instr × Nat) := fun pc => eB1 pc 53 (cond (Nat.blt pc 24) (cond (Nat.blt pc 9) (cond (Nat.blt pc 3) (cond (Nat.blt pc 1) (cond (Nat.beq pc 0) (some (.iconst 0, 1)) none) (cond (Nat.blt pc 2) (cond (Nat.beq pc 1) (some (.istore_n 1, 1)) none) (cond (Nat.beq pc 2) (some (.iload_n 1, 1)) none))) (cond (Nat.blt pc 5) (cond (Nat.beq pc 3) (some (.bipush 6, 2)) none) (cond (Nat.blt pc 8) (cond (Nat.beq pc 5) (some (.if_icmp .ge 26, 3)) none) (cond (Nat.beq pc 8) (some (.aload_n 0, 1)) none)))) (cond (Nat.blt pc 14) (cond (Nat.blt pc 12) (cond (Nat.beq pc 9) (some (.getfield 18, 3)) none) (cond (Nat.blt pc 13) (cond (Nat.beq pc 12) (some (.iload_n 1, 1)) none) (cond (Nat.beq pc 13) (some (.laload, 1)) none))) (cond (Nat.blt pc 20) (cond (Nat.blt pc 17) (cond (Nat.beq pc 14) (some (.ldc2_w 38, 3)) none) (cond (Nat.beq pc 17) (some (.invokestatic 40, 3)) none)) (cond (Nat.blt pc 23) (cond (Nat.beq pc 20) (some (.ifCond .ne 5, 3)) none) (cond (Nat.beq pc 23) (some (.iconst 1, 1)) none))))) (cond (Nat.blt pc 38) (cond (Nat.blt pc 31) (cond (Nat.blt pc 25) (cond (Nat.beq pc 24) (some (.ireturn, 1)) none) (cond (Nat.blt pc 28) (cond (Nat.beq pc 25) (some (.iinc 1 1, 3)) none) (cond (Nat.beq pc 28) (some (.goto (-26), 3)) none))) (cond (Nat.blt pc 35) (cond (Nat.blt pc 32) (cond (Nat.beq pc 31) (some (.aload_n 0, 1)) none) (cond (Nat.beq pc 32) (some (.getfield 18, 3)) none)) (cond (Nat.blt pc 37) (cond (Nat.beq pc 35) (some (.bipush 6, 2)) none) (cond (Nat.beq pc 37) (some (.laload, 1)) none)))) (cond (Nat.blt pc 47) (cond (Nat.blt pc 41) (cond (Nat.beq pc 38) (some (.ldc2_w 44, 3)) none) (cond (Nat.blt pc 44) (cond (Nat.beq pc 41) (some (.invokestatic 40, 3)) none) (cond (Nat.beq pc 44) (some (.ifCond .ne 7, 3)) none))) (cond (Nat.blt pc 51) (cond (Nat.blt pc 48) (cond (Nat.beq pc 47) (some (.iconst 1, 1)) none) (cond (Nat.beq pc 48) (some (.goto 4, 3)) none)) (cond (Nat.blt pc 52) (cond (Nat.beq pc 51) (some (.iconst 0, 1)) none) (cond (Nat.beq pc 52) (some (.ireturn, 1)) none))))))
def pI_100 : Nat → Option (Instr × Nat) := fun pc => eB1 pc 37 (cond (Nat.blt pc 16) (cond (Nat.blt pc 9) (cond (Nat.blt pc 3) (cond (Nat.blt pc 1) (cond (Nat.beq pc 0) (some (.lconst 0, 1)) none) (cond (Nat.blt pc 2) (cond (Nat.beq pc 1) (some (.lstore_n 1, 1)) none) (cond (Nat.beq pc 2) (some (.iconst 0, 1)) none))) (cond (Nat.blt pc 5) (cond (Nat.blt pc 4) (cond (Nat.beq pc 3) (some (.istore_n 3, 1)) none) (cond (Nat.beq pc 4) (some (.iload_n 3, 1)) none)) (cond (Nat.blt pc 6) (cond (Nat.beq pc 5) (some (.iconst 5, 1)) none) (cond (Nat.beq pc 6) (some (.if_icmp .ge 29, 3)) none)))) (cond (Nat.blt pc 12) (cond (Nat.blt pc 10) (cond (Nat.beq pc 9) (some (.iload_n 0, 1)) none) (cond (Nat.blt pc 11) (cond (Nat.beq pc 10) (some (.iconst 2, 1)) none) (cond (Nat.beq pc 11) (some (.iload_n 3, 1)) none))) (cond (Nat.blt pc 14) (cond (Nat.blt pc 13) (cond (Nat.beq pc 12) (some (.imul, 1)) none) (cond (Nat.beq pc 13) (some (.ishr, 1)) none)) (cond (Nat.blt pc 15) (cond (Nat.beq pc 14) (some (.iconst 3, 1)) none) (cond (Nat.beq pc 15) (some (.iand, 1)) none))))) (cond (Nat.blt pc 26) (cond (Nat.blt pc 20) (cond (Nat.blt pc 17) (cond (Nat.beq pc 16) (some (.i2l, 1)) none) (cond (Nat.blt pc 19) (cond (Nat.beq pc 17) (some (.lstore 4, 2)) none) (cond (Nat.beq pc 19) (some (.lload_n 1, 1)) none))) (cond (Nat.blt pc 24) (cond (Nat.blt pc 22) (cond (Nat.beq pc 20) (some (.lload 4, 2)) none) (cond (Nat.beq pc 22) (some (.bipush 12, 2)) none)) (cond (Nat.blt pc 25) (cond (Nat.beq pc 24) (some (.iload_n 3, 1)) none) (cond (Nat.beq pc 25) (some (.imul, 1)) none)))) (cond (Nat.blt pc 29) (cond (Nat.blt pc 27) (cond (Nat.beq pc 26) (some (.lshl, 1)) none) (cond (Nat.blt pc 28) (cond (Nat.beq pc 27) (some (.lor, 1)) none) (cond (Nat.beq pc 28) (some (.lstore_n 1, 1)) none))) (cond (Nat.blt pc 35) (cond (Nat.blt pc 32) (cond (Nat.beq pc 29) (some (.iinc 3 1, 3)) none) (cond (Nat.beq pc 32) (some (.goto (-28), 3)) none)) (cond (Nat.blt pc 36) (cond (Nat.beq pc 35) (some (.lload_n 1, 1)) none) (cond (Nat.beq pc 36) (some (.lreturn, 1)) none))))))
def pI_101 : Nat → Option (Instr × Nat) := fun pc => eB1 pc 12 (cond (Nat.blt pc 5) (cond (Nat.blt pc 3) (cond (Nat.blt pc 1) (cond (Nat.beq pc 0) (some (.lload_n 0, 1)) none) (cond (Nat.beq pc 1) (some (.bipush 12, 2)) none)) (cond (Nat.blt pc 4) (cond (Nat.beq pc 3) (some (.iload_n 2, 1)) none) (cond (Nat.beq pc 4) (some (.imul, 1)) none))) (cond (Nat.blt pc 9) (cond (Nat.blt pc 6) (cond (Nat.beq pc 5) (some (.lushr, 1)) none) (cond (Nat.beq pc 6) (some (.ldc2_w 11, 3)) none)) (cond (Nat.blt pc 10) (cond (Nat.beq pc 9) (some (.land, 1)) none) (cond (Nat.blt pc 11) (cond (Nat.beq pc 10) (some (.l2i, 1)) none) (cond (Nat.beq pc 11) (some (.ireturn, 1)) none)))))
def pI_102 : Nat → Option (Instr × Nat) := fun pc => eB1 pc 24 (cond (Nat.blt pc 11) (cond (Nat.blt pc 5) (cond (Nat.blt pc 1) (cond (Nat.beq pc 0) (some (.lload_n 0, 1)) none) (cond (Nat.blt pc 4) (cond (Nat.beq pc 1) (some (.ldc2_w 13, 3)) none) (cond (Nat.beq pc 4) (some (.lor, 1)) none))) (cond (Nat.blt pc 7) (cond (Nat.blt pc 6) (cond (Nat.beq pc 5) (some (.lload_n 2, 1)) none) (cond (Nat.beq pc 6) (some (.lsub, 1)) none)) (cond (Nat.blt pc 10) (cond (Nat.beq pc 7) (some (.ldc2_w 13, 3)) none) (cond (Nat.beq pc 10) (some (.land, 1)) none)))) (cond (Nat.blt pc 18) (cond (Nat.blt pc 14) (cond (Nat.beq pc 11) (some (.ldc2_w 13, 3)) none) (cond (Nat.blt pc 15) (cond (Nat.beq pc 14) (some (.lcmp, 1)) none) (cond (Nat.beq pc 15) (some (.ifCond .ne 7, 3)) none))) (cond (Nat.blt pc 22) (cond (Nat.blt pc 19) (cond (Nat.beq pc 18) (some (.iconst 1, 1)) none) (cond (Nat.beq pc 19) (some (.goto 4, 3)) none)) (cond (Nat.blt pc 23) (cond (Nat.beq pc 22) (some (.iconst 0, 1)) none) (cond (Nat.beq pc 23) (some (.ireturn, 1)) none)))))
def pI_103 : Nat → Option (Instr × Nat) := fun pc => eB1 pc 24 (cond (Nat.blt pc 11) (cond (Nat.blt pc 5) (cond (Nat.blt pc 1) (cond (Nat.beq pc 0) (some (.lload_n 0, 1)) none) (cond (Nat.blt pc 4) (cond (Nat.beq pc 1) (some (.ldc2_w 13, 3)) none) (cond (Nat.beq pc 4) (some (.land, 1)) none))) (cond (Nat.blt pc 7) (cond (Nat.blt pc 6) (cond (Nat.beq pc 5) (some (.lconst 0, 1)) none) (cond (Nat.beq pc 6) (some (.lcmp, 1)) none)) (cond (Nat.blt pc 10) (cond (Nat.beq pc 7) (some (.ifCond .ne 15, 3)) none) (cond (Nat.beq pc 10) (some (.lload_n 2, 1)) none)))) (cond (Nat.blt pc 18) (cond (Nat.blt pc 12) (cond (Nat.beq pc 11) (some (.lload_n 0, 1)) none) (cond (Nat.blt pc 15) (cond (Nat.beq pc 12) (some (.invokestatic 15, 3)) none) (cond (Nat.beq pc 15) (some (.ifCond .eq 7, 3)) none))) (cond (Nat.blt pc 22) (cond (Nat.blt pc 19) (cond (Nat.beq pc 18) (some (.iconst 1, 1)) none) (cond (Nat.beq pc 19) (some (.goto 4, 3)) none)) (cond (Nat.blt pc 23) (cond (Nat.beq pc 22) (some (.iconst 0, 1)) none) (cond (Nat.beq pc 23) (some (.ireturn, 1)) none)))))
def pI_104 : Nat → Option (Instr × Nat) := fun pc => eB1 pc 40 (cond (Nat.blt pc 20) (cond (Nat.blt pc 7) (cond (Nat.blt pc 2) (cond (Nat.blt pc 1) (cond (Nat.beq pc 0) (some (.lconst 0, 1)) none) (cond (Nat.beq pc 1) (some (.lstore_n 2, 1)) none)) (cond (Nat.blt pc 3) (cond (Nat.beq pc 2) (some (.iconst 0, 1)) none) (cond (Nat.blt pc 5) (cond (Nat.beq pc 3) (some (.istore 4, 2)) none) (cond (Nat.beq pc 5) (some (.iload 4, 2)) none)))) (cond (Nat.blt pc 12) (cond (Nat.blt pc 8) (cond (Nat.beq pc 7) (some (.iconst 5, 1)) none) (cond (Nat.blt pc 11) (cond (Nat.beq pc 8) (some (.if_icmp .ge 30, 3)) none) (cond (Nat.beq pc 11) (some (.lload_n 0, 1)) none))) (cond (Nat.blt pc 14) (cond (Nat.beq pc 12) (some (.iload 4, 2)) none) (cond (Nat.blt pc 17) (cond (Nat.beq pc 14) (some (.invokestatic 19, 3)) none) (cond (Nat.beq pc 17) (some (.ifCond .le 15, 3)) none))))) (cond (Nat.blt pc 30) (cond (Nat.blt pc 26) (cond (Nat.blt pc 21) (cond (Nat.beq pc 20) (some (.lload_n 2, 1)) none) (cond (Nat.blt pc 24) (cond (Nat.beq pc 21) (some (.ldc2_w 11, 3)) none) (cond (Nat.beq pc 24) (some (.bipush 12, 2)) none))) (cond (Nat.blt pc 28) (cond (Nat.beq pc 26) (some (.iload 4, 2)) none) (cond (Nat.blt pc 29) (cond (Nat.beq pc 28) (some (.imul, 1)) none) (cond (Nat.beq pc 29) (some (.lshl, 1)) none)))) (cond (Nat.blt pc 35) (cond (Nat.blt pc 31) (cond (Nat.beq pc 30) (some (.lor, 1)) none) (cond (Nat.blt pc 32) (cond (Nat.beq pc 31) (some (.lstore_n 2, 1)) none) (cond (Nat.beq pc 32) (some (.iinc 4 1, 3)) none))) (cond (Nat.blt pc 38) (cond (Nat.beq pc 35) (some (.goto (-30), 3)) none) (cond (Nat.blt pc 39) (cond (Nat.beq pc 38) (some (.lload_n 2, 1)) none) (cond (Nat.beq pc 39) (some (.lreturn, 1)) none))))))
def pI_105 : Nat → Option (Instr × Nat) := fun pc => eB1 pc 82 (cond (Nat.blt pc 42) (cond (Nat.blt pc 22) (cond (Nat.blt pc 10) (cond (Nat.blt pc 4) (cond (Nat.blt pc 1) (cond (Nat.beq pc 0) (some (.aload_n 0, 1)) none) (cond (Nat.beq pc 1) (some (.invokespecial 3, 3)) none)) (cond (Nat.blt pc 5) (cond (Nat.beq pc 4) (some (.aload_n 0, 1)) none) (cond (Nat.blt pc 7) (cond (Nat.beq pc 5) (some (.bipush 40, 2)) none) (cond (Nat.beq pc 7) (some (.anewarray 9, 3)) none)))) (cond (Nat.blt pc 14) (cond (Nat.blt pc 13) (cond (Nat.beq pc 10) (some (.putfield 11, 3)) none) (cond (Nat.beq pc 13) (some (.aload_n 0, 1)) none)) (cond (Nat.blt pc 16) (cond (Nat.beq pc 14) (some (.bipush 40, 2)) none) (cond (Nat.blt pc 19) (cond (Nat.beq pc 16) (some (.anewarray 9, 3)) none) (cond (Nat.beq pc 19) (some (.putfield 17, 3)) none))))) (cond (Nat.blt pc 33) (cond (Nat.blt pc 26) (cond (Nat.blt pc 23) (cond (Nat.beq pc 22) (some (.aload_n 0, 1)) none) (cond (Nat.beq pc 23) (some (.new 9, 3)) none)) (cond (Nat.blt pc 27) (cond (Nat.beq pc 26) (some (.dup, 1)) none) (cond (Nat.blt pc 30) (cond (Nat.beq pc 27) (some (.invokespecial 20, 3)) none) (cond (Nat.beq pc 30) (some (.putfield 21, 3)) none)))) (cond (Nat.blt pc 36) (cond (Nat.blt pc 34) (cond (Nat.beq pc 33) (some (.aload_n 0, 1)) none) (cond (Nat.beq pc 34) (some (.bipush 6, 2)) none)) (cond (Nat.blt pc 38) (cond (Nat.beq pc 36) (some (.newarray .int, 2)) none) (cond (Nat.blt pc 41) (cond (Nat.beq pc 38) (some (.putfield 25, 3)) none) (cond (Nat.beq pc 41) (some (.iconst 0, 1)) none)))))) (cond (Nat.blt pc 61) (cond (Nat.blt pc 50) (cond (Nat.blt pc 44) (cond (Nat.blt pc 43) (cond (Nat.beq pc 42) (some (.istore_n 1, 1)) none) (cond (Nat.beq pc 43) (some (.iload_n 1, 1)) none)) (cond (Nat.blt pc 46) (cond (Nat.beq pc 44) (some (.bipush 40, 2)) none) (cond (Nat.blt pc 49) (cond (Nat.beq pc 46) (some (.if_icmp .ge 35, 3)) none) (cond (Nat.beq pc 49) (some (.aload_n 0, 1)) none)))) (cond (Nat.blt pc 54) (cond (Nat.blt pc 53) (cond (Nat.beq pc 50) (some (.getfield 11, 3)) none) (cond (Nat.beq pc 53) (some (.iload_n 1, 1)) none)) (cond (Nat.blt pc 57) (cond (Nat.beq pc 54) (some (.new 9, 3)) none) (cond (Nat.blt pc 58) (cond (Nat.beq pc 57) (some (.dup, 1)) none) (cond (Nat.beq pc 58) (some (.invokespecial 20, 3)) none))))) (cond (Nat.blt pc 70) (cond (Nat.blt pc 63) (cond (Nat.blt pc 62) (cond (Nat.beq pc 61) (some (.aastore, 1)) none) (cond (Nat.beq pc 62) (some (.aload_n 0, 1)) none)) (cond (Nat.blt pc 66) (cond (Nat.beq pc 63) (some (.getfield 17, 3)) none) (cond (Nat.blt pc 67) (cond (Nat.beq pc 66) (some (.iload_n 1, 1)) none) (cond (Nat.beq pc 67) (some (.new 9, 3)) none)))) (cond (Nat.blt pc 75) (cond (Nat.blt pc 71) (cond (Nat.beq pc 70) (some (.dup, 1)) none) (cond (Nat.blt pc 74) (cond (Nat.beq pc 71) (some (.invokespecial 20, 3)) none) (cond (Nat.beq pc 74) (some (.aastore, 1)) none))) (cond (Nat.blt pc 78) (cond (Nat.beq pc 75) (some (.iinc 1 1, 3)) none) (cond (Nat.blt pc 81) (cond (Nat.beq pc 78) (some (.goto (-35), 3)) none) (cond (Nat.beq pc 81) (some (.return_, 1)) none)))))))
def pI_106 : Nat → Option (Instr × Nat) := fun pc => eB1 pc 16 (cond (Nat.blt pc 7) (cond (Nat.blt pc 4) (cond (Nat.blt pc 1) (cond (Nat.beq pc 0) (some (.aload_n 0, 1)) none) (cond (Nat.beq pc 1) (some (.getfield 11, 3)) none)) (cond (Nat.blt pc 5) (cond (Nat.beq pc 4) (some (.iconst 0, 1)) none) (cond (Nat.blt pc 6) (cond (Nat.beq pc 5) (some (.aaload, 1)) none) (cond (Nat.beq pc 6) (some (.aload_n 1, 1)) none)))) (cond (Nat.blt pc 11) (cond (Nat.blt pc 10) (cond (Nat.beq pc 7) (some (.invokevirtual 29, 3)) none) (cond (Nat.beq pc 10) (some (.aload_n 0, 1)) none)) (cond (Nat.blt pc 12) (cond (Nat.beq pc 11) (some (.iconst 1, 1)) none) (cond (Nat.blt pc 15) (cond (Nat.beq pc 12) (some (.putfield 33, 3)) none) (cond (Nat.beq pc 15) (some (.return_, 1)) none)))))
def pI_107 : Nat → Option (Instr × Nat) := fun pc => eB1 pc 174 (cond (Nat.blt pc 83) (cond (Nat.blt pc 39) (cond (Nat.blt pc 20) (cond (Nat.blt pc 8) (cond (Nat.blt pc 4) (cond (Nat.blt pc 1) (cond (Nat.beq pc 0) (some (.aload_n 0, 1)) none) (cond (Nat.beq pc 1) (some (.getfield 17, 3)) none)) (cond (Nat.blt pc 6) (cond (Nat.beq pc 4) (some (.astore 4, 2)) none) (cond (Nat.blt pc 7) (cond (Nat.beq pc 6) (some (.aload_n 0, 1)) none) (cond (Nat.beq pc 7) (some (.aload_n 0, 1)) none)))) (cond (Nat.blt pc 14) (cond (Nat.blt pc 11) (cond (Nat.beq pc 8) (some (.getfield 11, 3)) none) (cond (Nat.beq pc 11) (some (.putfield 17, 3)) none)) (cond (Nat.blt pc 15) (cond (Nat.beq pc 14) (some (.aload_n 0, 1)) none) (cond (Nat.blt pc 17) (cond (Nat.beq pc 15) (some (.aload 4, 2)) none) (cond (Nat.beq pc 17) (some (.putfield 11, 3)) none))))) (cond (Nat.blt pc 28) (cond (Nat.blt pc 24) (cond (Nat.blt pc 21) (cond (Nat.beq pc 20) (some (.aload_n 0, 1)) none) (cond (Nat.beq pc 21) (some (.getfield 33, 3)) none)) (cond (Nat.blt pc 26) (cond (Nat.beq pc 24) (some (.istore 5, 2)) none) (cond (Nat.blt pc 27) (cond (Nat.beq pc 26) (some (.aload_n 0, 1)) none) (cond (Nat.beq pc 27) (some (.iconst 0, 1)) none)))) (cond (Nat.blt pc 34) (cond (Nat.blt pc 31) (cond (Nat.beq pc 28) (some (.putfield 33, 3)) none) (cond (Nat.blt pc 32) (cond (Nat.beq pc 31) (some (.iconst 1, 1)) none) (cond (Nat.beq pc 32) (some (.istore 6, 2)) none))) (cond (Nat.blt pc 35) (cond (Nat.beq pc 34) (some (.iconst 0, 1)) none) (cond (Nat.blt pc 37) (cond (Nat.beq pc 35) (some (.istore 7, 2)) none) (cond (Nat.beq pc 37) (some (.iload 7, 2)) none)))))) (cond (Nat.blt pc 61) (cond (Nat.blt pc 50) (cond (Nat.blt pc 44) (cond (Nat.blt pc 41) (cond (Nat.beq pc 39) (some (.iload 5, 2)) none) (cond (Nat.beq pc 41) (some (.if_icmp .ge 120, 3)) none)) (cond (Nat.blt pc 46) (cond (Nat.beq pc 44) (some (.iload 6, 2)) none) (cond (Nat.blt pc 49) (cond (Nat.beq pc 46) (some (.ifCond .eq 115, 3)) none) (cond (Nat.beq pc 49) (some (.aload_n 2, 1)) none)))) (cond (Nat.blt pc 55) (cond (Nat.blt pc 51) (cond (Nat.beq pc 50) (some (.aload_n 1, 1)) none) (cond (Nat.blt pc 52) (cond (Nat.beq pc 51) (some (.aload_n 0, 1)) none) (cond (Nat.beq pc 52) (some (.getfield 17, 3)) none))) (cond (Nat.blt pc 57) (cond (Nat.beq pc 55) (some (.iload 7, 2)) none) (cond (Nat.blt pc 58) (cond (Nat.beq pc 57) (some (.aaload, 1)) none) (cond (Nat.beq pc 58) (some (.invokevirtual 37, 3)) none))))) (cond (Nat.blt pc 72) (cond (Nat.blt pc 65) (cond (Nat.blt pc 63) (cond (Nat.beq pc 61) (some (.istore 8, 2)) none) (cond (Nat.beq pc 63) (some (.iload 8, 2)) none)) (cond (Nat.blt pc 68) (cond (Nat.beq pc 65) (some (.sipush 1000, 3)) none) (cond (Nat.blt pc 71) (cond (Nat.beq pc 68) (some (.if_icmp .gt 7, 3)) none) (cond (Nat.beq pc 71) (some (.iconst 1, 1)) none)))) (cond (Nat.blt pc 78) (cond (Nat.blt pc 75) (cond (Nat.beq pc 72) (some (.goto 4, 3)) none) (cond (Nat.blt pc 76) (cond (Nat.beq pc 75) (some (.iconst 0, 1)) none) (cond (Nat.beq pc 76) (some (.istore 6, 2)) none))) (cond (Nat.blt pc 79) (cond (Nat.beq pc 78) (some (.iconst 0, 1)) none) (cond (Nat.blt pc 81) (cond (Nat.beq pc 79) (some (.istore 9, 2)) none) (cond (Nat.beq pc 81) (some (.iload 9, 2)) none))))))) (cond (Nat.blt pc 125) (cond (Nat.blt pc 105) (cond (Nat.blt pc 94) (cond (Nat.blt pc 88) (cond (Nat.blt pc 85) (cond (Nat.beq pc 83) (some (.iload 8, 2)) none) (cond (Nat.beq pc 85) (some (.if_icmp .ge 70, 3)) none)) (cond (Nat.blt pc 90) (cond (Nat.beq pc 88) (some (.iload 6, 2)) none) (cond (Nat.blt pc 93) (cond (Nat.beq pc 90) (some (.ifCond .eq 65, 3)) none) (cond (Nat.beq pc 93) (some (.aload_n 2, 1)) none)))) (cond (Nat.blt pc 98) (cond (Nat.blt pc 95) (cond (Nat.beq pc 94) (some (.aload_n 0, 1)) none) (cond (Nat.beq pc 95) (some (.getfield 25, 3)) none)) (cond (Nat.blt pc 101) (cond (Nat.beq pc 98) (some (.invokevirtual 43, 3)) none) (cond (Nat.blt pc 102) (cond (Nat.beq pc 101) (some (.aload_n 0, 1)) none) (cond (Nat.beq pc 102) (some (.getfield 21, 3)) none))))) (cond (Nat.blt pc 115) (cond (Nat.blt pc 109) (cond (Nat.blt pc 106) (cond (Nat.beq pc 105) (some (.aload_n 0, 1)) none) (cond (Nat.beq pc 106) (some (.getfield 17, 3)) none)) (cond (Nat.blt pc 111) (cond (Nat.beq pc 109) (some (.iload 7, 2)) none) (cond (Nat.blt pc 112) (cond (Nat.beq pc 111) (some (.aaload, 1)) none) (cond (Nat.beq pc 112) (some (.invokevirtual 29, 3)) none)))) (cond (Nat.blt pc 118) (cond (Nat.blt pc 116) (cond (Nat.beq pc 115) (some (.aload_n 3, 1)) none) (cond (Nat.blt pc 117) (cond (Nat.beq pc 116) (some (.aload_n 1, 1)) none) (cond (Nat.beq pc 117) (some (.aload_n 0, 1)) none))) (cond (Nat.blt pc 121) (cond (Nat.beq pc 118) (some (.getfield 21, 3)) none) (cond (Nat.blt pc 122) (cond (Nat.beq pc 121) (some (.aload_n 0, 1)) none) (cond (Nat.beq pc 122) (some (.getfield 25, 3)) none)))))) (cond (Nat.blt pc 149) (cond (Nat.blt pc 136) (cond (Nat.blt pc 131) (cond (Nat.blt pc 128) (cond (Nat.beq pc 125) (some (.invokevirtual 47, 3)) none) (cond (Nat.beq pc 128) (some (.ifCond .eq 14, 3)) none)) (cond (Nat.blt pc 132) (cond (Nat.beq pc 131) (some (.aload_n 0, 1)) none) (cond (Nat.blt pc 133) (cond (Nat.beq pc 132) (some (.aload_n 0, 1)) none) (cond (Nat.beq pc 133) (some (.getfield 21, 3)) none)))) (cond (Nat.blt pc 143) (cond (Nat.blt pc 139) (cond (Nat.beq pc 136) (some (.invokevirtual 53, 3)) none) (cond (Nat.blt pc 142) (cond (Nat.beq pc 139) (some (.ifCond .eq 7, 3)) none) (cond (Nat.beq pc 142) (some (.iconst 1, 1)) none))) (cond (Nat.blt pc 146) (cond (Nat.beq pc 143) (some (.goto 4, 3)) none) (cond (Nat.blt pc 147) (cond (Nat.beq pc 146) (some (.iconst 0, 1)) none) (cond (Nat.beq pc 147) (some (.istore 6, 2)) none))))) (cond (Nat.blt pc 163) (cond (Nat.blt pc 155) (cond (Nat.blt pc 152) (cond (Nat.beq pc 149) (some (.iinc 9 1, 3)) none) (cond (Nat.beq pc 152) (some (.goto (-71), 3)) none)) (cond (Nat.blt pc 158) (cond (Nat.beq pc 155) (some (.iinc 7 1, 3)) none) (cond (Nat.blt pc 161) (cond (Nat.beq pc 158) (some (.goto (-121), 3)) none) (cond (Nat.beq pc 161) (some (.iload 6, 2)) none)))) (cond (Nat.blt pc 168) (cond (Nat.blt pc 166) (cond (Nat.beq pc 163) (some (.ifCond .ne 8, 3)) none) (cond (Nat.blt pc 167) (cond (Nat.beq pc 166) (some (.aload_n 0, 1)) none) (cond (Nat.beq pc 167) (some (.iconst 0, 1)) none))) (cond (Nat.blt pc 171) (cond (Nat.beq pc 168) (some (.putfield 33, 3)) none) (cond (Nat.blt pc 173) (cond (Nat.beq pc 171) (some (.iload 6, 2)) none) (cond (Nat.beq pc 173) (some (.ireturn, 1)) none))))))))
def pI_108 : Nat → Option (Instr × Nat) := fun pc => eB1 pc 67 (cond (Nat.blt pc 35) (cond (Nat.blt pc 15) (cond (Nat.blt pc 4) (cond (Nat.blt pc 2) (cond (Nat.blt pc 1) (cond (Nat.beq pc 0) (some (.iconst 0, 1)) none) (cond (Nat.beq pc 1) (some (.istore_n 2, 1)) none)) (cond (Nat.blt pc 3) (cond (Nat.beq pc 2) (some (.iload_n 2, 1)) none) (cond (Nat.beq pc 3) (some (.aload_n 0, 1)) none))) (cond (Nat.blt pc 10) (cond (Nat.blt pc 7) (cond (Nat.beq pc 4) (some (.getfield 33, 3)) none) (cond (Nat.beq pc 7) (some (.if_icmp .ge 24, 3)) none)) (cond (Nat.blt pc 11) (cond (Nat.beq pc 10) (some (.aload_n 0, 1)) none) (cond (Nat.blt pc 14) (cond (Nat.beq pc 11) (some (.getfield 11, 3)) none) (cond (Nat.beq pc 14) (some (.iload_n 2, 1)) none))))) (cond (Nat.blt pc 24) (cond (Nat.blt pc 17) (cond (Nat.blt pc 16) (cond (Nat.beq pc 15) (some (.aaload, 1)) none) (cond (Nat.beq pc 16) (some (.aload_n 1, 1)) none)) (cond (Nat.blt pc 20) (cond (Nat.beq pc 17) (some (.invokevirtual 57, 3)) none) (cond (Nat.blt pc 23) (cond (Nat.beq pc 20) (some (.ifCond .eq 5, 3)) none) (cond (Nat.beq pc 23) (some (.iconst 1, 1)) none)))) (cond (Nat.blt pc 28) (cond (Nat.blt pc 25) (cond (Nat.beq pc 24) (some (.ireturn, 1)) none) (cond (Nat.beq pc 25) (some (.iinc 2 1, 3)) none)) (cond (Nat.blt pc 31) (cond (Nat.beq pc 28) (some (.goto (-26), 3)) none) (cond (Nat.blt pc 32) (cond (Nat.beq pc 31) (some (.aload_n 0, 1)) none) (cond (Nat.beq pc 32) (some (.getfield 33, 3)) none)))))) (cond (Nat.blt pc 51) (cond (Nat.blt pc 42) (cond (Nat.blt pc 40) (cond (Nat.blt pc 37) (cond (Nat.beq pc 35) (some (.bipush 40, 2)) none) (cond (Nat.beq pc 37) (some (.if_icmp .lt 5, 3)) none)) (cond (Nat.blt pc 41) (cond (Nat.beq pc 40) (some (.iconst 0, 1)) none) (cond (Nat.beq pc 41) (some (.ireturn, 1)) none))) (cond (Nat.blt pc 46) (cond (Nat.blt pc 43) (cond (Nat.beq pc 42) (some (.aload_n 0, 1)) none) (cond (Nat.beq pc 43) (some (.getfield 11, 3)) none)) (cond (Nat.blt pc 47) (cond (Nat.beq pc 46) (some (.aload_n 0, 1)) none) (cond (Nat.blt pc 50) (cond (Nat.beq pc 47) (some (.getfield 33, 3)) none) (cond (Nat.beq pc 50) (some (.aaload, 1)) none))))) (cond (Nat.blt pc 60) (cond (Nat.blt pc 55) (cond (Nat.blt pc 52) (cond (Nat.beq pc 51) (some (.aload_n 1, 1)) none) (cond (Nat.beq pc 52) (some (.invokevirtual 29, 3)) none)) (cond (Nat.blt pc 56) (cond (Nat.beq pc 55) (some (.aload_n 0, 1)) none) (cond (Nat.blt pc 57) (cond (Nat.beq pc 56) (some (.dup, 1)) none) (cond (Nat.beq pc 57) (some (.getfield 33, 3)) none)))) (cond (Nat.blt pc 62) (cond (Nat.blt pc 61) (cond (Nat.beq pc 60) (some (.iconst 1, 1)) none) (cond (Nat.beq pc 61) (some (.iadd, 1)) none)) (cond (Nat.blt pc 65) (cond (Nat.beq pc 62) (some (.putfield 33, 3)) none) (cond (Nat.blt pc 66) (cond (Nat.beq pc 65) (some (.iconst 1, 1)) none) (cond (Nat.beq pc 66) (some (.ireturn, 1)) none)))))))
def pI_109 : Nat → Option (Instr × Nat) := fun pc => eB1 pc 10 (cond (Nat.blt pc 5) (cond (Nat.blt pc 1) (cond (Nat.beq pc 0) (some (.aload_n 0, 1)) none) (cond (Nat.blt pc 4) (cond (Nat.beq pc 1) (some (.invokespecial 3, 3)) none) (cond (Nat.beq pc 4) (some (.aload_n 0, 1)) none))) (cond (Nat.blt pc 6) (cond (Nat.beq pc 5) (some (.iload_n 1, 1)) none) (cond (Nat.blt pc 9) (cond (Nat.beq pc 6) (some (.putfield 9, 3)) none) (cond (Nat.beq pc 9) (some (.return_, 1)) none))))
def pI_110 : Nat → Option (Instr × Nat) := fun pc => eB1 pc 20 (cond (Nat.blt pc 11) (cond (Nat.blt pc 4) (cond (Nat.blt pc 1) (cond (Nat.beq pc 0) (some (.aload_n 0, 1)) none) (cond (Nat.beq pc 1) (some (.getfield 15, 3)) none)) (cond (Nat.blt pc 7) (cond (Nat.beq pc 4) (some (.ifCond .ne 10, 3)) none) (cond (Nat.blt pc 8) (cond (Nat.beq pc 7) (some (.aload_n 0, 1)) none) (cond (Nat.beq pc 8) (some (.getfield 19, 3)) none)))) (cond (Nat.blt pc 15) (cond (Nat.blt pc 14) (cond (Nat.beq pc 11) (some (.ifCond .eq 7, 3)) none) (cond (Nat.beq pc 14) (some (.iconst 1, 1)) none)) (cond (Nat.blt pc 18) (cond (Nat.beq pc 15) (some (.goto 4, 3)) none) (cond (Nat.blt pc 19) (cond (Nat.beq pc 18) (some (.iconst 0, 1)) none) (cond (Nat.beq pc 19) (some (.ireturn, 1)) none)))))
def pI_111 : Nat → Option (Instr × Nat) := fun pc => eB1 pc 72 (cond (Nat.blt pc 35) (cond (Nat.blt pc 16) (cond (Nat.blt pc 8) (cond (Nat.blt pc 4) (cond (Nat.blt pc 1) (cond (Nat.beq pc 0) (some (.aload_n 0, 1)) none) (cond (Nat.beq pc 1) (some (.invokevirtual 22, 3)) none)) (cond (Nat.blt pc 7) (cond (Nat.beq pc 4) (some (.ifCond .eq 7, 3)) none) (cond (Nat.beq pc 7) (some (.iconst 1, 1)) none))) (cond (Nat.blt pc 13) (cond (Nat.blt pc 11) (cond (Nat.beq pc 8) (some (.goto 5, 3)) none) (cond (Nat.beq pc 11) (some (.bipush 12, 2)) none)) (cond (Nat.blt pc 15) (cond (Nat.beq pc 13) (some (.istore 4, 2)) none) (cond (Nat.beq pc 15) (some (.iload_n 3, 1)) none)))) (cond (Nat.blt pc 26) (cond (Nat.blt pc 20) (cond (Nat.blt pc 19) (cond (Nat.beq pc 16) (some (.ifCond .eq 13, 3)) none) (cond (Nat.beq pc 19) (some (.aload_n 0, 1)) none)) (cond (Nat.blt pc 23) (cond (Nat.beq pc 20) (some (.invokevirtual 22, 3)) none) (cond (Nat.beq pc 23) (some (.ifCond .eq 6, 3)) none))) (cond (Nat.blt pc 29) (cond (Nat.blt pc 27) (cond (Nat.beq pc 26) (some (.iconst 0, 1)) none) (cond (Nat.beq pc 27) (some (.istore 4, 2)) none)) (cond (Nat.blt pc 30) (cond (Nat.beq pc 29) (some (.aload_n 0, 1)) none) (cond (Nat.blt pc 33) (cond (Nat.beq pc 30) (some (.getfield 26, 3)) none) (cond (Nat.beq pc 33) (some (.lstore 5, 2)) none)))))) (cond (Nat.blt pc 54) (cond (Nat.blt pc 42) (cond (Nat.blt pc 38) (cond (Nat.blt pc 36) (cond (Nat.beq pc 35) (some (.iconst 0, 1)) none) (cond (Nat.beq pc 36) (some (.istore 7, 2)) none)) (cond (Nat.blt pc 40) (cond (Nat.beq pc 38) (some (.iload 7, 2)) none) (cond (Nat.beq pc 40) (some (.iload 4, 2)) none))) (cond (Nat.blt pc 46) (cond (Nat.blt pc 45) (cond (Nat.beq pc 42) (some (.if_icmp .ge 27, 3)) none) (cond (Nat.beq pc 45) (some (.lload_n 1, 1)) none)) (cond (Nat.blt pc 48) (cond (Nat.beq pc 46) (some (.lload 5, 2)) none) (cond (Nat.blt pc 51) (cond (Nat.beq pc 48) (some (.invokestatic 30, 3)) none) (cond (Nat.beq pc 51) (some (.ifCond .eq 18, 3)) none))))) (cond (Nat.blt pc 63) (cond (Nat.blt pc 59) (cond (Nat.blt pc 57) (cond (Nat.beq pc 54) (some (.iinc 7 1, 3)) none) (cond (Nat.beq pc 57) (some (.lload 5, 2)) none)) (cond (Nat.blt pc 60) (cond (Nat.beq pc 59) (some (.aload_n 0, 1)) none) (cond (Nat.beq pc 60) (some (.getfield 26, 3)) none))) (cond (Nat.blt pc 66) (cond (Nat.blt pc 64) (cond (Nat.beq pc 63) (some (.ladd, 1)) none) (cond (Nat.beq pc 64) (some (.lstore 5, 2)) none)) (cond (Nat.blt pc 69) (cond (Nat.beq pc 66) (some (.goto (-28), 3)) none) (cond (Nat.blt pc 71) (cond (Nat.beq pc 69) (some (.iload 7, 2)) none) (cond (Nat.beq pc 71) (some (.ireturn, 1)) none)))))))
def pI_112 : Nat → Option (Instr × Nat) := fun pc => eB1 pc 42 (cond (Nat.blt pc 21) (cond (Nat.blt pc 10) (cond (Nat.blt pc 4) (cond (Nat.blt pc 1) (cond (Nat.beq pc 0) (some (.aload_n 0, 1)) none) (cond (Nat.beq pc 1) (some (.invokespecial 3, 3)) none)) (cond (Nat.blt pc 5) (cond (Nat.beq pc 4) (some (.aload_n 0, 1)) none) (cond (Nat.blt pc 7) (cond (Nat.beq pc 5) (some (.bipush 6, 2)) none) (cond (Nat.beq pc 7) (some (.anewarray 9, 3)) none)))) (cond (Nat.blt pc 15) (cond (Nat.blt pc 13) (cond (Nat.beq pc 10) (some (.putfield 11, 3)) none) (cond (Nat.blt pc 14) (cond (Nat.beq pc 13) (some (.iconst 0, 1)) none) (cond (Nat.beq pc 14) (some (.istore_n 1, 1)) none))) (cond (Nat.blt pc 16) (cond (Nat.beq pc 15) (some (.iload_n 1, 1)) none) (cond (Nat.blt pc 18) (cond (Nat.beq pc 16) (some (.bipush 6, 2)) none) (cond (Nat.beq pc 18) (some (.if_icmp .ge 23, 3)) none))))) (cond (Nat.blt pc 30) (cond (Nat.blt pc 25) (cond (Nat.blt pc 22) (cond (Nat.beq pc 21) (some (.aload_n 0, 1)) none) (cond (Nat.beq pc 22) (some (.getfield 11, 3)) none)) (cond (Nat.blt pc 26) (cond (Nat.beq pc 25) (some (.iload_n 1, 1)) none) (cond (Nat.blt pc 29) (cond (Nat.beq pc 26) (some (.new 9, 3)) none) (cond (Nat.beq pc 29) (some (.dup, 1)) none)))) (cond (Nat.blt pc 35) (cond (Nat.blt pc 31) (cond (Nat.beq pc 30) (some (.iload_n 1, 1)) none) (cond (Nat.blt pc 34) (cond (Nat.beq pc 31) (some (.invokespecial 17, 3)) none) (cond (Nat.beq pc 34) (some (.aastore, 1)) none))) (cond (Nat.blt pc 38) (cond (Nat.beq pc 35) (some (.iinc 1 1, 3)) none) (cond (Nat.blt pc 41) (cond (Nat.beq pc 38) (some (.goto (-23), 3)) none) (cond (Nat.beq pc 41) (some (.return_, 1)) none))))))
def pI_113 : Nat → Option (Instr × Nat) := fun pc => eB1 pc 92 (cond (Nat.blt pc 48) (cond (Nat.blt pc 20) (cond (Nat.blt pc 9) (cond (Nat.blt pc 4) (cond (Nat.blt pc 1) (cond (Nat.beq pc 0) (some (.aload_n 0, 1)) none) (cond (Nat.beq pc 1) (some (.getfield 11, 3)) none)) (cond (Nat.blt pc 5) (cond (Nat.beq pc 4) (some (.aload_n 0, 1)) none) (cond (Nat.blt pc 8) (cond (Nat.beq pc 5) (some (.getfield 20, 3)) none) (cond (Nat.beq pc 8) (some (.aaload, 1)) none)))) (cond (Nat.blt pc 14) (cond (Nat.blt pc 11) (cond (Nat.beq pc 9) (some (.astore 8, 2)) none) (cond (Nat.blt pc 13) (cond (Nat.beq pc 11) (some (.aload 8, 2)) none) (cond (Nat.beq pc 13) (some (.iload_n 1, 1)) none))) (cond (Nat.blt pc 17) (cond (Nat.beq pc 14) (some (.putfield 24, 3)) none) (cond (Nat.blt pc 19) (cond (Nat.beq pc 17) (some (.aload 8, 2)) none) (cond (Nat.beq pc 19) (some (.lload_n 2, 1)) none))))) (cond (Nat.blt pc 34) (cond (Nat.blt pc 26) (cond (Nat.blt pc 23) (cond (Nat.beq pc 20) (some (.putfield 27, 3)) none) (cond (Nat.blt pc 25) (cond (Nat.beq pc 23) (some (.aload 8, 2)) none) (cond (Nat.beq pc 25) (some (.lload_n 2, 1)) none))) (cond (Nat.blt pc 29) (cond (Nat.beq pc 26) (some (.invokestatic 31, 3)) none) (cond (Nat.blt pc 32) (cond (Nat.beq pc 29) (some (.putfield 37, 3)) none) (cond (Nat.beq pc 32) (some (.aload 8, 2)) none)))) (cond (Nat.blt pc 41) (cond (Nat.blt pc 36) (cond (Nat.beq pc 34) (some (.lload 4, 2)) none) (cond (Nat.blt pc 39) (cond (Nat.beq pc 36) (some (.putfield 40, 3)) none) (cond (Nat.beq pc 39) (some (.aload 8, 2)) none))) (cond (Nat.blt pc 43) (cond (Nat.beq pc 41) (some (.lload 6, 2)) none) (cond (Nat.blt pc 46) (cond (Nat.beq pc 43) (some (.putfield 43, 3)) none) (cond (Nat.beq pc 46) (some (.aload 8, 2)) none)))))) (cond (Nat.blt pc 70) (cond (Nat.blt pc 58) (cond (Nat.blt pc 52) (cond (Nat.blt pc 49) (cond (Nat.beq pc 48) (some (.lconst 0, 1)) none) (cond (Nat.beq pc 49) (some (.putfield 46, 3)) none)) (cond (Nat.blt pc 54) (cond (Nat.beq pc 52) (some (.aload 8, 2)) none) (cond (Nat.blt pc 55) (cond (Nat.beq pc 54) (some (.iconst (-1), 1)) none) (cond (Nat.beq pc 55) (some (.putfield 49, 3)) none)))) (cond (Nat.blt pc 64) (cond (Nat.blt pc 60) (cond (Nat.beq pc 58) (some (.aload 8, 2)) none) (cond (Nat.blt pc 61) (cond (Nat.beq pc 60) (some (.iconst 0, 1)) none) (cond (Nat.beq pc 61) (some (.putfield 52, 3)) none))) (cond (Nat.blt pc 66) (cond (Nat.beq pc 64) (some (.aload 8, 2)) none) (cond (Nat.blt pc 67) (cond (Nat.beq pc 66) (some (.iconst 0, 1)) none) (cond (Nat.beq pc 67) (some (.putfield 56, 3)) none))))) (cond (Nat.blt pc 81) (cond (Nat.blt pc 76) (cond (Nat.blt pc 72) (cond (Nat.beq pc 70) (some (.aload 8, 2)) none) (cond (Nat.blt pc 73) (cond (Nat.beq pc 72) (some (.lconst 0, 1)) none) (cond (Nat.beq pc 73) (some (.putfield 59, 3)) none))) (cond (Nat.blt pc 77) (cond (Nat.beq pc 76) (some (.aload_n 0, 1)) none) (cond (Nat.blt pc 78) (cond (Nat.beq pc 77) (some (.dup, 1)) none) (cond (Nat.beq pc 78) (some (.getfield 20, 3)) none)))) (cond (Nat.blt pc 86) (cond (Nat.blt pc 82) (cond (Nat.beq pc 81) (some (.iconst 1, 1)) none) (cond (Nat.blt pc 83) (cond (Nat.beq pc 82) (some (.iadd, 1)) none) (cond (Nat.beq pc 83) (some (.putfield 20, 3)) none))) (cond (Nat.blt pc 88) (cond (Nat.beq pc 86) (some (.aload 8, 2)) none) (cond (Nat.blt pc 91) (cond (Nat.beq pc 88) (some (.getfield 62, 3)) none) (cond (Nat.beq pc 91) (some (.ireturn, 1)) none)))))))
def pI_114 : Nat → Option (Instr × Nat) := fun pc => eB1 pc 14 (cond (Nat.blt pc 5) (cond (Nat.blt pc 1) (cond (Nat.beq pc 0) (some (.aload_n 0, 1)) none) (cond (Nat.blt pc 4) (cond (Nat.beq pc 1) (some (.invokespecial 3, 3)) none) (cond (Nat.beq pc 4) (some (.aload_n 0, 1)) none))) (cond (Nat.blt pc 10) (cond (Nat.blt pc 8) (cond (Nat.beq pc 5) (some (.sipush 378, 3)) none) (cond (Nat.beq pc 8) (some (.newarray .char, 2)) none)) (cond (Nat.blt pc 13) (cond (Nat.beq pc 10) (some (.putfield 11, 3)) none) (cond (Nat.beq pc 13) (some (.return_, 1)) none))))
def pI_115 : Nat → Option (Instr × Nat) := fun pc => eB1 pc 35 (cond (Nat.blt pc 16) (cond (Nat.blt pc 7) (cond (Nat.blt pc 2) (cond (Nat.blt pc 1) (cond (Nat.beq pc 0) (some (.aload_n 0, 1)) none) (cond (Nat.beq pc 1) (some (.iconst 0, 1)) none)) (cond (Nat.blt pc 5) (cond (Nat.beq pc 2) (some (.putfield 15, 3)) none) (cond (Nat.blt pc 6) (cond (Nat.beq pc 5) (some (.aload_n 0, 1)) none) (cond (Nat.beq pc 6) (some (.aload_n 1, 1)) none)))) (cond (Nat.blt pc 9) (cond (Nat.blt pc 8) (cond (Nat.beq pc 7) (some (.iconst 0, 1)) none) (cond (Nat.beq pc 8) (some (.iconst 0, 1)) none)) (cond (Nat.blt pc 12) (cond (Nat.beq pc 9) (some (.invokevirtual 19, 3)) none) (cond (Nat.blt pc 13) (cond (Nat.beq pc 12) (some (.iload_n 2, 1)) none) (cond (Nat.beq pc 13) (some (.ifCond .lt 20, 3)) none))))) (cond (Nat.blt pc 25) (cond (Nat.blt pc 18) (cond (Nat.blt pc 17) (cond (Nat.beq pc 16) (some (.iload_n 2, 1)) none) (cond (Nat.beq pc 17) (some (.aload_n 0, 1)) none)) (cond (Nat.blt pc 21) (cond (Nat.beq pc 18) (some (.getfield 15, 3)) none) (cond (Nat.blt pc 24) (cond (Nat.beq pc 21) (some (.if_icmp .ge 12, 3)) none) (cond (Nat.beq pc 24) (some (.aload_n 0, 1)) none)))) (cond (Nat.blt pc 30) (cond (Nat.blt pc 28) (cond (Nat.beq pc 25) (some (.getfield 11, 3)) none) (cond (Nat.blt pc 29) (cond (Nat.beq pc 28) (some (.iload_n 2, 1)) none) (cond (Nat.beq pc 29) (some (.caload, 1)) none))) (cond (Nat.blt pc 33) (cond (Nat.beq pc 30) (some (.goto 4, 3)) none) (cond (Nat.blt pc 34) (cond (Nat.beq pc 33) (some (.iconst (-1), 1)) none) (cond (Nat.beq pc 34) (some (.ireturn, 1)) none))))))
def pI_116 : Nat → Option (Instr × Nat) := fun pc => eB1 pc 125 (cond (Nat.blt pc 59) (cond (Nat.blt pc 27) (cond (Nat.blt pc 14) (cond (Nat.blt pc 7) (cond (Nat.blt pc 3) (cond (Nat.blt pc 1) (cond (Nat.beq pc 0) (some (.iload_n 3, 1)) none) (cond (Nat.beq pc 1) (some (.bipush 6, 2)) none)) (cond (Nat.blt pc 6) (cond (Nat.beq pc 3) (some (.if_icmp .lt 4, 3)) none) (cond (Nat.beq pc 6) (some (.return_, 1)) none))) (cond (Nat.blt pc 10) (cond (Nat.blt pc 8) (cond (Nat.beq pc 7) (some (.aload_n 0, 1)) none) (cond (Nat.beq pc 8) (some (.bipush 48, 2)) none)) (cond (Nat.blt pc 11) (cond (Nat.beq pc 10) (some (.aload_n 1, 1)) none) (cond (Nat.beq pc 11) (some (.getfield 23, 3)) none)))) (cond (Nat.blt pc 18) (cond (Nat.blt pc 16) (cond (Nat.blt pc 15) (cond (Nat.beq pc 14) (some (.iload_n 2, 1)) none) (cond (Nat.beq pc 15) (some (.iaload, 1)) none)) (cond (Nat.blt pc 17) (cond (Nat.beq pc 16) (some (.iadd, 1)) none) (cond (Nat.beq pc 17) (some (.i2c, 1)) none))) (cond (Nat.blt pc 22) (cond (Nat.blt pc 21) (cond (Nat.beq pc 18) (some (.invokevirtual 29, 3)) none) (cond (Nat.beq pc 21) (some (.aload_n 0, 1)) none)) (cond (Nat.blt pc 24) (cond (Nat.beq pc 22) (some (.bipush 40, 2)) none) (cond (Nat.beq pc 24) (some (.invokevirtual 29, 3)) none))))) (cond (Nat.blt pc 41) (cond (Nat.blt pc 33) (cond (Nat.blt pc 30) (cond (Nat.blt pc 28) (cond (Nat.beq pc 27) (some (.iconst 0, 1)) none) (cond (Nat.beq pc 28) (some (.istore 4, 2)) none)) (cond (Nat.blt pc 32) (cond (Nat.beq pc 30) (some (.iload 4, 2)) none) (cond (Nat.beq pc 32) (some (.iconst 5, 1)) none))) (cond (Nat.blt pc 37) (cond (Nat.blt pc 36) (cond (Nat.beq pc 33) (some (.if_icmp .ge 48, 3)) none) (cond (Nat.beq pc 36) (some (.aload_n 1, 1)) none)) (cond (Nat.blt pc 40) (cond (Nat.beq pc 37) (some (.getfield 33, 3)) none) (cond (Nat.beq pc 40) (some (.iload_n 2, 1)) none)))) (cond (Nat.blt pc 49) (cond (Nat.blt pc 44) (cond (Nat.blt pc 42) (cond (Nat.beq pc 41) (some (.laload, 1)) none) (cond (Nat.beq pc 42) (some (.iload 4, 2)) none)) (cond (Nat.blt pc 47) (cond (Nat.beq pc 44) (some (.invokestatic 37, 3)) none) (cond (Nat.beq pc 47) (some (.istore 5, 2)) none))) (cond (Nat.blt pc 52) (cond (Nat.blt pc 50) (cond (Nat.beq pc 49) (some (.iconst 0, 1)) none) (cond (Nat.beq pc 50) (some (.istore 6, 2)) none)) (cond (Nat.blt pc 54) (cond (Nat.beq pc 52) (some (.iload 6, 2)) none) (cond (Nat.blt pc 56) (cond (Nat.beq pc 54) (some (.iload 5, 2)) none) (cond (Nat.beq pc 56) (some (.if_icmp .ge 19, 3)) none))))))) (cond (Nat.blt pc 95) (cond (Nat.blt pc 75) (cond (Nat.blt pc 65) (cond (Nat.blt pc 62) (cond (Nat.blt pc 60) (cond (Nat.beq pc 59) (some (.aload_n 0, 1)) none) (cond (Nat.beq pc 60) (some (.bipush 97, 2)) none)) (cond (Nat.blt pc 64) (cond (Nat.beq pc 62) (some (.iload 4, 2)) none) (cond (Nat.beq pc 64) (some (.iadd, 1)) none))) (cond (Nat.blt pc 69) (cond (Nat.blt pc 66) (cond (Nat.beq pc 65) (some (.i2c, 1)) none) (cond (Nat.beq pc 66) (some (.invokevirtual 29, 3)) none)) (cond (Nat.blt pc 72) (cond (Nat.beq pc 69) (some (.iinc 6 1, 3)) none) (cond (Nat.beq pc 72) (some (.goto (-20), 3)) none)))) (cond (Nat.blt pc 84) (cond (Nat.blt pc 81) (cond (Nat.blt pc 78) (cond (Nat.beq pc 75) (some (.iinc 4 1, 3)) none) (cond (Nat.beq pc 78) (some (.goto (-48), 3)) none)) (cond (Nat.blt pc 82) (cond (Nat.beq pc 81) (some (.iconst 0, 1)) none) (cond (Nat.beq pc 82) (some (.istore 4, 2)) none))) (cond (Nat.blt pc 88) (cond (Nat.blt pc 86) (cond (Nat.beq pc 84) (some (.iload 4, 2)) none) (cond (Nat.beq pc 86) (some (.bipush 6, 2)) none)) (cond (Nat.blt pc 91) (cond (Nat.beq pc 88) (some (.if_icmp .ge 30, 3)) none) (cond (Nat.blt pc 92) (cond (Nat.beq pc 91) (some (.aload_n 1, 1)) none) (cond (Nat.beq pc 92) (some (.getfield 43, 3)) none)))))) (cond (Nat.blt pc 107) (cond (Nat.blt pc 102) (cond (Nat.blt pc 98) (cond (Nat.blt pc 97) (cond (Nat.beq pc 95) (some (.iload 4, 2)) none) (cond (Nat.beq pc 97) (some (.iaload, 1)) none)) (cond (Nat.blt pc 99) (cond (Nat.beq pc 98) (some (.iload_n 2, 1)) none) (cond (Nat.beq pc 99) (some (.if_icmp .ne 13, 3)) none))) (cond (Nat.blt pc 104) (cond (Nat.blt pc 103) (cond (Nat.beq pc 102) (some (.aload_n 0, 1)) none) (cond (Nat.beq pc 103) (some (.aload_n 1, 1)) none)) (cond (Nat.blt pc 106) (cond (Nat.beq pc 104) (some (.iload 4, 2)) none) (cond (Nat.beq pc 106) (some (.iload_n 3, 1)) none)))) (cond (Nat.blt pc 115) (cond (Nat.blt pc 109) (cond (Nat.blt pc 108) (cond (Nat.beq pc 107) (some (.iconst 1, 1)) none) (cond (Nat.beq pc 108) (some (.iadd, 1)) none)) (cond (Nat.blt pc 112) (cond (Nat.beq pc 109) (some (.invokevirtual 19, 3)) none) (cond (Nat.beq pc 112) (some (.iinc 4 1, 3)) none))) (cond (Nat.blt pc 119) (cond (Nat.blt pc 118) (cond (Nat.beq pc 115) (some (.goto (-31), 3)) none) (cond (Nat.beq pc 118) (some (.aload_n 0, 1)) none)) (cond (Nat.blt pc 121) (cond (Nat.beq pc 119) (some (.bipush 41, 2)) none) (cond (Nat.blt pc 124) (cond (Nat.beq pc 121) (some (.invokevirtual 29, 3)) none) (cond (Nat.beq pc 124) (some (.return_, 1)) none))))))))
def pI_117 : Nat → Option (Instr × Nat) := fun pc => eB1 pc 31 (cond (Nat.blt pc 18) (cond (Nat.blt pc 10) (cond (Nat.blt pc 4) (cond (Nat.blt pc 1) (cond (Nat.beq pc 0) (some (.aload_n 0, 1)) none) (cond (Nat.beq pc 1) (some (.getfield 15, 3)) none)) (cond (Nat.blt pc 7) (cond (Nat.beq pc 4) (some (.sipush 378, 3)) none) (cond (Nat.beq pc 7) (some (.if_icmp .ge 23, 3)) none))) (cond (Nat.blt pc 14) (cond (Nat.blt pc 11) (cond (Nat.beq pc 10) (some (.aload_n 0, 1)) none) (cond (Nat.beq pc 11) (some (.getfield 11, 3)) none)) (cond (Nat.blt pc 15) (cond (Nat.beq pc 14) (some (.aload_n 0, 1)) none) (cond (Nat.beq pc 15) (some (.getfield 15, 3)) none)))) (cond (Nat.blt pc 22) (cond (Nat.blt pc 20) (cond (Nat.blt pc 19) (cond (Nat.beq pc 18) (some (.iload_n 1, 1)) none) (cond (Nat.beq pc 19) (some (.castore, 1)) none)) (cond (Nat.blt pc 21) (cond (Nat.beq pc 20) (some (.aload_n 0, 1)) none) (cond (Nat.beq pc 21) (some (.dup, 1)) none))) (cond (Nat.blt pc 26) (cond (Nat.blt pc 25) (cond (Nat.beq pc 22) (some (.getfield 15, 3)) none) (cond (Nat.beq pc 25) (some (.iconst 1, 1)) none)) (cond (Nat.blt pc 27) (cond (Nat.beq pc 26) (some (.iadd, 1)) none) (cond (Nat.blt pc 30) (cond (Nat.beq pc 27) (some (.putfield 15, 3)) none) (cond (Nat.beq pc 30) (some (.return_, 1)) none))))))
def pI_118 : Nat → Option (Instr × Nat) := fun pc => eB1 pc 14 (cond (Nat.blt pc 5) (cond (Nat.blt pc 1) (cond (Nat.beq pc 0) (some (.aload_n 0, 1)) none) (cond (Nat.blt pc 4) (cond (Nat.beq pc 1) (some (.invokespecial 3, 3)) none) (cond (Nat.beq pc 4) (some (.aload_n 0, 1)) none))) (cond (Nat.blt pc 10) (cond (Nat.blt pc 7) (cond (Nat.beq pc 5) (some (.bipush 6, 2)) none) (cond (Nat.beq pc 7) (some (.anewarray 9, 3)) none)) (cond (Nat.blt pc 13) (cond (Nat.beq pc 10) (some (.putfield 11, 3)) none) (cond (Nat.beq pc 13) (some (.return_, 1)) none))))
def pI_119 : Nat → Option (Instr × Nat) := fun pc => eB1 pc 102 (cond (Nat.blt pc 48) (cond (Nat.blt pc 23) (cond (Nat.blt pc 11) (cond (Nat.blt pc 5) (cond (Nat.blt pc 1) (cond (Nat.beq pc 0) (some (.iconst 0, 1)) none) (cond (Nat.blt pc 3) (cond (Nat.beq pc 1) (some (.istore 4, 2)) none) (cond (Nat.beq pc 3) (some (.iload 4, 2)) none))) (cond (Nat.blt pc 7) (cond (Nat.beq pc 5) (some (.bipush 6, 2)) none) (cond (Nat.blt pc 10) (cond (Nat.beq pc 7) (some (.if_icmp .ge 67, 3)) none) (cond (Nat.beq pc 10) (some (.aload_n 0, 1)) none)))) (cond (Nat.blt pc 17) (cond (Nat.blt pc 14) (cond (Nat.beq pc 11) (some (.getfield 11, 3)) none) (cond (Nat.blt pc 16) (cond (Nat.beq pc 14) (some (.iload 4, 2)) none) (cond (Nat.beq pc 16) (some (.aconst_null, 1)) none))) (cond (Nat.blt pc 19) (cond (Nat.blt pc 18) (cond (Nat.beq pc 17) (some (.aastore, 1)) none) (cond (Nat.beq pc 18) (some (.iconst 0, 1)) none)) (cond (Nat.blt pc 21) (cond (Nat.beq pc 19) (some (.istore 5, 2)) none) (cond (Nat.beq pc 21) (some (.iload 5, 2)) none))))) (cond (Nat.blt pc 34) (cond (Nat.blt pc 30) (cond (Nat.blt pc 24) (cond (Nat.beq pc 23) (some (.aload_n 1, 1)) none) (cond (Nat.blt pc 27) (cond (Nat.beq pc 24) (some (.getfield 17, 3)) none) (cond (Nat.beq pc 27) (some (.if_icmp .ge 41, 3)) none))) (cond (Nat.blt pc 31) (cond (Nat.beq pc 30) (some (.aload_n 3, 1)) none) (cond (Nat.blt pc 33) (cond (Nat.beq pc 31) (some (.iload 4, 2)) none) (cond (Nat.beq pc 33) (some (.iaload, 1)) none)))) (cond (Nat.blt pc 41) (cond (Nat.blt pc 36) (cond (Nat.beq pc 34) (some (.iload 5, 2)) none) (cond (Nat.blt pc 39) (cond (Nat.beq pc 36) (some (.invokestatic 23, 3)) none) (cond (Nat.beq pc 39) (some (.istore 6, 2)) none))) (cond (Nat.blt pc 46) (cond (Nat.blt pc 43) (cond (Nat.beq pc 41) (some (.iload 6, 2)) none) (cond (Nat.beq pc 43) (some (.ifCond .le 19, 3)) none)) (cond (Nat.blt pc 47) (cond (Nat.beq pc 46) (some (.aload_n 0, 1)) none) (cond (Nat.beq pc 47) (some (.aload_n 2, 1)) none)))))) (cond (Nat.blt pc 76) (cond (Nat.blt pc 59) (cond (Nat.blt pc 54) (cond (Nat.blt pc 50) (cond (Nat.beq pc 48) (some (.iload 4, 2)) none) (cond (Nat.blt pc 51) (cond (Nat.beq pc 50) (some (.aload_n 1, 1)) none) (cond (Nat.beq pc 51) (some (.getfield 29, 3)) none))) (cond (Nat.blt pc 56) (cond (Nat.beq pc 54) (some (.iload 5, 2)) none) (cond (Nat.blt pc 57) (cond (Nat.beq pc 56) (some (.aaload, 1)) none) (cond (Nat.beq pc 57) (some (.iload 6, 2)) none)))) (cond (Nat.blt pc 68) (cond (Nat.blt pc 62) (cond (Nat.beq pc 59) (some (.invokevirtual 32, 3)) none) (cond (Nat.blt pc 65) (cond (Nat.beq pc 62) (some (.iinc 5 1, 3)) none) (cond (Nat.beq pc 65) (some (.goto (-44), 3)) none))) (cond (Nat.blt pc 74) (cond (Nat.blt pc 71) (cond (Nat.beq pc 68) (some (.iinc 4 1, 3)) none) (cond (Nat.beq pc 71) (some (.goto (-68), 3)) none)) (cond (Nat.blt pc 75) (cond (Nat.beq pc 74) (some (.aload_n 0, 1)) none) (cond (Nat.beq pc 75) (some (.aload_n 2, 1)) none))))) (cond (Nat.blt pc 89) (cond (Nat.blt pc 83) (cond (Nat.blt pc 79) (cond (Nat.beq pc 76) (some (.invokevirtual 36, 3)) none) (cond (Nat.blt pc 82) (cond (Nat.beq pc 79) (some (.ifCond .ne 5, 3)) none) (cond (Nat.beq pc 82) (some (.iconst 0, 1)) none))) (cond (Nat.blt pc 85) (cond (Nat.blt pc 84) (cond (Nat.beq pc 83) (some (.ireturn, 1)) none) (cond (Nat.beq pc 84) (some (.aload_n 0, 1)) none)) (cond (Nat.blt pc 86) (cond (Nat.beq pc 85) (some (.aload_n 2, 1)) none) (cond (Nat.beq pc 86) (some (.invokevirtual 40, 3)) none)))) (cond (Nat.blt pc 96) (cond (Nat.blt pc 90) (cond (Nat.beq pc 89) (some (.aload_n 2, 1)) none) (cond (Nat.blt pc 93) (cond (Nat.beq pc 90) (some (.invokevirtual 44, 3)) none) (cond (Nat.beq pc 93) (some (.ifCond .ne 7, 3)) none))) (cond (Nat.blt pc 100) (cond (Nat.blt pc 97) (cond (Nat.beq pc 96) (some (.iconst 1, 1)) none) (cond (Nat.beq pc 97) (some (.goto 4, 3)) none)) (cond (Nat.blt pc 101) (cond (Nat.beq pc 100) (some (.iconst 0, 1)) none) (cond (Nat.beq pc 101) (some (.ireturn, 1)) none)))))))
def pI_120 : Nat → Option (Instr × Nat) := fun pc => eB1 pc 122 (cond (Nat.blt pc 57) (cond (Nat.blt pc 30) (cond (Nat.blt pc 14) (cond (Nat.blt pc 6) (cond (Nat.blt pc 4) (cond (Nat.blt pc 1) (cond (Nat.beq pc 0) (some (.aload_n 1, 1)) none) (cond (Nat.beq pc 1) (some (.getfield 50, 3)) none)) (cond (Nat.blt pc 5) (cond (Nat.beq pc 4) (some (.iload_n 2, 1)) none) (cond (Nat.beq pc 5) (some (.dup2, 1)) none))) (cond (Nat.blt pc 9) (cond (Nat.blt pc 7) (cond (Nat.beq pc 6) (some (.laload, 1)) none) (cond (Nat.beq pc 7) (some (.iload 4, 2)) none)) (cond (Nat.blt pc 10) (cond (Nat.beq pc 9) (some (.i2l, 1)) none) (cond (Nat.blt pc 11) (cond (Nat.beq pc 10) (some (.aload_n 3, 1)) none) (cond (Nat.beq pc 11) (some (.getfield 54, 3)) none))))) (cond (Nat.blt pc 21) (cond (Nat.blt pc 16) (cond (Nat.blt pc 15) (cond (Nat.beq pc 14) (some (.lmul, 1)) none) (cond (Nat.beq pc 15) (some (.lsub, 1)) none)) (cond (Nat.blt pc 17) (cond (Nat.beq pc 16) (some (.lastore, 1)) none) (cond (Nat.blt pc 18) (cond (Nat.beq pc 17) (some (.aload_n 3, 1)) none) (cond (Nat.beq pc 18) (some (.getfield 58, 3)) none)))) (cond (Nat.blt pc 25) (cond (Nat.blt pc 24) (cond (Nat.beq pc 21) (some (.ifCond .ne 20, 3)) none) (cond (Nat.beq pc 24) (some (.aload_n 1, 1)) none)) (cond (Nat.blt pc 28) (cond (Nat.beq pc 25) (some (.getfield 50, 3)) none) (cond (Nat.blt pc 29) (cond (Nat.beq pc 28) (some (.iload_n 2, 1)) none) (cond (Nat.beq pc 29) (some (.dup2, 1)) none)))))) (cond (Nat.blt pc 42) (cond (Nat.blt pc 35) (cond (Nat.blt pc 33) (cond (Nat.blt pc 31) (cond (Nat.beq pc 30) (some (.laload, 1)) none) (cond (Nat.beq pc 31) (some (.iload 4, 2)) none)) (cond (Nat.blt pc 34) (cond (Nat.beq pc 33) (some (.i2l, 1)) none) (cond (Nat.beq pc 34) (some (.aload_n 3, 1)) none))) (cond (Nat.blt pc 39) (cond (Nat.blt pc 38) (cond (Nat.beq pc 35) (some (.getfield 62, 3)) none) (cond (Nat.beq pc 38) (some (.lmul, 1)) none)) (cond (Nat.blt pc 40) (cond (Nat.beq pc 39) (some (.ladd, 1)) none) (cond (Nat.blt pc 41) (cond (Nat.beq pc 40) (some (.lastore, 1)) none) (cond (Nat.beq pc 41) (some (.aload_n 1, 1)) none))))) (cond (Nat.blt pc 51) (cond (Nat.blt pc 46) (cond (Nat.blt pc 45) (cond (Nat.beq pc 42) (some (.getfield 50, 3)) none) (cond (Nat.beq pc 45) (some (.aload_n 1, 1)) none)) (cond (Nat.blt pc 49) (cond (Nat.beq pc 46) (some (.getfield 65, 3)) none) (cond (Nat.blt pc 50) (cond (Nat.beq pc 49) (some (.iload_n 2, 1)) none) (cond (Nat.beq pc 50) (some (.iaload, 1)) none)))) (cond (Nat.blt pc 53) (cond (Nat.blt pc 52) (cond (Nat.beq pc 51) (some (.dup2, 1)) none) (cond (Nat.beq pc 52) (some (.laload, 1)) none)) (cond (Nat.blt pc 55) (cond (Nat.beq pc 53) (some (.iload 4, 2)) none) (cond (Nat.blt pc 56) (cond (Nat.beq pc 55) (some (.i2l, 1)) none) (cond (Nat.beq pc 56) (some (.aload_n 3, 1)) none))))))) (cond (Nat.blt pc 90) (cond (Nat.blt pc 72) (cond (Nat.blt pc 63) (cond (Nat.blt pc 61) (cond (Nat.blt pc 60) (cond (Nat.beq pc 57) (some (.getfield 69, 3)) none) (cond (Nat.beq pc 60) (some (.lmul, 1)) none)) (cond (Nat.blt pc 62) (cond (Nat.beq pc 61) (some (.ladd, 1)) none) (cond (Nat.beq pc 62) (some (.lastore, 1)) none))) (cond (Nat.blt pc 67) (cond (Nat.blt pc 64) (cond (Nat.beq pc 63) (some (.aload_n 3, 1)) none) (cond (Nat.beq pc 64) (some (.getfield 72, 3)) none)) (cond (Nat.blt pc 68) (cond (Nat.beq pc 67) (some (.lconst 0, 1)) none) (cond (Nat.blt pc 69) (cond (Nat.beq pc 68) (some (.lcmp, 1)) none) (cond (Nat.beq pc 69) (some (.ifCond .eq 38, 3)) none))))) (cond (Nat.blt pc 81) (cond (Nat.blt pc 74) (cond (Nat.blt pc 73) (cond (Nat.beq pc 72) (some (.aload_n 1, 1)) none) (cond (Nat.beq pc 73) (some (.iload_n 2, 1)) none)) (cond (Nat.blt pc 75) (cond (Nat.beq pc 74) (some (.aload_n 3, 1)) none) (cond (Nat.blt pc 78) (cond (Nat.beq pc 75) (some (.getfield 75, 3)) none) (cond (Nat.beq pc 78) (some (.invokevirtual 78, 3)) none)))) (cond (Nat.blt pc 85) (cond (Nat.blt pc 83) (cond (Nat.beq pc 81) (some (.istore 5, 2)) none) (cond (Nat.beq pc 83) (some (.iload 5, 2)) none)) (cond (Nat.blt pc 86) (cond (Nat.beq pc 85) (some (.iconst (-1), 1)) none) (cond (Nat.blt pc 89) (cond (Nat.beq pc 86) (some (.if_icmp .eq 21, 3)) none) (cond (Nat.beq pc 89) (some (.aload_n 1, 1)) none)))))) (cond (Nat.blt pc 106) (cond (Nat.blt pc 99) (cond (Nat.blt pc 95) (cond (Nat.blt pc 93) (cond (Nat.beq pc 90) (some (.getfield 50, 3)) none) (cond (Nat.beq pc 93) (some (.iload 5, 2)) none)) (cond (Nat.blt pc 96) (cond (Nat.beq pc 95) (some (.dup2, 1)) none) (cond (Nat.blt pc 97) (cond (Nat.beq pc 96) (some (.laload, 1)) none) (cond (Nat.beq pc 97) (some (.iload 4, 2)) none)))) (cond (Nat.blt pc 101) (cond (Nat.blt pc 100) (cond (Nat.beq pc 99) (some (.i2l, 1)) none) (cond (Nat.beq pc 100) (some (.aload_n 3, 1)) none)) (cond (Nat.blt pc 104) (cond (Nat.beq pc 101) (some (.getfield 72, 3)) none) (cond (Nat.blt pc 105) (cond (Nat.beq pc 104) (some (.lmul, 1)) none) (cond (Nat.beq pc 105) (some (.ladd, 1)) none))))) (cond (Nat.blt pc 115) (cond (Nat.blt pc 108) (cond (Nat.blt pc 107) (cond (Nat.beq pc 106) (some (.lastore, 1)) none) (cond (Nat.beq pc 107) (some (.aload_n 3, 1)) none)) (cond (Nat.blt pc 111) (cond (Nat.beq pc 108) (some (.invokevirtual 81, 3)) none) (cond (Nat.blt pc 114) (cond (Nat.beq pc 111) (some (.ifCond .eq 10, 3)) none) (cond (Nat.beq pc 114) (some (.aload_n 0, 1)) none)))) (cond (Nat.blt pc 119) (cond (Nat.blt pc 118) (cond (Nat.beq pc 115) (some (.getfield 11, 3)) none) (cond (Nat.beq pc 118) (some (.iload_n 2, 1)) none)) (cond (Nat.blt pc 120) (cond (Nat.beq pc 119) (some (.aload_n 3, 1)) none) (cond (Nat.blt pc 121) (cond (Nat.beq pc 120) (some (.aastore, 1)) none) (cond (Nat.beq pc 121) (some (.return_, 1)) none))))))))
def pI_121 : Nat → Option (Instr × Nat) := fun pc => eB1 pc 90 (cond (Nat.blt pc 47) (cond (Nat.blt pc 20) (cond (Nat.blt pc 9) (cond (Nat.blt pc 3) (cond (Nat.blt pc 1) (cond (Nat.beq pc 0) (some (.iconst 0, 1)) none) (cond (Nat.blt pc 2) (cond (Nat.beq pc 1) (some (.istore_n 2, 1)) none) (cond (Nat.beq pc 2) (some (.iload_n 2, 1)) none))) (cond (Nat.blt pc 5) (cond (Nat.beq pc 3) (some (.bipush 6, 2)) none) (cond (Nat.blt pc 8) (cond (Nat.beq pc 5) (some (.if_icmp .ge 83, 3)) none) (cond (Nat.beq pc 8) (some (.aload_n 0, 1)) none)))) (cond (Nat.blt pc 14) (cond (Nat.blt pc 12) (cond (Nat.beq pc 9) (some (.getfield 11, 3)) none) (cond (Nat.blt pc 13) (cond (Nat.beq pc 12) (some (.iload_n 2, 1)) none) (cond (Nat.beq pc 13) (some (.aaload, 1)) none))) (cond (Nat.blt pc 16) (cond (Nat.blt pc 15) (cond (Nat.beq pc 14) (some (.astore_n 3, 1)) none) (cond (Nat.beq pc 15) (some (.aload_n 3, 1)) none)) (cond (Nat.blt pc 19) (cond (Nat.beq pc 16) (some (.ifnull 66, 3)) none) (cond (Nat.beq pc 19) (some (.aload_n 3, 1)) none))))) (cond (Nat.blt pc 35) (cond (Nat.blt pc 27) (cond (Nat.blt pc 23) (cond (Nat.beq pc 20) (some (.getfield 58, 3)) none) (cond (Nat.blt pc 26) (cond (Nat.beq pc 23) (some (.ifCond .eq 59, 3)) none) (cond (Nat.beq pc 26) (some (.aload_n 1, 1)) none))) (cond (Nat.blt pc 32) (cond (Nat.blt pc 30) (cond (Nat.beq pc 27) (some (.invokevirtual 84, 3)) none) (cond (Nat.beq pc 30) (some (.istore 4, 2)) none)) (cond (Nat.blt pc 34) (cond (Nat.beq pc 32) (some (.iload 4, 2)) none) (cond (Nat.beq pc 34) (some (.iconst (-1), 1)) none)))) (cond (Nat.blt pc 40) (cond (Nat.blt pc 38) (cond (Nat.beq pc 35) (some (.if_icmp .ne 5, 3)) none) (cond (Nat.blt pc 39) (cond (Nat.beq pc 38) (some (.iconst 0, 1)) none) (cond (Nat.beq pc 39) (some (.ireturn, 1)) none))) (cond (Nat.blt pc 43) (cond (Nat.blt pc 41) (cond (Nat.beq pc 40) (some (.aload_n 1, 1)) none) (cond (Nat.beq pc 41) (some (.iload 4, 2)) none)) (cond (Nat.blt pc 44) (cond (Nat.beq pc 43) (some (.aload_n 1, 1)) none) (cond (Nat.beq pc 44) (some (.getfield 65, 3)) none)))))) (cond (Nat.blt pc 66) (cond (Nat.blt pc 55) (cond (Nat.blt pc 50) (cond (Nat.blt pc 48) (cond (Nat.beq pc 47) (some (.iload_n 2, 1)) none) (cond (Nat.blt pc 49) (cond (Nat.beq pc 48) (some (.iaload, 1)) none) (cond (Nat.beq pc 49) (some (.aload_n 1, 1)) none))) (cond (Nat.blt pc 53) (cond (Nat.beq pc 50) (some (.getfield 88, 3)) none) (cond (Nat.blt pc 54) (cond (Nat.beq pc 53) (some (.iload_n 2, 1)) none) (cond (Nat.beq pc 54) (some (.iaload, 1)) none)))) (cond (Nat.blt pc 60) (cond (Nat.blt pc 56) (cond (Nat.beq pc 55) (some (.aload_n 1, 1)) none) (cond (Nat.blt pc 59) (cond (Nat.beq pc 56) (some (.getfield 50, 3)) none) (cond (Nat.beq pc 59) (some (.iload_n 2, 1)) none))) (cond (Nat.blt pc 62) (cond (Nat.blt pc 61) (cond (Nat.beq pc 60) (some (.laload, 1)) none) (cond (Nat.beq pc 61) (some (.aload_n 3, 1)) none)) (cond (Nat.blt pc 65) (cond (Nat.beq pc 62) (some (.getfield 91, 3)) none) (cond (Nat.beq pc 65) (some (.ladd, 1)) none))))) (cond (Nat.blt pc 77) (cond (Nat.blt pc 73) (cond (Nat.blt pc 69) (cond (Nat.beq pc 66) (some (.invokevirtual 94, 3)) none) (cond (Nat.blt pc 70) (cond (Nat.beq pc 69) (some (.aload_n 1, 1)) none) (cond (Nat.beq pc 70) (some (.getfield 50, 3)) none))) (cond (Nat.blt pc 75) (cond (Nat.blt pc 74) (cond (Nat.beq pc 73) (some (.iload_n 2, 1)) none) (cond (Nat.beq pc 74) (some (.dup2, 1)) none)) (cond (Nat.blt pc 76) (cond (Nat.beq pc 75) (some (.laload, 1)) none) (cond (Nat.beq pc 76) (some (.aload_n 3, 1)) none)))) (cond (Nat.blt pc 82) (cond (Nat.blt pc 80) (cond (Nat.beq pc 77) (some (.getfield 62, 3)) none) (cond (Nat.blt pc 81) (cond (Nat.beq pc 80) (some (.ladd, 1)) none) (cond (Nat.beq pc 81) (some (.lastore, 1)) none))) (cond (Nat.blt pc 88) (cond (Nat.blt pc 85) (cond (Nat.beq pc 82) (some (.iinc 2 1, 3)) none) (cond (Nat.beq pc 85) (some (.goto (-83), 3)) none)) (cond (Nat.blt pc 89) (cond (Nat.beq pc 88) (some (.iconst 1, 1)) none) (cond (Nat.beq pc 89) (some (.ireturn, 1)) none)))))))
def pI_122 : Nat → Option (Instr × Nat) := fun pc => eB1 pc 38 (cond (Nat.blt pc 15) (cond (Nat.blt pc 8) (cond (Nat.blt pc 2) (cond (Nat.blt pc 1) (cond (Nat.beq pc 0) (some (.iconst 0, 1)) none) (cond (Nat.beq pc 1) (some (.istore_n 2, 1)) none)) (cond (Nat.blt pc 3) (cond (Nat.beq pc 2) (some (.iload_n 2, 1)) none) (cond (Nat.blt pc 5) (cond (Nat.beq pc 3) (some (.bipush 6, 2)) none) (cond (Nat.beq pc 5) (some (.if_icmp .ge 32, 3)) none)))) (cond (Nat.blt pc 12) (cond (Nat.blt pc 9) (cond (Nat.beq pc 8) (some (.aload_n 0, 1)) none) (cond (Nat.beq pc 9) (some (.getfield 11, 3)) none)) (cond (Nat.blt pc 13) (cond (Nat.beq pc 12) (some (.iload_n 2, 1)) none) (cond (Nat.blt pc 14) (cond (Nat.beq pc 13) (some (.aaload, 1)) none) (cond (Nat.beq pc 14) (some (.astore_n 3, 1)) none))))) (cond (Nat.blt pc 26) (cond (Nat.blt pc 19) (cond (Nat.blt pc 16) (cond (Nat.beq pc 15) (some (.aload_n 3, 1)) none) (cond (Nat.beq pc 16) (some (.ifnull 15, 3)) none)) (cond (Nat.blt pc 20) (cond (Nat.beq pc 19) (some (.aload_n 3, 1)) none) (cond (Nat.blt pc 23) (cond (Nat.beq pc 20) (some (.getfield 98, 3)) none) (cond (Nat.beq pc 23) (some (.ifCond .eq 8, 3)) none)))) (cond (Nat.blt pc 31) (cond (Nat.blt pc 27) (cond (Nat.beq pc 26) (some (.aload_n 1, 1)) none) (cond (Nat.blt pc 28) (cond (Nat.beq pc 27) (some (.iload_n 2, 1)) none) (cond (Nat.beq pc 28) (some (.invokestatic 101, 3)) none))) (cond (Nat.blt pc 34) (cond (Nat.beq pc 31) (some (.iinc 2 1, 3)) none) (cond (Nat.blt pc 37) (cond (Nat.beq pc 34) (some (.goto (-32), 3)) none) (cond (Nat.beq pc 37) (some (.return_, 1)) none))))))
def pI_123 : Nat → Option (Instr × Nat) := fun pc => eB1 pc 59 (cond (Nat.blt pc 25) (cond (Nat.blt pc 13) (cond (Nat.blt pc 6) (cond (Nat.blt pc 4) (cond (Nat.blt pc 1) (cond (Nat.beq pc 0) (some (.aload_n 0, 1)) none) (cond (Nat.beq pc 1) (some (.getfield 65, 3)) none)) (cond (Nat.blt pc 5) (cond (Nat.beq pc 4) (some (.iload_n 1, 1)) none) (cond (Nat.beq pc 5) (some (.iaload, 1)) none))) (cond (Nat.blt pc 8) (cond (Nat.blt pc 7) (cond (Nat.beq pc 6) (some (.istore_n 2, 1)) none) (cond (Nat.beq pc 7) (some (.aload_n 0, 1)) none)) (cond (Nat.blt pc 11) (cond (Nat.beq pc 8) (some (.getfield 50, 3)) none) (cond (Nat.blt pc 12) (cond (Nat.beq pc 11) (some (.iload_n 2, 1)) none) (cond (Nat.beq pc 12) (some (.dup2, 1)) none))))) (cond (Nat.blt pc 20) (cond (Nat.blt pc 15) (cond (Nat.blt pc 14) (cond (Nat.beq pc 13) (some (.laload, 1)) none) (cond (Nat.beq pc 14) (some (.aload_n 0, 1)) none)) (cond (Nat.blt pc 18) (cond (Nat.beq pc 15) (some (.getfield 50, 3)) none) (cond (Nat.blt pc 19) (cond (Nat.beq pc 18) (some (.iload_n 1, 1)) none) (cond (Nat.beq pc 19) (some (.laload, 1)) none)))) (cond (Nat.blt pc 22) (cond (Nat.blt pc 21) (cond (Nat.beq pc 20) (some (.ladd, 1)) none) (cond (Nat.beq pc 21) (some (.lastore, 1)) none)) (cond (Nat.blt pc 23) (cond (Nat.beq pc 22) (some (.iconst 0, 1)) none) (cond (Nat.blt pc 24) (cond (Nat.beq pc 23) (some (.istore_n 3, 1)) none) (cond (Nat.beq pc 24) (some (.iload_n 3, 1)) none)))))) (cond (Nat.blt pc 41) (cond (Nat.blt pc 34) (cond (Nat.blt pc 30) (cond (Nat.blt pc 27) (cond (Nat.beq pc 25) (some (.bipush 6, 2)) none) (cond (Nat.beq pc 27) (some (.if_icmp .ge 26, 3)) none)) (cond (Nat.blt pc 31) (cond (Nat.beq pc 30) (some (.aload_n 0, 1)) none) (cond (Nat.beq pc 31) (some (.getfield 65, 3)) none))) (cond (Nat.blt pc 36) (cond (Nat.blt pc 35) (cond (Nat.beq pc 34) (some (.iload_n 3, 1)) none) (cond (Nat.beq pc 35) (some (.iaload, 1)) none)) (cond (Nat.blt pc 37) (cond (Nat.beq pc 36) (some (.iload_n 1, 1)) none) (cond (Nat.blt pc 40) (cond (Nat.beq pc 37) (some (.if_icmp .ne 10, 3)) none) (cond (Nat.beq pc 40) (some (.aload_n 0, 1)) none))))) (cond (Nat.blt pc 50) (cond (Nat.blt pc 45) (cond (Nat.blt pc 44) (cond (Nat.beq pc 41) (some (.getfield 65, 3)) none) (cond (Nat.beq pc 44) (some (.iload_n 3, 1)) none)) (cond (Nat.blt pc 46) (cond (Nat.beq pc 45) (some (.iload_n 2, 1)) none) (cond (Nat.blt pc 47) (cond (Nat.beq pc 46) (some (.iastore, 1)) none) (cond (Nat.beq pc 47) (some (.iinc 3 1, 3)) none)))) (cond (Nat.blt pc 54) (cond (Nat.blt pc 53) (cond (Nat.beq pc 50) (some (.goto (-26), 3)) none) (cond (Nat.beq pc 53) (some (.aload_n 0, 1)) none)) (cond (Nat.blt pc 55) (cond (Nat.beq pc 54) (some (.iload_n 1, 1)) none) (cond (Nat.blt pc 58) (cond (Nat.beq pc 55) (some (.invokevirtual 105, 3)) none) (cond (Nat.beq pc 58) (some (.return_, 1)) none)))))))
def pI_124 : Nat → Option (Instr × Nat) := fun pc => eB1 pc 13 (cond (Nat.blt pc 8) (cond (Nat.blt pc 2) (cond (Nat.blt pc 1) (cond (Nat.beq pc 0) (some (.aload_n 0, 1)) none) (cond (Nat.beq pc 1) (some (.iload_n 1, 1)) none)) (cond (Nat.blt pc 5) (cond (Nat.beq pc 2) (some (.invokevirtual 7, 3)) none) (cond (Nat.beq pc 5) (some (.goto 6, 3)) none))) (cond (Nat.blt pc 10) (cond (Nat.blt pc 9) (cond (Nat.beq pc 8) (some (.astore_n 2, 1)) none) (cond (Nat.beq pc 9) (some (.iconst 1, 1)) none)) (cond (Nat.blt pc 11) (cond (Nat.beq pc 10) (some (.ireturn, 1)) none) (cond (Nat.blt pc 12) (cond (Nat.beq pc 11) (some (.iconst 0, 1)) none) (cond (Nat.beq pc 12) (some (.ireturn, 1)) none)))))
def pI_125 : Nat → Option (Instr × Nat) := fun pc => eB1 pc 27 (cond (Nat.blt pc 15) (cond (Nat.blt pc 5) (cond (Nat.blt pc 2) (cond (Nat.blt pc 1) (cond (Nat.beq pc 0) (some (.aload_n 3, 1)) none) (cond (Nat.beq pc 1) (some (.iconst 0, 1)) none)) (cond (Nat.blt pc 3) (cond (Nat.beq pc 2) (some (.aload_n 0, 1)) none) (cond (Nat.blt pc 4) (cond (Nat.beq pc 3) (some (.iload_n 1, 1)) none) (cond (Nat.beq pc 4) (some (.iload_n 2, 1)) none)))) (cond (Nat.blt pc 9) (cond (Nat.blt pc 8) (cond (Nat.beq pc 5) (some (.invokevirtual 15, 3)) none) (cond (Nat.beq pc 8) (some (.i2l, 1)) none)) (cond (Nat.blt pc 10) (cond (Nat.beq pc 9) (some (.lastore, 1)) none) (cond (Nat.blt pc 13) (cond (Nat.beq pc 10) (some (.goto 15, 3)) none) (cond (Nat.beq pc 13) (some (.astore 4, 2)) none))))) (cond (Nat.blt pc 21) (cond (Nat.blt pc 17) (cond (Nat.blt pc 16) (cond (Nat.beq pc 15) (some (.iconst 1, 1)) none) (cond (Nat.beq pc 16) (some (.ireturn, 1)) none)) (cond (Nat.blt pc 19) (cond (Nat.beq pc 17) (some (.astore 4, 2)) none) (cond (Nat.blt pc 20) (cond (Nat.beq pc 19) (some (.iconst 2, 1)) none) (cond (Nat.beq pc 20) (some (.ireturn, 1)) none)))) (cond (Nat.blt pc 24) (cond (Nat.blt pc 23) (cond (Nat.beq pc 21) (some (.astore 4, 2)) none) (cond (Nat.beq pc 23) (some (.iconst 3, 1)) none)) (cond (Nat.blt pc 25) (cond (Nat.beq pc 24) (some (.ireturn, 1)) none) (cond (Nat.blt pc 26) (cond (Nat.beq pc 25) (some (.iconst 0, 1)) none) (cond (Nat.beq pc 26) (some (.ireturn, 1)) none))))))
def pI_126 : Nat → Option (Instr × Nat) := fun pc => eB1 pc 20 (cond (Nat.blt pc 12) (cond (Nat.blt pc 6) (cond (Nat.blt pc 2) (cond (Nat.blt pc 1) (cond (Nat.beq pc 0) (some (.aload_n 0, 1)) none) (cond (Nat.beq pc 1) (some (.iload_n 1, 1)) none)) (cond (Nat.blt pc 3) (cond (Nat.beq pc 2) (some (.iload_n 2, 1)) none) (cond (Nat.beq pc 3) (some (.invokevirtual 23, 3)) none))) (cond (Nat.blt pc 10) (cond (Nat.blt pc 9) (cond (Nat.beq pc 6) (some (.goto 12, 3)) none) (cond (Nat.beq pc 9) (some (.astore_n 3, 1)) none)) (cond (Nat.blt pc 11) (cond (Nat.beq pc 10) (some (.iconst 1, 1)) none) (cond (Nat.beq pc 11) (some (.ireturn, 1)) none)))) (cond (Nat.blt pc 16) (cond (Nat.blt pc 14) (cond (Nat.blt pc 13) (cond (Nat.beq pc 12) (some (.astore_n 3, 1)) none) (cond (Nat.beq pc 13) (some (.iconst 2, 1)) none)) (cond (Nat.blt pc 15) (cond (Nat.beq pc 14) (some (.ireturn, 1)) none) (cond (Nat.beq pc 15) (some (.astore_n 3, 1)) none))) (cond (Nat.blt pc 18) (cond (Nat.blt pc 17) (cond (Nat.beq pc 16) (some (.iconst 3, 1)) none) (cond (Nat.beq pc 17) (some (.ireturn, 1)) none)) (cond (Nat.blt pc 19) (cond (Nat.beq pc 18) (some (.iconst 0, 1)) none) (cond (Nat.beq pc 19) (some (.ireturn, 1)) none)))))
def pI_127 : Nat → Option (Instr × Nat) := fun pc => eB1 pc 27 (cond (Nat.blt pc 13) (cond (Nat.blt pc 5) (cond (Nat.blt pc 3) (cond (Nat.blt pc 2) (cond (Nat.beq pc 0) (some (.aload 5, 2)) none) (cond (Nat.beq pc 2) (some (.iconst 0, 1)) none)) (cond (Nat.blt pc 4) (cond (Nat.beq pc 3) (some (.aload_n 0, 1)) none) (cond (Nat.beq pc 4) (some (.iload_n 1, 1)) none))) (cond (Nat.blt pc 7) (cond (Nat.blt pc 6) (cond (Nat.beq pc 5) (some (.iload_n 2, 1)) none) (cond (Nat.beq pc 6) (some (.iload_n 3, 1)) none)) (cond (Nat.blt pc 9) (cond (Nat.beq pc 7) (some (.iload 4, 2)) none) (cond (Nat.blt pc 12) (cond (Nat.beq pc 9) (some (.invokevirtual 27, 3)) none) (cond (Nat.beq pc 12) (some (.i2l, 1)) none))))) (cond (Nat.blt pc 21) (cond (Nat.blt pc 17) (cond (Nat.blt pc 14) (cond (Nat.beq pc 13) (some (.lastore, 1)) none) (cond (Nat.beq pc 14) (some (.goto 11, 3)) none)) (cond (Nat.blt pc 19) (cond (Nat.beq pc 17) (some (.astore 6, 2)) none) (cond (Nat.blt pc 20) (cond (Nat.beq pc 19) (some (.iconst 1, 1)) none) (cond (Nat.beq pc 20) (some (.ireturn, 1)) none)))) (cond (Nat.blt pc 24) (cond (Nat.blt pc 23) (cond (Nat.beq pc 21) (some (.astore 6, 2)) none) (cond (Nat.beq pc 23) (some (.iconst 2, 1)) none)) (cond (Nat.blt pc 25) (cond (Nat.beq pc 24) (some (.ireturn, 1)) none) (cond (Nat.blt pc 26) (cond (Nat.beq pc 25) (some (.iconst 0, 1)) none) (cond (Nat.beq pc 26) (some (.ireturn, 1)) none))))))
def pI_128 : Nat → Option (Instr × Nat) := fun pc => eB1 pc 20 (cond (Nat.blt pc 12) (cond (Nat.blt pc 3) (cond (Nat.blt pc 1) (cond (Nat.beq pc 0) (some (.aload_n 0, 1)) none) (cond (Nat.blt pc 2) (cond (Nat.beq pc 1) (some (.iload_n 1, 1)) none) (cond (Nat.beq pc 2) (some (.iload_n 2, 1)) none))) (cond (Nat.blt pc 7) (cond (Nat.blt pc 4) (cond (Nat.beq pc 3) (some (.iload_n 3, 1)) none) (cond (Nat.beq pc 4) (some (.invokevirtual 31, 3)) none)) (cond (Nat.blt pc 10) (cond (Nat.beq pc 7) (some (.goto 11, 3)) none) (cond (Nat.beq pc 10) (some (.astore 4, 2)) none)))) (cond (Nat.blt pc 16) (cond (Nat.blt pc 13) (cond (Nat.beq pc 12) (some (.iconst 1, 1)) none) (cond (Nat.blt pc 14) (cond (Nat.beq pc 13) (some (.ireturn, 1)) none) (cond (Nat.beq pc 14) (some (.astore 4, 2)) none))) (cond (Nat.blt pc 18) (cond (Nat.blt pc 17) (cond (Nat.beq pc 16) (some (.iconst 2, 1)) none) (cond (Nat.beq pc 17) (some (.ireturn, 1)) none)) (cond (Nat.blt pc 19) (cond (Nat.beq pc 18) (some (.iconst 0, 1)) none) (cond (Nat.beq pc 19) (some (.ireturn, 1)) none)))))
def pI_129 : Nat → Option (Instr × Nat) := fun pc => eB1 pc 16 (cond (Nat.blt pc 10) (cond (Nat.blt pc 5) (cond (Nat.blt pc 1) (cond (Nat.beq pc 0) (some (.aload_n 0, 1)) none) (cond (Nat.blt pc 2) (cond (Nat.beq pc 1) (some (.iload_n 1, 1)) none) (cond (Nat.beq pc 2) (some (.invokevirtual 35, 3)) none))) (cond (Nat.blt pc 8) (cond (Nat.beq pc 5) (some (.goto 9, 3)) none) (cond (Nat.blt pc 9) (cond (Nat.beq pc 8) (some (.astore_n 2, 1)) none) (cond (Nat.beq pc 9) (some (.iconst 1, 1)) none)))) (cond (Nat.blt pc 13) (cond (Nat.blt pc 11) (cond (Nat.beq pc 10) (some (.ireturn, 1)) none) (cond (Nat.blt pc 12) (cond (Nat.beq pc 11) (some (.astore_n 2, 1)) none) (cond (Nat.beq pc 12) (some (.iconst 2, 1)) none))) (cond (Nat.blt pc 14) (cond (Nat.beq pc 13) (some (.ireturn, 1)) none) (cond (Nat.blt pc 15) (cond (Nat.beq pc 14) (some (.iconst 0, 1)) none) (cond (Nat.beq pc 15) (some (.ireturn, 1)) none)))))
def pI_130 : Nat → Option (Instr × Nat) := fun pc => eB1 pc 20 (cond (Nat.blt pc 12) (cond (Nat.blt pc 6) (cond (Nat.blt pc 2) (cond (Nat.blt pc 1) (cond (Nat.beq pc 0) (some (.aload_n 0, 1)) none) (cond (Nat.beq pc 1) (some (.iload_n 1, 1)) none)) (cond (Nat.blt pc 3) (cond (Nat.beq pc 2) (some (.iload_n 2, 1)) none) (cond (Nat.beq pc 3) (some (.invokevirtual 38, 3)) none))) (cond (Nat.blt pc 10) (cond (Nat.blt pc 9) (cond (Nat.beq pc 6) (some (.goto 12, 3)) none) (cond (Nat.beq pc 9) (some (.astore_n 3, 1)) none)) (cond (Nat.blt pc 11) (cond (Nat.beq pc 10) (some (.iconst 1, 1)) none) (cond (Nat.beq pc 11) (some (.ireturn, 1)) none)))) (cond (Nat.blt pc 16) (cond (Nat.blt pc 14) (cond (Nat.blt pc 13) (cond (Nat.beq pc 12) (some (.astore_n 3, 1)) none) (cond (Nat.beq pc 13) (some (.iconst 2, 1)) none)) (cond (Nat.blt pc 15) (cond (Nat.beq pc 14) (some (.ireturn, 1)) none) (cond (Nat.beq pc 15) (some (.astore_n 3, 1)) none))) (cond (Nat.blt pc 18) (cond (Nat.blt pc 17) (cond (Nat.beq pc 16) (some (.iconst 3, 1)) none) (cond (Nat.beq pc 17) (some (.ireturn, 1)) none)) (cond (Nat.blt pc 19) (cond (Nat.beq pc 18) (some (.iconst 0, 1)) none) (cond (Nat.beq pc 19) (some (.ireturn, 1)) none)))))
def pI_131 : Nat → Option (Instr × Nat) := fun pc => eB1 pc 16 (cond (Nat.blt pc 8) (cond (Nat.blt pc 3) (cond (Nat.blt pc 1) (cond (Nat.beq pc 0) (some (.aload_n 1, 1)) none) (cond (Nat.blt pc 2) (cond (Nat.beq pc 1) (some (.iconst 0, 1)) none) (cond (Nat.beq pc 2) (some (.aload_n 0, 1)) none))) (cond (Nat.blt pc 6) (cond (Nat.beq pc 3) (some (.invokevirtual 41, 3)) none) (cond (Nat.blt pc 7) (cond (Nat.beq pc 6) (some (.i2l, 1)) none) (cond (Nat.beq pc 7) (some (.lastore, 1)) none)))) (cond (Nat.blt pc 13) (cond (Nat.blt pc 11) (cond (Nat.beq pc 8) (some (.goto 6, 3)) none) (cond (Nat.blt pc 12) (cond (Nat.beq pc 11) (some (.astore_n 2, 1)) none) (cond (Nat.beq pc 12) (some (.iconst 1, 1)) none))) (cond (Nat.blt pc 14) (cond (Nat.beq pc 13) (some (.ireturn, 1)) none) (cond (Nat.blt pc 15) (cond (Nat.beq pc 14) (some (.iconst 0, 1)) none) (cond (Nat.beq pc 15) (some (.ireturn, 1)) none)))))
def pI_132 : Nat → Option (Instr × Nat) := fun pc => eB1 pc 19 (cond (Nat.blt pc 9) (cond (Nat.blt pc 3) (cond (Nat.blt pc 1) (cond (Nat.beq pc 0) (some (.aload_n 3, 1)) none) (cond (Nat.blt pc 2) (cond (Nat.beq pc 1) (some (.iconst 0, 1)) none) (cond (Nat.beq pc 2) (some (.aload_n 0, 1)) none))) (cond (Nat.blt pc 5) (cond (Nat.blt pc 4) (cond (Nat.beq pc 3) (some (.iload_n 1, 1)) none) (cond (Nat.beq pc 4) (some (.iload_n 2, 1)) none)) (cond (Nat.blt pc 8) (cond (Nat.beq pc 5) (some (.invokevirtual 45, 3)) none) (cond (Nat.beq pc 8) (some (.i2l, 1)) none)))) (cond (Nat.blt pc 15) (cond (Nat.blt pc 10) (cond (Nat.beq pc 9) (some (.lastore, 1)) none) (cond (Nat.blt pc 13) (cond (Nat.beq pc 10) (some (.goto 7, 3)) none) (cond (Nat.beq pc 13) (some (.astore 4, 2)) none))) (cond (Nat.blt pc 17) (cond (Nat.blt pc 16) (cond (Nat.beq pc 15) (some (.iconst 1, 1)) none) (cond (Nat.beq pc 16) (some (.ireturn, 1)) none)) (cond (Nat.blt pc 18) (cond (Nat.beq pc 17) (some (.iconst 0, 1)) none) (cond (Nat.beq pc 18) (some (.ireturn, 1)) none)))))
def pI_133 : Nat → Option (Instr × Nat) := fun pc => eB1 pc 17 (cond (Nat.blt pc 8) (cond (Nat.blt pc 3) (cond (Nat.blt pc 1) (cond (Nat.beq pc 0) (some (.aload_n 2, 1)) none) (cond (Nat.blt pc 2) (cond (Nat.beq pc 1) (some (.iconst 0, 1)) none) (cond (Nat.beq pc 2) (some (.aload_n 0, 1)) none))) (cond (Nat.blt pc 4) (cond (Nat.beq pc 3) (some (.iload_n 1, 1)) none) (cond (Nat.blt pc 7) (cond (Nat.beq pc 4) (some (.invokevirtual 48, 3)) none) (cond (Nat.beq pc 7) (some (.i2l, 1)) none)))) (cond (Nat.blt pc 13) (cond (Nat.blt pc 9) (cond (Nat.beq pc 8) (some (.lastore, 1)) none) (cond (Nat.blt pc 12) (cond (Nat.beq pc 9) (some (.goto 6, 3)) none) (cond (Nat.beq pc 12) (some (.astore_n 3, 1)) none))) (cond (Nat.blt pc 15) (cond (Nat.blt pc 14) (cond (Nat.beq pc 13) (some (.iconst 1, 1)) none) (cond (Nat.beq pc 14) (some (.ireturn, 1)) none)) (cond (Nat.blt pc 16) (cond (Nat.beq pc 15) (some (.iconst 0, 1)) none) (cond (Nat.beq pc 16) (some (.ireturn, 1)) none)))))
def pI_134 : Nat → Option (Instr × Nat) := fun pc => eB1 pc 23 (cond (Nat.blt pc 10) (cond (Nat.blt pc 4) (cond (Nat.blt pc 2) (cond (Nat.blt pc 1) (cond (Nat.beq pc 0) (some (.aload_n 3, 1)) none) (cond (Nat.beq pc 1) (some (.iconst 0, 1)) none)) (cond (Nat.blt pc 3) (cond (Nat.beq pc 2) (some (.aload_n 0, 1)) none) (cond (Nat.beq pc 3) (some (.iload_n 1, 1)) none))) (cond (Nat.blt pc 8) (cond (Nat.blt pc 5) (cond (Nat.beq pc 4) (some (.iload_n 2, 1)) none) (cond (Nat.beq pc 5) (some (.invokevirtual 52, 3)) none)) (cond (Nat.blt pc 9) (cond (Nat.beq pc 8) (some (.i2l, 1)) none) (cond (Nat.beq pc 9) (some (.lastore, 1)) none)))) (cond (Nat.blt pc 17) (cond (Nat.blt pc 15) (cond (Nat.blt pc 13) (cond (Nat.beq pc 10) (some (.goto 11, 3)) none) (cond (Nat.beq pc 13) (some (.astore 4, 2)) none)) (cond (Nat.blt pc 16) (cond (Nat.beq pc 15) (some (.iconst 1, 1)) none) (cond (Nat.beq pc 16) (some (.ireturn, 1)) none))) (cond (Nat.blt pc 20) (cond (Nat.blt pc 19) (cond (Nat.beq pc 17) (some (.astore 4, 2)) none) (cond (Nat.beq pc 19) (some (.iconst 2, 1)) none)) (cond (Nat.blt pc 21) (cond (Nat.beq pc 20) (some (.ireturn, 1)) none) (cond (Nat.blt pc 22) (cond (Nat.beq pc 21) (some (.iconst 0, 1)) none) (cond (Nat.beq pc 22) (some (.ireturn, 1)) none))))))
def pI_135 : Nat → Option (Instr × Nat) := fun pc => eB1 pc 17 (cond (Nat.blt pc 8) (cond (Nat.blt pc 3) (cond (Nat.blt pc 1) (cond (Nat.beq pc 0) (some (.aload_n 2, 1)) none) (cond (Nat.blt pc 2) (cond (Nat.beq pc 1) (some (.iconst 0, 1)) none) (cond (Nat.beq pc 2) (some (.aload_n 0, 1)) none))) (cond (Nat.blt pc 4) (cond (Nat.beq pc 3) (some (.iload_n 1, 1)) none) (cond (Nat.blt pc 7) (cond (Nat.beq pc 4) (some (.invokevirtual 55, 3)) none) (cond (Nat.beq pc 7) (some (.i2l, 1)) none)))) (cond (Nat.blt pc 13) (cond (Nat.blt pc 9) (cond (Nat.beq pc 8) (some (.lastore, 1)) none) (cond (Nat.blt pc 12) (cond (Nat.beq pc 9) (some (.goto 6, 3)) none) (cond (Nat.beq pc 12) (some (.astore_n 3, 1)) none))) (cond (Nat.blt pc 15) (cond (Nat.blt pc 14) (cond (Nat.beq pc 13) (some (.iconst 1, 1)) none) (cond (Nat.beq pc 14) (some (.ireturn, 1)) none)) (cond (Nat.blt pc 16) (cond (Nat.beq pc 15) (some (.iconst 0, 1)) none) (cond (Nat.beq pc 16) (some (.ireturn, 1)) none)))))
def pI_136 : Nat → Option (Instr × Nat) := fun pc => eB1 pc 17 (cond (Nat.blt pc 8) (cond (Nat.blt pc 3) (cond (Nat.blt pc 1) (cond (Nat.beq pc 0) (some (.aload_n 2, 1)) none) (cond (Nat.blt pc 2) (cond (Nat.beq pc 1) (some (.iconst 0, 1)) none) (cond (Nat.beq pc 2) (some (.aload_n 0, 1)) none))) (cond (Nat.blt pc 4) (cond (Nat.beq pc 3) (some (.iload_n 1, 1)) none) (cond (Nat.blt pc 7) (cond (Nat.beq pc 4) (some (.invokevirtual 58, 3)) none) (cond (Nat.beq pc 7) (some (.i2l, 1)) none)))) (cond (Nat.blt pc 13) (cond (Nat.blt pc 9) (cond (Nat.beq pc 8) (some (.lastore, 1)) none) (cond (Nat.blt pc 12) (cond (Nat.beq pc 9) (some (.goto 6, 3)) none) (cond (Nat.beq pc 12) (some (.astore_n 3, 1)) none))) (cond (Nat.blt pc 15) (cond (Nat.blt pc 14) (cond (Nat.beq pc 13) (some (.iconst 1, 1)) none) (cond (Nat.beq pc 14) (some (.ireturn, 1)) none)) (cond (Nat.blt pc 16) (cond (Nat.beq pc 15) (some (.iconst 0, 1)) none) (cond (Nat.beq pc 16) (some (.ireturn, 1)) none)))))
def pI_137 : Nat → Option (Instr × Nat) := fun pc => eB1 pc 25 (cond (Nat.blt pc 12) (cond (Nat.blt pc 5) (cond (Nat.blt pc 3) (cond (Nat.blt pc 2) (cond (Nat.beq pc 0) (some (.aload 4, 2)) none) (cond (Nat.beq pc 2) (some (.iconst 0, 1)) none)) (cond (Nat.blt pc 4) (cond (Nat.beq pc 3) (some (.aload_n 0, 1)) none) (cond (Nat.beq pc 4) (some (.iload_n 1, 1)) none))) (cond (Nat.blt pc 7) (cond (Nat.blt pc 6) (cond (Nat.beq pc 5) (some (.iload_n 2, 1)) none) (cond (Nat.beq pc 6) (some (.iload_n 3, 1)) none)) (cond (Nat.blt pc 10) (cond (Nat.beq pc 7) (some (.invokevirtual 61, 3)) none) (cond (Nat.blt pc 11) (cond (Nat.beq pc 10) (some (.i2l, 1)) none) (cond (Nat.beq pc 11) (some (.lastore, 1)) none))))) (cond (Nat.blt pc 19) (cond (Nat.blt pc 17) (cond (Nat.blt pc 15) (cond (Nat.beq pc 12) (some (.goto 11, 3)) none) (cond (Nat.beq pc 15) (some (.astore 5, 2)) none)) (cond (Nat.blt pc 18) (cond (Nat.beq pc 17) (some (.iconst 1, 1)) none) (cond (Nat.beq pc 18) (some (.ireturn, 1)) none))) (cond (Nat.blt pc 22) (cond (Nat.blt pc 21) (cond (Nat.beq pc 19) (some (.astore 5, 2)) none) (cond (Nat.beq pc 21) (some (.iconst 2, 1)) none)) (cond (Nat.blt pc 23) (cond (Nat.beq pc 22) (some (.ireturn, 1)) none) (cond (Nat.blt pc 24) (cond (Nat.beq pc 23) (some (.iconst 0, 1)) none) (cond (Nat.beq pc 24) (some (.ireturn, 1)) none))))))
def pI_138 : Nat → Option (Instr × Nat) := fun pc => eB1 pc 13 (cond (Nat.blt pc 8) (cond (Nat.blt pc 2) (cond (Nat.blt pc 1) (cond (Nat.beq pc 0) (some (.aload_n 0, 1)) none) (cond (Nat.beq pc 1) (some (.iload_n 1, 1)) none)) (cond (Nat.blt pc 5) (cond (Nat.beq pc 2) (some (.invokevirtual 65, 3)) none) (cond (Nat.beq pc 5) (some (.goto 6, 3)) none))) (cond (Nat.blt pc 10) (cond (Nat.blt pc 9) (cond (Nat.beq pc 8) (some (.astore_n 2, 1)) none) (cond (Nat.beq pc 9) (some (.iconst 1, 1)) none)) (cond (Nat.blt pc 11) (cond (Nat.beq pc 10) (some (.ireturn, 1)) none) (cond (Nat.blt pc 12) (cond (Nat.beq pc 11) (some (.iconst 0, 1)) none) (cond (Nat.beq pc 12) (some (.ireturn, 1)) none)))))
def pI_139 : Nat → Option (Instr × Nat) := fun pc => eB1 pc 1030 (cond (Nat.blt pc 552) (cond (Nat.blt pc 311) (cond (Nat.blt pc 199) (cond (Nat.blt pc 138) (cond (Nat.blt pc 32) (cond (Nat.blt pc 17) (cond (Nat.blt pc 8) (cond (Nat.blt pc 4) (cond (Nat.blt pc 3) (cond (Nat.beq pc 0) (some (.new 8, 3)) none) (cond (Nat.beq pc 3) (some (.dup, 1)) none)) (cond (Nat.blt pc 7) (cond (Nat.beq pc 4) (some (.invokespecial 68, 3)) none) (cond (Nat.beq pc 7) (some (.astore_n 1, 1)) none))) (cond (Nat.blt pc 12) (cond (Nat.blt pc 11) (cond (Nat.beq pc 8) (some (.new 69, 3)) none) (cond (Nat.beq pc 11) (some (.dup, 1)) none)) (cond (Nat.blt pc 15) (cond (Nat.beq pc 12) (some (.invokespecial 71, 3)) none) (cond (Nat.blt pc 16) (cond (Nat.beq pc 15) (some (.astore_n 2, 1)) none) (cond (Nat.beq pc 16) (some (.iconst 1, 1)) none))))) (cond (Nat.blt pc 25) (cond (Nat.blt pc 20) (cond (Nat.blt pc 19) (cond (Nat.beq pc 17) (some (.newarray .long, 2)) none) (cond (Nat.beq pc 19) (some (.astore_n 3, 1)) none)) (cond (Nat.blt pc 21) (cond (Nat.beq pc 20) (some (.iconst 0, 1)) none) (cond (Nat.blt pc 23) (cond (Nat.beq pc 21) (some (.istore 4, 2)) none) (cond (Nat.beq pc 23) (some (.iload 4, 2)) none)))) (cond (Nat.blt pc 27) (cond (Nat.blt pc 26) (cond (Nat.beq pc 25) (some (.aload_n 0, 1)) none) (cond (Nat.beq pc 26) (some (.arraylength, 1)) none)) (cond (Nat.blt pc 28) (cond (Nat.beq pc 27) (some (.iconst 5, 1)) none) (cond (Nat.blt pc 29) (cond (Nat.beq pc 28) (some (.isub, 1)) none) (cond (Nat.beq pc 29) (some (.if_icmp .gt 999, 3)) none)))))) (cond (Nat.blt pc 124) (cond (Nat.blt pc 38) (cond (Nat.blt pc 35) (cond (Nat.blt pc 33) (cond (Nat.beq pc 32) (some (.aload_n 0, 1)) none) (cond (Nat.beq pc 33) (some (.iload 4, 2)) none)) (cond (Nat.blt pc 36) (cond (Nat.beq pc 35) (some (.iaload, 1)) none) (cond (Nat.beq pc 36) (some (.bipush 31, 2)) none))) (cond (Nat.blt pc 120) (cond (Nat.blt pc 39) (cond (Nat.beq pc 38) (some (.iand, 1)) none) (cond (Nat.beq pc 39) (some (.tableswitch 983 0 16 #[81, 117, 185, 233, 325, 385, 421, 469, 513, 581, 637, 705, 730, 786, 842, 922, 958], 81)) none)) (cond (Nat.blt pc 121) (cond (Nat.beq pc 120) (some (.aload_n 1, 1)) none) (cond (Nat.blt pc 122) (cond (Nat.beq pc 121) (some (.aload_n 0, 1)) none) (cond (Nat.beq pc 122) (some (.iload 4, 2)) none))))) (cond (Nat.blt pc 132) (cond (Nat.blt pc 126) (cond (Nat.blt pc 125) (cond (Nat.beq pc 124) (some (.iconst 1, 1)) none) (cond (Nat.beq pc 125) (some (.iadd, 1)) none)) (cond (Nat.blt pc 127) (cond (Nat.beq pc 126) (some (.iaload, 1)) none) (cond (Nat.blt pc 130) (cond (Nat.beq pc 127) (some (.invokestatic 72, 3)) none) (cond (Nat.beq pc 130) (some (.istore 5, 2)) none)))) (cond (Nat.blt pc 134) (cond (Nat.blt pc 133) (cond (Nat.beq pc 132) (some (.aload_n 2, 1)) none) (cond (Nat.beq pc 133) (some (.aload_n 0, 1)) none)) (cond (Nat.blt pc 136) (cond (Nat.beq pc 134) (some (.iload 4, 2)) none) (cond (Nat.blt pc 137) (cond (Nat.beq pc 136) (some (.iconst 1, 1)) none) (cond (Nat.beq pc 137) (some (.iadd, 1)) none))))))) (cond (Nat.blt pc 168) (cond (Nat.blt pc 156) (cond (Nat.blt pc 146) (cond (Nat.blt pc 142) (cond (Nat.blt pc 139) (cond (Nat.beq pc 138) (some (.iaload, 1)) none) (cond (Nat.beq pc 139) (some (.invokevirtual 77, 3)) none)) (cond (Nat.blt pc 143) (cond (Nat.beq pc 142) (some (.aload_n 2, 1)) none) (cond (Nat.beq pc 143) (some (.invokevirtual 78, 3)) none))) (cond (Nat.blt pc 151) (cond (Nat.blt pc 148) (cond (Nat.beq pc 146) (some (.iload 5, 2)) none) (cond (Nat.beq pc 148) (some (.if_icmp .eq 5, 3)) none)) (cond (Nat.blt pc 152) (cond (Nat.beq pc 151) (some (.iconst 0, 1)) none) (cond (Nat.blt pc 153) (cond (Nat.beq pc 152) (some (.ireturn, 1)) none) (cond (Nat.beq pc 153) (some (.goto 869, 3)) none))))) (cond (Nat.blt pc 162) (cond (Nat.blt pc 158) (cond (Nat.blt pc 157) (cond (Nat.beq pc 156) (some (.aload_n 1, 1)) none) (cond (Nat.beq pc 157) (some (.aload_n 0, 1)) none)) (cond (Nat.blt pc 160) (cond (Nat.beq pc 158) (some (.iload 4, 2)) none) (cond (Nat.blt pc 161) (cond (Nat.beq pc 160) (some (.iconst 1, 1)) none) (cond (Nat.beq pc 161) (some (.iadd, 1)) none)))) (cond (Nat.blt pc 164) (cond (Nat.blt pc 163) (cond (Nat.beq pc 162) (some (.iaload, 1)) none) (cond (Nat.beq pc 163) (some (.aload_n 0, 1)) none)) (cond (Nat.blt pc 166) (cond (Nat.beq pc 164) (some (.iload 4, 2)) none) (cond (Nat.blt pc 167) (cond (Nat.beq pc 166) (some (.iconst 2, 1)) none) (cond (Nat.beq pc 167) (some (.iadd, 1)) none)))))) (cond (Nat.blt pc 182) (cond (Nat.blt pc 176) (cond (Nat.blt pc 170) (cond (Nat.blt pc 169) (cond (Nat.beq pc 168) (some (.iaload, 1)) none) (cond (Nat.beq pc 169) (some (.aload_n 3, 1)) none)) (cond (Nat.blt pc 173) (cond (Nat.beq pc 170) (some (.invokestatic 81, 3)) none) (cond (Nat.blt pc 175) (cond (Nat.beq pc 173) (some (.istore 5, 2)) none) (cond (Nat.beq pc 175) (some (.aload_n 2, 1)) none)))) (cond (Nat.blt pc 179) (cond (Nat.blt pc 177) (cond (Nat.beq pc 176) (some (.aload_n 0, 1)) none) (cond (Nat.beq pc 177) (some (.iload 4, 2)) none)) (cond (Nat.blt pc 180) (cond (Nat.beq pc 179) (some (.iconst 1, 1)) none) (cond (Nat.blt pc 181) (cond (Nat.beq pc 180) (some (.iadd, 1)) none) (cond (Nat.beq pc 181) (some (.iaload, 1)) none))))) (cond (Nat.blt pc 188) (cond (Nat.blt pc 185) (cond (Nat.blt pc 183) (cond (Nat.beq pc 182) (some (.aload_n 0, 1)) none) (cond (Nat.beq pc 183) (some (.iload 4, 2)) none)) (cond (Nat.blt pc 186) (cond (Nat.beq pc 185) (some (.iconst 2, 1)) none) (cond (Nat.blt pc 187) (cond (Nat.beq pc 186) (some (.iadd, 1)) none) (cond (Nat.beq pc 187) (some (.iaload, 1)) none)))) (cond (Nat.blt pc 193) (cond (Nat.blt pc 191) (cond (Nat.beq pc 188) (some (.invokevirtual 84, 3)) none) (cond (Nat.beq pc 191) (some (.istore 6, 2)) none)) (cond (Nat.blt pc 194) (cond (Nat.beq pc 193) (some (.aload_n 2, 1)) none) (cond (Nat.blt pc 197) (cond (Nat.beq pc 194) (some (.invokevirtual 78, 3)) none) (cond (Nat.beq pc 197) (some (.iload 5, 2)) none)))))))) (cond (Nat.blt pc 255) (cond (Nat.blt pc 229) (cond (Nat.blt pc 214) (cond (Nat.blt pc 206) (cond (Nat.blt pc 203) (cond (Nat.blt pc 202) (cond (Nat.beq pc 199) (some (.if_icmp .eq 5, 3)) none) (cond (Nat.beq pc 202) (some (.iconst 0, 1)) none)) (cond (Nat.blt pc 204) (cond (Nat.beq pc 203) (some (.ireturn, 1)) none) (cond (Nat.beq pc 204) (some (.iload 5, 2)) none))) (cond (Nat.blt pc 210) (cond (Nat.blt pc 209) (cond (Nat.beq pc 206) (some (.ifCond .ne 15, 3)) none) (cond (Nat.beq pc 209) (some (.aload_n 3, 1)) none)) (cond (Nat.blt pc 211) (cond (Nat.beq pc 210) (some (.iconst 0, 1)) none) (cond (Nat.blt pc 212) (cond (Nat.beq pc 211) (some (.laload, 1)) none) (cond (Nat.beq pc 212) (some (.iload 6, 2)) none))))) (cond (Nat.blt pc 221) (cond (Nat.blt pc 216) (cond (Nat.blt pc 215) (cond (Nat.beq pc 214) (some (.i2l, 1)) none) (cond (Nat.beq pc 215) (some (.lcmp, 1)) none)) (cond (Nat.blt pc 219) (cond (Nat.beq pc 216) (some (.ifCond .eq 5, 3)) none) (cond (Nat.blt pc 220) (cond (Nat.beq pc 219) (some (.iconst 0, 1)) none) (cond (Nat.beq pc 220) (some (.ireturn, 1)) none)))) (cond (Nat.blt pc 225) (cond (Nat.blt pc 224) (cond (Nat.beq pc 221) (some (.goto 801, 3)) none) (cond (Nat.beq pc 224) (some (.aload_n 1, 1)) none)) (cond (Nat.blt pc 226) (cond (Nat.beq pc 225) (some (.aload_n 0, 1)) none) (cond (Nat.blt pc 228) (cond (Nat.beq pc 226) (some (.iload 4, 2)) none) (cond (Nat.beq pc 228) (some (.iconst 1, 1)) none)))))) (cond (Nat.blt pc 243) (cond (Nat.blt pc 235) (cond (Nat.blt pc 231) (cond (Nat.blt pc 230) (cond (Nat.beq pc 229) (some (.iadd, 1)) none) (cond (Nat.beq pc 230) (some (.iaload, 1)) none)) (cond (Nat.blt pc 232) (cond (Nat.beq pc 231) (some (.aload_n 0, 1)) none) (cond (Nat.blt pc 234) (cond (Nat.beq pc 232) (some (.iload 4, 2)) none) (cond (Nat.beq pc 234) (some (.iconst 2, 1)) none)))) (cond (Nat.blt pc 237) (cond (Nat.blt pc 236) (cond (Nat.beq pc 235) (some (.iadd, 1)) none) (cond (Nat.beq pc 236) (some (.iaload, 1)) none)) (cond (Nat.blt pc 240) (cond (Nat.beq pc 237) (some (.invokestatic 85, 3)) none) (cond (Nat.blt pc 242) (cond (Nat.beq pc 240) (some (.istore 5, 2)) none) (cond (Nat.beq pc 242) (some (.aload_n 2, 1)) none))))) (cond (Nat.blt pc 249) (cond (Nat.blt pc 246) (cond (Nat.blt pc 244) (cond (Nat.beq pc 243) (some (.aload_n 0, 1)) none) (cond (Nat.beq pc 244) (some (.iload 4, 2)) none)) (cond (Nat.blt pc 247) (cond (Nat.beq pc 246) (some (.iconst 1, 1)) none) (cond (Nat.blt pc 248) (cond (Nat.beq pc 247) (some (.iadd, 1)) none) (cond (Nat.beq pc 248) (some (.iaload, 1)) none)))) (cond (Nat.blt pc 252) (cond (Nat.blt pc 250) (cond (Nat.beq pc 249) (some (.aload_n 0, 1)) none) (cond (Nat.beq pc 250) (some (.iload 4, 2)) none)) (cond (Nat.blt pc 253) (cond (Nat.beq pc 252) (some (.iconst 2, 1)) none) (cond (Nat.blt pc 254) (cond (Nat.beq pc 253) (some (.iadd, 1)) none) (cond (Nat.beq pc 254) (some (.iaload, 1)) none))))))) (cond (Nat.blt pc 285) (cond (Nat.blt pc 273) (cond (Nat.blt pc 264) (cond (Nat.blt pc 259) (cond (Nat.blt pc 258) (cond (Nat.beq pc 255) (some (.invokevirtual 88, 3)) none) (cond (Nat.beq pc 258) (some (.aload_n 2, 1)) none)) (cond (Nat.blt pc 262) (cond (Nat.beq pc 259) (some (.invokevirtual 78, 3)) none) (cond (Nat.beq pc 262) (some (.iload 5, 2)) none))) (cond (Nat.blt pc 268) (cond (Nat.blt pc 267) (cond (Nat.beq pc 264) (some (.if_icmp .eq 5, 3)) none) (cond (Nat.beq pc 267) (some (.iconst 0, 1)) none)) (cond (Nat.blt pc 269) (cond (Nat.beq pc 268) (some (.ireturn, 1)) none) (cond (Nat.blt pc 272) (cond (Nat.beq pc 269) (some (.goto 753, 3)) none) (cond (Nat.beq pc 272) (some (.aload_n 1, 1)) none))))) (cond (Nat.blt pc 279) (cond (Nat.blt pc 276) (cond (Nat.blt pc 274) (cond (Nat.beq pc 273) (some (.aload_n 0, 1)) none) (cond (Nat.beq pc 274) (some (.iload 4, 2)) none)) (cond (Nat.blt pc 277) (cond (Nat.beq pc 276) (some (.iconst 1, 1)) none) (cond (Nat.blt pc 278) (cond (Nat.beq pc 277) (some (.iadd, 1)) none) (cond (Nat.beq pc 278) (some (.iaload, 1)) none)))) (cond (Nat.blt pc 282) (cond (Nat.blt pc 280) (cond (Nat.beq pc 279) (some (.aload_n 0, 1)) none) (cond (Nat.beq pc 280) (some (.iload 4, 2)) none)) (cond (Nat.blt pc 283) (cond (Nat.beq pc 282) (some (.iconst 2, 1)) none) (cond (Nat.blt pc 284) (cond (Nat.beq pc 283) (some (.iadd, 1)) none) (cond (Nat.beq pc 284) (some (.iaload, 1)) none)))))) (cond (Nat.blt pc 297) (cond (Nat.blt pc 291) (cond (Nat.blt pc 288) (cond (Nat.blt pc 286) (cond (Nat.beq pc 285) (some (.aload_n 0, 1)) none) (cond (Nat.beq pc 286) (some (.iload 4, 2)) none)) (cond (Nat.blt pc 289) (cond (Nat.beq pc 288) (some (.iconst 3, 1)) none) (cond (Nat.blt pc 290) (cond (Nat.beq pc 289) (some (.iadd, 1)) none) (cond (Nat.beq pc 290) (some (.iaload, 1)) none)))) (cond (Nat.blt pc 294) (cond (Nat.blt pc 292) (cond (Nat.beq pc 291) (some (.aload_n 0, 1)) none) (cond (Nat.beq pc 292) (some (.iload 4, 2)) none)) (cond (Nat.blt pc 295) (cond (Nat.beq pc 294) (some (.iconst 4, 1)) none) (cond (Nat.blt pc 296) (cond (Nat.beq pc 295) (some (.iadd, 1)) none) (cond (Nat.beq pc 296) (some (.iaload, 1)) none))))) (cond (Nat.blt pc 305) (cond (Nat.blt pc 301) (cond (Nat.blt pc 298) (cond (Nat.beq pc 297) (some (.aload_n 3, 1)) none) (cond (Nat.beq pc 298) (some (.invokestatic 89, 3)) none)) (cond (Nat.blt pc 303) (cond (Nat.beq pc 301) (some (.istore 5, 2)) none) (cond (Nat.blt pc 304) (cond (Nat.beq pc 303) (some (.aload_n 2, 1)) none) (cond (Nat.beq pc 304) (some (.aload_n 0, 1)) none)))) (cond (Nat.blt pc 308) (cond (Nat.blt pc 307) (cond (Nat.beq pc 305) (some (.iload 4, 2)) none) (cond (Nat.beq pc 307) (some (.iconst 1, 1)) none)) (cond (Nat.blt pc 309) (cond (Nat.beq pc 308) (some (.iadd, 1)) none) (cond (Nat.blt pc 310) (cond (Nat.beq pc 309) (some (.iaload, 1)) none) (cond (Nat.beq pc 310) (some (.aload_n 0, 1)) none))))))))) (cond (Nat.blt pc 425) (cond (Nat.blt pc 369) (cond (Nat.blt pc 339) (cond (Nat.blt pc 322) (cond (Nat.blt pc 316) (cond (Nat.blt pc 314) (cond (Nat.blt pc 313) (cond (Nat.beq pc 311) (some (.iload 4, 2)) none) (cond (Nat.beq pc 313) (some (.iconst 2, 1)) none)) (cond (Nat.blt pc 315) (cond (Nat.beq pc 314) (some (.iadd, 1)) none) (cond (Nat.beq pc 315) (some (.iaload, 1)) none))) (cond (Nat.blt pc 319) (cond (Nat.blt pc 317) (cond (Nat.beq pc 316) (some (.aload_n 0, 1)) none) (cond (Nat.beq pc 317) (some (.iload 4, 2)) none)) (cond (Nat.blt pc 320) (cond (Nat.beq pc 319) (some (.iconst 3, 1)) none) (cond (Nat.blt pc 321) (cond (Nat.beq pc 320) (some (.iadd, 1)) none) (cond (Nat.beq pc 321) (some (.iaload, 1)) none))))) (cond (Nat.blt pc 328) (cond (Nat.blt pc 325) (cond (Nat.blt pc 323) (cond (Nat.beq pc 322) (some (.aload_n 0, 1)) none) (cond (Nat.beq pc 323) (some (.iload 4, 2)) none)) (cond (Nat.blt pc 326) (cond (Nat.beq pc 325) (some (.iconst 4, 1)) none) (cond (Nat.blt pc 327) (cond (Nat.beq pc 326) (some (.iadd, 1)) none) (cond (Nat.beq pc 327) (some (.iaload, 1)) none)))) (cond (Nat.blt pc 333) (cond (Nat.blt pc 331) (cond (Nat.beq pc 328) (some (.invokevirtual 92, 3)) none) (cond (Nat.beq pc 331) (some (.istore 6, 2)) none)) (cond (Nat.blt pc 334) (cond (Nat.beq pc 333) (some (.aload_n 2, 1)) none) (cond (Nat.blt pc 337) (cond (Nat.beq pc 334) (some (.invokevirtual 78, 3)) none) (cond (Nat.beq pc 337) (some (.iload 5, 2)) none)))))) (cond (Nat.blt pc 354) (cond (Nat.blt pc 346) (cond (Nat.blt pc 343) (cond (Nat.blt pc 342) (cond (Nat.beq pc 339) (some (.if_icmp .eq 5, 3)) none) (cond (Nat.beq pc 342) (some (.iconst 0, 1)) none)) (cond (Nat.blt pc 344) (cond (Nat.beq pc 343) (some (.ireturn, 1)) none) (cond (Nat.beq pc 344) (some (.iload 5, 2)) none))) (cond (Nat.blt pc 350) (cond (Nat.blt pc 349) (cond (Nat.beq pc 346) (some (.ifCond .ne 15, 3)) none) (cond (Nat.beq pc 349) (some (.aload_n 3, 1)) none)) (cond (Nat.blt pc 351) (cond (Nat.beq pc 350) (some (.iconst 0, 1)) none) (cond (Nat.blt pc 352) (cond (Nat.beq pc 351) (some (.laload, 1)) none) (cond (Nat.beq pc 352) (some (.iload 6, 2)) none))))) (cond (Nat.blt pc 361) (cond (Nat.blt pc 356) (cond (Nat.blt pc 355) (cond (Nat.beq pc 354) (some (.i2l, 1)) none) (cond (Nat.beq pc 355) (some (.lcmp, 1)) none)) (cond (Nat.blt pc 359) (cond (Nat.beq pc 356) (some (.ifCond .eq 5, 3)) none) (cond (Nat.blt pc 360) (cond (Nat.beq pc 359) (some (.iconst 0, 1)) none) (cond (Nat.beq pc 360) (some (.ireturn, 1)) none)))) (cond (Nat.blt pc 365) (cond (Nat.blt pc 364) (cond (Nat.beq pc 361) (some (.goto 661, 3)) none) (cond (Nat.beq pc 364) (some (.aload_n 1, 1)) none)) (cond (Nat.blt pc 366) (cond (Nat.beq pc 365) (some (.aload_n 0, 1)) none) (cond (Nat.blt pc 368) (cond (Nat.beq pc 366) (some (.iload 4, 2)) none) (cond (Nat.beq pc 368) (some (.iconst 1, 1)) none))))))) (cond (Nat.blt pc 394) (cond (Nat.blt pc 380) (cond (Nat.blt pc 374) (cond (Nat.blt pc 371) (cond (Nat.blt pc 370) (cond (Nat.beq pc 369) (some (.iadd, 1)) none) (cond (Nat.beq pc 370) (some (.iaload, 1)) none)) (cond (Nat.blt pc 372) (cond (Nat.beq pc 371) (some (.aload_n 0, 1)) none) (cond (Nat.beq pc 372) (some (.iload 4, 2)) none))) (cond (Nat.blt pc 376) (cond (Nat.blt pc 375) (cond (Nat.beq pc 374) (some (.iconst 2, 1)) none) (cond (Nat.beq pc 375) (some (.iadd, 1)) none)) (cond (Nat.blt pc 377) (cond (Nat.beq pc 376) (some (.iaload, 1)) none) (cond (Nat.blt pc 378) (cond (Nat.beq pc 377) (some (.aload_n 0, 1)) none) (cond (Nat.beq pc 378) (some (.iload 4, 2)) none))))) (cond (Nat.blt pc 388) (cond (Nat.blt pc 382) (cond (Nat.blt pc 381) (cond (Nat.beq pc 380) (some (.iconst 3, 1)) none) (cond (Nat.beq pc 381) (some (.iadd, 1)) none)) (cond (Nat.blt pc 383) (cond (Nat.beq pc 382) (some (.iaload, 1)) none) (cond (Nat.blt pc 386) (cond (Nat.beq pc 383) (some (.invokestatic 93, 3)) none) (cond (Nat.beq pc 386) (some (.istore 5, 2)) none)))) (cond (Nat.blt pc 390) (cond (Nat.blt pc 389) (cond (Nat.beq pc 388) (some (.aload_n 2, 1)) none) (cond (Nat.beq pc 389) (some (.aload_n 0, 1)) none)) (cond (Nat.blt pc 392) (cond (Nat.beq pc 390) (some (.iload 4, 2)) none) (cond (Nat.blt pc 393) (cond (Nat.beq pc 392) (some (.iconst 1, 1)) none) (cond (Nat.beq pc 393) (some (.iadd, 1)) none)))))) (cond (Nat.blt pc 406) (cond (Nat.blt pc 400) (cond (Nat.blt pc 396) (cond (Nat.blt pc 395) (cond (Nat.beq pc 394) (some (.iaload, 1)) none) (cond (Nat.beq pc 395) (some (.aload_n 0, 1)) none)) (cond (Nat.blt pc 398) (cond (Nat.beq pc 396) (some (.iload 4, 2)) none) (cond (Nat.blt pc 399) (cond (Nat.beq pc 398) (some (.iconst 2, 1)) none) (cond (Nat.beq pc 399) (some (.iadd, 1)) none)))) (cond (Nat.blt pc 402) (cond (Nat.blt pc 401) (cond (Nat.beq pc 400) (some (.iaload, 1)) none) (cond (Nat.beq pc 401) (some (.aload_n 0, 1)) none)) (cond (Nat.blt pc 404) (cond (Nat.beq pc 402) (some (.iload 4, 2)) none) (cond (Nat.blt pc 405) (cond (Nat.beq pc 404) (some (.iconst 3, 1)) none) (cond (Nat.beq pc 405) (some (.iadd, 1)) none))))) (cond (Nat.blt pc 416) (cond (Nat.blt pc 410) (cond (Nat.blt pc 407) (cond (Nat.beq pc 406) (some (.iaload, 1)) none) (cond (Nat.beq pc 407) (some (.invokevirtual 96, 3)) none)) (cond (Nat.blt pc 411) (cond (Nat.beq pc 410) (some (.aload_n 2, 1)) none) (cond (Nat.blt pc 414) (cond (Nat.beq pc 411) (some (.invokevirtual 78, 3)) none) (cond (Nat.beq pc 414) (some (.iload 5, 2)) none)))) (cond (Nat.blt pc 420) (cond (Nat.blt pc 419) (cond (Nat.beq pc 416) (some (.if_icmp .eq 5, 3)) none) (cond (Nat.beq pc 419) (some (.iconst 0, 1)) none)) (cond (Nat.blt pc 421) (cond (Nat.beq pc 420) (some (.ireturn, 1)) none) (cond (Nat.blt pc 424) (cond (Nat.beq pc 421) (some (.goto 601, 3)) none) (cond (Nat.beq pc 424) (some (.aload_n 1, 1)) none)))))))) (cond (Nat.blt pc 484) (cond (Nat.blt pc 456) (cond (Nat.blt pc 438) (cond (Nat.blt pc 430) (cond (Nat.blt pc 428) (cond (Nat.blt pc 426) (cond (Nat.beq pc 425) (some (.aload_n 0, 1)) none) (cond (Nat.beq pc 426) (some (.iload 4, 2)) none)) (cond (Nat.blt pc 429) (cond (Nat.beq pc 428) (some (.iconst 1, 1)) none) (cond (Nat.beq pc 429) (some (.iadd, 1)) none))) (cond (Nat.blt pc 434) (cond (Nat.blt pc 431) (cond (Nat.beq pc 430) (some (.iaload, 1)) none) (cond (Nat.beq pc 431) (some (.invokestatic 97, 3)) none)) (cond (Nat.blt pc 436) (cond (Nat.beq pc 434) (some (.istore 5, 2)) none) (cond (Nat.blt pc 437) (cond (Nat.beq pc 436) (some (.aload_n 2, 1)) none) (cond (Nat.beq pc 437) (some (.aload_n 0, 1)) none))))) (cond (Nat.blt pc 446) (cond (Nat.blt pc 441) (cond (Nat.blt pc 440) (cond (Nat.beq pc 438) (some (.iload 4, 2)) none) (cond (Nat.beq pc 440) (some (.iconst 1, 1)) none)) (cond (Nat.blt pc 442) (cond (Nat.beq pc 441) (some (.iadd, 1)) none) (cond (Nat.blt pc 443) (cond (Nat.beq pc 442) (some (.iaload, 1)) none) (cond (Nat.beq pc 443) (some (.invokevirtual 99, 3)) none)))) (cond (Nat.blt pc 450) (cond (Nat.blt pc 447) (cond (Nat.beq pc 446) (some (.aload_n 2, 1)) none) (cond (Nat.beq pc 447) (some (.invokevirtual 78, 3)) none)) (cond (Nat.blt pc 452) (cond (Nat.beq pc 450) (some (.iload 5, 2)) none) (cond (Nat.blt pc 455) (cond (Nat.beq pc 452) (some (.if_icmp .eq 5, 3)) none) (cond (Nat.beq pc 455) (some (.iconst 0, 1)) none)))))) (cond (Nat.blt pc 470) (cond (Nat.blt pc 464) (cond (Nat.blt pc 460) (cond (Nat.blt pc 457) (cond (Nat.beq pc 456) (some (.ireturn, 1)) none) (cond (Nat.beq pc 457) (some (.goto 565, 3)) none)) (cond (Nat.blt pc 461) (cond (Nat.beq pc 460) (some (.aload_n 1, 1)) none) (cond (Nat.blt pc 462) (cond (Nat.beq pc 461) (some (.aload_n 0, 1)) none) (cond (Nat.beq pc 462) (some (.iload 4, 2)) none)))) (cond (Nat.blt pc 466) (cond (Nat.blt pc 465) (cond (Nat.beq pc 464) (some (.iconst 1, 1)) none) (cond (Nat.beq pc 465) (some (.iadd, 1)) none)) (cond (Nat.blt pc 467) (cond (Nat.beq pc 466) (some (.iaload, 1)) none) (cond (Nat.blt pc 468) (cond (Nat.beq pc 467) (some (.aload_n 0, 1)) none) (cond (Nat.beq pc 468) (some (.iload 4, 2)) none))))) (cond (Nat.blt pc 478) (cond (Nat.blt pc 472) (cond (Nat.blt pc 471) (cond (Nat.beq pc 470) (some (.iconst 2, 1)) none) (cond (Nat.beq pc 471) (some (.iadd, 1)) none)) (cond (Nat.blt pc 473) (cond (Nat.beq pc 472) (some (.iaload, 1)) none) (cond (Nat.blt pc 476) (cond (Nat.beq pc 473) (some (.invokestatic 100, 3)) none) (cond (Nat.beq pc 476) (some (.istore 5, 2)) none)))) (cond (Nat.blt pc 480) (cond (Nat.blt pc 479) (cond (Nat.beq pc 478) (some (.aload_n 2, 1)) none) (cond (Nat.beq pc 479) (some (.aload_n 0, 1)) none)) (cond (Nat.blt pc 482) (cond (Nat.beq pc 480) (some (.iload 4, 2)) none) (cond (Nat.blt pc 483) (cond (Nat.beq pc 482) (some (.iconst 1, 1)) none) (cond (Nat.beq pc 483) (some (.iadd, 1)) none))))))) (cond (Nat.blt pc 516) (cond (Nat.blt pc 498) (cond (Nat.blt pc 489) (cond (Nat.blt pc 486) (cond (Nat.blt pc 485) (cond (Nat.beq pc 484) (some (.iaload, 1)) none) (cond (Nat.beq pc 485) (some (.aload_n 0, 1)) none)) (cond (Nat.blt pc 488) (cond (Nat.beq pc 486) (some (.iload 4, 2)) none) (cond (Nat.beq pc 488) (some (.iconst 2, 1)) none))) (cond (Nat.blt pc 491) (cond (Nat.blt pc 490) (cond (Nat.beq pc 489) (some (.iadd, 1)) none) (cond (Nat.beq pc 490) (some (.iaload, 1)) none)) (cond (Nat.blt pc 494) (cond (Nat.beq pc 491) (some (.invokevirtual 102, 3)) none) (cond (Nat.blt pc 495) (cond (Nat.beq pc 494) (some (.aload_n 2, 1)) none) (cond (Nat.beq pc 495) (some (.invokevirtual 78, 3)) none))))) (cond (Nat.blt pc 508) (cond (Nat.blt pc 503) (cond (Nat.blt pc 500) (cond (Nat.beq pc 498) (some (.iload 5, 2)) none) (cond (Nat.beq pc 500) (some (.if_icmp .eq 5, 3)) none)) (cond (Nat.blt pc 504) (cond (Nat.beq pc 503) (some (.iconst 0, 1)) none) (cond (Nat.blt pc 505) (cond (Nat.beq pc 504) (some (.ireturn, 1)) none) (cond (Nat.beq pc 505) (some (.goto 517, 3)) none)))) (cond (Nat.blt pc 510) (cond (Nat.blt pc 509) (cond (Nat.beq pc 508) (some (.aload_n 1, 1)) none) (cond (Nat.beq pc 509) (some (.aload_n 3, 1)) none)) (cond (Nat.blt pc 513) (cond (Nat.beq pc 510) (some (.invokestatic 103, 3)) none) (cond (Nat.blt pc 515) (cond (Nat.beq pc 513) (some (.istore 5, 2)) none) (cond (Nat.beq pc 515) (some (.aload_n 2, 1)) none)))))) (cond (Nat.blt pc 537) (cond (Nat.blt pc 527) (cond (Nat.blt pc 521) (cond (Nat.blt pc 519) (cond (Nat.beq pc 516) (some (.invokevirtual 106, 3)) none) (cond (Nat.beq pc 519) (some (.istore 6, 2)) none)) (cond (Nat.blt pc 522) (cond (Nat.beq pc 521) (some (.aload_n 2, 1)) none) (cond (Nat.blt pc 525) (cond (Nat.beq pc 522) (some (.invokevirtual 78, 3)) none) (cond (Nat.beq pc 525) (some (.iload 5, 2)) none)))) (cond (Nat.blt pc 531) (cond (Nat.blt pc 530) (cond (Nat.beq pc 527) (some (.if_icmp .eq 5, 3)) none) (cond (Nat.beq pc 530) (some (.iconst 0, 1)) none)) (cond (Nat.blt pc 532) (cond (Nat.beq pc 531) (some (.ireturn, 1)) none) (cond (Nat.blt pc 534) (cond (Nat.beq pc 532) (some (.iload 5, 2)) none) (cond (Nat.beq pc 534) (some (.ifCond .ne 15, 3)) none))))) (cond (Nat.blt pc 543) (cond (Nat.blt pc 539) (cond (Nat.blt pc 538) (cond (Nat.beq pc 537) (some (.aload_n 3, 1)) none) (cond (Nat.beq pc 538) (some (.iconst 0, 1)) none)) (cond (Nat.blt pc 540) (cond (Nat.beq pc 539) (some (.laload, 1)) none) (cond (Nat.blt pc 542) (cond (Nat.beq pc 540) (some (.iload 6, 2)) none) (cond (Nat.beq pc 542) (some (.i2l, 1)) none)))) (cond (Nat.blt pc 547) (cond (Nat.blt pc 544) (cond (Nat.beq pc 543) (some (.lcmp, 1)) none) (cond (Nat.beq pc 544) (some (.ifCond .eq 5, 3)) none)) (cond (Nat.blt pc 548) (cond (Nat.beq pc 547) (some (.iconst 0, 1)) none) (cond (Nat.blt pc 549) (cond (Nat.beq pc 548) (some (.ireturn, 1)) none) (cond (Nat.beq pc 549) (some (.goto 473, 3)) none)))))))))) (cond (Nat.blt pc 787) (cond (Nat.blt pc 671) (cond (Nat.blt pc 608) (cond (Nat.blt pc 577) (cond (Nat.blt pc 563) (cond (Nat.blt pc 557) (cond (Nat.blt pc 554) (cond (Nat.blt pc 553) (cond (Nat.beq pc 552) (some (.aload_n 1, 1)) none) (cond (Nat.beq pc 553) (some (.aload_n 0, 1)) none)) (cond (Nat.blt pc 556) (cond (Nat.beq pc 554) (some (.iload 4, 2)) none) (cond (Nat.beq pc 556) (some (.iconst 1, 1)) none))) (cond (Nat.blt pc 559) (cond (Nat.blt pc 558) (cond (Nat.beq pc 557) (some (.iadd, 1)) none) (cond (Nat.beq pc 558) (some (.iaload, 1)) none)) (cond (Nat.blt pc 560) (cond (Nat.beq pc 559) (some (.aload_n 0, 1)) none) (cond (Nat.blt pc 562) (cond (Nat.beq pc 560) (some (.iload 4, 2)) none) (cond (Nat.beq pc 562) (some (.iconst 2, 1)) none))))) (cond (Nat.blt pc 571) (cond (Nat.blt pc 565) (cond (Nat.blt pc 564) (cond (Nat.beq pc 563) (some (.iadd, 1)) none) (cond (Nat.beq pc 564) (some (.iaload, 1)) none)) (cond (Nat.blt pc 566) (cond (Nat.beq pc 565) (some (.aload_n 3, 1)) none) (cond (Nat.blt pc 569) (cond (Nat.beq pc 566) (some (.invokestatic 107, 3)) none) (cond (Nat.beq pc 569) (some (.istore 5, 2)) none)))) (cond (Nat.blt pc 573) (cond (Nat.blt pc 572) (cond (Nat.beq pc 571) (some (.aload_n 2, 1)) none) (cond (Nat.beq pc 572) (some (.aload_n 0, 1)) none)) (cond (Nat.blt pc 575) (cond (Nat.beq pc 573) (some (.iload 4, 2)) none) (cond (Nat.blt pc 576) (cond (Nat.beq pc 575) (some (.iconst 1, 1)) none) (cond (Nat.beq pc 576) (some (.iadd, 1)) none)))))) (cond (Nat.blt pc 590) (cond (Nat.blt pc 582) (cond (Nat.blt pc 579) (cond (Nat.blt pc 578) (cond (Nat.beq pc 577) (some (.iaload, 1)) none) (cond (Nat.beq pc 578) (some (.aload_n 0, 1)) none)) (cond (Nat.blt pc 581) (cond (Nat.beq pc 579) (some (.iload 4, 2)) none) (cond (Nat.beq pc 581) (some (.iconst 2, 1)) none))) (cond (Nat.blt pc 584) (cond (Nat.blt pc 583) (cond (Nat.beq pc 582) (some (.iadd, 1)) none) (cond (Nat.beq pc 583) (some (.iaload, 1)) none)) (cond (Nat.blt pc 587) (cond (Nat.beq pc 584) (some (.invokevirtual 109, 3)) none) (cond (Nat.blt pc 589) (cond (Nat.beq pc 587) (some (.istore 6, 2)) none) (cond (Nat.beq pc 589) (some (.aload_n 2, 1)) none))))) (cond (Nat.blt pc 600) (cond (Nat.blt pc 595) (cond (Nat.blt pc 593) (cond (Nat.beq pc 590) (some (.invokevirtual 78, 3)) none) (cond (Nat.beq pc 593) (some (.iload 5, 2)) none)) (cond (Nat.blt pc 598) (cond (Nat.beq pc 595) (some (.if_icmp .eq 5, 3)) none) (cond (Nat.blt pc 599) (cond (Nat.beq pc 598) (some (.iconst 0, 1)) none) (cond (Nat.beq pc 599) (some (.ireturn, 1)) none)))) (cond (Nat.blt pc 605) (cond (Nat.blt pc 602) (cond (Nat.beq pc 600) (some (.iload 5, 2)) none) (cond (Nat.beq pc 602) (some (.ifCond .ne 15, 3)) none)) (cond (Nat.blt pc 606) (cond (Nat.beq pc 605) (some (.aload_n 3, 1)) none) (cond (Nat.blt pc 607) (cond (Nat.beq pc 606) (some (.iconst 0, 1)) none) (cond (Nat.beq pc 607) (some (.laload, 1)) none))))))) (cond (Nat.blt pc 637) (cond (Nat.blt pc 622) (cond (Nat.blt pc 615) (cond (Nat.blt pc 611) (cond (Nat.blt pc 610) (cond (Nat.beq pc 608) (some (.iload 6, 2)) none) (cond (Nat.beq pc 610) (some (.i2l, 1)) none)) (cond (Nat.blt pc 612) (cond (Nat.beq pc 611) (some (.lcmp, 1)) none) (cond (Nat.beq pc 612) (some (.ifCond .eq 5, 3)) none))) (cond (Nat.blt pc 617) (cond (Nat.blt pc 616) (cond (Nat.beq pc 615) (some (.iconst 0, 1)) none) (cond (Nat.beq pc 616) (some (.ireturn, 1)) none)) (cond (Nat.blt pc 620) (cond (Nat.beq pc 617) (some (.goto 405, 3)) none) (cond (Nat.blt pc 621) (cond (Nat.beq pc 620) (some (.aload_n 1, 1)) none) (cond (Nat.beq pc 621) (some (.aload_n 0, 1)) none))))) (cond (Nat.blt pc 628) (cond (Nat.blt pc 625) (cond (Nat.blt pc 624) (cond (Nat.beq pc 622) (some (.iload 4, 2)) none) (cond (Nat.beq pc 624) (some (.iconst 1, 1)) none)) (cond (Nat.blt pc 626) (cond (Nat.beq pc 625) (some (.iadd, 1)) none) (cond (Nat.blt pc 627) (cond (Nat.beq pc 626) (some (.iaload, 1)) none) (cond (Nat.beq pc 627) (some (.aload_n 3, 1)) none)))) (cond (Nat.blt pc 633) (cond (Nat.blt pc 631) (cond (Nat.beq pc 628) (some (.invokestatic 110, 3)) none) (cond (Nat.beq pc 631) (some (.istore 5, 2)) none)) (cond (Nat.blt pc 634) (cond (Nat.beq pc 633) (some (.aload_n 2, 1)) none) (cond (Nat.blt pc 635) (cond (Nat.beq pc 634) (some (.aload_n 0, 1)) none) (cond (Nat.beq pc 635) (some (.iload 4, 2)) none)))))) (cond (Nat.blt pc 655) (cond (Nat.blt pc 645) (cond (Nat.blt pc 639) (cond (Nat.blt pc 638) (cond (Nat.beq pc 637) (some (.iconst 1, 1)) none) (cond (Nat.beq pc 638) (some (.iadd, 1)) none)) (cond (Nat.blt pc 640) (cond (Nat.beq pc 639) (some (.iaload, 1)) none) (cond (Nat.blt pc 643) (cond (Nat.beq pc 640) (some (.invokevirtual 113, 3)) none) (cond (Nat.beq pc 643) (some (.istore 6, 2)) none)))) (cond (Nat.blt pc 649) (cond (Nat.blt pc 646) (cond (Nat.beq pc 645) (some (.aload_n 2, 1)) none) (cond (Nat.beq pc 646) (some (.invokevirtual 78, 3)) none)) (cond (Nat.blt pc 651) (cond (Nat.beq pc 649) (some (.iload 5, 2)) none) (cond (Nat.blt pc 654) (cond (Nat.beq pc 651) (some (.if_icmp .eq 5, 3)) none) (cond (Nat.beq pc 654) (some (.iconst 0, 1)) none))))) (cond (Nat.blt pc 663) (cond (Nat.blt pc 658) (cond (Nat.blt pc 656) (cond (Nat.beq pc 655) (some (.ireturn, 1)) none) (cond (Nat.beq pc 656) (some (.iload 5, 2)) none)) (cond (Nat.blt pc 661) (cond (Nat.beq pc 658) (some (.ifCond .ne 15, 3)) none) (cond (Nat.blt pc 662) (cond (Nat.beq pc 661) (some (.aload_n 3, 1)) none) (cond (Nat.beq pc 662) (some (.iconst 0, 1)) none)))) (cond (Nat.blt pc 666) (cond (Nat.blt pc 664) (cond (Nat.beq pc 663) (some (.laload, 1)) none) (cond (Nat.beq pc 664) (some (.iload 6, 2)) none)) (cond (Nat.blt pc 667) (cond (Nat.beq pc 666) (some (.i2l, 1)) none) (cond (Nat.blt pc 668) (cond (Nat.beq pc 667) (some (.lcmp, 1)) none) (cond (Nat.beq pc 668) (some (.ifCond .eq 5, 3)) none)))))))) (cond (Nat.blt pc 730) (cond (Nat.blt pc 697) (cond (Nat.blt pc 683) (cond (Nat.blt pc 677) (cond (Nat.blt pc 673) (cond (Nat.blt pc 672) (cond (Nat.beq pc 671) (some (.iconst 0, 1)) none) (cond (Nat.beq pc 672) (some (.ireturn, 1)) none)) (cond (Nat.blt pc 676) (cond (Nat.beq pc 673) (some (.goto 349, 3)) none) (cond (Nat.beq pc 676) (some (.aload_n 1, 1)) none))) (cond (Nat.blt pc 680) (cond (Nat.blt pc 678) (cond (Nat.beq pc 677) (some (.aload_n 0, 1)) none) (cond (Nat.beq pc 678) (some (.iload 4, 2)) none)) (cond (Nat.blt pc 681) (cond (Nat.beq pc 680) (some (.iconst 1, 1)) none) (cond (Nat.blt pc 682) (cond (Nat.beq pc 681) (some (.iadd, 1)) none) (cond (Nat.beq pc 682) (some (.iaload, 1)) none))))) (cond (Nat.blt pc 689) (cond (Nat.blt pc 686) (cond (Nat.blt pc 684) (cond (Nat.beq pc 683) (some (.aload_n 0, 1)) none) (cond (Nat.beq pc 684) (some (.iload 4, 2)) none)) (cond (Nat.blt pc 687) (cond (Nat.beq pc 686) (some (.iconst 2, 1)) none) (cond (Nat.blt pc 688) (cond (Nat.beq pc 687) (some (.iadd, 1)) none) (cond (Nat.beq pc 688) (some (.iaload, 1)) none)))) (cond (Nat.blt pc 693) (cond (Nat.blt pc 690) (cond (Nat.beq pc 689) (some (.aload_n 3, 1)) none) (cond (Nat.beq pc 690) (some (.invokestatic 114, 3)) none)) (cond (Nat.blt pc 695) (cond (Nat.beq pc 693) (some (.istore 5, 2)) none) (cond (Nat.blt pc 696) (cond (Nat.beq pc 695) (some (.aload_n 2, 1)) none) (cond (Nat.beq pc 696) (some (.aload_n 0, 1)) none)))))) (cond (Nat.blt pc 711) (cond (Nat.blt pc 703) (cond (Nat.blt pc 700) (cond (Nat.blt pc 699) (cond (Nat.beq pc 697) (some (.iload 4, 2)) none) (cond (Nat.beq pc 699) (some (.iconst 1, 1)) none)) (cond (Nat.blt pc 701) (cond (Nat.beq pc 700) (some (.iadd, 1)) none) (cond (Nat.blt pc 702) (cond (Nat.beq pc 701) (some (.iaload, 1)) none) (cond (Nat.beq pc 702) (some (.aload_n 0, 1)) none)))) (cond (Nat.blt pc 706) (cond (Nat.blt pc 705) (cond (Nat.beq pc 703) (some (.iload 4, 2)) none) (cond (Nat.beq pc 705) (some (.iconst 2, 1)) none)) (cond (Nat.blt pc 707) (cond (Nat.beq pc 706) (some (.iadd, 1)) none) (cond (Nat.blt pc 708) (cond (Nat.beq pc 707) (some (.iaload, 1)) none) (cond (Nat.beq pc 708) (some (.invokevirtual 116, 3)) none))))) (cond (Nat.blt pc 722) (cond (Nat.blt pc 714) (cond (Nat.blt pc 713) (cond (Nat.beq pc 711) (some (.istore 6, 2)) none) (cond (Nat.beq pc 713) (some (.aload_n 2, 1)) none)) (cond (Nat.blt pc 717) (cond (Nat.beq pc 714) (some (.invokevirtual 78, 3)) none) (cond (Nat.blt pc 719) (cond (Nat.beq pc 717) (some (.iload 5, 2)) none) (cond (Nat.beq pc 719) (some (.if_icmp .eq 5, 3)) none)))) (cond (Nat.blt pc 724) (cond (Nat.blt pc 723) (cond (Nat.beq pc 722) (some (.iconst 0, 1)) none) (cond (Nat.beq pc 723) (some (.ireturn, 1)) none)) (cond (Nat.blt pc 726) (cond (Nat.beq pc 724) (some (.iload 5, 2)) none) (cond (Nat.blt pc 729) (cond (Nat.beq pc 726) (some (.ifCond .ne 15, 3)) none) (cond (Nat.beq pc 729) (some (.aload_n 3, 1)) none))))))) (cond (Nat.blt pc 758) (cond (Nat.blt pc 744) (cond (Nat.blt pc 735) (cond (Nat.blt pc 732) (cond (Nat.blt pc 731) (cond (Nat.beq pc 730) (some (.iconst 0, 1)) none) (cond (Nat.beq pc 731) (some (.laload, 1)) none)) (cond (Nat.blt pc 734) (cond (Nat.beq pc 732) (some (.iload 6, 2)) none) (cond (Nat.beq pc 734) (some (.i2l, 1)) none))) (cond (Nat.blt pc 739) (cond (Nat.blt pc 736) (cond (Nat.beq pc 735) (some (.lcmp, 1)) none) (cond (Nat.beq pc 736) (some (.ifCond .eq 5, 3)) none)) (cond (Nat.blt pc 740) (cond (Nat.beq pc 739) (some (.iconst 0, 1)) none) (cond (Nat.blt pc 741) (cond (Nat.beq pc 740) (some (.ireturn, 1)) none) (cond (Nat.beq pc 741) (some (.goto 281, 3)) none))))) (cond (Nat.blt pc 750) (cond (Nat.blt pc 746) (cond (Nat.blt pc 745) (cond (Nat.beq pc 744) (some (.aload_n 1, 1)) none) (cond (Nat.beq pc 745) (some (.aload_n 0, 1)) none)) (cond (Nat.blt pc 748) (cond (Nat.beq pc 746) (some (.iload 4, 2)) none) (cond (Nat.blt pc 749) (cond (Nat.beq pc 748) (some (.iconst 1, 1)) none) (cond (Nat.beq pc 749) (some (.iadd, 1)) none)))) (cond (Nat.blt pc 754) (cond (Nat.blt pc 751) (cond (Nat.beq pc 750) (some (.iaload, 1)) none) (cond (Nat.beq pc 751) (some (.invokevirtual 117, 3)) none)) (cond (Nat.blt pc 755) (cond (Nat.beq pc 754) (some (.aload_n 2, 1)) none) (cond (Nat.blt pc 756) (cond (Nat.beq pc 755) (some (.aload_n 0, 1)) none) (cond (Nat.beq pc 756) (some (.iload 4, 2)) none)))))) (cond (Nat.blt pc 773) (cond (Nat.blt pc 767) (cond (Nat.blt pc 760) (cond (Nat.blt pc 759) (cond (Nat.beq pc 758) (some (.iconst 1, 1)) none) (cond (Nat.beq pc 759) (some (.iadd, 1)) none)) (cond (Nat.blt pc 761) (cond (Nat.beq pc 760) (some (.iaload, 1)) none) (cond (Nat.blt pc 764) (cond (Nat.beq pc 761) (some (.invokevirtual 121, 3)) none) (cond (Nat.beq pc 764) (some (.if_icmp .eq 258, 3)) none)))) (cond (Nat.blt pc 769) (cond (Nat.blt pc 768) (cond (Nat.beq pc 767) (some (.iconst 0, 1)) none) (cond (Nat.beq pc 768) (some (.ireturn, 1)) none)) (cond (Nat.blt pc 770) (cond (Nat.beq pc 769) (some (.aload_n 1, 1)) none) (cond (Nat.blt pc 771) (cond (Nat.beq pc 770) (some (.aload_n 0, 1)) none) (cond (Nat.beq pc 771) (some (.iload 4, 2)) none))))) (cond (Nat.blt pc 780) (cond (Nat.blt pc 775) (cond (Nat.blt pc 774) (cond (Nat.beq pc 773) (some (.iconst 1, 1)) none) (cond (Nat.beq pc 774) (some (.iadd, 1)) none)) (cond (Nat.blt pc 776) (cond (Nat.beq pc 775) (some (.iaload, 1)) none) (cond (Nat.blt pc 777) (cond (Nat.beq pc 776) (some (.aload_n 3, 1)) none) (cond (Nat.beq pc 777) (some (.invokestatic 122, 3)) none)))) (cond (Nat.blt pc 783) (cond (Nat.blt pc 782) (cond (Nat.beq pc 780) (some (.istore 5, 2)) none) (cond (Nat.beq pc 782) (some (.aload_n 2, 1)) none)) (cond (Nat.blt pc 784) (cond (Nat.beq pc 783) (some (.aload_n 0, 1)) none) (cond (Nat.blt pc 786) (cond (Nat.beq pc 784) (some (.iload 4, 2)) none) (cond (Nat.beq pc 786) (some (.iconst 1, 1)) none))))))))) (cond (Nat.blt pc 907) (cond (Nat.blt pc 848) (cond (Nat.blt pc 820) (cond (Nat.blt pc 804) (cond (Nat.blt pc 794) (cond (Nat.blt pc 789) (cond (Nat.blt pc 788) (cond (Nat.beq pc 787) (some (.iadd, 1)) none) (cond (Nat.beq pc 788) (some (.iaload, 1)) none)) (cond (Nat.blt pc 792) (cond (Nat.beq pc 789) (some (.invokevirtual 124, 3)) none) (cond (Nat.beq pc 792) (some (.istore 6, 2)) none))) (cond (Nat.blt pc 798) (cond (Nat.blt pc 795) (cond (Nat.beq pc 794) (some (.aload_n 2, 1)) none) (cond (Nat.beq pc 795) (some (.invokevirtual 78, 3)) none)) (cond (Nat.blt pc 800) (cond (Nat.beq pc 798) (some (.iload 5, 2)) none) (cond (Nat.blt pc 803) (cond (Nat.beq pc 800) (some (.if_icmp .eq 5, 3)) none) (cond (Nat.beq pc 803) (some (.iconst 0, 1)) none))))) (cond (Nat.blt pc 812) (cond (Nat.blt pc 807) (cond (Nat.blt pc 805) (cond (Nat.beq pc 804) (some (.ireturn, 1)) none) (cond (Nat.beq pc 805) (some (.iload 5, 2)) none)) (cond (Nat.blt pc 810) (cond (Nat.beq pc 807) (some (.ifCond .ne 15, 3)) none) (cond (Nat.blt pc 811) (cond (Nat.beq pc 810) (some (.aload_n 3, 1)) none) (cond (Nat.beq pc 811) (some (.iconst 0, 1)) none)))) (cond (Nat.blt pc 815) (cond (Nat.blt pc 813) (cond (Nat.beq pc 812) (some (.laload, 1)) none) (cond (Nat.beq pc 813) (some (.iload 6, 2)) none)) (cond (Nat.blt pc 816) (cond (Nat.beq pc 815) (some (.i2l, 1)) none) (cond (Nat.blt pc 817) (cond (Nat.beq pc 816) (some (.lcmp, 1)) none) (cond (Nat.beq pc 817) (some (.ifCond .eq 5, 3)) none)))))) (cond (Nat.blt pc 832) (cond (Nat.blt pc 826) (cond (Nat.blt pc 822) (cond (Nat.blt pc 821) (cond (Nat.beq pc 820) (some (.iconst 0, 1)) none) (cond (Nat.beq pc 821) (some (.ireturn, 1)) none)) (cond (Nat.blt pc 825) (cond (Nat.beq pc 822) (some (.goto 200, 3)) none) (cond (Nat.beq pc 825) (some (.aload_n 1, 1)) none))) (cond (Nat.blt pc 829) (cond (Nat.blt pc 827) (cond (Nat.beq pc 826) (some (.aload_n 0, 1)) none) (cond (Nat.beq pc 827) (some (.iload 4, 2)) none)) (cond (Nat.blt pc 830) (cond (Nat.beq pc 829) (some (.iconst 1, 1)) none) (cond (Nat.blt pc 831) (cond (Nat.beq pc 830) (some (.iadd, 1)) none) (cond (Nat.beq pc 831) (some (.iaload, 1)) none))))) (cond (Nat.blt pc 840) (cond (Nat.blt pc 836) (cond (Nat.blt pc 833) (cond (Nat.beq pc 832) (some (.aload_n 3, 1)) none) (cond (Nat.beq pc 833) (some (.invokestatic 125, 3)) none)) (cond (Nat.blt pc 838) (cond (Nat.beq pc 836) (some (.istore 5, 2)) none) (cond (Nat.blt pc 839) (cond (Nat.beq pc 838) (some (.aload_n 2, 1)) none) (cond (Nat.beq pc 839) (some (.aload_n 0, 1)) none)))) (cond (Nat.blt pc 843) (cond (Nat.blt pc 842) (cond (Nat.beq pc 840) (some (.iload 4, 2)) none) (cond (Nat.beq pc 842) (some (.iconst 1, 1)) none)) (cond (Nat.blt pc 844) (cond (Nat.beq pc 843) (some (.iadd, 1)) none) (cond (Nat.blt pc 845) (cond (Nat.beq pc 844) (some (.iaload, 1)) none) (cond (Nat.beq pc 845) (some (.invokevirtual 127, 3)) none))))))) (cond (Nat.blt pc 881) (cond (Nat.blt pc 866) (cond (Nat.blt pc 856) (cond (Nat.blt pc 851) (cond (Nat.blt pc 850) (cond (Nat.beq pc 848) (some (.istore 6, 2)) none) (cond (Nat.beq pc 850) (some (.aload_n 2, 1)) none)) (cond (Nat.blt pc 854) (cond (Nat.beq pc 851) (some (.invokevirtual 78, 3)) none) (cond (Nat.beq pc 854) (some (.iload 5, 2)) none))) (cond (Nat.blt pc 860) (cond (Nat.blt pc 859) (cond (Nat.beq pc 856) (some (.if_icmp .eq 5, 3)) none) (cond (Nat.beq pc 859) (some (.iconst 0, 1)) none)) (cond (Nat.blt pc 861) (cond (Nat.beq pc 860) (some (.ireturn, 1)) none) (cond (Nat.blt pc 863) (cond (Nat.beq pc 861) (some (.iload 5, 2)) none) (cond (Nat.beq pc 863) (some (.ifCond .ne 15, 3)) none))))) (cond (Nat.blt pc 872) (cond (Nat.blt pc 868) (cond (Nat.blt pc 867) (cond (Nat.beq pc 866) (some (.aload_n 3, 1)) none) (cond (Nat.beq pc 867) (some (.iconst 0, 1)) none)) (cond (Nat.blt pc 869) (cond (Nat.beq pc 868) (some (.laload, 1)) none) (cond (Nat.blt pc 871) (cond (Nat.beq pc 869) (some (.iload 6, 2)) none) (cond (Nat.beq pc 871) (some (.i2l, 1)) none)))) (cond (Nat.blt pc 876) (cond (Nat.blt pc 873) (cond (Nat.beq pc 872) (some (.lcmp, 1)) none) (cond (Nat.beq pc 873) (some (.ifCond .eq 5, 3)) none)) (cond (Nat.blt pc 877) (cond (Nat.beq pc 876) (some (.iconst 0, 1)) none) (cond (Nat.blt pc 878) (cond (Nat.beq pc 877) (some (.ireturn, 1)) none) (cond (Nat.beq pc 878) (some (.goto 144, 3)) none)))))) (cond (Nat.blt pc 893) (cond (Nat.blt pc 887) (cond (Nat.blt pc 883) (cond (Nat.blt pc 882) (cond (Nat.beq pc 881) (some (.aload_n 1, 1)) none) (cond (Nat.beq pc 882) (some (.aload_n 0, 1)) none)) (cond (Nat.blt pc 885) (cond (Nat.beq pc 883) (some (.iload 4, 2)) none) (cond (Nat.blt pc 886) (cond (Nat.beq pc 885) (some (.iconst 1, 1)) none) (cond (Nat.beq pc 886) (some (.iadd, 1)) none)))) (cond (Nat.blt pc 889) (cond (Nat.blt pc 888) (cond (Nat.beq pc 887) (some (.iaload, 1)) none) (cond (Nat.beq pc 888) (some (.aload_n 0, 1)) none)) (cond (Nat.blt pc 891) (cond (Nat.beq pc 889) (some (.iload 4, 2)) none) (cond (Nat.blt pc 892) (cond (Nat.beq pc 891) (some (.iconst 2, 1)) none) (cond (Nat.beq pc 892) (some (.iadd, 1)) none))))) (cond (Nat.blt pc 899) (cond (Nat.blt pc 895) (cond (Nat.blt pc 894) (cond (Nat.beq pc 893) (some (.iaload, 1)) none) (cond (Nat.beq pc 894) (some (.aload_n 0, 1)) none)) (cond (Nat.blt pc 897) (cond (Nat.beq pc 895) (some (.iload 4, 2)) none) (cond (Nat.blt pc 898) (cond (Nat.beq pc 897) (some (.iconst 3, 1)) none) (cond (Nat.beq pc 898) (some (.iadd, 1)) none)))) (cond (Nat.blt pc 901) (cond (Nat.blt pc 900) (cond (Nat.beq pc 899) (some (.iaload, 1)) none) (cond (Nat.beq pc 900) (some (.aload_n 3, 1)) none)) (cond (Nat.blt pc 904) (cond (Nat.beq pc 901) (some (.invokestatic 128, 3)) none) (cond (Nat.blt pc 906) (cond (Nat.beq pc 904) (some (.istore 5, 2)) none) (cond (Nat.beq pc 906) (some (.aload_n 2, 1)) none)))))))) (cond (Nat.blt pc 966) (cond (Nat.blt pc 934) (cond (Nat.blt pc 918) (cond (Nat.blt pc 912) (cond (Nat.blt pc 910) (cond (Nat.blt pc 908) (cond (Nat.beq pc 907) (some (.aload_n 0, 1)) none) (cond (Nat.beq pc 908) (some (.iload 4, 2)) none)) (cond (Nat.blt pc 911) (cond (Nat.beq pc 910) (some (.iconst 1, 1)) none) (cond (Nat.beq pc 911) (some (.iadd, 1)) none))) (cond (Nat.blt pc 914) (cond (Nat.blt pc 913) (cond (Nat.beq pc 912) (some (.iaload, 1)) none) (cond (Nat.beq pc 913) (some (.aload_n 0, 1)) none)) (cond (Nat.blt pc 916) (cond (Nat.beq pc 914) (some (.iload 4, 2)) none) (cond (Nat.blt pc 917) (cond (Nat.beq pc 916) (some (.iconst 2, 1)) none) (cond (Nat.beq pc 917) (some (.iadd, 1)) none))))) (cond (Nat.blt pc 924) (cond (Nat.blt pc 920) (cond (Nat.blt pc 919) (cond (Nat.beq pc 918) (some (.iaload, 1)) none) (cond (Nat.beq pc 919) (some (.aload_n 0, 1)) none)) (cond (Nat.blt pc 922) (cond (Nat.beq pc 920) (some (.iload 4, 2)) none) (cond (Nat.blt pc 923) (cond (Nat.beq pc 922) (some (.iconst 3, 1)) none) (cond (Nat.beq pc 923) (some (.iadd, 1)) none)))) (cond (Nat.blt pc 928) (cond (Nat.blt pc 925) (cond (Nat.beq pc 924) (some (.iaload, 1)) none) (cond (Nat.beq pc 925) (some (.invokevirtual 131, 3)) none)) (cond (Nat.blt pc 930) (cond (Nat.beq pc 928) (some (.istore 6, 2)) none) (cond (Nat.blt pc 931) (cond (Nat.beq pc 930) (some (.aload_n 2, 1)) none) (cond (Nat.beq pc 931) (some (.invokevirtual 78, 3)) none)))))) (cond (Nat.blt pc 951) (cond (Nat.blt pc 943) (cond (Nat.blt pc 939) (cond (Nat.blt pc 936) (cond (Nat.beq pc 934) (some (.iload 5, 2)) none) (cond (Nat.beq pc 936) (some (.if_icmp .eq 5, 3)) none)) (cond (Nat.blt pc 940) (cond (Nat.beq pc 939) (some (.iconst 0, 1)) none) (cond (Nat.blt pc 941) (cond (Nat.beq pc 940) (some (.ireturn, 1)) none) (cond (Nat.beq pc 941) (some (.iload 5, 2)) none)))) (cond (Nat.blt pc 947) (cond (Nat.blt pc 946) (cond (Nat.beq pc 943) (some (.ifCond .ne 15, 3)) none) (cond (Nat.beq pc 946) (some (.aload_n 3, 1)) none)) (cond (Nat.blt pc 948) (cond (Nat.beq pc 947) (some (.iconst 0, 1)) none) (cond (Nat.blt pc 949) (cond (Nat.beq pc 948) (some (.laload, 1)) none) (cond (Nat.beq pc 949) (some (.iload 6, 2)) none))))) (cond (Nat.blt pc 958) (cond (Nat.blt pc 953) (cond (Nat.blt pc 952) (cond (Nat.beq pc 951) (some (.i2l, 1)) none) (cond (Nat.beq pc 952) (some (.lcmp, 1)) none)) (cond (Nat.blt pc 956) (cond (Nat.beq pc 953) (some (.ifCond .eq 5, 3)) none) (cond (Nat.blt pc 957) (cond (Nat.beq pc 956) (some (.iconst 0, 1)) none) (cond (Nat.beq pc 957) (some (.ireturn, 1)) none)))) (cond (Nat.blt pc 962) (cond (Nat.blt pc 961) (cond (Nat.beq pc 958) (some (.goto 64, 3)) none) (cond (Nat.beq pc 961) (some (.aload_n 1, 1)) none)) (cond (Nat.blt pc 963) (cond (Nat.beq pc 962) (some (.aload_n 0, 1)) none) (cond (Nat.blt pc 965) (cond (Nat.beq pc 963) (some (.iload 4, 2)) none) (cond (Nat.beq pc 965) (some (.iconst 1, 1)) none))))))) (cond (Nat.blt pc 998) (cond (Nat.blt pc 979) (cond (Nat.blt pc 973) (cond (Nat.blt pc 968) (cond (Nat.blt pc 967) (cond (Nat.beq pc 966) (some (.iadd, 1)) none) (cond (Nat.beq pc 967) (some (.iaload, 1)) none)) (cond (Nat.blt pc 971) (cond (Nat.beq pc 968) (some (.invokestatic 132, 3)) none) (cond (Nat.beq pc 971) (some (.istore 5, 2)) none))) (cond (Nat.blt pc 975) (cond (Nat.blt pc 974) (cond (Nat.beq pc 973) (some (.aload_n 2, 1)) none) (cond (Nat.beq pc 974) (some (.aload_n 0, 1)) none)) (cond (Nat.blt pc 977) (cond (Nat.beq pc 975) (some (.iload 4, 2)) none) (cond (Nat.blt pc 978) (cond (Nat.beq pc 977) (some (.iconst 1, 1)) none) (cond (Nat.beq pc 978) (some (.iadd, 1)) none))))) (cond (Nat.blt pc 989) (cond (Nat.blt pc 983) (cond (Nat.blt pc 980) (cond (Nat.beq pc 979) (some (.iaload, 1)) none) (cond (Nat.beq pc 980) (some (.invokevirtual 134, 3)) none)) (cond (Nat.blt pc 984) (cond (Nat.beq pc 983) (some (.aload_n 2, 1)) none) (cond (Nat.blt pc 987) (cond (Nat.beq pc 984) (some (.invokevirtual 78, 3)) none) (cond (Nat.beq pc 987) (some (.iload 5, 2)) none)))) (cond (Nat.blt pc 993) (cond (Nat.blt pc 992) (cond (Nat.beq pc 989) (some (.if_icmp .eq 5, 3)) none) (cond (Nat.beq pc 992) (some (.iconst 0, 1)) none)) (cond (Nat.blt pc 994) (cond (Nat.beq pc 993) (some (.ireturn, 1)) none) (cond (Nat.blt pc 997) (cond (Nat.beq pc 994) (some (.goto 28, 3)) none) (cond (Nat.beq pc 997) (some (.aload_n 1, 1)) none)))))) (cond (Nat.blt pc 1012) (cond (Nat.blt pc 1004) (cond (Nat.blt pc 1001) (cond (Nat.blt pc 999) (cond (Nat.beq pc 998) (some (.aload_n 0, 1)) none) (cond (Nat.beq pc 999) (some (.iload 4, 2)) none)) (cond (Nat.blt pc 1002) (cond (Nat.beq pc 1001) (some (.iconst 1, 1)) none) (cond (Nat.blt pc 1003) (cond (Nat.beq pc 1002) (some (.iadd, 1)) none) (cond (Nat.beq pc 1003) (some (.iaload, 1)) none)))) (cond (Nat.blt pc 1008) (cond (Nat.blt pc 1007) (cond (Nat.beq pc 1004) (some (.invokevirtual 135, 3)) none) (cond (Nat.beq pc 1007) (some (.aload_n 2, 1)) none)) (cond (Nat.blt pc 1009) (cond (Nat.beq pc 1008) (some (.aload_n 0, 1)) none) (cond (Nat.blt pc 1011) (cond (Nat.beq pc 1009) (some (.iload 4, 2)) none) (cond (Nat.beq pc 1011) (some (.iconst 1, 1)) none))))) (cond (Nat.blt pc 1021) (cond (Nat.blt pc 1014) (cond (Nat.blt pc 1013) (cond (Nat.beq pc 1012) (some (.iadd, 1)) none) (cond (Nat.beq pc 1013) (some (.iaload, 1)) none)) (cond (Nat.blt pc 1017) (cond (Nat.beq pc 1014) (some (.invokevirtual 138, 3)) none) (cond (Nat.blt pc 1020) (cond (Nat.beq pc 1017) (some (.if_icmp .eq 5, 3)) none) (cond (Nat.beq pc 1020) (some (.iconst 0, 1)) none)))) (cond (Nat.blt pc 1025) (cond (Nat.blt pc 1022) (cond (Nat.beq pc 1021) (some (.ireturn, 1)) none) (cond (Nat.beq pc 1022) (some (.iinc 4 5, 3)) none)) (cond (Nat.blt pc 1028) (cond (Nat.beq pc 1025) (some (.goto (-1002), 3)) none) (cond (Nat.blt pc 1029) (cond (Nat.beq pc 1028) (some (.iconst 1, 1)) none) (cond (Nat.beq pc 1029) (some (.ireturn, 1)) none)))))))))))
def pIns : eI := fun k pc => eB1 k 140 (cond (Nat.blt k 70) (cond (Nat.blt k 35) (cond (Nat.blt k 17) (cond (Nat.blt k 8) (cond (Nat.blt k 4) (cond (Nat.blt k 2) (cond (Nat.blt k 1) (cond (Nat.beq k 0) (pI_0 pc) none) (cond (Nat.beq k 1) (pI_1 pc) none)) (cond (Nat.blt k 3) (cond (Nat.beq k 2) (pI_2 pc) none) (cond (Nat.beq k 3) (pI_3 pc) none))) (cond (Nat.blt k 6) (cond (Nat.blt k 5) (cond (Nat.beq k 4) (pI_4 pc) none) (cond (Nat.beq k 5) (pI_5 pc) none)) (cond (Nat.blt k 7) (cond (Nat.beq k 6) (pI_6 pc) none) (cond (Nat.beq k 7) (pI_7 pc) none)))) (cond (Nat.blt k 12) (cond (Nat.blt k 10) (cond (Nat.blt k 9) (cond (Nat.beq k 8) (pI_8 pc) none) (cond (Nat.beq k 9) (pI_9 pc) none)) (cond (Nat.blt k 11) (cond (Nat.beq k 10) (pI_10 pc) none) (cond (Nat.beq k 11) (pI_11 pc) none))) (cond (Nat.blt k 14) (cond (Nat.blt k 13) (cond (Nat.beq k 12) (pI_12 pc) none) (cond (Nat.beq k 13) (pI_13 pc) none)) (cond (Nat.blt k 15) (cond (Nat.beq k 14) (pI_14 pc) none) (cond (Nat.blt k 16) (cond (Nat.beq k 15) (pI_15 pc) none) (cond (Nat.beq k 16) (pI_16 pc) none)))))) (cond (Nat.blt k 26) (cond (Nat.blt k 21) (cond (Nat.blt k 19) (cond (Nat.blt k 18) (cond (Nat.beq k 17) (pI_17 pc) none) (cond (Nat.beq k 18) (pI_18 pc) none)) (cond (Nat.blt k 20) (cond (Nat.beq k 19) (pI_19 pc) none) (cond (Nat.beq k 20) (pI_20 pc) none))) (cond (Nat.blt k 23) (cond (Nat.blt k 22) (cond (Nat.beq k 21) (pI_21 pc) none) (cond (Nat.beq k 22) (pI_22 pc) none)) (cond (Nat.blt k 24) (cond (Nat.beq k 23) (pI_23 pc) none) (cond (Nat.blt k 25) (cond (Nat.beq k 24) (pI_24 pc) none) (cond (Nat.beq k 25) (pI_25 pc) none))))) (cond (Nat.blt k 30) (cond (Nat.blt k 28) (cond (Nat.blt k 27) (cond (Nat.beq k 26) (pI_26 pc) none) (cond (Nat.beq k 27) (pI_27 pc) none)) (cond (Nat.blt k 29) (cond (Nat.beq k 28) (pI_28 pc) none) (cond (Nat.beq k 29) (pI_29 pc) none))) (cond (Nat.blt k 32) (cond (Nat.blt k 31) (cond (Nat.beq k 30) (pI_30 pc) none) (cond (Nat.beq k 31) (pI_31 pc) none)) (cond (Nat.blt k 33) (cond (Nat.beq k 32) (pI_32 pc) none) (cond (Nat.blt k 34) (cond (Nat.beq k 33) (pI_33 pc) none) (cond (Nat.beq k 34) (pI_34 pc) none))))))) (cond (Nat.blt k 52) (cond (Nat.blt k 43) (cond (Nat.blt k 39) (cond (Nat.blt k 37) (cond (Nat.blt k 36) (cond (Nat.beq k 35) (pI_35 pc) none) (cond (Nat.beq k 36) (pI_36 pc) none)) (cond (Nat.blt k 38) (cond (Nat.beq k 37) (pI_37 pc) none) (cond (Nat.beq k 38) (pI_38 pc) none))) (cond (Nat.blt k 41) (cond (Nat.blt k 40) (cond (Nat.beq k 39) (pI_39 pc) none) (cond (Nat.beq k 40) (pI_40 pc) none)) (cond (Nat.blt k 42) (cond (Nat.beq k 41) (pI_41 pc) none) (cond (Nat.beq k 42) (pI_42 pc) none)))) (cond (Nat.blt k 47) (cond (Nat.blt k 45) (cond (Nat.blt k 44) (cond (Nat.beq k 43) (pI_43 pc) none) (cond (Nat.beq k 44) (pI_44 pc) none)) (cond (Nat.blt k 46) (cond (Nat.beq k 45) (pI_45 pc) none) (cond (Nat.beq k 46) (pI_46 pc) none))) (cond (Nat.blt k 49) (cond (Nat.blt k 48) (cond (Nat.beq k 47) (pI_47 pc) none) (cond (Nat.beq k 48) (pI_48 pc) none)) (cond (Nat.blt k 50) (cond (Nat.beq k 49) (pI_49 pc) none) (cond (Nat.blt k 51) (cond (Nat.beq k 50) (pI_50 pc) none) (cond (Nat.beq k 51) (pI_51 pc) none)))))) (cond (Nat.blt k 61) (cond (Nat.blt k 56) (cond (Nat.blt k 54) (cond (Nat.blt k 53) (cond (Nat.beq k 52) (pI_52 pc) none) (cond (Nat.beq k 53) (pI_53 pc) none)) (cond (Nat.blt k 55) (cond (Nat.beq k 54) (pI_54 pc) none) (cond (Nat.beq k 55) (pI_55 pc) none))) (cond (Nat.blt k 58) (cond (Nat.blt k 57) (cond (Nat.beq k 56) (pI_56 pc) none) (cond (Nat.beq k 57) (pI_57 pc) none)) (cond (Nat.blt k 59) (cond (Nat.beq k 58) (pI_58 pc) none) (cond (Nat.blt k 60) (cond (Nat.beq k 59) (pI_59 pc) none) (cond (Nat.beq k 60) (pI_60 pc) none))))) (cond (Nat.blt k 65) (cond (Nat.blt k 63) (cond (Nat.blt k 62) (cond (Nat.beq k 61) (pI_61 pc) none) (cond (Nat.beq k 62) (pI_62 pc) none)) (cond (Nat.blt k 64) (cond (Nat.beq k 63) (pI_63 pc) none) (cond (Nat.beq k 64) (pI_64 pc) none))) (cond (Nat.blt k 67) (cond (Nat.blt k 66) (cond (Nat.beq k 65) (pI_65 pc) none) (cond (Nat.beq k 66) (pI_66 pc) none)) (cond (Nat.blt k 68) (cond (Nat.beq k 67) (pI_67 pc) none) (cond (Nat.blt k 69) (cond (Nat.beq k 68) (pI_68 pc) none) (cond (Nat.beq k 69) (pI_69 pc) none)))))))) (cond (Nat.blt k 105) (cond (Nat.blt k 87) (cond (Nat.blt k 78) (cond (Nat.blt k 74) (cond (Nat.blt k 72) (cond (Nat.blt k 71) (cond (Nat.beq k 70) (pI_70 pc) none) (cond (Nat.beq k 71) (pI_71 pc) none)) (cond (Nat.blt k 73) (cond (Nat.beq k 72) (pI_72 pc) none) (cond (Nat.beq k 73) (pI_73 pc) none))) (cond (Nat.blt k 76) (cond (Nat.blt k 75) (cond (Nat.beq k 74) (pI_74 pc) none) (cond (Nat.beq k 75) (pI_75 pc) none)) (cond (Nat.blt k 77) (cond (Nat.beq k 76) (pI_76 pc) none) (cond (Nat.beq k 77) (pI_77 pc) none)))) (cond (Nat.blt k 82) (cond (Nat.blt k 80) (cond (Nat.blt k 79) (cond (Nat.beq k 78) (pI_78 pc) none) (cond (Nat.beq k 79) (pI_79 pc) none)) (cond (Nat.blt k 81) (cond (Nat.beq k 80) (pI_80 pc) none) (cond (Nat.beq k 81) (pI_81 pc) none))) (cond (Nat.blt k 84) (cond (Nat.blt k 83) (cond (Nat.beq k 82) (pI_82 pc) none) (cond (Nat.beq k 83) (pI_83 pc) none)) (cond (Nat.blt k 85) (cond (Nat.beq k 84) (pI_84 pc) none) (cond (Nat.blt k 86) (cond (Nat.beq k 85) (pI_85 pc) none) (cond (Nat.beq k 86) (pI_86 pc) none)))))) (cond (Nat.blt k 96) (cond (Nat.blt k 91) (cond (Nat.blt k 89) (cond (Nat.blt k 88) (cond (Nat.beq k 87) (pI_87 pc) none) (cond (Nat.beq k 88) (pI_88 pc) none)) (cond (Nat.blt k 90) (cond (Nat.beq k 89) (pI_89 pc) none) (cond (Nat.beq k 90) (pI_90 pc) none))) (cond (Nat.blt k 93) (cond (Nat.blt k 92) (cond (Nat.beq k 91) (pI_91 pc) none) (cond (Nat.beq k 92) (pI_92 pc) none)) (cond (Nat.blt k 94) (cond (Nat.beq k 93) (pI_93 pc) none) (cond (Nat.blt k 95) (cond (Nat.beq k 94) (pI_94 pc) none) (cond (Nat.beq k 95) (pI_95 pc) none))))) (cond (Nat.blt k 100) (cond (Nat.blt k 98) (cond (Nat.blt k 97) (cond (Nat.beq k 96) (pI_96 pc) none) (cond (Nat.beq k 97) (pI_97 pc) none)) (cond (Nat.blt k 99) (cond (Nat.beq k 98) (pI_98 pc) none) (cond (Nat.beq k 99) (pI_99 pc) none))) (cond (Nat.blt k 102) (cond (Nat.blt k 101) (cond (Nat.beq k 100) (pI_100 pc) none) (cond (Nat.beq k 101) (pI_101 pc) none)) (cond (Nat.blt k 103) (cond (Nat.beq k 102) (pI_102 pc) none) (cond (Nat.blt k 104) (cond (Nat.beq k 103) (pI_103 pc) none) (cond (Nat.beq k 104) (pI_104 pc) none))))))) (cond (Nat.blt k 122) (cond (Nat.blt k 113) (cond (Nat.blt k 109) (cond (Nat.blt k 107) (cond (Nat.blt k 106) (cond (Nat.beq k 105) (pI_105 pc) none) (cond (Nat.beq k 106) (pI_106 pc) none)) (cond (Nat.blt k 108) (cond (Nat.beq k 107) (pI_107 pc) none) (cond (Nat.beq k 108) (pI_108 pc) none))) (cond (Nat.blt k 111) (cond (Nat.blt k 110) (cond (Nat.beq k 109) (pI_109 pc) none) (cond (Nat.beq k 110) (pI_110 pc) none)) (cond (Nat.blt k 112) (cond (Nat.beq k 111) (pI_111 pc) none) (cond (Nat.beq k 112) (pI_112 pc) none)))) (cond (Nat.blt k 117) (cond (Nat.blt k 115) (cond (Nat.blt k 114) (cond (Nat.beq k 113) (pI_113 pc) none) (cond (Nat.beq k 114) (pI_114 pc) none)) (cond (Nat.blt k 116) (cond (Nat.beq k 115) (pI_115 pc) none) (cond (Nat.beq k 116) (pI_116 pc) none))) (cond (Nat.blt k 119) (cond (Nat.blt k 118) (cond (Nat.beq k 117) (pI_117 pc) none) (cond (Nat.beq k 118) (pI_118 pc) none)) (cond (Nat.blt k 120) (cond (Nat.beq k 119) (pI_119 pc) none) (cond (Nat.blt k 121) (cond (Nat.beq k 120) (pI_120 pc) none) (cond (Nat.beq k 121) (pI_121 pc) none)))))) (cond (Nat.blt k 131) (cond (Nat.blt k 126) (cond (Nat.blt k 124) (cond (Nat.blt k 123) (cond (Nat.beq k 122) (pI_122 pc) none) (cond (Nat.beq k 123) (pI_123 pc) none)) (cond (Nat.blt k 125) (cond (Nat.beq k 124) (pI_124 pc) none) (cond (Nat.beq k 125) (pI_125 pc) none))) (cond (Nat.blt k 128) (cond (Nat.blt k 127) (cond (Nat.beq k 126) (pI_126 pc) none) (cond (Nat.beq k 127) (pI_127 pc) none)) (cond (Nat.blt k 129) (cond (Nat.beq k 128) (pI_128 pc) none) (cond (Nat.blt k 130) (cond (Nat.beq k 129) (pI_129 pc) none) (cond (Nat.beq k 130) (pI_130 pc) none))))) (cond (Nat.blt k 135) (cond (Nat.blt k 133) (cond (Nat.blt k 132) (cond (Nat.beq k 131) (pI_131 pc) none) (cond (Nat.beq k 132) (pI_132 pc) none)) (cond (Nat.blt k 134) (cond (Nat.beq k 133) (pI_133 pc) none) (cond (Nat.beq k 134) (pI_134 pc) none))) (cond (Nat.blt k 137) (cond (Nat.blt k 136) (cond (Nat.beq k 135) (pI_135 pc) none) (cond (Nat.beq k 136) (pI_136 pc) none)) (cond (Nat.blt k 138) (cond (Nat.beq k 137) (pI_137 pc) none) (cond (Nat.blt k 139) (cond (Nat.beq k 138) (pI_138 pc) none) (cond (Nat.beq k 139) (pI_139 pc) none)))))))))
def pMet : eM := fun k => cond (Nat.blt k 70) (cond (Nat.blt k 35) (cond (Nat.blt k 17) (cond (Nat.blt k 8) (cond (Nat.blt k 4) (cond (Nat.blt k 2) (cond (Nat.blt k 1) (cond (Nat.beq k 0) (0, 1, none, []) (0, 0, none, [])) (cond (Nat.beq k 1) (0, 2, none, []) (0, 0, none, []))) (cond (Nat.blt k 3) (cond (Nat.beq k 2) (0, 4, some .int, []) (0, 0, none, [])) (cond (Nat.beq k 3) (0, 5, none, []) (0, 0, none, [])))) (cond (Nat.blt k 6) (cond (Nat.blt k 5) (cond (Nat.beq k 4) (0, 5, some .int, []) (0, 0, none, [])) (cond (Nat.beq k 5) (0, 4, none, []) (0, 0, none, []))) (cond (Nat.blt k 7) (cond (Nat.beq k 6) (0, 2, none, []) (0, 0, none, [])) (cond (Nat.beq k 7) (0, 3, none, []) (0, 0, none, []))))) (cond (Nat.blt k 12) (cond (Nat.blt k 10) (cond (Nat.blt k 9) (cond (Nat.beq k 8) (0, 3, some .int, []) (0, 0, none, [])) (cond (Nat.beq k 9) (0, 3, some .int, []) (0, 0, none, []))) (cond (Nat.blt k 11) (cond (Nat.beq k 10) (0, 2, some .int, []) (0, 0, none, [])) (cond (Nat.beq k 11) (0, 3, some .int, []) (0, 0, none, [])))) (cond (Nat.blt k 14) (cond (Nat.blt k 13) (cond (Nat.beq k 12) (0, 2, some .boolean, []) (0, 0, none, [])) (cond (Nat.beq k 13) (0, 2, some .int, []) (0, 0, none, []))) (cond (Nat.blt k 15) (cond (Nat.beq k 14) (0, 3, some .int, []) (0, 0, none, [])) (cond (Nat.blt k 16) (cond (Nat.beq k 15) (0, 5, some .int, []) (0, 0, none, [])) (cond (Nat.beq k 16) (0, 2, none, []) (0, 0, none, []))))))) (cond (Nat.blt k 26) (cond (Nat.blt k 21) (cond (Nat.blt k 19) (cond (Nat.blt k 18) (cond (Nat.beq k 17) (0, 2, some .int, []) (0, 0, none, [])) (cond (Nat.beq k 18) (0, 2, none, []) (0, 0, none, []))) (cond (Nat.blt k 20) (cond (Nat.beq k 19) (0, 2, none, []) (0, 0, none, [])) (cond (Nat.beq k 20) (0, 2, none, []) (0, 0, none, [])))) (cond (Nat.blt k 23) (cond (Nat.blt k 22) (cond (Nat.beq k 21) (0, 1, none, []) (0, 0, none, [])) (cond (Nat.beq k 22) (0, 1, none, []) (0, 0, none, []))) (cond (Nat.blt k 24) (cond (Nat.beq k 23) (0, 1, none, []) (0, 0, none, [])) (cond (Nat.blt k 25) (cond (Nat.beq k 24) (0, 2, none, []) (0, 0, none, [])) (cond (Nat.beq k 25) (0, 2, none, []) (0, 0, none, [])))))) (cond (Nat.blt k 30) (cond (Nat.blt k 28) (cond (Nat.blt k 27) (cond (Nat.beq k 26) (1, 1, none, []) (0, 0, none, [])) (cond (Nat.beq k 27) (1, 1, some .int, []) (0, 0, none, []))) (cond (Nat.blt k 29) (cond (Nat.beq k 28) (1, 2, some .int, []) (0, 0, none, [])) (cond (Nat.beq k 29) (1, 4, some .int, []) (0, 0, none, [])))) (cond (Nat.blt k 32) (cond (Nat.blt k 31) (cond (Nat.beq k 30) (1, 5, none, []) (0, 0, none, [])) (cond (Nat.beq k 31) (1, 3, some .boolean, []) (0, 0, none, []))) (cond (Nat.blt k 33) (cond (Nat.beq k 32) (1, 4, none, []) (0, 0, none, [])) (cond (Nat.blt k 34) (cond (Nat.beq k 33) (1, 4, some .boolean, []) (0, 0, none, [])) (cond (Nat.beq k 34) (1, 3, none, []) (0, 0, none, [])))))))) (cond (Nat.blt k 52) (cond (Nat.blt k 43) (cond (Nat.blt k 39) (cond (Nat.blt k 37) (cond (Nat.blt k 36) (cond (Nat.beq k 35) (1, 7, none, []) (0, 0, none, [])) (cond (Nat.beq k 36) (1, 5, some .int, []) (0, 0, none, []))) (cond (Nat.blt k 38) (cond (Nat.beq k 37) (1, 5, some .int, []) (0, 0, none, [])) (cond (Nat.beq k 38) (1, 3, some .int, []) (0, 0, none, [])))) (cond (Nat.blt k 41) (cond (Nat.blt k 40) (cond (Nat.beq k 39) (1, 2, none, []) (0, 0, none, [])) (cond (Nat.beq k 40) (1, 5, some .int, []) (0, 0, none, []))) (cond (Nat.blt k 42) (cond (Nat.beq k 41) (1, 1, some .boolean, []) (0, 0, none, [])) (cond (Nat.beq k 42) (1, 4, none, []) (0, 0, none, []))))) (cond (Nat.blt k 47) (cond (Nat.blt k 45) (cond (Nat.blt k 44) (cond (Nat.beq k 43) (1, 5, some .int, []) (0, 0, none, [])) (cond (Nat.beq k 44) (1, 2, some .boolean, []) (0, 0, none, []))) (cond (Nat.blt k 46) (cond (Nat.beq k 45) (1, 4, none, []) (0, 0, none, [])) (cond (Nat.beq k 46) (1, 2, none, []) (0, 0, none, [])))) (cond (Nat.blt k 49) (cond (Nat.blt k 48) (cond (Nat.beq k 47) (1, 3, none, []) (0, 0, none, [])) (cond (Nat.beq k 48) (1, 4, none, []) (0, 0, none, []))) (cond (Nat.blt k 50) (cond (Nat.beq k 49) (1, 5, some .int, []) (0, 0, none, [])) (cond (Nat.blt k 51) (cond (Nat.beq k 50) (1, 5, some .int, []) (0, 0, none, [])) (cond (Nat.beq k 51) (1, 4, none, []) (0, 0, none, []))))))) (cond (Nat.blt k 61) (cond (Nat.blt k 56) (cond (Nat.blt k 54) (cond (Nat.blt k 53) (cond (Nat.beq k 52) (1, 2, some .int, []) (0, 0, none, [])) (cond (Nat.beq k 53) (1, 3, some .int, []) (0, 0, none, []))) (cond (Nat.blt k 55) (cond (Nat.beq k 54) (1, 2, some .int, []) (0, 0, none, [])) (cond (Nat.beq k 55) (1, 4, some .int, []) (0, 0, none, [])))) (cond (Nat.blt k 58) (cond (Nat.blt k 57) (cond (Nat.beq k 56) (1, 13, some .int, []) (0, 0, none, [])) (cond (Nat.beq k 57) (1, 8, some .boolean, []) (0, 0, none, []))) (cond (Nat.blt k 59) (cond (Nat.beq k 58) (1, 7, some .int, []) (0, 0, none, [])) (cond (Nat.blt k 60) (cond (Nat.beq k 59) (1, 6, some .boolean, []) (0, 0, none, [])) (cond (Nat.beq k 60) (1, 4, none, []) (0, 0, none, [])))))) (cond (Nat.blt k 65) (cond (Nat.blt k 63) (cond (Nat.blt k 62) (cond (Nat.beq k 61) (1, 4, some .int, []) (0, 0, none, [])) (cond (Nat.beq k 62) (1, 3, some .int, []) (0, 0, none, []))) (cond (Nat.blt k 64) (cond (Nat.beq k 63) (1, 2, some .int, []) (0, 0, none, [])) (cond (Nat.beq k 64) (1, 3, some .int, []) (0, 0, none, [])))) (cond (Nat.blt k 67) (cond (Nat.blt k 66) (cond (Nat.beq k 65) (1, 2, some .boolean, []) (0, 0, none, [])) (cond (Nat.beq k 66) (1, 2, some .int, []) (0, 0, none, []))) (cond (Nat.blt k 68) (cond (Nat.beq k 67) (1, 2, some .boolean, []) (0, 0, none, [])) (cond (Nat.blt k 69) (cond (Nat.beq k 68) (1, 5, some .boolean, []) (0, 0, none, [])) (cond (Nat.beq k 69) (1, 4, some .int, []) (0, 0, none, []))))))))) (cond (Nat.blt k 105) (cond (Nat.blt k 87) (cond (Nat.blt k 78) (cond (Nat.blt k 74) (cond (Nat.blt k 72) (cond (Nat.blt k 71) (cond (Nat.beq k 70) (1, 4, some .int, []) (0, 0, none, [])) (cond (Nat.beq k 71) (1, 2, none, []) (0, 0, none, []))) (cond (Nat.blt k 73) (cond (Nat.beq k 72) (1, 2, none, []) (0, 0, none, [])) (cond (Nat.beq k 73) (1, 4, none, []) (0, 0, none, [])))) (cond (Nat.blt k 76) (cond (Nat.blt k 75) (cond (Nat.beq k 74) (1, 4, some .int, []) (0, 0, none, [])) (cond (Nat.beq k 75) (1, 5, some .int, []) (0, 0, none, []))) (cond (Nat.blt k 77) (cond (Nat.beq k 76) (12, 3, some .int, []) (0, 0, none, [])) (cond (Nat.beq k 77) (12, 2, some .int, []) (0, 0, none, []))))) (cond (Nat.blt k 82) (cond (Nat.blt k 80) (cond (Nat.blt k 79) (cond (Nat.beq k 78) (12, 3, some .int, []) (0, 0, none, [])) (cond (Nat.beq k 79) (2, 1, none, []) (0, 0, none, []))) (cond (Nat.blt k 81) (cond (Nat.beq k 80) (2, 10, some .int, []) (0, 0, none, [])) (cond (Nat.beq k 81) (2, 4, some .int, []) (0, 0, none, [])))) (cond (Nat.blt k 84) (cond (Nat.blt k 83) (cond (Nat.beq k 82) (2, 5, some .int, []) (0, 0, none, [])) (cond (Nat.beq k 83) (2, 4, none, []) (0, 0, none, []))) (cond (Nat.blt k 85) (cond (Nat.beq k 84) (2, 4, none, []) (0, 0, none, [])) (cond (Nat.blt k 86) (cond (Nat.beq k 85) (2, 6, none, []) (0, 0, none, [])) (cond (Nat.beq k 86) (2, 3, some .boolean, []) (0, 0, none, []))))))) (cond (Nat.blt k 96) (cond (Nat.blt k 91) (cond (Nat.blt k 89) (cond (Nat.blt k 88) (cond (Nat.beq k 87) (2, 11, none, []) (0, 0, none, [])) (cond (Nat.beq k 88) (2, 12, some .boolean, []) (0, 0, none, []))) (cond (Nat.blt k 90) (cond (Nat.beq k 89) (3, 1, none, []) (0, 0, none, [])) (cond (Nat.beq k 90) (3, 3, none, []) (0, 0, none, [])))) (cond (Nat.blt k 93) (cond (Nat.blt k 92) (cond (Nat.beq k 91) (3, 6, none, []) (0, 0, none, [])) (cond (Nat.beq k 92) (3, 2, none, []) (0, 0, none, []))) (cond (Nat.blt k 94) (cond (Nat.beq k 93) (3, 2, none, []) (0, 0, none, [])) (cond (Nat.blt k 95) (cond (Nat.beq k 94) (3, 3, some .boolean, []) (0, 0, none, [])) (cond (Nat.beq k 95) (3, 2, some .boolean, []) (0, 0, none, [])))))) (cond (Nat.blt k 100) (cond (Nat.blt k 98) (cond (Nat.blt k 97) (cond (Nat.beq k 96) (3, 2, some .int, []) (0, 0, none, [])) (cond (Nat.beq k 97) (3, 4, some .int, []) (0, 0, none, []))) (cond (Nat.blt k 99) (cond (Nat.beq k 98) (3, 4, some .int, []) (0, 0, none, [])) (cond (Nat.beq k 99) (3, 2, some .boolean, []) (0, 0, none, [])))) (cond (Nat.blt k 102) (cond (Nat.blt k 101) (cond (Nat.beq k 100) (13, 6, some .long, []) (0, 0, none, [])) (cond (Nat.beq k 101) (13, 3, some .int, []) (0, 0, none, []))) (cond (Nat.blt k 103) (cond (Nat.beq k 102) (13, 4, some .boolean, []) (0, 0, none, [])) (cond (Nat.blt k 104) (cond (Nat.beq k 103) (13, 4, some .boolean, []) (0, 0, none, [])) (cond (Nat.beq k 104) (13, 5, some .long, []) (0, 0, none, [])))))))) (cond (Nat.blt k 122) (cond (Nat.blt k 113) (cond (Nat.blt k 109) (cond (Nat.blt k 107) (cond (Nat.blt k 106) (cond (Nat.beq k 105) (4, 2, none, []) (0, 0, none, [])) (cond (Nat.beq k 106) (4, 2, none, []) (0, 0, none, []))) (cond (Nat.blt k 108) (cond (Nat.beq k 107) (4, 10, some .boolean, []) (0, 0, none, [])) (cond (Nat.beq k 108) (4, 3, some .boolean, []) (0, 0, none, [])))) (cond (Nat.blt k 111) (cond (Nat.blt k 110) (cond (Nat.beq k 109) (5, 2, none, []) (0, 0, none, [])) (cond (Nat.beq k 110) (5, 1, some .boolean, []) (0, 0, none, []))) (cond (Nat.blt k 112) (cond (Nat.beq k 111) (5, 8, some .int, []) (0, 0, none, [])) (cond (Nat.beq k 112) (6, 2, none, []) (0, 0, none, []))))) (cond (Nat.blt k 117) (cond (Nat.blt k 115) (cond (Nat.blt k 114) (cond (Nat.beq k 113) (6, 9, some .int, []) (0, 0, none, [])) (cond (Nat.beq k 114) (7, 1, none, []) (0, 0, none, []))) (cond (Nat.blt k 116) (cond (Nat.beq k 115) (7, 3, some .int, []) (0, 0, none, [])) (cond (Nat.beq k 116) (7, 7, none, []) (0, 0, none, [])))) (cond (Nat.blt k 119) (cond (Nat.blt k 118) (cond (Nat.beq k 117) (7, 2, none, []) (0, 0, none, [])) (cond (Nat.beq k 118) (8, 1, none, []) (0, 0, none, []))) (cond (Nat.blt k 120) (cond (Nat.beq k 119) (8, 7, some .boolean, []) (0, 0, none, [])) (cond (Nat.blt k 121) (cond (Nat.beq k 120) (8, 6, none, []) (0, 0, none, [])) (cond (Nat.beq k 121) (8, 5, some .boolean, []) (0, 0, none, []))))))) (cond (Nat.blt k 131) (cond (Nat.blt k 126) (cond (Nat.blt k 124) (cond (Nat.blt k 123) (cond (Nat.beq k 122) (8, 4, none, []) (0, 0, none, [])) (cond (Nat.beq k 123) (8, 4, none, []) (0, 0, none, []))) (cond (Nat.blt k 125) (cond (Nat.beq k 124) (14, 3, some .int, [(0, 5, 8, 9)]) (0, 0, none, [])) (cond (Nat.beq k 125) (14, 5, some .int, [(0, 10, 13, 10), (0, 10, 17, 9), (0, 10, 21, 11)]) (0, 0, none, [])))) (cond (Nat.blt k 128) (cond (Nat.blt k 127) (cond (Nat.beq k 126) (14, 4, some .int, [(0, 6, 9, 10), (0, 6, 12, 9), (0, 6, 15, 11)]) (0, 0, none, [])) (cond (Nat.beq k 127) (14, 7, some .int, [(0, 14, 17, 9), (0, 14, 21, 11)]) (0, 0, none, []))) (cond (Nat.blt k 129) (cond (Nat.beq k 128) (14, 5, some .int, [(0, 7, 10, 10), (0, 7, 14, 9)]) (0, 0, none, [])) (cond (Nat.blt k 130) (cond (Nat.beq k 129) (14, 3, some .int, [(0, 5, 8, 10), (0, 5, 11, 11)]) (0, 0, none, [])) (cond (Nat.beq k 130) (14, 4, some .int, [(0, 6, 9, 10), (0, 6, 12, 9), (0, 6, 15, 11)]) (0, 0, none, [])))))) (cond (Nat.blt k 135) (cond (Nat.blt k 133) (cond (Nat.blt k 132) (cond (Nat.beq k 131) (14, 3, some .int, [(0, 8, 11, 11)]) (0, 0, none, [])) (cond (Nat.beq k 132) (14, 5, some .int, [(0, 10, 13, 10)]) (0, 0, none, []))) (cond (Nat.blt k 134) (cond (Nat.beq k 133) (14, 4, some .int, [(0, 9, 12, 10)]) (0, 0, none, [])) (cond (Nat.beq k 134) (14, 5, some .int, [(0, 10, 13, 10), (0, 10, 17, 9)]) (0, 0, none, [])))) (cond (Nat.blt k 137) (cond (Nat.blt k 136) (cond (Nat.beq k 135) (14, 4, some .int, [(0, 9, 12, 10)]) (0, 0, none, [])) (cond (Nat.beq k 136) (14, 4, some .int, [(0, 9, 12, 9)]) (0, 0, none, []))) (cond (Nat.blt k 138) (cond (Nat.beq k 137) (14, 6, some .int, [(0, 12, 15, 10), (0, 12, 19, 9)]) (0, 0, none, [])) (cond (Nat.blt k 139) (cond (Nat.beq k 138) (14, 3, some .int, [(0, 5, 8, 10)]) (0, 0, none, [])) (cond (Nat.beq k 139) (14, 7, some .boolean, []) (0, 0, none, [])))))))))
def pFld : eF := fun o i => eB2 o i (cond (Nat.blt o 4) (cond (Nat.blt o 2) (cond (Nat.blt o 1) (cond (Nat.beq o 0) (cond (Nat.blt i 91) (cond (Nat.blt i 44) (cond (Nat.blt i 26) (cond (Nat.blt i 19) (cond (Nat.beq i 12) (some (0, 0, (.object "MembraneRounds$RuleBook"), true)) none) (cond (Nat.beq i 19) (some (0, 1, (.object "MembraneRounds$Chooser"), true)) none)) (cond (Nat.blt i 33) (cond (Nat.beq i 26) (some (0, 2, (.object "MembraneRounds$Worker"), true)) none) (cond (Nat.blt i 40) (cond (Nat.beq i 33) (some (0, 3, (.object "MembraneRounds$Judge"), true)) none) (cond (Nat.beq i 40) (some (0, 4, (.object "MembraneRounds$Scribe"), true)) none)))) (cond (Nat.blt i 55) (cond (Nat.blt i 51) (cond (Nat.beq i 44) (some (0, 5, (.array .int), true)) none) (cond (Nat.beq i 51) (some (0, 6, (.object "MembraneRounds$Configuration"), false)) none)) (cond (Nat.blt i 65) (cond (Nat.beq i 55) (some (0, 7, (.object "MembraneRounds$Configuration"), false)) none) (cond (Nat.blt i 69) (cond (Nat.beq i 65) (some (6, 1, .int, false)) none) (cond (Nat.beq i 69) (some (4, 1, .int, false)) none))))) (cond (Nat.blt i 141) (cond (Nat.blt i 125) (cond (Nat.blt i 121) (cond (Nat.beq i 91) (some (3, 2, (.array .long), true)) none) (cond (Nat.beq i 121) (some (6, 0, (.array (.object "MembraneRounds$Rule")), true)) none)) (cond (Nat.blt i 131) (cond (Nat.beq i 125) (some (5, 6, .long, false)) none) (cond (Nat.blt i 137) (cond (Nat.beq i 131) (some (5, 7, .int, false)) none) (cond (Nat.beq i 137) (some (5, 8, .boolean, false)) none)))) (cond (Nat.blt i 182) (cond (Nat.blt i 144) (cond (Nat.beq i 141) (some (5, 9, .boolean, false)) none) (cond (Nat.beq i 144) (some (5, 10, .long, false)) none)) (cond (Nat.blt i 185) (cond (Nat.beq i 182) (some (3, 0, (.array .int), true)) none) (cond (Nat.blt i 220) (cond (Nat.beq i 185) (some (3, 1, (.array .int), true)) none) (cond (Nat.beq i 220) (some (4, 0, (.array (.object "MembraneRounds$Configuration")), false)) none)))))) none) (cond (Nat.beq o 1) (cond (Nat.blt i 49) (cond (Nat.blt i 28) (cond (Nat.blt i 19) (cond (Nat.blt i 13) (cond (Nat.beq i 7) (some (1, 2, (.array .int), true)) none) (cond (Nat.blt i 16) (cond (Nat.beq i 13) (some (1, 3, (.array .int), true)) none) (cond (Nat.beq i 16) (some (1, 4, (.array .int), true)) none))) (cond (Nat.blt i 22) (cond (Nat.beq i 19) (some (1, 5, (.array .int), true)) none) (cond (Nat.blt i 25) (cond (Nat.beq i 22) (some (1, 6, (.array .int), true)) none) (cond (Nat.beq i 25) (some (1, 7, (.array .int), true)) none)))) (cond (Nat.blt i 37) (cond (Nat.blt i 31) (cond (Nat.beq i 28) (some (1, 8, (.array .int), true)) none) (cond (Nat.blt i 34) (cond (Nat.beq i 31) (some (1, 9, (.array .int), true)) none) (cond (Nat.beq i 34) (some (1, 10, (.array .int), true)) none))) (cond (Nat.blt i 43) (cond (Nat.blt i 40) (cond (Nat.beq i 37) (some (1, 13, (.array .int), true)) none) (cond (Nat.beq i 40) (some (1, 14, (.array .int), true)) none)) (cond (Nat.blt i 46) (cond (Nat.beq i 43) (some (1, 16, (.array .int), true)) none) (cond (Nat.beq i 46) (some (1, 18, (.array .int), true)) none))))) (cond (Nat.blt i 80) (cond (Nat.blt i 58) (cond (Nat.blt i 52) (cond (Nat.beq i 49) (some (1, 19, (.array .int), true)) none) (cond (Nat.blt i 55) (cond (Nat.beq i 52) (some (1, 20, (.array .int), true)) none) (cond (Nat.beq i 55) (some (1, 21, (.array .int), true)) none))) (cond (Nat.blt i 65) (cond (Nat.beq i 58) (some (1, 25, (.array .int), true)) none) (cond (Nat.blt i 77) (cond (Nat.beq i 65) (some (1, 0, .int, false)) none) (cond (Nat.beq i 77) (some (1, 1, .int, false)) none)))) (cond (Nat.blt i 164) (cond (Nat.blt i 105) (cond (Nat.beq i 80) (some (1, 11, .int, false)) none) (cond (Nat.blt i 143) (cond (Nat.beq i 105) (some (1, 15, .boolean, false)) none) (cond (Nat.beq i 143) (some (1, 17, .int, false)) none))) (cond (Nat.blt i 180) (cond (Nat.blt i 177) (cond (Nat.beq i 164) (some (1, 12, .int, false)) none) (cond (Nat.beq i 177) (some (1, 22, .int, false)) none)) (cond (Nat.blt i 183) (cond (Nat.beq i 180) (some (1, 23, .int, false)) none) (cond (Nat.beq i 183) (some (1, 24, .int, false)) none)))))) none)) (cond (Nat.blt o 3) (cond (Nat.beq o 2) (cond (Nat.blt i 68) (cond (Nat.blt i 31) (cond (Nat.blt i 21) (cond (Nat.blt i 17) (cond (Nat.beq i 11) (some (2, 0, (.array (.object "MembraneRounds$Rule")), true)) none) (cond (Nat.beq i 17) (some (2, 2, (.array .int), true)) none)) (cond (Nat.blt i 24) (cond (Nat.beq i 21) (some (2, 5, (.array .int), true)) none) (cond (Nat.beq i 24) (some (2, 6, (.array .int), true)) none))) (cond (Nat.blt i 45) (cond (Nat.blt i 37) (cond (Nat.beq i 31) (some (3, 2, (.array .long), true)) none) (cond (Nat.beq i 37) (some (2, 1, .int, false)) none)) (cond (Nat.blt i 53) (cond (Nat.beq i 45) (some (5, 2, .long, false)) none) (cond (Nat.blt i 62) (cond (Nat.beq i 53) (some (5, 0, .int, true)) none) (cond (Nat.beq i 62) (some (2, 4, .int, false)) none))))) (cond (Nat.blt i 92) (cond (Nat.blt i 86) (cond (Nat.blt i 81) (cond (Nat.beq i 68) (some (2, 3, .int, false)) none) (cond (Nat.beq i 81) (some (6, 1, .int, false)) none)) (cond (Nat.blt i 89) (cond (Nat.beq i 86) (some (6, 0, (.array (.object "MembraneRounds$Rule")), true)) none) (cond (Nat.beq i 89) (some (5, 1, .int, false)) none))) (cond (Nat.blt i 107) (cond (Nat.blt i 99) (cond (Nat.beq i 92) (some (3, 0, (.array .int), true)) none) (cond (Nat.beq i 99) (some (5, 9, .boolean, false)) none)) (cond (Nat.blt i 110) (cond (Nat.beq i 107) (some (5, 6, .long, false)) none) (cond (Nat.blt i 120) (cond (Nat.beq i 110) (some (5, 7, .int, false)) none) (cond (Nat.beq i 120) (some (5, 3, .long, false)) none)))))) none) (cond (Nat.beq o 3) (cond (Nat.blt i 15) (cond (Nat.beq i 9) (some (3, 0, (.array .int), true)) none) (cond (Nat.blt i 18) (cond (Nat.beq i 15) (some (3, 1, (.array .int), true)) none) (cond (Nat.beq i 18) (some (3, 2, (.array .long), true)) none))) none))) (cond (Nat.blt o 6) (cond (Nat.blt o 5) (cond (Nat.beq o 4) (cond (Nat.blt i 21) (cond (Nat.blt i 17) (cond (Nat.beq i 11) (some (4, 0, (.array (.object "MembraneRounds$Configuration")), false)) none) (cond (Nat.beq i 17) (some (4, 2, (.array (.object "MembraneRounds$Configuration")), false)) none)) (cond (Nat.blt i 25) (cond (Nat.beq i 21) (some (4, 3, (.object "MembraneRounds$Configuration"), true)) none) (cond (Nat.blt i 33) (cond (Nat.beq i 25) (some (4, 4, (.array .int), true)) none) (cond (Nat.beq i 33) (some (4, 1, .int, false)) none)))) none) (cond (Nat.beq o 5) (cond (Nat.blt i 19) (cond (Nat.blt i 15) (cond (Nat.beq i 9) (some (5, 0, .int, true)) none) (cond (Nat.beq i 15) (some (5, 8, .boolean, false)) none)) (cond (Nat.blt i 26) (cond (Nat.beq i 19) (some (5, 9, .boolean, false)) none) (cond (Nat.beq i 26) (some (5, 2, .long, false)) none))) none)) (cond (Nat.blt o 7) (cond (Nat.beq o 6) (cond (Nat.blt i 43) (cond (Nat.blt i 27) (cond (Nat.blt i 20) (cond (Nat.beq i 11) (some (6, 0, (.array (.object "MembraneRounds$Rule")), true)) none) (cond (Nat.blt i 24) (cond (Nat.beq i 20) (some (6, 1, .int, false)) none) (cond (Nat.beq i 24) (some (5, 1, .int, false)) none))) (cond (Nat.blt i 37) (cond (Nat.beq i 27) (some (5, 2, .long, false)) none) (cond (Nat.blt i 40) (cond (Nat.beq i 37) (some (5, 3, .long, false)) none) (cond (Nat.beq i 40) (some (5, 4, .long, false)) none)))) (cond (Nat.blt i 52) (cond (Nat.blt i 46) (cond (Nat.beq i 43) (some (5, 5, .long, false)) none) (cond (Nat.blt i 49) (cond (Nat.beq i 46) (some (5, 6, .long, false)) none) (cond (Nat.beq i 49) (some (5, 7, .int, false)) none))) (cond (Nat.blt i 59) (cond (Nat.blt i 56) (cond (Nat.beq i 52) (some (5, 8, .boolean, false)) none) (cond (Nat.beq i 56) (some (5, 9, .boolean, false)) none)) (cond (Nat.blt i 62) (cond (Nat.beq i 59) (some (5, 10, .long, false)) none) (cond (Nat.beq i 62) (some (5, 0, .int, true)) none))))) none) (cond (Nat.blt o 8) (cond (Nat.beq o 7) (cond (Nat.blt i 23) (cond (Nat.blt i 15) (cond (Nat.beq i 11) (some (7, 0, (.array .char), true)) none) (cond (Nat.beq i 15) (some (7, 1, .int, false)) none)) (cond (Nat.blt i 33) (cond (Nat.beq i 23) (some (3, 0, (.array .int), true)) none) (cond (Nat.blt i 43) (cond (Nat.beq i 33) (some (3, 2, (.array .long), true)) none) (cond (Nat.beq i 43) (some (3, 1, (.array .int), true)) none)))) none) (cond (Nat.beq o 8) (cond (Nat.blt i 65) (cond (Nat.blt i 50) (cond (Nat.blt i 17) (cond (Nat.beq i 11) (some (8, 0, (.array (.object "MembraneRounds$Rule")), true)) none) (cond (Nat.blt i 29) (cond (Nat.beq i 17) (some (6, 1, .int, false)) none) (cond (Nat.beq i 29) (some (6, 0, (.array (.object "MembraneRounds$Rule")), true)) none))) (cond (Nat.blt i 58) (cond (Nat.blt i 54) (cond (Nat.beq i 50) (some (3, 2, (.array .long), true)) none) (cond (Nat.beq i 54) (some (5, 2, .long, false)) none)) (cond (Nat.blt i 62) (cond (Nat.beq i 58) (some (5, 9, .boolean, false)) none) (cond (Nat.beq i 62) (some (5, 4, .long, false)) none)))) (cond (Nat.blt i 75) (cond (Nat.blt i 69) (cond (Nat.beq i 65) (some (3, 1, (.array .int), true)) none) (cond (Nat.blt i 72) (cond (Nat.beq i 69) (some (5, 5, .long, false)) none) (cond (Nat.beq i 72) (some (5, 6, .long, false)) none))) (cond (Nat.blt i 91) (cond (Nat.blt i 88) (cond (Nat.beq i 75) (some (5, 7, .int, false)) none) (cond (Nat.beq i 88) (some (3, 0, (.array .int), true)) none)) (cond (Nat.blt i 98) (cond (Nat.beq i 91) (some (5, 10, .long, false)) none) (cond (Nat.beq i 98) (some (5, 8, .boolean, false)) none))))) none)))))
def pMth : eC := fun o i => eB2 o i (cond (Nat.blt o 6) (cond (Nat.blt o 3) (cond (Nat.blt o 1) (cond (Nat.beq o 0) (cond (Nat.blt i 118) (cond (Nat.blt i 62) (cond (Nat.blt i 32) (cond (Nat.blt i 18) (cond (Nat.blt i 11) (cond (Nat.beq i 3) (some (3, 0, 1)) none) (cond (Nat.beq i 11) (some (2, 112, 1)) none)) (cond (Nat.blt i 25) (cond (Nat.beq i 18) (some (2, 79, 1)) none) (cond (Nat.beq i 25) (some (2, 118, 1)) none))) (cond (Nat.blt i 50) (cond (Nat.blt i 39) (cond (Nat.beq i 32) (some (2, 105, 1)) none) (cond (Nat.beq i 39) (some (2, 114, 1)) none)) (cond (Nat.blt i 58) (cond (Nat.beq i 50) (some (2, 89, 1)) none) (cond (Nat.beq i 58) (some (1, 90, 2)) none)))) (cond (Nat.blt i 88) (cond (Nat.blt i 73) (cond (Nat.blt i 70) (cond (Nat.beq i 62) (some (0, 21, 1)) none) (cond (Nat.beq i 70) (some (1, 18, 2)) none)) (cond (Nat.blt i 84) (cond (Nat.beq i 73) (some (1, 96, 1)) none) (cond (Nat.beq i 84) (some (1, 91, 5)) none))) (cond (Nat.blt i 103) (cond (Nat.blt i 95) (cond (Nat.beq i 88) (some (0, 22, 1)) none) (cond (Nat.beq i 95) (some (0, 100, 1)) none)) (cond (Nat.blt i 109) (cond (Nat.beq i 103) (some (0, 103, 2)) none) (cond (Nat.blt i 114) (cond (Nat.beq i 109) (some (0, 23, 1)) none) (cond (Nat.beq i 114) (some (1, 113, 5)) none)))))) (cond (Nat.blt i 178) (cond (Nat.blt i 157) (cond (Nat.blt i 147) (cond (Nat.blt i 134) (cond (Nat.beq i 118) (some (1, 19, 2)) none) (cond (Nat.beq i 134) (some (1, 25, 2)) none)) (cond (Nat.blt i 151) (cond (Nat.beq i 147) (some (1, 80, 4)) none) (cond (Nat.beq i 151) (some (0, 78, 1)) none))) (cond (Nat.blt i 167) (cond (Nat.blt i 161) (cond (Nat.beq i 157) (some (1, 93, 2)) none) (cond (Nat.beq i 161) (some (1, 119, 4)) none)) (cond (Nat.blt i 171) (cond (Nat.beq i 167) (some (0, 77, 2)) none) (cond (Nat.blt i 173) (cond (Nat.beq i 171) (some (1, 81, 4)) none) (cond (Nat.beq i 173) (some (5, 0, 2)) none))))) (cond (Nat.blt i 208) (cond (Nat.blt i 191) (cond (Nat.blt i 188) (cond (Nat.beq i 178) (some (0, 24, 2)) none) (cond (Nat.beq i 188) (some (1, 97, 2)) none)) (cond (Nat.blt i 194) (cond (Nat.beq i 191) (some (0, 101, 2)) none) (cond (Nat.beq i 194) (some (1, 95, 2)) none))) (cond (Nat.blt i 215) (cond (Nat.blt i 211) (cond (Nat.beq i 208) (some (1, 106, 2)) none) (cond (Nat.beq i 211) (some (1, 107, 4)) none)) (cond (Nat.blt i 224) (cond (Nat.beq i 215) (some (1, 20, 2)) none) (cond (Nat.blt i 240) (cond (Nat.beq i 224) (some (1, 115, 3)) none) (cond (Nat.beq i 240) (some (1, 110, 1)) none))))))) none) (cond (Nat.blt o 2) (cond (Nat.beq o 1) (cond (Nat.blt i 128) (cond (Nat.blt i 99) (cond (Nat.blt i 83) (cond (Nat.blt i 69) (cond (Nat.blt i 61) (cond (Nat.beq i 1) (some (3, 0, 1)) none) (cond (Nat.beq i 61) (some (1, 34, 2)) none)) (cond (Nat.blt i 73) (cond (Nat.beq i 69) (some (1, 29, 4)) none) (cond (Nat.beq i 73) (some (1, 30, 5)) none))) (cond (Nat.blt i 91) (cond (Nat.blt i 87) (cond (Nat.beq i 83) (some (0, 28, 2)) none) (cond (Nat.beq i 87) (some (1, 31, 3)) none)) (cond (Nat.blt i 95) (cond (Nat.beq i 91) (some (1, 38, 2)) none) (cond (Nat.beq i 95) (some (0, 41, 1)) none)))) (cond (Nat.blt i 115) (cond (Nat.blt i 109) (cond (Nat.blt i 102) (cond (Nat.beq i 99) (some (1, 35, 5)) none) (cond (Nat.beq i 102) (some (1, 44, 2)) none)) (cond (Nat.blt i 112) (cond (Nat.beq i 109) (some (1, 37, 4)) none) (cond (Nat.beq i 112) (some (1, 36, 3)) none))) (cond (Nat.blt i 121) (cond (Nat.blt i 118) (cond (Nat.beq i 115) (some (1, 49, 2)) none) (cond (Nat.beq i 118) (some (0, 52, 2)) none)) (cond (Nat.blt i 125) (cond (Nat.beq i 121) (some (1, 48, 3)) none) (cond (Nat.beq i 125) (some (1, 50, 4)) none))))) (cond (Nat.blt i 158) (cond (Nat.blt i 146) (cond (Nat.blt i 135) (cond (Nat.blt i 131) (cond (Nat.beq i 128) (some (1, 51, 3)) none) (cond (Nat.beq i 131) (some (1, 53, 1)) none)) (cond (Nat.blt i 139) (cond (Nat.beq i 135) (some (1, 56, 5)) none) (cond (Nat.beq i 139) (some (1, 57, 4)) none))) (cond (Nat.blt i 152) (cond (Nat.blt i 149) (cond (Nat.beq i 146) (some (1, 32, 3)) none) (cond (Nat.beq i 149) (some (0, 54, 2)) none)) (cond (Nat.blt i 155) (cond (Nat.beq i 152) (some (1, 60, 2)) none) (cond (Nat.beq i 155) (some (1, 55, 3)) none)))) (cond (Nat.blt i 174) (cond (Nat.blt i 167) (cond (Nat.blt i 161) (cond (Nat.beq i 158) (some (1, 59, 2)) none) (cond (Nat.beq i 161) (some (1, 58, 4)) none)) (cond (Nat.blt i 170) (cond (Nat.beq i 167) (some (1, 33, 3)) none) (cond (Nat.beq i 170) (some (1, 67, 1)) none))) (cond (Nat.blt i 189) (cond (Nat.blt i 186) (cond (Nat.beq i 174) (some (1, 68, 2)) none) (cond (Nat.beq i 186) (some (1, 72, 2)) none)) (cond (Nat.blt i 192) (cond (Nat.beq i 189) (some (1, 73, 2)) none) (cond (Nat.beq i 192) (some (1, 74, 3)) none)))))) none) (cond (Nat.beq o 2) (cond (Nat.blt i 71) (cond (Nat.blt i 49) (cond (Nat.blt i 27) (cond (Nat.beq i 3) (some (3, 0, 1)) none) (cond (Nat.blt i 41) (cond (Nat.beq i 27) (some (1, 85, 4)) none) (cond (Nat.beq i 41) (some (1, 111, 3)) none))) (cond (Nat.blt i 56) (cond (Nat.beq i 49) (some (1, 110, 1)) none) (cond (Nat.blt i 65) (cond (Nat.beq i 56) (some (0, 76, 3)) none) (cond (Nat.beq i 65) (some (1, 84, 4)) none)))) (cond (Nat.blt i 103) (cond (Nat.blt i 77) (cond (Nat.beq i 71) (some (5, 0, 2)) none) (cond (Nat.blt i 95) (cond (Nat.beq i 77) (some (1, 87, 5)) none) (cond (Nat.beq i 95) (some (0, 86, 3)) none))) (cond (Nat.blt i 116) (cond (Nat.blt i 113) (cond (Nat.beq i 103) (some (1, 97, 2)) none) (cond (Nat.beq i 113) (some (1, 98, 3)) none)) (cond (Nat.blt i 123) (cond (Nat.beq i 116) (some (1, 88, 4)) none) (cond (Nat.beq i 123) (some (0, 102, 2)) none))))) none))) (cond (Nat.blt o 4) (cond (Nat.beq o 3) (cond (Nat.blt i 26) (cond (Nat.blt i 22) (cond (Nat.beq i 3) (some (3, 0, 1)) none) (cond (Nat.beq i 22) (some (1, 92, 2)) none)) (cond (Nat.blt i 30) (cond (Nat.beq i 26) (some (1, 91, 5)) none) (cond (Nat.blt i 40) (cond (Nat.beq i 30) (some (6, 0, 5)) none) (cond (Nat.beq i 40) (some (0, 103, 2)) none)))) none) (cond (Nat.blt o 5) (cond (Nat.beq o 4) (cond (Nat.blt i 43) (cond (Nat.blt i 29) (cond (Nat.blt i 20) (cond (Nat.beq i 3) (some (3, 0, 1)) none) (cond (Nat.beq i 20) (some (2, 89, 1)) none)) (cond (Nat.blt i 37) (cond (Nat.beq i 29) (some (1, 93, 2)) none) (cond (Nat.beq i 37) (some (1, 82, 3)) none))) (cond (Nat.blt i 53) (cond (Nat.blt i 47) (cond (Nat.beq i 43) (some (1, 83, 2)) none) (cond (Nat.beq i 47) (some (1, 119, 4)) none)) (cond (Nat.blt i 57) (cond (Nat.beq i 53) (some (1, 108, 2)) none) (cond (Nat.beq i 57) (some (1, 94, 2)) none)))) none) (cond (Nat.beq o 5) (cond (Nat.blt i 22) (cond (Nat.beq i 3) (some (3, 0, 1)) none) (cond (Nat.blt i 30) (cond (Nat.beq i 22) (some (1, 110, 1)) none) (cond (Nat.beq i 30) (some (0, 102, 2)) none))) none)))) (cond (Nat.blt o 12) (cond (Nat.blt o 7) (cond (Nat.beq o 6) (cond (Nat.blt i 17) (cond (Nat.beq i 3) (some (3, 0, 1)) none) (cond (Nat.blt i 31) (cond (Nat.beq i 17) (some (2, 109, 2)) none) (cond (Nat.beq i 31) (some (0, 104, 1)) none))) none) (cond (Nat.blt o 8) (cond (Nat.beq o 7) (cond (Nat.blt i 29) (cond (Nat.blt i 19) (cond (Nat.beq i 3) (some (3, 0, 1)) none) (cond (Nat.beq i 19) (some (1, 116, 4)) none)) (cond (Nat.blt i 37) (cond (Nat.beq i 29) (some (1, 117, 2)) none) (cond (Nat.beq i 37) (some (0, 101, 2)) none))) none) (cond (Nat.beq o 8) (cond (Nat.blt i 78) (cond (Nat.blt i 36) (cond (Nat.blt i 23) (cond (Nat.beq i 3) (some (3, 0, 1)) none) (cond (Nat.blt i 32) (cond (Nat.beq i 23) (some (0, 77, 2)) none) (cond (Nat.beq i 32) (some (1, 120, 5)) none))) (cond (Nat.blt i 40) (cond (Nat.beq i 36) (some (1, 121, 2)) none) (cond (Nat.blt i 44) (cond (Nat.beq i 40) (some (1, 122, 2)) none) (cond (Nat.beq i 44) (some (1, 99, 1)) none)))) (cond (Nat.blt i 94) (cond (Nat.blt i 81) (cond (Nat.beq i 78) (some (1, 98, 3)) none) (cond (Nat.blt i 84) (cond (Nat.beq i 81) (some (1, 110, 1)) none) (cond (Nat.beq i 84) (some (1, 96, 1)) none))) (cond (Nat.blt i 101) (cond (Nat.beq i 94) (some (1, 91, 5)) none) (cond (Nat.blt i 105) (cond (Nat.beq i 101) (some (0, 123, 2)) none) (cond (Nat.beq i 105) (some (1, 92, 2)) none))))) none))) (cond (Nat.blt o 13) (cond (Nat.beq o 12) (cond (Nat.beq i 11) (some (0, 77, 2)) none) none) (cond (Nat.blt o 14) (cond (Nat.beq o 13) (cond (Nat.blt i 19) (cond (Nat.beq i 15) (some (0, 102, 2)) none) (cond (Nat.beq i 19) (some (0, 101, 2)) none)) none) (cond (Nat.beq o 14) (cond (Nat.blt i 93) (cond (Nat.blt i 61) (cond (Nat.blt i 38) (cond (Nat.blt i 27) (cond (Nat.blt i 15) (cond (Nat.beq i 7) (some (1, 1, 2)) none) (cond (Nat.blt i 23) (cond (Nat.beq i 15) (some (1, 2, 3)) none) (cond (Nat.beq i 23) (some (1, 3, 3)) none))) (cond (Nat.blt i 31) (cond (Nat.beq i 27) (some (1, 4, 5)) none) (cond (Nat.blt i 35) (cond (Nat.beq i 31) (some (1, 5, 4)) none) (cond (Nat.beq i 35) (some (1, 6, 2)) none)))) (cond (Nat.blt i 48) (cond (Nat.blt i 41) (cond (Nat.beq i 38) (some (1, 7, 3)) none) (cond (Nat.blt i 45) (cond (Nat.beq i 41) (some (1, 8, 1)) none) (cond (Nat.beq i 45) (some (1, 9, 3)) none))) (cond (Nat.blt i 55) (cond (Nat.blt i 52) (cond (Nat.beq i 48) (some (1, 10, 2)) none) (cond (Nat.beq i 52) (some (1, 11, 3)) none)) (cond (Nat.blt i 58) (cond (Nat.beq i 55) (some (1, 13, 2)) none) (cond (Nat.beq i 58) (some (1, 14, 2)) none))))) (cond (Nat.blt i 78) (cond (Nat.blt i 71) (cond (Nat.blt i 65) (cond (Nat.beq i 61) (some (1, 15, 4)) none) (cond (Nat.blt i 68) (cond (Nat.beq i 65) (some (1, 16, 2)) none) (cond (Nat.beq i 68) (some (2, 0, 1)) none))) (cond (Nat.blt i 72) (cond (Nat.beq i 71) (some (2, 26, 1)) none) (cond (Nat.blt i 77) (cond (Nat.beq i 72) (some (0, 124, 2)) none) (cond (Nat.beq i 77) (some (1, 39, 2)) none)))) (cond (Nat.blt i 85) (cond (Nat.blt i 81) (cond (Nat.beq i 78) (some (1, 27, 1)) none) (cond (Nat.blt i 84) (cond (Nat.beq i 81) (some (0, 125, 4)) none) (cond (Nat.beq i 84) (some (1, 40, 3)) none))) (cond (Nat.blt i 89) (cond (Nat.blt i 88) (cond (Nat.beq i 85) (some (0, 126, 3)) none) (cond (Nat.beq i 88) (some (1, 42, 3)) none)) (cond (Nat.blt i 92) (cond (Nat.beq i 89) (some (0, 127, 6)) none) (cond (Nat.beq i 92) (some (1, 43, 5)) none)))))) (cond (Nat.blt i 116) (cond (Nat.blt i 103) (cond (Nat.blt i 99) (cond (Nat.blt i 96) (cond (Nat.beq i 93) (some (0, 128, 4)) none) (cond (Nat.blt i 97) (cond (Nat.beq i 96) (some (1, 45, 4)) none) (cond (Nat.beq i 97) (some (0, 129, 2)) none))) (cond (Nat.blt i 100) (cond (Nat.beq i 99) (some (1, 46, 2)) none) (cond (Nat.blt i 102) (cond (Nat.beq i 100) (some (0, 130, 3)) none) (cond (Nat.beq i 102) (some (1, 47, 3)) none)))) (cond (Nat.blt i 109) (cond (Nat.blt i 106) (cond (Nat.beq i 103) (some (0, 131, 2)) none) (cond (Nat.blt i 107) (cond (Nat.beq i 106) (some (1, 61, 1)) none) (cond (Nat.beq i 107) (some (0, 132, 4)) none))) (cond (Nat.blt i 113) (cond (Nat.blt i 110) (cond (Nat.beq i 109) (some (1, 62, 3)) none) (cond (Nat.beq i 110) (some (0, 133, 3)) none)) (cond (Nat.blt i 114) (cond (Nat.beq i 113) (some (1, 63, 2)) none) (cond (Nat.beq i 114) (some (0, 134, 4)) none))))) (cond (Nat.blt i 127) (cond (Nat.blt i 122) (cond (Nat.blt i 117) (cond (Nat.beq i 116) (some (1, 64, 3)) none) (cond (Nat.blt i 121) (cond (Nat.beq i 117) (some (1, 12, 2)) none) (cond (Nat.beq i 121) (some (1, 65, 2)) none))) (cond (Nat.blt i 124) (cond (Nat.beq i 122) (some (0, 135, 3)) none) (cond (Nat.blt i 125) (cond (Nat.beq i 124) (some (1, 66, 2)) none) (cond (Nat.beq i 125) (some (0, 136, 3)) none)))) (cond (Nat.blt i 132) (cond (Nat.blt i 128) (cond (Nat.beq i 127) (some (1, 69, 2)) none) (cond (Nat.blt i 131) (cond (Nat.beq i 128) (some (0, 137, 5)) none) (cond (Nat.beq i 131) (some (1, 70, 4)) none))) (cond (Nat.blt i 135) (cond (Nat.blt i 134) (cond (Nat.beq i 132) (some (0, 138, 2)) none) (cond (Nat.beq i 134) (some (1, 71, 2)) none)) (cond (Nat.blt i 138) (cond (Nat.beq i 135) (some (1, 17, 2)) none) (cond (Nat.beq i 138) (some (1, 75, 2)) none))))))) none)))))
def pCls : eK := fun o i => eB2 o i (cond (Nat.blt o 6) (cond (Nat.blt o 4) (cond (Nat.beq o 0) (cond (Nat.blt i 37) (cond (Nat.blt i 23) (cond (Nat.blt i 16) (cond (Nat.beq i 9) (some 6) none) (cond (Nat.beq i 16) (some 2) none)) (cond (Nat.blt i 30) (cond (Nat.beq i 23) (some 8) none) (cond (Nat.beq i 30) (some 4) none))) (cond (Nat.blt i 77) (cond (Nat.blt i 48) (cond (Nat.beq i 37) (some 7) none) (cond (Nat.beq i 48) (some 3) none)) (cond (Nat.blt i 198) (cond (Nat.beq i 77) (some 11) none) (cond (Nat.blt i 203) (cond (Nat.beq i 198) (some 10) none) (cond (Nat.beq i 203) (some 9) none))))) none) (cond (Nat.beq o 4) (cond (Nat.beq i 9) (some 3) none) none)) (cond (Nat.blt o 14) (cond (Nat.beq o 6) (cond (Nat.beq i 9) (some 5) none) none) (cond (Nat.beq o 14) (cond (Nat.blt i 69) (cond (Nat.beq i 8) (some 0) none) (cond (Nat.beq i 69) (some 1) none)) none)))
def pArr : eK := fun o i => eB2 o i (cond (Nat.blt o 6) (cond (Nat.blt o 4) (cond (Nat.beq o 2) (cond (Nat.beq i 9) (some 3) none) none) (cond (Nat.beq o 4) (cond (Nat.beq i 9) (some 4) none) none)) (cond (Nat.blt o 8) (cond (Nat.beq o 6) (cond (Nat.beq i 9) (some 3) none) none) (cond (Nat.beq o 8) (cond (Nat.beq i 9) (some 3) none) none)))
def pCon : eV := fun o i => eB2 o i (cond (Nat.blt o 3) (cond (Nat.beq o 0) (cond (Nat.beq i 101) (some (.long 3378524555624460)) none) none) (cond (Nat.blt o 13) (cond (Nat.beq o 3) (cond (Nat.blt i 44) (cond (Nat.beq i 38) (some (.long 3378524555624460)) none) (cond (Nat.beq i 44) (some (.long 281262169255736295)) none)) none) (cond (Nat.beq o 13) (cond (Nat.blt i 13) (cond (Nat.beq i 11) (some (.long 4095)) none) (cond (Nat.beq i 13) (some (.long 576601524159907840)) none)) none)))
def pBla : eD := fun c => cond (Nat.blt c 6) (cond (Nat.blt c 3) (cond (Nat.blt c 1) (cond (Nat.beq c 0) ([.null, .null, .null, .null, .null, .null, .null, .null], 8) ([], 0)) (cond (Nat.blt c 2) (cond (Nat.beq c 1) ([.int 0, .int 0, .null, .null, .null, .null, .null, .null, .null, .null, .null, .int 0, .int 0, .null, .null, .int 0, .null, .int 0, .null, .null, .null, .null, .int 0, .int 0, .int 0, .null], 26) ([], 0)) (cond (Nat.beq c 2) ([.null, .int 0, .null, .int 0, .int 0, .null, .null], 7) ([], 0)))) (cond (Nat.blt c 4) (cond (Nat.beq c 3) ([.null, .null, .null], 3) ([], 0)) (cond (Nat.blt c 5) (cond (Nat.beq c 4) ([.null, .int 0, .null, .null, .null], 5) ([], 0)) (cond (Nat.beq c 5) ([.int 0, .int 0, .long 0, .long 0, .long 0, .long 0, .long 0, .int 0, .int 0, .int 0, .long 0], 11) ([], 0))))) (cond (Nat.blt c 9) (cond (Nat.blt c 7) (cond (Nat.beq c 6) ([.null, .int 0], 2) ([], 0)) (cond (Nat.blt c 8) (cond (Nat.beq c 7) ([.null, .int 0], 2) ([], 0)) (cond (Nat.beq c 8) ([.null], 1) ([], 0)))) (cond (Nat.blt c 10) (cond (Nat.beq c 9) ([], 6) ([], 0)) (cond (Nat.blt c 11) (cond (Nat.beq c 10) ([], 6) ([], 0)) (cond (Nat.beq c 11) ([], 6) ([], 0)))))
def pElt : Nat → Option Nat := fun t => eB1 t 8 (cond (Nat.blt t 4) (cond (Nat.beq t 3) (some 5) none) (cond (Nat.beq t 4) (some 3) none))
def pIni : Nat → Bool := fun k => cond (Nat.blt k 105) (cond (Nat.blt k 79) (cond (Nat.blt k 26) (cond (Nat.beq k 0) true false) (cond (Nat.beq k 26) true false)) (cond (Nat.blt k 89) (cond (Nat.beq k 79) true false) (cond (Nat.beq k 89) true false))) (cond (Nat.blt k 112) (cond (Nat.blt k 109) (cond (Nat.beq k 105) true false) (cond (Nat.beq k 109) true false)) (cond (Nat.blt k 114) (cond (Nat.beq k 112) true false) (cond (Nat.blt k 118) (cond (Nat.beq k 114) true false) (cond (Nat.beq k 118) true false))))
def pThr : Nat → Nat → Option (Nat × Nat × Nat × Nat) := fun k pc => eB1 k 140 (eB1 pc 200 (cond (Nat.blt k 18) (cond (Nat.blt k 8) (cond (Nat.blt k 3) (cond (Nat.beq k 2) (cond (Nat.beq pc 22) (some (11, 77, 79, 81)) none) none) (cond (Nat.blt k 4) (cond (Nat.beq k 3) (cond (Nat.beq pc 34) (some (11, 77, 107, 81)) none) none) (cond (Nat.beq k 4) (cond (Nat.beq pc 33) (some (11, 77, 112, 81)) none) none))) (cond (Nat.blt k 14) (cond (Nat.blt k 13) (cond (Nat.beq k 8) (cond (Nat.beq pc 83) (some (11, 77, 165, 81)) none) none) (cond (Nat.beq k 13) (cond (Nat.beq pc 9) (some (10, 198, 200, 202)) none) none)) (cond (Nat.blt k 15) (cond (Nat.beq k 14) (cond (Nat.beq pc 9) (some (9, 203, 205, 207)) none) none) (cond (Nat.beq k 15) (cond (Nat.beq pc 15) (some (10, 198, 218, 202)) none) none)))) (cond (Nat.blt k 22) (cond (Nat.blt k 20) (cond (Nat.blt k 19) (cond (Nat.beq k 18) (cond (Nat.beq pc 11) (some (10, 198, 218, 202)) none) none) (cond (Nat.beq k 19) (cond (Nat.beq pc 15) (some (10, 198, 228, 202)) none) none)) (cond (Nat.blt k 21) (cond (Nat.beq k 20) (cond (Nat.beq pc 15) (some (10, 198, 230, 202)) none) none) (cond (Nat.beq k 21) (cond (Nat.beq pc 9) (some (9, 203, 232, 207)) none) none))) (cond (Nat.blt k 24) (cond (Nat.blt k 23) (cond (Nat.beq k 22) (cond (Nat.beq pc 11) (some (9, 203, 234, 207)) none) none) (cond (Nat.beq k 23) (cond (Nat.beq pc 4) (some (9, 203, 236, 207)) none) none)) (cond (Nat.blt k 25) (cond (Nat.beq k 24) (cond (Nat.beq pc 9) (some (9, 203, 238, 207)) none) none) (cond (Nat.beq k 25) (cond (Nat.beq pc 15) (some (11, 77, 244, 81)) none) none))))))
def pP : eP := (pIns, pMet, pFld, pMth, pCls, pArr, pCon, pBla, pElt, pIni, pThr)
def pCn : Nat → String := fun c => cond (Nat.blt c 7) (cond (Nat.blt c 3) (cond (Nat.blt c 1) (cond (Nat.beq c 0) "MembraneRounds" "") (cond (Nat.blt c 2) (cond (Nat.beq c 1) "MembraneRoundsModel" "") (cond (Nat.beq c 2) "MembraneRounds$Chooser" ""))) (cond (Nat.blt c 5) (cond (Nat.blt c 4) (cond (Nat.beq c 3) "MembraneRounds$Configuration" "") (cond (Nat.beq c 4) "MembraneRounds$Judge" "")) (cond (Nat.blt c 6) (cond (Nat.beq c 5) "MembraneRounds$Rule" "") (cond (Nat.beq c 6) "MembraneRounds$RuleBook" "")))) (cond (Nat.blt c 11) (cond (Nat.blt c 9) (cond (Nat.blt c 8) (cond (Nat.beq c 7) "MembraneRounds$Scribe" "") (cond (Nat.beq c 8) "MembraneRounds$Worker" "")) (cond (Nat.blt c 10) (cond (Nat.beq c 9) "java/lang/IllegalArgumentException" "") (cond (Nat.beq c 10) "java/lang/IndexOutOfBoundsException" ""))) (cond (Nat.blt c 13) (cond (Nat.blt c 12) (cond (Nat.beq c 11) "java/lang/IllegalStateException" "") (cond (Nat.beq c 12) "MembraneRounds$Choice" "")) (cond (Nat.blt c 14) (cond (Nat.beq c 13) "MembraneRounds$Heap" "") (cond (Nat.beq c 14) "MembraneRoundsLaw" ""))))
def pMn : Nat → MethodName := fun k => cond (Nat.blt k 70) (cond (Nat.blt k 35) (cond (Nat.blt k 17) (cond (Nat.blt k 8) (cond (Nat.blt k 4) (cond (Nat.blt k 2) (cond (Nat.blt k 1) (cond (Nat.beq k 0) ⟨"MembraneRounds", "<init>", "()V"⟩ ⟨"", "", ""⟩) (cond (Nat.beq k 1) ⟨"MembraneRounds", "clear", "(I)V"⟩ ⟨"", "", ""⟩)) (cond (Nat.blt k 3) (cond (Nat.beq k 2) ⟨"MembraneRounds", "membrane", "(II)I"⟩ ⟨"", "", ""⟩) (cond (Nat.beq k 3) ⟨"MembraneRounds", "put", "(II)V"⟩ ⟨"", "", ""⟩))) (cond (Nat.blt k 6) (cond (Nat.blt k 5) (cond (Nat.beq k 4) ⟨"MembraneRounds", "rule", "(IIII)I"⟩ ⟨"", "", ""⟩) (cond (Nat.beq k 5) ⟨"MembraneRounds", "into", "(III)V"⟩ ⟨"", "", ""⟩)) (cond (Nat.blt k 7) (cond (Nat.beq k 6) ⟨"MembraneRounds", "dissolve", "(I)V"⟩ ⟨"", "", ""⟩) (cond (Nat.beq k 7) ⟨"MembraneRounds", "divide", "(II)V"⟩ ⟨"", "", ""⟩)))) (cond (Nat.blt k 12) (cond (Nat.blt k 10) (cond (Nat.blt k 9) (cond (Nat.beq k 8) ⟨"MembraneRounds", "round", "()I"⟩ ⟨"", "", ""⟩) (cond (Nat.beq k 9) ⟨"MembraneRounds", "uses", "(II)I"⟩ ⟨"", "", ""⟩)) (cond (Nat.blt k 11) (cond (Nat.beq k 10) ⟨"MembraneRounds", "choices", "(I)I"⟩ ⟨"", "", ""⟩) (cond (Nat.beq k 11) ⟨"MembraneRounds", "at", "(II)I"⟩ ⟨"", "", ""⟩))) (cond (Nat.blt k 14) (cond (Nat.blt k 13) (cond (Nat.beq k 12) ⟨"MembraneRounds", "there", "(I)Z"⟩ ⟨"", "", ""⟩) (cond (Nat.beq k 13) ⟨"MembraneRounds", "outside", "(I)I"⟩ ⟨"", "", ""⟩)) (cond (Nat.blt k 15) (cond (Nat.beq k 14) ⟨"MembraneRounds", "outcomes", "(I)I"⟩ ⟨"", "", ""⟩) (cond (Nat.blt k 16) (cond (Nat.beq k 15) ⟨"MembraneRounds", "outcome", "(III)I"⟩ ⟨"", "", ""⟩) (cond (Nat.beq k 16) ⟨"MembraneRounds", "adopt", "(I)V"⟩ ⟨"", "", ""⟩)))))) (cond (Nat.blt k 26) (cond (Nat.blt k 21) (cond (Nat.blt k 19) (cond (Nat.blt k 18) (cond (Nat.beq k 17) ⟨"MembraneRounds", "written", "(I)I"⟩ ⟨"", "", ""⟩) (cond (Nat.beq k 18) ⟨"MembraneRounds", "checkMembrane", "(I)V"⟩ ⟨"", "", ""⟩)) (cond (Nat.blt k 20) (cond (Nat.beq k 19) ⟨"MembraneRounds", "checkRule", "(I)V"⟩ ⟨"", "", ""⟩) (cond (Nat.beq k 20) ⟨"MembraneRounds", "checkOutcome", "(I)V"⟩ ⟨"", "", ""⟩))) (cond (Nat.blt k 23) (cond (Nat.blt k 22) (cond (Nat.beq k 21) ⟨"MembraneRounds", "checkLabel", "(I)V"⟩ ⟨"", "", ""⟩) (cond (Nat.beq k 22) ⟨"MembraneRounds", "checkHandful", "(I)V"⟩ ⟨"", "", ""⟩)) (cond (Nat.blt k 24) (cond (Nat.beq k 23) ⟨"MembraneRounds", "checkNotEmpty", "(I)V"⟩ ⟨"", "", ""⟩) (cond (Nat.blt k 25) (cond (Nat.beq k 24) ⟨"MembraneRounds", "checkWhat", "(II)V"⟩ ⟨"", "", ""⟩) (cond (Nat.beq k 25) ⟨"MembraneRounds", "checkEndsNothing", "(I)V"⟩ ⟨"", "", ""⟩))))) (cond (Nat.blt k 30) (cond (Nat.blt k 28) (cond (Nat.blt k 27) (cond (Nat.beq k 26) ⟨"MembraneRoundsModel", "<init>", "()V"⟩ ⟨"", "", ""⟩) (cond (Nat.beq k 27) ⟨"MembraneRoundsModel", "thrown", "()I"⟩ ⟨"", "", ""⟩)) (cond (Nat.blt k 29) (cond (Nat.beq k 28) ⟨"MembraneRoundsModel", "of", "(II)I"⟩ ⟨"", "", ""⟩) (cond (Nat.beq k 29) ⟨"MembraneRoundsModel", "cell", "(III)I"⟩ ⟨"", "", ""⟩))) (cond (Nat.blt k 32) (cond (Nat.blt k 31) (cond (Nat.beq k 30) ⟨"MembraneRoundsModel", "set", "(IIII)V"⟩ ⟨"", "", ""⟩) (cond (Nat.beq k 31) ⟨"MembraneRoundsModel", "has", "(II)Z"⟩ ⟨"", "", ""⟩)) (cond (Nat.blt k 33) (cond (Nat.beq k 32) ⟨"MembraneRoundsModel", "copy", "(II)V"⟩ ⟨"", "", ""⟩) (cond (Nat.blt k 34) (cond (Nat.beq k 33) ⟨"MembraneRoundsModel", "same", "(II)Z"⟩ ⟨"", "", ""⟩) (cond (Nat.beq k 34) ⟨"MembraneRoundsModel", "empty", "(I)V"⟩ ⟨"", "", ""⟩))))))) (cond (Nat.blt k 52) (cond (Nat.blt k 43) (cond (Nat.blt k 39) (cond (Nat.blt k 37) (cond (Nat.blt k 36) (cond (Nat.beq k 35) ⟨"MembraneRoundsModel", "give", "(IIII)V"⟩ ⟨"", "", ""⟩) (cond (Nat.beq k 36) ⟨"MembraneRoundsModel", "children", "(II)I"⟩ ⟨"", "", ""⟩)) (cond (Nat.blt k 38) (cond (Nat.beq k 37) ⟨"MembraneRoundsModel", "childOf", "(III)I"⟩ ⟨"", "", ""⟩) (cond (Nat.beq k 38) ⟨"MembraneRoundsModel", "free", "(I)I"⟩ ⟨"", "", ""⟩))) (cond (Nat.blt k 41) (cond (Nat.blt k 40) (cond (Nat.beq k 39) ⟨"MembraneRoundsModel", "clear", "(I)V"⟩ ⟨"", "", ""⟩) (cond (Nat.beq k 40) ⟨"MembraneRoundsModel", "membrane", "(II)I"⟩ ⟨"", "", ""⟩)) (cond (Nat.blt k 42) (cond (Nat.beq k 41) ⟨"MembraneRoundsModel", "noHandful", "(I)Z"⟩ ⟨"", "", ""⟩) (cond (Nat.beq k 42) ⟨"MembraneRoundsModel", "put", "(II)V"⟩ ⟨"", "", ""⟩)))) (cond (Nat.blt k 47) (cond (Nat.blt k 45) (cond (Nat.blt k 44) (cond (Nat.beq k 43) ⟨"MembraneRoundsModel", "rule", "(IIII)I"⟩ ⟨"", "", ""⟩) (cond (Nat.beq k 44) ⟨"MembraneRoundsModel", "noRule", "(I)Z"⟩ ⟨"", "", ""⟩)) (cond (Nat.blt k 46) (cond (Nat.beq k 45) ⟨"MembraneRoundsModel", "into", "(III)V"⟩ ⟨"", "", ""⟩) (cond (Nat.beq k 46) ⟨"MembraneRoundsModel", "dissolve", "(I)V"⟩ ⟨"", "", ""⟩))) (cond (Nat.blt k 49) (cond (Nat.blt k 48) (cond (Nat.beq k 47) ⟨"MembraneRoundsModel", "divide", "(II)V"⟩ ⟨"", "", ""⟩) (cond (Nat.beq k 48) ⟨"MembraneRoundsModel", "begin", "(II)V"⟩ ⟨"", "", ""⟩)) (cond (Nat.blt k 50) (cond (Nat.beq k 49) ⟨"MembraneRoundsModel", "times", "(I)I"⟩ ⟨"", "", ""⟩) (cond (Nat.blt k 51) (cond (Nat.beq k 50) ⟨"MembraneRoundsModel", "allowed", "(III)I"⟩ ⟨"", "", ""⟩) (cond (Nat.beq k 51) ⟨"MembraneRoundsModel", "take", "(II)V"⟩ ⟨"", "", ""⟩)))))) (cond (Nat.blt k 61) (cond (Nat.blt k 56) (cond (Nat.blt k 54) (cond (Nat.blt k 53) (cond (Nat.beq k 52) ⟨"MembraneRoundsModel", "packed", "(II)I"⟩ ⟨"", "", ""⟩) (cond (Nat.beq k 53) ⟨"MembraneRoundsModel", "pack", "()I"⟩ ⟨"", "", ""⟩)) (cond (Nat.blt k 55) (cond (Nat.beq k 54) ⟨"MembraneRoundsModel", "used", "(II)I"⟩ ⟨"", "", ""⟩) (cond (Nat.beq k 55) ⟨"MembraneRoundsModel", "greedy", "(II)I"⟩ ⟨"", "", ""⟩))) (cond (Nat.blt k 58) (cond (Nat.blt k 57) (cond (Nat.beq k 56) ⟨"MembraneRoundsModel", "greed", "(IIII)I"⟩ ⟨"", "", ""⟩) (cond (Nat.beq k 57) ⟨"MembraneRoundsModel", "stuck", "(III)Z"⟩ ⟨"", "", ""⟩)) (cond (Nat.blt k 59) (cond (Nat.beq k 58) ⟨"MembraneRoundsModel", "write", "(III)I"⟩ ⟨"", "", ""⟩) (cond (Nat.blt k 60) (cond (Nat.beq k 59) ⟨"MembraneRoundsModel", "step", "(I)Z"⟩ ⟨"", "", ""⟩) (cond (Nat.beq k 60) ⟨"MembraneRoundsModel", "melt", "(I)V"⟩ ⟨"", "", ""⟩))))) (cond (Nat.blt k 65) (cond (Nat.blt k 63) (cond (Nat.blt k 62) (cond (Nat.beq k 61) ⟨"MembraneRoundsModel", "round", "()I"⟩ ⟨"", "", ""⟩) (cond (Nat.beq k 62) ⟨"MembraneRoundsModel", "uses", "(II)I"⟩ ⟨"", "", ""⟩)) (cond (Nat.blt k 64) (cond (Nat.beq k 63) ⟨"MembraneRoundsModel", "choices", "(I)I"⟩ ⟨"", "", ""⟩) (cond (Nat.beq k 64) ⟨"MembraneRoundsModel", "at", "(II)I"⟩ ⟨"", "", ""⟩))) (cond (Nat.blt k 67) (cond (Nat.blt k 66) (cond (Nat.beq k 65) ⟨"MembraneRoundsModel", "there", "(I)Z"⟩ ⟨"", "", ""⟩) (cond (Nat.beq k 66) ⟨"MembraneRoundsModel", "outside", "(I)I"⟩ ⟨"", "", ""⟩)) (cond (Nat.blt k 68) (cond (Nat.beq k 67) ⟨"MembraneRoundsModel", "add", "()Z"⟩ ⟨"", "", ""⟩) (cond (Nat.blt k 69) (cond (Nat.beq k 68) ⟨"MembraneRoundsModel", "spread", "(I)Z"⟩ ⟨"", "", ""⟩) (cond (Nat.beq k 69) ⟨"MembraneRoundsModel", "outcomes", "(I)I"⟩ ⟨"", "", ""⟩)))))))) (cond (Nat.blt k 105) (cond (Nat.blt k 87) (cond (Nat.blt k 78) (cond (Nat.blt k 74) (cond (Nat.blt k 72) (cond (Nat.blt k 71) (cond (Nat.beq k 70) ⟨"MembraneRoundsModel", "outcome", "(III)I"⟩ ⟨"", "", ""⟩) (cond (Nat.beq k 71) ⟨"MembraneRoundsModel", "adopt", "(I)V"⟩ ⟨"", "", ""⟩)) (cond (Nat.blt k 73) (cond (Nat.beq k 72) ⟨"MembraneRoundsModel", "append", "(I)V"⟩ ⟨"", "", ""⟩) (cond (Nat.beq k 73) ⟨"MembraneRoundsModel", "appendInner", "(I)V"⟩ ⟨"", "", ""⟩))) (cond (Nat.blt k 76) (cond (Nat.blt k 75) (cond (Nat.beq k 74) ⟨"MembraneRoundsModel", "nextChild", "(II)I"⟩ ⟨"", "", ""⟩) (cond (Nat.beq k 75) ⟨"MembraneRoundsModel", "written", "(I)I"⟩ ⟨"", "", ""⟩)) (cond (Nat.blt k 77) (cond (Nat.beq k 76) ⟨"MembraneRounds$Choice", "with", "(III)I"⟩ ⟨"", "", ""⟩) (cond (Nat.beq k 77) ⟨"MembraneRounds$Choice", "usesOf", "(II)I"⟩ ⟨"", "", ""⟩)))) (cond (Nat.blt k 82) (cond (Nat.blt k 80) (cond (Nat.blt k 79) (cond (Nat.beq k 78) ⟨"MembraneRounds$Choice", "usesTogether", "(I)I"⟩ ⟨"", "", ""⟩) (cond (Nat.beq k 79) ⟨"MembraneRounds$Chooser", "<init>", "()V"⟩ ⟨"", "", ""⟩)) (cond (Nat.blt k 81) (cond (Nat.beq k 80) ⟨"MembraneRounds$Chooser", "machineChoice", "(LMembraneRounds$RuleBook;LMembraneRounds$Configuration;I)I"⟩ ⟨"", "", ""⟩) (cond (Nat.beq k 81) ⟨"MembraneRounds$Chooser", "count", "(LMembraneRounds$RuleBook;LMembraneRounds$Configuration;I)I"⟩ ⟨"", "", ""⟩))) (cond (Nat.blt k 84) (cond (Nat.blt k 83) (cond (Nat.beq k 82) ⟨"MembraneRounds$Chooser", "countAll", "(LMembraneRounds$RuleBook;LMembraneRounds$Configuration;)I"⟩ ⟨"", "", ""⟩) (cond (Nat.beq k 83) ⟨"MembraneRounds$Chooser", "takeNext", "([I)V"⟩ ⟨"", "", ""⟩)) (cond (Nat.blt k 85) (cond (Nat.beq k 84) ⟨"MembraneRounds$Chooser", "list", "(LMembraneRounds$RuleBook;LMembraneRounds$Configuration;I)V"⟩ ⟨"", "", ""⟩) (cond (Nat.blt k 86) (cond (Nat.beq k 85) ⟨"MembraneRounds$Chooser", "gatherOpen", "(LMembraneRounds$RuleBook;LMembraneRounds$Configuration;I)V"⟩ ⟨"", "", ""⟩) (cond (Nat.beq k 86) ⟨"MembraneRounds$Chooser", "isOpen", "(LMembraneRounds$Rule;LMembraneRounds$Configuration;I)Z"⟩ ⟨"", "", ""⟩)))))) (cond (Nat.blt k 96) (cond (Nat.blt k 91) (cond (Nat.blt k 89) (cond (Nat.blt k 88) (cond (Nat.beq k 87) ⟨"MembraneRounds$Chooser", "search", "(IJIZ)V"⟩ ⟨"", "", ""⟩) (cond (Nat.beq k 88) ⟨"MembraneRounds$Chooser", "canBecomeMaximal", "(IJZ)Z"⟩ ⟨"", "", ""⟩)) (cond (Nat.blt k 90) (cond (Nat.beq k 89) ⟨"MembraneRounds$Configuration", "<init>", "()V"⟩ ⟨"", "", ""⟩) (cond (Nat.beq k 90) ⟨"MembraneRounds$Configuration", "reset", "(I)V"⟩ ⟨"", "", ""⟩))) (cond (Nat.blt k 93) (cond (Nat.blt k 92) (cond (Nat.beq k 91) ⟨"MembraneRounds$Configuration", "open", "(IIIJ)V"⟩ ⟨"", "", ""⟩) (cond (Nat.beq k 92) ⟨"MembraneRounds$Configuration", "close", "(I)V"⟩ ⟨"", "", ""⟩)) (cond (Nat.blt k 94) (cond (Nat.beq k 93) ⟨"MembraneRounds$Configuration", "copy", "(LMembraneRounds$Configuration;)V"⟩ ⟨"", "", ""⟩) (cond (Nat.blt k 95) (cond (Nat.beq k 94) ⟨"MembraneRounds$Configuration", "isSame", "(LMembraneRounds$Configuration;)Z"⟩ ⟨"", "", ""⟩) (cond (Nat.beq k 95) ⟨"MembraneRounds$Configuration", "has", "(I)Z"⟩ ⟨"", "", ""⟩))))) (cond (Nat.blt k 100) (cond (Nat.blt k 98) (cond (Nat.blt k 97) (cond (Nat.beq k 96) ⟨"MembraneRounds$Configuration", "leastFree", "()I"⟩ ⟨"", "", ""⟩) (cond (Nat.beq k 97) ⟨"MembraneRounds$Configuration", "countChildren", "(I)I"⟩ ⟨"", "", ""⟩)) (cond (Nat.blt k 99) (cond (Nat.beq k 98) ⟨"MembraneRounds$Configuration", "firstChildWith", "(II)I"⟩ ⟨"", "", ""⟩) (cond (Nat.beq k 99) ⟨"MembraneRounds$Configuration", "isTooMuch", "()Z"⟩ ⟨"", "", ""⟩))) (cond (Nat.blt k 102) (cond (Nat.blt k 101) (cond (Nat.beq k 100) ⟨"MembraneRounds$Heap", "ofHandful", "(I)J"⟩ ⟨"", "", ""⟩) (cond (Nat.beq k 101) ⟨"MembraneRounds$Heap", "count", "(JI)I"⟩ ⟨"", "", ""⟩)) (cond (Nat.blt k 103) (cond (Nat.beq k 102) ⟨"MembraneRounds$Heap", "holds", "(JJ)Z"⟩ ⟨"", "", ""⟩) (cond (Nat.blt k 104) (cond (Nat.beq k 103) ⟨"MembraneRounds$Heap", "within", "(JJ)Z"⟩ ⟨"", "", ""⟩) (cond (Nat.beq k 104) ⟨"MembraneRounds$Heap", "kindsOf", "(J)J"⟩ ⟨"", "", ""⟩))))))) (cond (Nat.blt k 122) (cond (Nat.blt k 113) (cond (Nat.blt k 109) (cond (Nat.blt k 107) (cond (Nat.blt k 106) (cond (Nat.beq k 105) ⟨"MembraneRounds$Judge", "<init>", "()V"⟩ ⟨"", "", ""⟩) (cond (Nat.beq k 106) ⟨"MembraneRounds$Judge", "begin", "(LMembraneRounds$Configuration;)V"⟩ ⟨"", "", ""⟩)) (cond (Nat.blt k 108) (cond (Nat.beq k 107) ⟨"MembraneRounds$Judge", "goOn", "(LMembraneRounds$RuleBook;LMembraneRounds$Chooser;LMembraneRounds$Worker;)Z"⟩ ⟨"", "", ""⟩) (cond (Nat.beq k 108) ⟨"MembraneRounds$Judge", "keep", "(LMembraneRounds$Configuration;)Z"⟩ ⟨"", "", ""⟩))) (cond (Nat.blt k 111) (cond (Nat.blt k 110) (cond (Nat.beq k 109) ⟨"MembraneRounds$Rule", "<init>", "(I)V"⟩ ⟨"", "", ""⟩) (cond (Nat.beq k 110) ⟨"MembraneRounds$Rule", "isOnce", "()Z"⟩ ⟨"", "", ""⟩)) (cond (Nat.blt k 112) (cond (Nat.beq k 111) ⟨"MembraneRounds$Rule", "mostUses", "(JZ)I"⟩ ⟨"", "", ""⟩) (cond (Nat.beq k 112) ⟨"MembraneRounds$RuleBook", "<init>", "()V"⟩ ⟨"", "", ""⟩)))) (cond (Nat.blt k 117) (cond (Nat.blt k 115) (cond (Nat.blt k 114) (cond (Nat.beq k 113) ⟨"MembraneRounds$RuleBook", "add", "(IJJJ)I"⟩ ⟨"", "", ""⟩) (cond (Nat.beq k 114) ⟨"MembraneRounds$Scribe", "<init>", "()V"⟩ ⟨"", "", ""⟩)) (cond (Nat.blt k 116) (cond (Nat.beq k 115) ⟨"MembraneRounds$Scribe", "character", "(LMembraneRounds$Configuration;I)I"⟩ ⟨"", "", ""⟩) (cond (Nat.beq k 116) ⟨"MembraneRounds$Scribe", "writeMembrane", "(LMembraneRounds$Configuration;II)V"⟩ ⟨"", "", ""⟩))) (cond (Nat.blt k 119) (cond (Nat.blt k 118) (cond (Nat.beq k 117) ⟨"MembraneRounds$Scribe", "add", "(C)V"⟩ ⟨"", "", ""⟩) (cond (Nat.beq k 118) ⟨"MembraneRounds$Worker", "<init>", "()V"⟩ ⟨"", "", ""⟩)) (cond (Nat.blt k 120) (cond (Nat.beq k 119) ⟨"MembraneRounds$Worker", "carryOut", "(LMembraneRounds$RuleBook;LMembraneRounds$Configuration;[I)Z"⟩ ⟨"", "", ""⟩) (cond (Nat.blt k 121) (cond (Nat.beq k 120) ⟨"MembraneRounds$Worker", "takeAndMake", "(LMembraneRounds$Configuration;ILMembraneRounds$Rule;I)V"⟩ ⟨"", "", ""⟩) (cond (Nat.beq k 121) ⟨"MembraneRounds$Worker", "splitAll", "(LMembraneRounds$Configuration;)Z"⟩ ⟨"", "", ""⟩)))))) (cond (Nat.blt k 131) (cond (Nat.blt k 126) (cond (Nat.blt k 124) (cond (Nat.blt k 123) (cond (Nat.beq k 122) ⟨"MembraneRounds$Worker", "meltAll", "(LMembraneRounds$Configuration;)V"⟩ ⟨"", "", ""⟩) (cond (Nat.beq k 123) ⟨"MembraneRounds$Worker", "melt", "(LMembraneRounds$Configuration;I)V"⟩ ⟨"", "", ""⟩)) (cond (Nat.blt k 125) (cond (Nat.beq k 124) ⟨"MembraneRoundsLaw", "clear", "(LMembraneRounds;I)I"⟩ ⟨"", "", ""⟩) (cond (Nat.beq k 125) ⟨"MembraneRoundsLaw", "membrane", "(LMembraneRounds;II[J)I"⟩ ⟨"", "", ""⟩))) (cond (Nat.blt k 128) (cond (Nat.blt k 127) (cond (Nat.beq k 126) ⟨"MembraneRoundsLaw", "put", "(LMembraneRounds;II)I"⟩ ⟨"", "", ""⟩) (cond (Nat.beq k 127) ⟨"MembraneRoundsLaw", "rule", "(LMembraneRounds;IIII[J)I"⟩ ⟨"", "", ""⟩)) (cond (Nat.blt k 129) (cond (Nat.beq k 128) ⟨"MembraneRoundsLaw", "into", "(LMembraneRounds;III)I"⟩ ⟨"", "", ""⟩) (cond (Nat.blt k 130) (cond (Nat.beq k 129) ⟨"MembraneRoundsLaw", "dissolve", "(LMembraneRounds;I)I"⟩ ⟨"", "", ""⟩) (cond (Nat.beq k 130) ⟨"MembraneRoundsLaw", "divide", "(LMembraneRounds;II)I"⟩ ⟨"", "", ""⟩))))) (cond (Nat.blt k 135) (cond (Nat.blt k 133) (cond (Nat.blt k 132) (cond (Nat.beq k 131) ⟨"MembraneRoundsLaw", "round", "(LMembraneRounds;[J)I"⟩ ⟨"", "", ""⟩) (cond (Nat.beq k 132) ⟨"MembraneRoundsLaw", "uses", "(LMembraneRounds;II[J)I"⟩ ⟨"", "", ""⟩)) (cond (Nat.blt k 134) (cond (Nat.beq k 133) ⟨"MembraneRoundsLaw", "choices", "(LMembraneRounds;I[J)I"⟩ ⟨"", "", ""⟩) (cond (Nat.beq k 134) ⟨"MembraneRoundsLaw", "at", "(LMembraneRounds;II[J)I"⟩ ⟨"", "", ""⟩))) (cond (Nat.blt k 137) (cond (Nat.blt k 136) (cond (Nat.beq k 135) ⟨"MembraneRoundsLaw", "outside", "(LMembraneRounds;I[J)I"⟩ ⟨"", "", ""⟩) (cond (Nat.beq k 136) ⟨"MembraneRoundsLaw", "outcomes", "(LMembraneRounds;I[J)I"⟩ ⟨"", "", ""⟩)) (cond (Nat.blt k 138) (cond (Nat.beq k 137) ⟨"MembraneRoundsLaw", "outcome", "(LMembraneRounds;III[J)I"⟩ ⟨"", "", ""⟩) (cond (Nat.blt k 139) (cond (Nat.beq k 138) ⟨"MembraneRoundsLaw", "adopt", "(LMembraneRounds;I)I"⟩ ⟨"", "", ""⟩) (cond (Nat.beq k 139) ⟨"MembraneRoundsLaw", "law", "([I)Z"⟩ ⟨"", "", ""⟩))))))))
def pCd : Nat → ByteArray := fun k => cond (Nat.blt k 70) (cond (Nat.blt k 35) (cond (Nat.blt k 17) (cond (Nat.blt k 8) (cond (Nat.blt k 4) (cond (Nat.blt k 2) (cond (Nat.blt k 1) (cond (Nat.beq k 0) prog_1_method_1_code ⟨#[]⟩) (cond (Nat.beq k 1) prog_1_method_2_code ⟨#[]⟩)) (cond (Nat.blt k 3) (cond (Nat.beq k 2) prog_1_method_3_code ⟨#[]⟩) (cond (Nat.beq k 3) prog_1_method_4_code ⟨#[]⟩))) (cond (Nat.blt k 6) (cond (Nat.blt k 5) (cond (Nat.beq k 4) prog_1_method_5_code ⟨#[]⟩) (cond (Nat.beq k 5) prog_1_method_6_code ⟨#[]⟩)) (cond (Nat.blt k 7) (cond (Nat.beq k 6) prog_1_method_7_code ⟨#[]⟩) (cond (Nat.beq k 7) prog_1_method_8_code ⟨#[]⟩)))) (cond (Nat.blt k 12) (cond (Nat.blt k 10) (cond (Nat.blt k 9) (cond (Nat.beq k 8) prog_1_method_9_code ⟨#[]⟩) (cond (Nat.beq k 9) prog_1_method_10_code ⟨#[]⟩)) (cond (Nat.blt k 11) (cond (Nat.beq k 10) prog_1_method_11_code ⟨#[]⟩) (cond (Nat.beq k 11) prog_1_method_12_code ⟨#[]⟩))) (cond (Nat.blt k 14) (cond (Nat.blt k 13) (cond (Nat.beq k 12) prog_1_method_13_code ⟨#[]⟩) (cond (Nat.beq k 13) prog_1_method_14_code ⟨#[]⟩)) (cond (Nat.blt k 15) (cond (Nat.beq k 14) prog_1_method_15_code ⟨#[]⟩) (cond (Nat.blt k 16) (cond (Nat.beq k 15) prog_1_method_16_code ⟨#[]⟩) (cond (Nat.beq k 16) prog_1_method_17_code ⟨#[]⟩)))))) (cond (Nat.blt k 26) (cond (Nat.blt k 21) (cond (Nat.blt k 19) (cond (Nat.blt k 18) (cond (Nat.beq k 17) prog_1_method_18_code ⟨#[]⟩) (cond (Nat.beq k 18) prog_1_method_19_code ⟨#[]⟩)) (cond (Nat.blt k 20) (cond (Nat.beq k 19) prog_1_method_20_code ⟨#[]⟩) (cond (Nat.beq k 20) prog_1_method_21_code ⟨#[]⟩))) (cond (Nat.blt k 23) (cond (Nat.blt k 22) (cond (Nat.beq k 21) prog_1_method_22_code ⟨#[]⟩) (cond (Nat.beq k 22) prog_1_method_23_code ⟨#[]⟩)) (cond (Nat.blt k 24) (cond (Nat.beq k 23) prog_1_method_24_code ⟨#[]⟩) (cond (Nat.blt k 25) (cond (Nat.beq k 24) prog_1_method_25_code ⟨#[]⟩) (cond (Nat.beq k 25) prog_1_method_26_code ⟨#[]⟩))))) (cond (Nat.blt k 30) (cond (Nat.blt k 28) (cond (Nat.blt k 27) (cond (Nat.beq k 26) prog_12_method_1_code ⟨#[]⟩) (cond (Nat.beq k 27) prog_12_method_2_code ⟨#[]⟩)) (cond (Nat.blt k 29) (cond (Nat.beq k 28) prog_12_method_3_code ⟨#[]⟩) (cond (Nat.beq k 29) prog_12_method_4_code ⟨#[]⟩))) (cond (Nat.blt k 32) (cond (Nat.blt k 31) (cond (Nat.beq k 30) prog_12_method_5_code ⟨#[]⟩) (cond (Nat.beq k 31) prog_12_method_6_code ⟨#[]⟩)) (cond (Nat.blt k 33) (cond (Nat.beq k 32) prog_12_method_7_code ⟨#[]⟩) (cond (Nat.blt k 34) (cond (Nat.beq k 33) prog_12_method_8_code ⟨#[]⟩) (cond (Nat.beq k 34) prog_12_method_9_code ⟨#[]⟩))))))) (cond (Nat.blt k 52) (cond (Nat.blt k 43) (cond (Nat.blt k 39) (cond (Nat.blt k 37) (cond (Nat.blt k 36) (cond (Nat.beq k 35) prog_12_method_10_code ⟨#[]⟩) (cond (Nat.beq k 36) prog_12_method_11_code ⟨#[]⟩)) (cond (Nat.blt k 38) (cond (Nat.beq k 37) prog_12_method_12_code ⟨#[]⟩) (cond (Nat.beq k 38) prog_12_method_13_code ⟨#[]⟩))) (cond (Nat.blt k 41) (cond (Nat.blt k 40) (cond (Nat.beq k 39) prog_12_method_14_code ⟨#[]⟩) (cond (Nat.beq k 40) prog_12_method_15_code ⟨#[]⟩)) (cond (Nat.blt k 42) (cond (Nat.beq k 41) prog_12_method_16_code ⟨#[]⟩) (cond (Nat.beq k 42) prog_12_method_17_code ⟨#[]⟩)))) (cond (Nat.blt k 47) (cond (Nat.blt k 45) (cond (Nat.blt k 44) (cond (Nat.beq k 43) prog_12_method_18_code ⟨#[]⟩) (cond (Nat.beq k 44) prog_12_method_19_code ⟨#[]⟩)) (cond (Nat.blt k 46) (cond (Nat.beq k 45) prog_12_method_20_code ⟨#[]⟩) (cond (Nat.beq k 46) prog_12_method_21_code ⟨#[]⟩))) (cond (Nat.blt k 49) (cond (Nat.blt k 48) (cond (Nat.beq k 47) prog_12_method_22_code ⟨#[]⟩) (cond (Nat.beq k 48) prog_12_method_23_code ⟨#[]⟩)) (cond (Nat.blt k 50) (cond (Nat.beq k 49) prog_12_method_24_code ⟨#[]⟩) (cond (Nat.blt k 51) (cond (Nat.beq k 50) prog_12_method_25_code ⟨#[]⟩) (cond (Nat.beq k 51) prog_12_method_26_code ⟨#[]⟩)))))) (cond (Nat.blt k 61) (cond (Nat.blt k 56) (cond (Nat.blt k 54) (cond (Nat.blt k 53) (cond (Nat.beq k 52) prog_12_method_27_code ⟨#[]⟩) (cond (Nat.beq k 53) prog_12_method_28_code ⟨#[]⟩)) (cond (Nat.blt k 55) (cond (Nat.beq k 54) prog_12_method_29_code ⟨#[]⟩) (cond (Nat.beq k 55) prog_12_method_30_code ⟨#[]⟩))) (cond (Nat.blt k 58) (cond (Nat.blt k 57) (cond (Nat.beq k 56) prog_12_method_31_code ⟨#[]⟩) (cond (Nat.beq k 57) prog_12_method_32_code ⟨#[]⟩)) (cond (Nat.blt k 59) (cond (Nat.beq k 58) prog_12_method_33_code ⟨#[]⟩) (cond (Nat.blt k 60) (cond (Nat.beq k 59) prog_12_method_34_code ⟨#[]⟩) (cond (Nat.beq k 60) prog_12_method_35_code ⟨#[]⟩))))) (cond (Nat.blt k 65) (cond (Nat.blt k 63) (cond (Nat.blt k 62) (cond (Nat.beq k 61) prog_12_method_36_code ⟨#[]⟩) (cond (Nat.beq k 62) prog_12_method_37_code ⟨#[]⟩)) (cond (Nat.blt k 64) (cond (Nat.beq k 63) prog_12_method_38_code ⟨#[]⟩) (cond (Nat.beq k 64) prog_12_method_39_code ⟨#[]⟩))) (cond (Nat.blt k 67) (cond (Nat.blt k 66) (cond (Nat.beq k 65) prog_12_method_40_code ⟨#[]⟩) (cond (Nat.beq k 66) prog_12_method_41_code ⟨#[]⟩)) (cond (Nat.blt k 68) (cond (Nat.beq k 67) prog_12_method_42_code ⟨#[]⟩) (cond (Nat.blt k 69) (cond (Nat.beq k 68) prog_12_method_43_code ⟨#[]⟩) (cond (Nat.beq k 69) prog_12_method_44_code ⟨#[]⟩)))))))) (cond (Nat.blt k 105) (cond (Nat.blt k 87) (cond (Nat.blt k 78) (cond (Nat.blt k 74) (cond (Nat.blt k 72) (cond (Nat.blt k 71) (cond (Nat.beq k 70) prog_12_method_45_code ⟨#[]⟩) (cond (Nat.beq k 71) prog_12_method_46_code ⟨#[]⟩)) (cond (Nat.blt k 73) (cond (Nat.beq k 72) prog_12_method_47_code ⟨#[]⟩) (cond (Nat.beq k 73) prog_12_method_48_code ⟨#[]⟩))) (cond (Nat.blt k 76) (cond (Nat.blt k 75) (cond (Nat.beq k 74) prog_12_method_49_code ⟨#[]⟩) (cond (Nat.beq k 75) prog_12_method_50_code ⟨#[]⟩)) (cond (Nat.blt k 77) (cond (Nat.beq k 76) prog_2_method_2_code ⟨#[]⟩) (cond (Nat.beq k 77) prog_2_method_3_code ⟨#[]⟩)))) (cond (Nat.blt k 82) (cond (Nat.blt k 80) (cond (Nat.blt k 79) (cond (Nat.beq k 78) prog_2_method_4_code ⟨#[]⟩) (cond (Nat.beq k 79) prog_3_method_1_code ⟨#[]⟩)) (cond (Nat.blt k 81) (cond (Nat.beq k 80) prog_3_method_2_code ⟨#[]⟩) (cond (Nat.beq k 81) prog_3_method_3_code ⟨#[]⟩))) (cond (Nat.blt k 84) (cond (Nat.blt k 83) (cond (Nat.beq k 82) prog_3_method_4_code ⟨#[]⟩) (cond (Nat.beq k 83) prog_3_method_5_code ⟨#[]⟩)) (cond (Nat.blt k 85) (cond (Nat.beq k 84) prog_3_method_6_code ⟨#[]⟩) (cond (Nat.blt k 86) (cond (Nat.beq k 85) prog_3_method_7_code ⟨#[]⟩) (cond (Nat.beq k 86) prog_3_method_8_code ⟨#[]⟩)))))) (cond (Nat.blt k 96) (cond (Nat.blt k 91) (cond (Nat.blt k 89) (cond (Nat.blt k 88) (cond (Nat.beq k 87) prog_3_method_9_code ⟨#[]⟩) (cond (Nat.beq k 88) prog_3_method_10_code ⟨#[]⟩)) (cond (Nat.blt k 90) (cond (Nat.beq k 89) prog_4_method_1_code ⟨#[]⟩) (cond (Nat.beq k 90) prog_4_method_2_code ⟨#[]⟩))) (cond (Nat.blt k 93) (cond (Nat.blt k 92) (cond (Nat.beq k 91) prog_4_method_3_code ⟨#[]⟩) (cond (Nat.beq k 92) prog_4_method_4_code ⟨#[]⟩)) (cond (Nat.blt k 94) (cond (Nat.beq k 93) prog_4_method_5_code ⟨#[]⟩) (cond (Nat.blt k 95) (cond (Nat.beq k 94) prog_4_method_6_code ⟨#[]⟩) (cond (Nat.beq k 95) prog_4_method_7_code ⟨#[]⟩))))) (cond (Nat.blt k 100) (cond (Nat.blt k 98) (cond (Nat.blt k 97) (cond (Nat.beq k 96) prog_4_method_8_code ⟨#[]⟩) (cond (Nat.beq k 97) prog_4_method_9_code ⟨#[]⟩)) (cond (Nat.blt k 99) (cond (Nat.beq k 98) prog_4_method_10_code ⟨#[]⟩) (cond (Nat.beq k 99) prog_4_method_11_code ⟨#[]⟩))) (cond (Nat.blt k 102) (cond (Nat.blt k 101) (cond (Nat.beq k 100) prog_5_method_2_code ⟨#[]⟩) (cond (Nat.beq k 101) prog_5_method_3_code ⟨#[]⟩)) (cond (Nat.blt k 103) (cond (Nat.beq k 102) prog_5_method_4_code ⟨#[]⟩) (cond (Nat.blt k 104) (cond (Nat.beq k 103) prog_5_method_5_code ⟨#[]⟩) (cond (Nat.beq k 104) prog_5_method_6_code ⟨#[]⟩))))))) (cond (Nat.blt k 122) (cond (Nat.blt k 113) (cond (Nat.blt k 109) (cond (Nat.blt k 107) (cond (Nat.blt k 106) (cond (Nat.beq k 105) prog_6_method_1_code ⟨#[]⟩) (cond (Nat.beq k 106) prog_6_method_2_code ⟨#[]⟩)) (cond (Nat.blt k 108) (cond (Nat.beq k 107) prog_6_method_3_code ⟨#[]⟩) (cond (Nat.beq k 108) prog_6_method_4_code ⟨#[]⟩))) (cond (Nat.blt k 111) (cond (Nat.blt k 110) (cond (Nat.beq k 109) prog_7_method_1_code ⟨#[]⟩) (cond (Nat.beq k 110) prog_7_method_2_code ⟨#[]⟩)) (cond (Nat.blt k 112) (cond (Nat.beq k 111) prog_7_method_3_code ⟨#[]⟩) (cond (Nat.beq k 112) prog_8_method_1_code ⟨#[]⟩)))) (cond (Nat.blt k 117) (cond (Nat.blt k 115) (cond (Nat.blt k 114) (cond (Nat.beq k 113) prog_8_method_2_code ⟨#[]⟩) (cond (Nat.beq k 114) prog_9_method_1_code ⟨#[]⟩)) (cond (Nat.blt k 116) (cond (Nat.beq k 115) prog_9_method_2_code ⟨#[]⟩) (cond (Nat.beq k 116) prog_9_method_3_code ⟨#[]⟩))) (cond (Nat.blt k 119) (cond (Nat.blt k 118) (cond (Nat.beq k 117) prog_9_method_4_code ⟨#[]⟩) (cond (Nat.beq k 118) prog_10_method_1_code ⟨#[]⟩)) (cond (Nat.blt k 120) (cond (Nat.beq k 119) prog_10_method_2_code ⟨#[]⟩) (cond (Nat.blt k 121) (cond (Nat.beq k 120) prog_10_method_3_code ⟨#[]⟩) (cond (Nat.beq k 121) prog_10_method_4_code ⟨#[]⟩)))))) (cond (Nat.blt k 131) (cond (Nat.blt k 126) (cond (Nat.blt k 124) (cond (Nat.blt k 123) (cond (Nat.beq k 122) prog_10_method_5_code ⟨#[]⟩) (cond (Nat.beq k 123) prog_10_method_6_code ⟨#[]⟩)) (cond (Nat.blt k 125) (cond (Nat.beq k 124) method_3_code ⟨#[]⟩) (cond (Nat.beq k 125) method_4_code ⟨#[]⟩))) (cond (Nat.blt k 128) (cond (Nat.blt k 127) (cond (Nat.beq k 126) method_5_code ⟨#[]⟩) (cond (Nat.beq k 127) method_6_code ⟨#[]⟩)) (cond (Nat.blt k 129) (cond (Nat.beq k 128) method_7_code ⟨#[]⟩) (cond (Nat.blt k 130) (cond (Nat.beq k 129) method_8_code ⟨#[]⟩) (cond (Nat.beq k 130) method_9_code ⟨#[]⟩))))) (cond (Nat.blt k 135) (cond (Nat.blt k 133) (cond (Nat.blt k 132) (cond (Nat.beq k 131) method_10_code ⟨#[]⟩) (cond (Nat.beq k 132) method_11_code ⟨#[]⟩)) (cond (Nat.blt k 134) (cond (Nat.beq k 133) method_12_code ⟨#[]⟩) (cond (Nat.beq k 134) method_13_code ⟨#[]⟩))) (cond (Nat.blt k 137) (cond (Nat.blt k 136) (cond (Nat.beq k 135) method_14_code ⟨#[]⟩) (cond (Nat.beq k 136) method_15_code ⟨#[]⟩)) (cond (Nat.blt k 138) (cond (Nat.beq k 137) method_16_code ⟨#[]⟩) (cond (Nat.blt k 139) (cond (Nat.beq k 138) method_17_code ⟨#[]⟩) (cond (Nat.beq k 139) code ⟨#[]⟩))))))))
def pTy : List FieldType := [.int, .long, .char, .object "MembraneRounds$Rule", .object "MembraneRounds$Configuration"]
def pN : eW := (pCn, pMn, pCd, pTy)
def pT_0 : u_T := fun j => cond (Nat.blt j 4) (cond (Nat.blt j 2) (cond (Nat.blt j 1) (cond (Nat.beq j 0) ("MembraneRounds", "book", "LMembraneRounds$RuleBook;", true) ("", "", "", false)) (cond (Nat.beq j 1) ("MembraneRounds", "chooser", "LMembraneRounds$Chooser;", true) ("", "", "", false))) (cond (Nat.blt j 3) (cond (Nat.beq j 2) ("MembraneRounds", "worker", "LMembraneRounds$Worker;", true) ("", "", "", false)) (cond (Nat.beq j 3) ("MembraneRounds", "judge", "LMembraneRounds$Judge;", true) ("", "", "", false)))) (cond (Nat.blt j 6) (cond (Nat.blt j 5) (cond (Nat.beq j 4) ("MembraneRounds", "scribe", "LMembraneRounds$Scribe;", true) ("", "", "", false)) (cond (Nat.beq j 5) ("MembraneRounds", "chosen", "[I", true) ("", "", "", false))) (cond (Nat.blt j 7) (cond (Nat.beq j 6) ("MembraneRounds", "now", "LMembraneRounds$Configuration;", false) ("", "", "", false)) (cond (Nat.beq j 7) ("MembraneRounds", "trial", "LMembraneRounds$Configuration;", false) ("", "", "", false))))
def pT_1 : u_T := fun j => cond (Nat.blt j 13) (cond (Nat.blt j 6) (cond (Nat.blt j 3) (cond (Nat.blt j 1) (cond (Nat.beq j 0) ("MembraneRoundsModel", "code", "I", false) ("", "", "", false)) (cond (Nat.blt j 2) (cond (Nat.beq j 1) ("MembraneRoundsModel", "rules", "I", false) ("", "", "", false)) (cond (Nat.beq j 2) ("MembraneRoundsModel", "labels", "[I", true) ("", "", "", false)))) (cond (Nat.blt j 4) (cond (Nat.beq j 3) ("MembraneRoundsModel", "lefts", "[I", true) ("", "", "", false)) (cond (Nat.blt j 5) (cond (Nat.beq j 4) ("MembraneRoundsModel", "heres", "[I", true) ("", "", "", false)) (cond (Nat.beq j 5) ("MembraneRoundsModel", "outs", "[I", true) ("", "", "", false))))) (cond (Nat.blt j 9) (cond (Nat.blt j 7) (cond (Nat.beq j 6) ("MembraneRoundsModel", "intos", "[I", true) ("", "", "", false)) (cond (Nat.blt j 8) (cond (Nat.beq j 7) ("MembraneRoundsModel", "targets", "[I", true) ("", "", "", false)) (cond (Nat.beq j 8) ("MembraneRoundsModel", "acts", "[I", true) ("", "", "", false)))) (cond (Nat.blt j 11) (cond (Nat.blt j 10) (cond (Nat.beq j 9) ("MembraneRoundsModel", "others", "[I", true) ("", "", "", false)) (cond (Nat.beq j 10) ("MembraneRoundsModel", "cells", "[I", true) ("", "", "", false))) (cond (Nat.blt j 12) (cond (Nat.beq j 11) ("MembraneRoundsModel", "found", "I", false) ("", "", "", false)) (cond (Nat.beq j 12) ("MembraneRoundsModel", "more", "I", false) ("", "", "", false)))))) (cond (Nat.blt j 19) (cond (Nat.blt j 16) (cond (Nat.blt j 14) (cond (Nat.beq j 13) ("MembraneRoundsModel", "rest", "[I", true) ("", "", "", false)) (cond (Nat.blt j 15) (cond (Nat.beq j 14) ("MembraneRoundsModel", "uses", "[I", true) ("", "", "", false)) (cond (Nat.beq j 15) ("MembraneRoundsModel", "acted", "Z", false) ("", "", "", false)))) (cond (Nat.blt j 17) (cond (Nat.beq j 16) ("MembraneRoundsModel", "list", "[I", true) ("", "", "", false)) (cond (Nat.blt j 18) (cond (Nat.beq j 17) ("MembraneRoundsModel", "listed", "I", false) ("", "", "", false)) (cond (Nat.beq j 18) ("MembraneRoundsModel", "begins", "[I", true) ("", "", "", false))))) (cond (Nat.blt j 22) (cond (Nat.blt j 20) (cond (Nat.beq j 19) ("MembraneRoundsModel", "many", "[I", true) ("", "", "", false)) (cond (Nat.blt j 21) (cond (Nat.beq j 20) ("MembraneRoundsModel", "digits", "[I", true) ("", "", "", false)) (cond (Nat.beq j 21) ("MembraneRoundsModel", "chosen", "[I", true) ("", "", "", false)))) (cond (Nat.blt j 24) (cond (Nat.blt j 23) (cond (Nat.beq j 22) ("MembraneRoundsModel", "length", "I", false) ("", "", "", false)) (cond (Nat.beq j 23) ("MembraneRoundsModel", "wanted", "I", false) ("", "", "", false))) (cond (Nat.blt j 25) (cond (Nat.beq j 24) ("MembraneRoundsModel", "letter", "I", false) ("", "", "", false)) (cond (Nat.beq j 25) ("MembraneRoundsModel", "open", "[I", true) ("", "", "", false))))))
def pT_2 : u_T := fun j => cond (Nat.blt j 3) (cond (Nat.blt j 1) (cond (Nat.beq j 0) ("MembraneRounds$Chooser", "open", "[LMembraneRounds$Rule;", true) ("", "", "", false)) (cond (Nat.blt j 2) (cond (Nat.beq j 1) ("MembraneRounds$Chooser", "opens", "I", false) ("", "", "", false)) (cond (Nat.beq j 2) ("MembraneRounds$Chooser", "row", "[I", true) ("", "", "", false)))) (cond (Nat.blt j 5) (cond (Nat.blt j 4) (cond (Nat.beq j 3) ("MembraneRounds$Chooser", "start", "I", false) ("", "", "", false)) (cond (Nat.beq j 4) ("MembraneRounds$Chooser", "end", "I", false) ("", "", "", false))) (cond (Nat.blt j 6) (cond (Nat.beq j 5) ("MembraneRounds$Chooser", "starts", "[I", true) ("", "", "", false)) (cond (Nat.beq j 6) ("MembraneRounds$Chooser", "places", "[I", true) ("", "", "", false))))
def pT_3 : u_T := fun j => cond (Nat.blt j 1) (cond (Nat.beq j 0) ("MembraneRounds$Configuration", "labels", "[I", true) ("", "", "", false)) (cond (Nat.blt j 2) (cond (Nat.beq j 1) ("MembraneRounds$Configuration", "parents", "[I", true) ("", "", "", false)) (cond (Nat.beq j 2) ("MembraneRounds$Configuration", "heaps", "[J", true) ("", "", "", false)))
def pT_4 : u_T := fun j => cond (Nat.blt j 2) (cond (Nat.blt j 1) (cond (Nat.beq j 0) ("MembraneRounds$Judge", "found", "[LMembraneRounds$Configuration;", false) ("", "", "", false)) (cond (Nat.beq j 1) ("MembraneRounds$Judge", "count", "I", false) ("", "", "", false))) (cond (Nat.blt j 3) (cond (Nat.beq j 2) ("MembraneRounds$Judge", "before", "[LMembraneRounds$Configuration;", false) ("", "", "", false)) (cond (Nat.blt j 4) (cond (Nat.beq j 3) ("MembraneRounds$Judge", "trial", "LMembraneRounds$Configuration;", true) ("", "", "", false)) (cond (Nat.beq j 4) ("MembraneRounds$Judge", "chosen", "[I", true) ("", "", "", false))))
def pT_5 : u_T := fun j => cond (Nat.blt j 5) (cond (Nat.blt j 2) (cond (Nat.blt j 1) (cond (Nat.beq j 0) ("MembraneRounds$Rule", "number", "I", true) ("", "", "", false)) (cond (Nat.beq j 1) ("MembraneRounds$Rule", "label", "I", false) ("", "", "", false))) (cond (Nat.blt j 3) (cond (Nat.beq j 2) ("MembraneRounds$Rule", "left", "J", false) ("", "", "", false)) (cond (Nat.blt j 4) (cond (Nat.beq j 3) ("MembraneRounds$Rule", "leftKinds", "J", false) ("", "", "", false)) (cond (Nat.beq j 4) ("MembraneRounds$Rule", "here", "J", false) ("", "", "", false))))) (cond (Nat.blt j 8) (cond (Nat.blt j 6) (cond (Nat.beq j 5) ("MembraneRounds$Rule", "out", "J", false) ("", "", "", false)) (cond (Nat.blt j 7) (cond (Nat.beq j 6) ("MembraneRounds$Rule", "into", "J", false) ("", "", "", false)) (cond (Nat.beq j 7) ("MembraneRounds$Rule", "intoLabel", "I", false) ("", "", "", false)))) (cond (Nat.blt j 9) (cond (Nat.beq j 8) ("MembraneRounds$Rule", "dissolves", "Z", false) ("", "", "", false)) (cond (Nat.blt j 10) (cond (Nat.beq j 9) ("MembraneRounds$Rule", "divides", "Z", false) ("", "", "", false)) (cond (Nat.beq j 10) ("MembraneRounds$Rule", "other", "J", false) ("", "", "", false)))))
def pT_6 : u_T := fun j => cond (Nat.blt j 1) (cond (Nat.beq j 0) ("MembraneRounds$RuleBook", "rules", "[LMembraneRounds$Rule;", true) ("", "", "", false)) (cond (Nat.beq j 1) ("MembraneRounds$RuleBook", "count", "I", false) ("", "", "", false))
def pT_7 : u_T := fun j => cond (Nat.blt j 1) (cond (Nat.beq j 0) ("MembraneRounds$Scribe", "row", "[C", true) ("", "", "", false)) (cond (Nat.beq j 1) ("MembraneRounds$Scribe", "length", "I", false) ("", "", "", false))
def pT_8 : u_T := fun j => cond (Nat.beq j 0) ("MembraneRounds$Worker", "onceUsed", "[LMembraneRounds$Rule;", true) ("", "", "", false)
def pT_9 : u_T := fun j => ("", "", "", false)
def pT_10 : u_T := fun j => ("", "", "", false)
def pT_11 : u_T := fun j => ("", "", "", false)
def pCL : List vw_C := [("MembraneRounds", pT_0, 8), ("MembraneRoundsModel", pT_1, 26), ("MembraneRounds$Chooser", pT_2, 7), ("MembraneRounds$Configuration", pT_3, 3), ("MembraneRounds$Judge", pT_4, 5), ("MembraneRounds$Rule", pT_5, 11), ("MembraneRounds$RuleBook", pT_6, 2), ("MembraneRounds$Scribe", pT_7, 2), ("MembraneRounds$Worker", pT_8, 1), ("java/lang/IllegalArgumentException", pT_9, 0), ("java/lang/IndexOutOfBoundsException", pT_10, 0), ("java/lang/IllegalStateException", pT_11, 0)]
end
section
theorem eB1_some {α : Type} {o n : Nat} {x : Option α} {v : α} (h : eB1 o n x = some v) : o < n ∧ x = some v := by
  unfold eB1 at h
  cases hb : Nat.blt o n with
  | true => rw [hb] at h; exact ⟨Nat.le_of_ble_eq_true hb, h⟩
  | false => rw [hb] at h; cases h
theorem eB2_some {α : Type} {o i : Nat} {x : Option α} {v : α} (h : eB2 o i x = some v) : o < 16 ∧ i < 512 ∧ x = some v := by
  unfold eB2 at h
  cases hb : (Nat.blt o 16 && Nat.blt i 512) with
  | true =>
    rw [hb] at h
    obtain ⟨h1, h2⟩ := Bool.and_eq_true_iff.mp hb
    exact ⟨Nat.le_of_ble_eq_true h1, Nat.le_of_ble_eq_true h2, h⟩
  | false => rw [hb] at h; cases h
def pOkI (cd : ByteArray) (f : Nat → Option (Instr × Nat)) (pc : Nat) : Bool := match f pc with
  | none => true
  | some (i, len) => decide (decode cd pc = .ok (i, len)) && (decide (eIl i = 0) || decide (len = eIl i))
theorem pOkI_use {cd : ByteArray} {f : Nat → Option (Instr × Nat)} {pc : Nat} {i : Instr} {len : Nat} (h : pOkI cd f pc = true) (hf : f pc = some (i, len)) : decode cd pc = .ok (i, len) ∧ (eIl i = 0 ∨ len = eIl i) := by
  unfold pOkI at h
  rw [hf] at h
  simpa using h
def pQI (k : Nat) : Prop := ∀ pc i len, pIns k pc = some (i, len) → decode (pCd k) pc = .ok (i, len) ∧ (eIl i = 0 ∨ len = eIl i)
theorem pO_0_0 : ∀ d, d < 98 → pOkI prog_1_method_1_code pI_0 (0 + d) = true := by decide +kernel
theorem pG_0 : pQI 0 := fun pc i len h => by
    have hlt : pc < 98 := (eB1_some (show eB1 pc 98 _ = some _ from h)).1
    show decode prog_1_method_1_code pc = _ ∧ _
    have hz := pO_0_0 (pc - 0) (by omega)
    rw [show 0 + (pc - 0) = pc by omega] at hz
    exact pOkI_use hz h
theorem pO_1_0 : ∀ d, d < 29 → pOkI prog_1_method_2_code pI_1 (0 + d) = true := by decide +kernel
theorem pG_1 : pQI 1 := fun pc i len h => by
    have hlt : pc < 29 := (eB1_some (show eB1 pc 29 _ = some _ from h)).1
    show decode prog_1_method_2_code pc = _ ∧ _
    have hz := pO_1_0 (pc - 0) (by omega)
    rw [show 0 + (pc - 0) = pc by omega] at hz
    exact pOkI_use hz h
theorem pO_2_0 : ∀ d, d < 45 → pOkI prog_1_method_3_code pI_2 (0 + d) = true := by decide +kernel
theorem pG_2 : pQI 2 := fun pc i len h => by
    have hlt : pc < 45 := (eB1_some (show eB1 pc 45 _ = some _ from h)).1
    show decode prog_1_method_3_code pc = _ ∧ _
    have hz := pO_2_0 (pc - 0) (by omega)
    rw [show 0 + (pc - 0) = pc by omega] at hz
    exact pOkI_use hz h
theorem pO_3_0 : ∀ d, d < 55 → pOkI prog_1_method_4_code pI_3 (0 + d) = true := by decide +kernel
theorem pG_3 : pQI 3 := fun pc i len h => by
    have hlt : pc < 55 := (eB1_some (show eB1 pc 55 _ = some _ from h)).1
    show decode prog_1_method_4_code pc = _ ∧ _
    have hz := pO_3_0 (pc - 0) (by omega)
    rw [show 0 + (pc - 0) = pc by omega] at hz
    exact pOkI_use hz h
theorem pO_4_0 : ∀ d, d < 65 → pOkI prog_1_method_5_code pI_4 (0 + d) = true := by decide +kernel
theorem pG_4 : pQI 4 := fun pc i len h => by
    have hlt : pc < 65 := (eB1_some (show eB1 pc 65 _ = some _ from h)).1
    show decode prog_1_method_5_code pc = _ ∧ _
    have hz := pO_4_0 (pc - 0) (by omega)
    rw [show 0 + (pc - 0) = pc by omega] at hz
    exact pOkI_use hz h
theorem pO_5_0 : ∀ d, d < 47 → pOkI prog_1_method_6_code pI_5 (0 + d) = true := by decide +kernel
theorem pG_5 : pQI 5 := fun pc i len h => by
    have hlt : pc < 47 := (eB1_some (show eB1 pc 47 _ = some _ from h)).1
    show decode prog_1_method_6_code pc = _ ∧ _
    have hz := pO_5_0 (pc - 0) (by omega)
    rw [show 0 + (pc - 0) = pc by omega] at hz
    exact pOkI_use hz h
theorem pO_6_0 : ∀ d, d < 24 → pOkI prog_1_method_7_code pI_6 (0 + d) = true := by decide +kernel
theorem pG_6 : pQI 6 := fun pc i len h => by
    have hlt : pc < 24 := (eB1_some (show eB1 pc 24 _ = some _ from h)).1
    show decode prog_1_method_7_code pc = _ ∧ _
    have hz := pO_6_0 (pc - 0) (by omega)
    rw [show 0 + (pc - 0) = pc by omega] at hz
    exact pOkI_use hz h
theorem pO_7_0 : ∀ d, d < 44 → pOkI prog_1_method_8_code pI_7 (0 + d) = true := by decide +kernel
theorem pG_7 : pQI 7 := fun pc i len h => by
    have hlt : pc < 44 := (eB1_some (show eB1 pc 44 _ = some _ from h)).1
    show decode prog_1_method_8_code pc = _ ∧ _
    have hz := pO_7_0 (pc - 0) (by omega)
    rw [show 0 + (pc - 0) = pc by omega] at hz
    exact pOkI_use hz h
theorem pO_8_0 : ∀ d, d < 113 → pOkI prog_1_method_9_code pI_8 (0 + d) = true := by decide +kernel
theorem pG_8 : pQI 8 := fun pc i len h => by
    have hlt : pc < 113 := (eB1_some (show eB1 pc 113 _ = some _ from h)).1
    show decode prog_1_method_9_code pc = _ ∧ _
    have hz := pO_8_0 (pc - 0) (by omega)
    rw [show 0 + (pc - 0) = pc by omega] at hz
    exact pOkI_use hz h
theorem pO_9_0 : ∀ d, d < 31 → pOkI prog_1_method_10_code pI_9 (0 + d) = true := by decide +kernel
theorem pG_9 : pQI 9 := fun pc i len h => by
    have hlt : pc < 31 := (eB1_some (show eB1 pc 31 _ = some _ from h)).1
    show decode prog_1_method_10_code pc = _ ∧ _
    have hz := pO_9_0 (pc - 0) (by omega)
    rw [show 0 + (pc - 0) = pc by omega] at hz
    exact pOkI_use hz h
theorem pO_10_0 : ∀ d, d < 28 → pOkI prog_1_method_11_code pI_10 (0 + d) = true := by decide +kernel
theorem pG_10 : pQI 10 := fun pc i len h => by
    have hlt : pc < 28 := (eB1_some (show eB1 pc 28 _ = some _ from h)).1
    show decode prog_1_method_11_code pc = _ ∧ _
    have hz := pO_10_0 (pc - 0) (by omega)
    rw [show 0 + (pc - 0) = pc by omega] at hz
    exact pOkI_use hz h
theorem pO_11_0 : ∀ d, d < 79 → pOkI prog_1_method_12_code pI_11 (0 + d) = true := by decide +kernel
theorem pG_11 : pQI 11 := fun pc i len h => by
    have hlt : pc < 79 := (eB1_some (show eB1 pc 79 _ = some _ from h)).1
    show decode prog_1_method_12_code pc = _ ∧ _
    have hz := pO_11_0 (pc - 0) (by omega)
    rw [show 0 + (pc - 0) = pc by omega] at hz
    exact pOkI_use hz h
theorem pO_12_0 : ∀ d, d < 9 → pOkI prog_1_method_13_code pI_12 (0 + d) = true := by decide +kernel
theorem pG_12 : pQI 12 := fun pc i len h => by
    have hlt : pc < 9 := (eB1_some (show eB1 pc 9 _ = some _ from h)).1
    show decode prog_1_method_13_code pc = _ ∧ _
    have hz := pO_12_0 (pc - 0) (by omega)
    rw [show 0 + (pc - 0) = pc by omega] at hz
    exact pOkI_use hz h
theorem pO_13_0 : ∀ d, d < 34 → pOkI prog_1_method_14_code pI_13 (0 + d) = true := by decide +kernel
theorem pG_13 : pQI 13 := fun pc i len h => by
    have hlt : pc < 34 := (eB1_some (show eB1 pc 34 _ = some _ from h)).1
    show decode prog_1_method_14_code pc = _ ∧ _
    have hz := pO_13_0 (pc - 0) (by omega)
    rw [show 0 + (pc - 0) = pc by omega] at hz
    exact pOkI_use hz h
theorem pO_14_0 : ∀ d, d < 76 → pOkI prog_1_method_15_code pI_14 (0 + d) = true := by decide +kernel
theorem pG_14 : pQI 14 := fun pc i len h => by
    have hlt : pc < 76 := (eB1_some (show eB1 pc 76 _ = some _ from h)).1
    show decode prog_1_method_15_code pc = _ ∧ _
    have hz := pO_14_0 (pc - 0) (by omega)
    rw [show 0 + (pc - 0) = pc by omega] at hz
    exact pOkI_use hz h
theorem pO_15_0 : ∀ d, d < 98 → pOkI prog_1_method_16_code pI_15 (0 + d) = true := by decide +kernel
theorem pG_15 : pQI 15 := fun pc i len h => by
    have hlt : pc < 98 := (eB1_some (show eB1 pc 98 _ = some _ from h)).1
    show decode prog_1_method_16_code pc = _ ∧ _
    have hz := pO_15_0 (pc - 0) (by omega)
    rw [show 0 + (pc - 0) = pc by omega] at hz
    exact pOkI_use hz h
theorem pO_16_0 : ∀ d, d < 22 → pOkI prog_1_method_17_code pI_16 (0 + d) = true := by decide +kernel
theorem pG_16 : pQI 16 := fun pc i len h => by
    have hlt : pc < 22 := (eB1_some (show eB1 pc 22 _ = some _ from h)).1
    show decode prog_1_method_17_code pc = _ ∧ _
    have hz := pO_16_0 (pc - 0) (by omega)
    rw [show 0 + (pc - 0) = pc by omega] at hz
    exact pOkI_use hz h
theorem pO_17_0 : ∀ d, d < 13 → pOkI prog_1_method_18_code pI_17 (0 + d) = true := by decide +kernel
theorem pG_17 : pQI 17 := fun pc i len h => by
    have hlt : pc < 13 := (eB1_some (show eB1 pc 13 _ = some _ from h)).1
    show decode prog_1_method_18_code pc = _ ∧ _
    have hz := pO_17_0 (pc - 0) (by omega)
    rw [show 0 + (pc - 0) = pc by omega] at hz
    exact pOkI_use hz h
theorem pO_18_0 : ∀ d, d < 22 → pOkI prog_1_method_19_code pI_18 (0 + d) = true := by decide +kernel
theorem pG_18 : pQI 18 := fun pc i len h => by
    have hlt : pc < 22 := (eB1_some (show eB1 pc 22 _ = some _ from h)).1
    show decode prog_1_method_19_code pc = _ ∧ _
    have hz := pO_18_0 (pc - 0) (by omega)
    rw [show 0 + (pc - 0) = pc by omega] at hz
    exact pOkI_use hz h
theorem pO_19_0 : ∀ d, d < 26 → pOkI prog_1_method_20_code pI_19 (0 + d) = true := by decide +kernel
theorem pG_19 : pQI 19 := fun pc i len h => by
    have hlt : pc < 26 := (eB1_some (show eB1 pc 26 _ = some _ from h)).1
    show decode prog_1_method_20_code pc = _ ∧ _
    have hz := pO_19_0 (pc - 0) (by omega)
    rw [show 0 + (pc - 0) = pc by omega] at hz
    exact pOkI_use hz h
theorem pO_20_0 : ∀ d, d < 26 → pOkI prog_1_method_21_code pI_20 (0 + d) = true := by decide +kernel
theorem pG_20 : pQI 20 := fun pc i len h => by
    have hlt : pc < 26 := (eB1_some (show eB1 pc 26 _ = some _ from h)).1
    show decode prog_1_method_21_code pc = _ ∧ _
    have hz := pO_20_0 (pc - 0) (by omega)
    rw [show 0 + (pc - 0) = pc by omega] at hz
    exact pOkI_use hz h
theorem pO_21_0 : ∀ d, d < 20 → pOkI prog_1_method_22_code pI_21 (0 + d) = true := by decide +kernel
theorem pG_21 : pQI 21 := fun pc i len h => by
    have hlt : pc < 20 := (eB1_some (show eB1 pc 20 _ = some _ from h)).1
    show decode prog_1_method_22_code pc = _ ∧ _
    have hz := pO_21_0 (pc - 0) (by omega)
    rw [show 0 + (pc - 0) = pc by omega] at hz
    exact pOkI_use hz h
theorem pO_22_0 : ∀ d, d < 22 → pOkI prog_1_method_23_code pI_22 (0 + d) = true := by decide +kernel
theorem pG_22 : pQI 22 := fun pc i len h => by
    have hlt : pc < 22 := (eB1_some (show eB1 pc 22 _ = some _ from h)).1
    show decode prog_1_method_23_code pc = _ ∧ _
    have hz := pO_22_0 (pc - 0) (by omega)
    rw [show 0 + (pc - 0) = pc by omega] at hz
    exact pOkI_use hz h
theorem pO_23_0 : ∀ d, d < 15 → pOkI prog_1_method_24_code pI_23 (0 + d) = true := by decide +kernel
theorem pG_23 : pQI 23 := fun pc i len h => by
    have hlt : pc < 15 := (eB1_some (show eB1 pc 15 _ = some _ from h)).1
    show decode prog_1_method_24_code pc = _ ∧ _
    have hz := pO_23_0 (pc - 0) (by omega)
    rw [show 0 + (pc - 0) = pc by omega] at hz
    exact pOkI_use hz h
theorem pO_24_0 : ∀ d, d < 20 → pOkI prog_1_method_25_code pI_24 (0 + d) = true := by decide +kernel
theorem pG_24 : pQI 24 := fun pc i len h => by
    have hlt : pc < 20 := (eB1_some (show eB1 pc 20 _ = some _ from h)).1
    show decode prog_1_method_25_code pc = _ ∧ _
    have hz := pO_24_0 (pc - 0) (by omega)
    rw [show 0 + (pc - 0) = pc by omega] at hz
    exact pOkI_use hz h
theorem pO_25_0 : ∀ d, d < 26 → pOkI prog_1_method_26_code pI_25 (0 + d) = true := by decide +kernel
theorem pG_25 : pQI 25 := fun pc i len h => by
    have hlt : pc < 26 := (eB1_some (show eB1 pc 26 _ = some _ from h)).1
    show decode prog_1_method_26_code pc = _ ∧ _
    have hz := pO_25_0 (pc - 0) (by omega)
    rw [show 0 + (pc - 0) = pc by omega] at hz
    exact pOkI_use hz h
theorem pO_26_0 : ∀ d, d < 147 → pOkI prog_12_method_1_code pI_26 (0 + d) = true := by decide +kernel
theorem pG_26 : pQI 26 := fun pc i len h => by
    have hlt : pc < 147 := (eB1_some (show eB1 pc 147 _ = some _ from h)).1
    show decode prog_12_method_1_code pc = _ ∧ _
    have hz := pO_26_0 (pc - 0) (by omega)
    rw [show 0 + (pc - 0) = pc by omega] at hz
    exact pOkI_use hz h
theorem pO_27_0 : ∀ d, d < 5 → pOkI prog_12_method_2_code pI_27 (0 + d) = true := by decide +kernel
theorem pG_27 : pQI 27 := fun pc i len h => by
    have hlt : pc < 5 := (eB1_some (show eB1 pc 5 _ = some _ from h)).1
    show decode prog_12_method_2_code pc = _ ∧ _
    have hz := pO_27_0 (pc - 0) (by omega)
    rw [show 0 + (pc - 0) = pc by omega] at hz
    exact pOkI_use hz h
theorem pO_28_0 : ∀ d, d < 8 → pOkI prog_12_method_3_code pI_28 (0 + d) = true := by decide +kernel
theorem pG_28 : pQI 28 := fun pc i len h => by
    have hlt : pc < 8 := (eB1_some (show eB1 pc 8 _ = some _ from h)).1
    show decode prog_12_method_3_code pc = _ ∧ _
    have hz := pO_28_0 (pc - 0) (by omega)
    rw [show 0 + (pc - 0) = pc by omega] at hz
    exact pOkI_use hz h
theorem pO_29_0 : ∀ d, d < 17 → pOkI prog_12_method_4_code pI_29 (0 + d) = true := by decide +kernel
theorem pG_29 : pQI 29 := fun pc i len h => by
    have hlt : pc < 17 := (eB1_some (show eB1 pc 17 _ = some _ from h)).1
    show decode prog_12_method_4_code pc = _ ∧ _
    have hz := pO_29_0 (pc - 0) (by omega)
    rw [show 0 + (pc - 0) = pc by omega] at hz
    exact pOkI_use hz h
theorem pO_30_0 : ∀ d, d < 19 → pOkI prog_12_method_5_code pI_30 (0 + d) = true := by decide +kernel
theorem pG_30 : pQI 30 := fun pc i len h => by
    have hlt : pc < 19 := (eB1_some (show eB1 pc 19 _ = some _ from h)).1
    show decode prog_12_method_5_code pc = _ ∧ _
    have hz := pO_30_0 (pc - 0) (by omega)
    rw [show 0 + (pc - 0) = pc by omega] at hz
    exact pOkI_use hz h
theorem pO_31_0 : ∀ d, d < 26 → pOkI prog_12_method_6_code pI_31 (0 + d) = true := by decide +kernel
theorem pG_31 : pQI 31 := fun pc i len h => by
    have hlt : pc < 26 := (eB1_some (show eB1 pc 26 _ = some _ from h)).1
    show decode prog_12_method_6_code pc = _ ∧ _
    have hz := pO_31_0 (pc - 0) (by omega)
    rw [show 0 + (pc - 0) = pc by omega] at hz
    exact pOkI_use hz h
theorem pO_32_0 : ∀ d, d < 37 → pOkI prog_12_method_7_code pI_32 (0 + d) = true := by decide +kernel
theorem pG_32 : pQI 32 := fun pc i len h => by
    have hlt : pc < 37 := (eB1_some (show eB1 pc 37 _ = some _ from h)).1
    show decode prog_12_method_7_code pc = _ ∧ _
    have hz := pO_32_0 (pc - 0) (by omega)
    rw [show 0 + (pc - 0) = pc by omega] at hz
    exact pOkI_use hz h
theorem pO_33_0 : ∀ d, d < 43 → pOkI prog_12_method_8_code pI_33 (0 + d) = true := by decide +kernel
theorem pG_33 : pQI 33 := fun pc i len h => by
    have hlt : pc < 43 := (eB1_some (show eB1 pc 43 _ = some _ from h)).1
    show decode prog_12_method_8_code pc = _ ∧ _
    have hz := pO_33_0 (pc - 0) (by omega)
    rw [show 0 + (pc - 0) = pc by omega] at hz
    exact pOkI_use hz h
theorem pO_34_0 : ∀ d, d < 71 → pOkI prog_12_method_9_code pI_34 (0 + d) = true := by decide +kernel
theorem pG_34 : pQI 34 := fun pc i len h => by
    have hlt : pc < 71 := (eB1_some (show eB1 pc 71 _ = some _ from h)).1
    show decode prog_12_method_9_code pc = _ ∧ _
    have hz := pO_34_0 (pc - 0) (by omega)
    rw [show 0 + (pc - 0) = pc by omega] at hz
    exact pOkI_use hz h
theorem pO_35_0 : ∀ d, d < 66 → pOkI prog_12_method_10_code pI_35 (0 + d) = true := by decide +kernel
theorem pG_35 : pQI 35 := fun pc i len h => by
    have hlt : pc < 66 := (eB1_some (show eB1 pc 66 _ = some _ from h)).1
    show decode prog_12_method_10_code pc = _ ∧ _
    have hz := pO_35_0 (pc - 0) (by omega)
    rw [show 0 + (pc - 0) = pc by omega] at hz
    exact pOkI_use hz h
theorem pO_36_0 : ∀ d, d < 46 → pOkI prog_12_method_11_code pI_36 (0 + d) = true := by decide +kernel
theorem pG_36 : pQI 36 := fun pc i len h => by
    have hlt : pc < 46 := (eB1_some (show eB1 pc 46 _ = some _ from h)).1
    show decode prog_12_method_11_code pc = _ ∧ _
    have hz := pO_36_0 (pc - 0) (by omega)
    rw [show 0 + (pc - 0) = pc by omega] at hz
    exact pOkI_use hz h
theorem pO_37_0 : ∀ d, d < 46 → pOkI prog_12_method_12_code pI_37 (0 + d) = true := by decide +kernel
theorem pG_37 : pQI 37 := fun pc i len h => by
    have hlt : pc < 46 := (eB1_some (show eB1 pc 46 _ = some _ from h)).1
    show decode prog_12_method_12_code pc = _ ∧ _
    have hz := pO_37_0 (pc - 0) (by omega)
    rw [show 0 + (pc - 0) = pc by omega] at hz
    exact pOkI_use hz h
theorem pO_38_0 : ∀ d, d < 27 → pOkI prog_12_method_13_code pI_38 (0 + d) = true := by decide +kernel
theorem pG_38 : pQI 38 := fun pc i len h => by
    have hlt : pc < 27 := (eB1_some (show eB1 pc 27 _ = some _ from h)).1
    show decode prog_12_method_13_code pc = _ ∧ _
    have hz := pO_38_0 (pc - 0) (by omega)
    rw [show 0 + (pc - 0) = pc by omega] at hz
    exact pOkI_use hz h
theorem pO_39_0 : ∀ d, d < 31 → pOkI prog_12_method_14_code pI_39 (0 + d) = true := by decide +kernel
theorem pG_39 : pQI 39 := fun pc i len h => by
    have hlt : pc < 31 := (eB1_some (show eB1 pc 31 _ = some _ from h)).1
    show decode prog_12_method_14_code pc = _ ∧ _
    have hz := pO_39_0 (pc - 0) (by omega)
    rw [show 0 + (pc - 0) = pc by omega] at hz
    exact pOkI_use hz h
theorem pO_40_0 : ∀ d, d < 97 → pOkI prog_12_method_15_code pI_40 (0 + d) = true := by decide +kernel
theorem pG_40 : pQI 40 := fun pc i len h => by
    have hlt : pc < 97 := (eB1_some (show eB1 pc 97 _ = some _ from h)).1
    show decode prog_12_method_15_code pc = _ ∧ _
    have hz := pO_40_0 (pc - 0) (by omega)
    rw [show 0 + (pc - 0) = pc by omega] at hz
    exact pOkI_use hz h
theorem pO_41_0 : ∀ d, d < 17 → pOkI prog_12_method_16_code pI_41 (0 + d) = true := by decide +kernel
theorem pG_41 : pQI 41 := fun pc i len h => by
    have hlt : pc < 17 := (eB1_some (show eB1 pc 17 _ = some _ from h)).1
    show decode prog_12_method_16_code pc = _ ∧ _
    have hz := pO_41_0 (pc - 0) (by omega)
    rw [show 0 + (pc - 0) = pc by omega] at hz
    exact pOkI_use hz h
theorem pO_42_0 : ∀ d, d < 92 → pOkI prog_12_method_17_code pI_42 (0 + d) = true := by decide +kernel
theorem pG_42 : pQI 42 := fun pc i len h => by
    have hlt : pc < 92 := (eB1_some (show eB1 pc 92 _ = some _ from h)).1
    show decode prog_12_method_17_code pc = _ ∧ _
    have hz := pO_42_0 (pc - 0) (by omega)
    rw [show 0 + (pc - 0) = pc by omega] at hz
    exact pOkI_use hz h
theorem pO_43_0 : ∀ d, d < 144 → pOkI prog_12_method_18_code pI_43 (0 + d) = true := by decide +kernel
theorem pG_43 : pQI 43 := fun pc i len h => by
    have hlt : pc < 144 := (eB1_some (show eB1 pc 144 _ = some _ from h)).1
    show decode prog_12_method_18_code pc = _ ∧ _
    have hz := pO_43_0 (pc - 0) (by omega)
    rw [show 0 + (pc - 0) = pc by omega] at hz
    exact pOkI_use hz h
theorem pO_44_0 : ∀ d, d < 18 → pOkI prog_12_method_19_code pI_44 (0 + d) = true := by decide +kernel
theorem pG_44 : pQI 44 := fun pc i len h => by
    have hlt : pc < 18 := (eB1_some (show eB1 pc 18 _ = some _ from h)).1
    show decode prog_12_method_19_code pc = _ ∧ _
    have hz := pO_44_0 (pc - 0) (by omega)
    rw [show 0 + (pc - 0) = pc by omega] at hz
    exact pOkI_use hz h
theorem pO_45_0 : ∀ d, d < 64 → pOkI prog_12_method_20_code pI_45 (0 + d) = true := by decide +kernel
theorem pG_45 : pQI 45 := fun pc i len h => by
    have hlt : pc < 64 := (eB1_some (show eB1 pc 64 _ = some _ from h)).1
    show decode prog_12_method_20_code pc = _ ∧ _
    have hz := pO_45_0 (pc - 0) (by omega)
    rw [show 0 + (pc - 0) = pc by omega] at hz
    exact pOkI_use hz h
theorem pO_46_0 : ∀ d, d < 45 → pOkI prog_12_method_21_code pI_46 (0 + d) = true := by decide +kernel
theorem pG_46 : pQI 46 := fun pc i len h => by
    have hlt : pc < 45 := (eB1_some (show eB1 pc 45 _ = some _ from h)).1
    show decode prog_12_method_21_code pc = _ ∧ _
    have hz := pO_46_0 (pc - 0) (by omega)
    rw [show 0 + (pc - 0) = pc by omega] at hz
    exact pOkI_use hz h
theorem pO_47_0 : ∀ d, d < 64 → pOkI prog_12_method_22_code pI_47 (0 + d) = true := by decide +kernel
theorem pG_47 : pQI 47 := fun pc i len h => by
    have hlt : pc < 64 := (eB1_some (show eB1 pc 64 _ = some _ from h)).1
    show decode prog_12_method_22_code pc = _ ∧ _
    have hz := pO_47_0 (pc - 0) (by omega)
    rw [show 0 + (pc - 0) = pc by omega] at hz
    exact pOkI_use hz h
theorem pO_48_0 : ∀ d, d < 53 → pOkI prog_12_method_23_code pI_48 (0 + d) = true := by decide +kernel
theorem pG_48 : pQI 48 := fun pc i len h => by
    have hlt : pc < 53 := (eB1_some (show eB1 pc 53 _ = some _ from h)).1
    show decode prog_12_method_23_code pc = _ ∧ _
    have hz := pO_48_0 (pc - 0) (by omega)
    rw [show 0 + (pc - 0) = pc by omega] at hz
    exact pOkI_use hz h
theorem pO_49_0 : ∀ d, d < 62 → pOkI prog_12_method_24_code pI_49 (0 + d) = true := by decide +kernel
theorem pG_49 : pQI 49 := fun pc i len h => by
    have hlt : pc < 62 := (eB1_some (show eB1 pc 62 _ = some _ from h)).1
    show decode prog_12_method_24_code pc = _ ∧ _
    have hz := pO_49_0 (pc - 0) (by omega)
    rw [show 0 + (pc - 0) = pc by omega] at hz
    exact pOkI_use hz h
theorem pO_50_0 : ∀ d, d < 112 → pOkI prog_12_method_25_code pI_50 (0 + d) = true := by decide +kernel
theorem pG_50 : pQI 50 := fun pc i len h => by
    have hlt : pc < 112 := (eB1_some (show eB1 pc 112 _ = some _ from h)).1
    show decode prog_12_method_25_code pc = _ ∧ _
    have hz := pO_50_0 (pc - 0) (by omega)
    rw [show 0 + (pc - 0) = pc by omega] at hz
    exact pOkI_use hz h
theorem pO_51_0 : ∀ d, d < 86 → pOkI prog_12_method_26_code pI_51 (0 + d) = true := by decide +kernel
theorem pG_51 : pQI 51 := fun pc i len h => by
    have hlt : pc < 86 := (eB1_some (show eB1 pc 86 _ = some _ from h)).1
    show decode prog_12_method_26_code pc = _ ∧ _
    have hz := pO_51_0 (pc - 0) (by omega)
    rw [show 0 + (pc - 0) = pc by omega] at hz
    exact pOkI_use hz h
theorem pO_52_0 : ∀ d, d < 6 → pOkI prog_12_method_27_code pI_52 (0 + d) = true := by decide +kernel
theorem pG_52 : pQI 52 := fun pc i len h => by
    have hlt : pc < 6 := (eB1_some (show eB1 pc 6 _ = some _ from h)).1
    show decode prog_12_method_27_code pc = _ ∧ _
    have hz := pO_52_0 (pc - 0) (by omega)
    rw [show 0 + (pc - 0) = pc by omega] at hz
    exact pOkI_use hz h
theorem pO_53_0 : ∀ d, d < 33 → pOkI prog_12_method_28_code pI_53 (0 + d) = true := by decide +kernel
theorem pG_53 : pQI 53 := fun pc i len h => by
    have hlt : pc < 33 := (eB1_some (show eB1 pc 33 _ = some _ from h)).1
    show decode prog_12_method_28_code pc = _ ∧ _
    have hz := pO_53_0 (pc - 0) (by omega)
    rw [show 0 + (pc - 0) = pc by omega] at hz
    exact pOkI_use hz h
theorem pO_54_0 : ∀ d, d < 9 → pOkI prog_12_method_29_code pI_54 (0 + d) = true := by decide +kernel
theorem pG_54 : pQI 54 := fun pc i len h => by
    have hlt : pc < 9 := (eB1_some (show eB1 pc 9 _ = some _ from h)).1
    show decode prog_12_method_29_code pc = _ ∧ _
    have hz := pO_54_0 (pc - 0) (by omega)
    rw [show 0 + (pc - 0) = pc by omega] at hz
    exact pOkI_use hz h
theorem pO_55_0 : ∀ d, d < 39 → pOkI prog_12_method_30_code pI_55 (0 + d) = true := by decide +kernel
theorem pG_55 : pQI 55 := fun pc i len h => by
    have hlt : pc < 39 := (eB1_some (show eB1 pc 39 _ = some _ from h)).1
    show decode prog_12_method_30_code pc = _ ∧ _
    have hz := pO_55_0 (pc - 0) (by omega)
    rw [show 0 + (pc - 0) = pc by omega] at hz
    exact pOkI_use hz h
theorem pO_56_0 : ∀ d, d < 150 → pOkI prog_12_method_31_code pI_56 (0 + d) = true := by decide +kernel
theorem pO_56_1 : ∀ d, d < 80 → pOkI prog_12_method_31_code pI_56 (150 + d) = true := by decide +kernel
theorem pG_56 : pQI 56 := fun pc i len h => by
    have hlt : pc < 230 := (eB1_some (show eB1 pc 230 _ = some _ from h)).1
    show decode prog_12_method_31_code pc = _ ∧ _
    by_cases h0 : pc < 150
    · have hz := pO_56_0 (pc - 0) (by omega)
      rw [show 0 + (pc - 0) = pc by omega] at hz
      exact pOkI_use hz h
    have hz := pO_56_1 (pc - 150) (by omega)
    rw [show 150 + (pc - 150) = pc by omega] at hz
    exact pOkI_use hz h
theorem pO_57_0 : ∀ d, d < 150 → pOkI prog_12_method_32_code pI_57 (0 + d) = true := by decide +kernel
theorem pO_57_1 : ∀ d, d < 17 → pOkI prog_12_method_32_code pI_57 (150 + d) = true := by decide +kernel
theorem pG_57 : pQI 57 := fun pc i len h => by
    have hlt : pc < 167 := (eB1_some (show eB1 pc 167 _ = some _ from h)).1
    show decode prog_12_method_32_code pc = _ ∧ _
    by_cases h0 : pc < 150
    · have hz := pO_57_0 (pc - 0) (by omega)
      rw [show 0 + (pc - 0) = pc by omega] at hz
      exact pOkI_use hz h
    have hz := pO_57_1 (pc - 150) (by omega)
    rw [show 150 + (pc - 150) = pc by omega] at hz
    exact pOkI_use hz h
theorem pO_58_0 : ∀ d, d < 150 → pOkI prog_12_method_33_code pI_58 (0 + d) = true := by decide +kernel
theorem pO_58_1 : ∀ d, d < 1 → pOkI prog_12_method_33_code pI_58 (150 + d) = true := by decide +kernel
theorem pG_58 : pQI 58 := fun pc i len h => by
    have hlt : pc < 151 := (eB1_some (show eB1 pc 151 _ = some _ from h)).1
    show decode prog_12_method_33_code pc = _ ∧ _
    by_cases h0 : pc < 150
    · have hz := pO_58_0 (pc - 0) (by omega)
      rw [show 0 + (pc - 0) = pc by omega] at hz
      exact pOkI_use hz h
    have hz := pO_58_1 (pc - 150) (by omega)
    rw [show 150 + (pc - 150) = pc by omega] at hz
    exact pOkI_use hz h
theorem pO_59_0 : ∀ d, d < 150 → pOkI prog_12_method_34_code pI_59 (0 + d) = true := by decide +kernel
theorem pO_59_1 : ∀ d, d < 150 → pOkI prog_12_method_34_code pI_59 (150 + d) = true := by decide +kernel
theorem pO_59_2 : ∀ d, d < 104 → pOkI prog_12_method_34_code pI_59 (300 + d) = true := by decide +kernel
theorem pG_59 : pQI 59 := fun pc i len h => by
    have hlt : pc < 404 := (eB1_some (show eB1 pc 404 _ = some _ from h)).1
    show decode prog_12_method_34_code pc = _ ∧ _
    by_cases h0 : pc < 150
    · have hz := pO_59_0 (pc - 0) (by omega)
      rw [show 0 + (pc - 0) = pc by omega] at hz
      exact pOkI_use hz h
    by_cases h1 : pc < 300
    · have hz := pO_59_1 (pc - 150) (by omega)
      rw [show 150 + (pc - 150) = pc by omega] at hz
      exact pOkI_use hz h
    have hz := pO_59_2 (pc - 300) (by omega)
    rw [show 300 + (pc - 300) = pc by omega] at hz
    exact pOkI_use hz h
theorem pO_60_0 : ∀ d, d < 124 → pOkI prog_12_method_35_code pI_60 (0 + d) = true := by decide +kernel
theorem pG_60 : pQI 60 := fun pc i len h => by
    have hlt : pc < 124 := (eB1_some (show eB1 pc 124 _ = some _ from h)).1
    show decode prog_12_method_35_code pc = _ ∧ _
    have hz := pO_60_0 (pc - 0) (by omega)
    rw [show 0 + (pc - 0) = pc by omega] at hz
    exact pOkI_use hz h
theorem pO_61_0 : ∀ d, d < 99 → pOkI prog_12_method_36_code pI_61 (0 + d) = true := by decide +kernel
theorem pG_61 : pQI 61 := fun pc i len h => by
    have hlt : pc < 99 := (eB1_some (show eB1 pc 99 _ = some _ from h)).1
    show decode prog_12_method_36_code pc = _ ∧ _
    have hz := pO_61_0 (pc - 0) (by omega)
    rw [show 0 + (pc - 0) = pc by omega] at hz
    exact pOkI_use hz h
theorem pO_62_0 : ∀ d, d < 48 → pOkI prog_12_method_37_code pI_62 (0 + d) = true := by decide +kernel
theorem pG_62 : pQI 62 := fun pc i len h => by
    have hlt : pc < 48 := (eB1_some (show eB1 pc 48 _ = some _ from h)).1
    show decode prog_12_method_37_code pc = _ ∧ _
    have hz := pO_62_0 (pc - 0) (by omega)
    rw [show 0 + (pc - 0) = pc by omega] at hz
    exact pOkI_use hz h
theorem pO_63_0 : ∀ d, d < 42 → pOkI prog_12_method_38_code pI_63 (0 + d) = true := by decide +kernel
theorem pG_63 : pQI 63 := fun pc i len h => by
    have hlt : pc < 42 := (eB1_some (show eB1 pc 42 _ = some _ from h)).1
    show decode prog_12_method_38_code pc = _ ∧ _
    have hz := pO_63_0 (pc - 0) (by omega)
    rw [show 0 + (pc - 0) = pc by omega] at hz
    exact pOkI_use hz h
theorem pO_64_0 : ∀ d, d < 64 → pOkI prog_12_method_39_code pI_64 (0 + d) = true := by decide +kernel
theorem pG_64 : pQI 64 := fun pc i len h => by
    have hlt : pc < 64 := (eB1_some (show eB1 pc 64 _ = some _ from h)).1
    show decode prog_12_method_39_code pc = _ ∧ _
    have hz := pO_64_0 (pc - 0) (by omega)
    rw [show 0 + (pc - 0) = pc by omega] at hz
    exact pOkI_use hz h
theorem pO_65_0 : ∀ d, d < 12 → pOkI prog_12_method_40_code pI_65 (0 + d) = true := by decide +kernel
theorem pG_65 : pQI 65 := fun pc i len h => by
    have hlt : pc < 12 := (eB1_some (show eB1 pc 12 _ = some _ from h)).1
    show decode prog_12_method_40_code pc = _ ∧ _
    have hz := pO_65_0 (pc - 0) (by omega)
    rw [show 0 + (pc - 0) = pc by omega] at hz
    exact pOkI_use hz h
theorem pO_66_0 : ∀ d, d < 39 → pOkI prog_12_method_41_code pI_66 (0 + d) = true := by decide +kernel
theorem pG_66 : pQI 66 := fun pc i len h => by
    have hlt : pc < 39 := (eB1_some (show eB1 pc 39 _ = some _ from h)).1
    show decode prog_12_method_41_code pc = _ ∧ _
    have hz := pO_66_0 (pc - 0) (by omega)
    rw [show 0 + (pc - 0) = pc by omega] at hz
    exact pOkI_use hz h
theorem pO_67_0 : ∀ d, d < 67 → pOkI prog_12_method_42_code pI_67 (0 + d) = true := by decide +kernel
theorem pG_67 : pQI 67 := fun pc i len h => by
    have hlt : pc < 67 := (eB1_some (show eB1 pc 67 _ = some _ from h)).1
    show decode prog_12_method_42_code pc = _ ∧ _
    have hz := pO_67_0 (pc - 0) (by omega)
    rw [show 0 + (pc - 0) = pc by omega] at hz
    exact pOkI_use hz h
theorem pO_68_0 : ∀ d, d < 150 → pOkI prog_12_method_43_code pI_68 (0 + d) = true := by decide +kernel
theorem pO_68_1 : ∀ d, d < 97 → pOkI prog_12_method_43_code pI_68 (150 + d) = true := by decide +kernel
theorem pG_68 : pQI 68 := fun pc i len h => by
    have hlt : pc < 247 := (eB1_some (show eB1 pc 247 _ = some _ from h)).1
    show decode prog_12_method_43_code pc = _ ∧ _
    by_cases h0 : pc < 150
    · have hz := pO_68_0 (pc - 0) (by omega)
      rw [show 0 + (pc - 0) = pc by omega] at hz
      exact pOkI_use hz h
    have hz := pO_68_1 (pc - 150) (by omega)
    rw [show 150 + (pc - 150) = pc by omega] at hz
    exact pOkI_use hz h
theorem pO_69_0 : ∀ d, d < 130 → pOkI prog_12_method_44_code pI_69 (0 + d) = true := by decide +kernel
theorem pG_69 : pQI 69 := fun pc i len h => by
    have hlt : pc < 130 := (eB1_some (show eB1 pc 130 _ = some _ from h)).1
    show decode prog_12_method_44_code pc = _ ∧ _
    have hz := pO_69_0 (pc - 0) (by omega)
    rw [show 0 + (pc - 0) = pc by omega] at hz
    exact pOkI_use hz h
theorem pO_70_0 : ∀ d, d < 100 → pOkI prog_12_method_45_code pI_70 (0 + d) = true := by decide +kernel
theorem pG_70 : pQI 70 := fun pc i len h => by
    have hlt : pc < 100 := (eB1_some (show eB1 pc 100 _ = some _ from h)).1
    show decode prog_12_method_45_code pc = _ ∧ _
    have hz := pO_70_0 (pc - 0) (by omega)
    rw [show 0 + (pc - 0) = pc by omega] at hz
    exact pOkI_use hz h
theorem pO_71_0 : ∀ d, d < 37 → pOkI prog_12_method_46_code pI_71 (0 + d) = true := by decide +kernel
theorem pG_71 : pQI 71 := fun pc i len h => by
    have hlt : pc < 37 := (eB1_some (show eB1 pc 37 _ = some _ from h)).1
    show decode prog_12_method_46_code pc = _ ∧ _
    have hz := pO_71_0 (pc - 0) (by omega)
    rw [show 0 + (pc - 0) = pc by omega] at hz
    exact pOkI_use hz h
theorem pO_72_0 : ∀ d, d < 34 → pOkI prog_12_method_47_code pI_72 (0 + d) = true := by decide +kernel
theorem pG_72 : pQI 72 := fun pc i len h => by
    have hlt : pc < 34 := (eB1_some (show eB1 pc 34 _ = some _ from h)).1
    show decode prog_12_method_47_code pc = _ ∧ _
    have hz := pO_72_0 (pc - 0) (by omega)
    rw [show 0 + (pc - 0) = pc by omega] at hz
    exact pOkI_use hz h
theorem pO_73_0 : ∀ d, d < 61 → pOkI prog_12_method_48_code pI_73 (0 + d) = true := by decide +kernel
theorem pG_73 : pQI 73 := fun pc i len h => by
    have hlt : pc < 61 := (eB1_some (show eB1 pc 61 _ = some _ from h)).1
    show decode prog_12_method_48_code pc = _ ∧ _
    have hz := pO_73_0 (pc - 0) (by omega)
    rw [show 0 + (pc - 0) = pc by omega] at hz
    exact pOkI_use hz h
theorem pO_74_0 : ∀ d, d < 41 → pOkI prog_12_method_49_code pI_74 (0 + d) = true := by decide +kernel
theorem pG_74 : pQI 74 := fun pc i len h => by
    have hlt : pc < 41 := (eB1_some (show eB1 pc 41 _ = some _ from h)).1
    show decode prog_12_method_49_code pc = _ ∧ _
    have hz := pO_74_0 (pc - 0) (by omega)
    rw [show 0 + (pc - 0) = pc by omega] at hz
    exact pOkI_use hz h
theorem pO_75_0 : ∀ d, d < 104 → pOkI prog_12_method_50_code pI_75 (0 + d) = true := by decide +kernel
theorem pG_75 : pQI 75 := fun pc i len h => by
    have hlt : pc < 104 := (eB1_some (show eB1 pc 104 _ = some _ from h)).1
    show decode prog_12_method_50_code pc = _ ∧ _
    have hz := pO_75_0 (pc - 0) (by omega)
    rw [show 0 + (pc - 0) = pc by omega] at hz
    exact pOkI_use hz h
theorem pO_76_0 : ∀ d, d < 8 → pOkI prog_2_method_2_code pI_76 (0 + d) = true := by decide +kernel
theorem pG_76 : pQI 76 := fun pc i len h => by
    have hlt : pc < 8 := (eB1_some (show eB1 pc 8 _ = some _ from h)).1
    show decode prog_2_method_2_code pc = _ ∧ _
    have hz := pO_76_0 (pc - 0) (by omega)
    rw [show 0 + (pc - 0) = pc by omega] at hz
    exact pOkI_use hz h
theorem pO_77_0 : ∀ d, d < 9 → pOkI prog_2_method_3_code pI_77 (0 + d) = true := by decide +kernel
theorem pG_77 : pQI 77 := fun pc i len h => by
    have hlt : pc < 9 := (eB1_some (show eB1 pc 9 _ = some _ from h)).1
    show decode prog_2_method_3_code pc = _ ∧ _
    have hz := pO_77_0 (pc - 0) (by omega)
    rw [show 0 + (pc - 0) = pc by omega] at hz
    exact pOkI_use hz h
theorem pO_78_0 : ∀ d, d < 26 → pOkI prog_2_method_4_code pI_78 (0 + d) = true := by decide +kernel
theorem pG_78 : pQI 78 := fun pc i len h => by
    have hlt : pc < 26 := (eB1_some (show eB1 pc 26 _ = some _ from h)).1
    show decode prog_2_method_4_code pc = _ ∧ _
    have hz := pO_78_0 (pc - 0) (by omega)
    rw [show 0 + (pc - 0) = pc by omega] at hz
    exact pOkI_use hz h
theorem pO_79_0 : ∀ d, d < 39 → pOkI prog_3_method_1_code pI_79 (0 + d) = true := by decide +kernel
theorem pG_79 : pQI 79 := fun pc i len h => by
    have hlt : pc < 39 := (eB1_some (show eB1 pc 39 _ = some _ from h)).1
    show decode prog_3_method_1_code pc = _ ∧ _
    have hz := pO_79_0 (pc - 0) (by omega)
    rw [show 0 + (pc - 0) = pc by omega] at hz
    exact pOkI_use hz h
theorem pO_80_0 : ∀ d, d < 126 → pOkI prog_3_method_2_code pI_80 (0 + d) = true := by decide +kernel
theorem pG_80 : pQI 80 := fun pc i len h => by
    have hlt : pc < 126 := (eB1_some (show eB1 pc 126 _ = some _ from h)).1
    show decode prog_3_method_2_code pc = _ ∧ _
    have hz := pO_80_0 (pc - 0) (by omega)
    rw [show 0 + (pc - 0) = pc by omega] at hz
    exact pOkI_use hz h
theorem pO_81_0 : ∀ d, d < 22 → pOkI prog_3_method_3_code pI_81 (0 + d) = true := by decide +kernel
theorem pG_81 : pQI 81 := fun pc i len h => by
    have hlt : pc < 22 := (eB1_some (show eB1 pc 22 _ = some _ from h)).1
    show decode prog_3_method_3_code pc = _ ∧ _
    have hz := pO_81_0 (pc - 0) (by omega)
    rw [show 0 + (pc - 0) = pc by omega] at hz
    exact pOkI_use hz h
theorem pO_82_0 : ∀ d, d < 93 → pOkI prog_3_method_4_code pI_82 (0 + d) = true := by decide +kernel
theorem pG_82 : pQI 82 := fun pc i len h => by
    have hlt : pc < 93 := (eB1_some (show eB1 pc 93 _ = some _ from h)).1
    show decode prog_3_method_4_code pc = _ ∧ _
    have hz := pO_82_0 (pc - 0) (by omega)
    rw [show 0 + (pc - 0) = pc by omega] at hz
    exact pOkI_use hz h
theorem pO_83_0 : ∀ d, d < 82 → pOkI prog_3_method_5_code pI_83 (0 + d) = true := by decide +kernel
theorem pG_83 : pQI 83 := fun pc i len h => by
    have hlt : pc < 82 := (eB1_some (show eB1 pc 82 _ = some _ from h)).1
    show decode prog_3_method_5_code pc = _ ∧ _
    have hz := pO_83_0 (pc - 0) (by omega)
    rw [show 0 + (pc - 0) = pc by omega] at hz
    exact pOkI_use hz h
theorem pO_84_0 : ∀ d, d < 29 → pOkI prog_3_method_6_code pI_84 (0 + d) = true := by decide +kernel
theorem pG_84 : pQI 84 := fun pc i len h => by
    have hlt : pc < 29 := (eB1_some (show eB1 pc 29 _ = some _ from h)).1
    show decode prog_3_method_6_code pc = _ ∧ _
    have hz := pO_84_0 (pc - 0) (by omega)
    rw [show 0 + (pc - 0) = pc by omega] at hz
    exact pOkI_use hz h
theorem pO_85_0 : ∀ d, d < 78 → pOkI prog_3_method_7_code pI_85 (0 + d) = true := by decide +kernel
theorem pG_85 : pQI 85 := fun pc i len h => by
    have hlt : pc < 78 := (eB1_some (show eB1 pc 78 _ = some _ from h)).1
    show decode prog_3_method_7_code pc = _ ∧ _
    have hz := pO_85_0 (pc - 0) (by omega)
    rw [show 0 + (pc - 0) = pc by omega] at hz
    exact pOkI_use hz h
theorem pO_86_0 : ∀ d, d < 58 → pOkI prog_3_method_8_code pI_86 (0 + d) = true := by decide +kernel
theorem pG_86 : pQI 86 := fun pc i len h => by
    have hlt : pc < 58 := (eB1_some (show eB1 pc 58 _ = some _ from h)).1
    show decode prog_3_method_8_code pc = _ ∧ _
    have hz := pO_86_0 (pc - 0) (by omega)
    rw [show 0 + (pc - 0) = pc by omega] at hz
    exact pOkI_use hz h
theorem pO_87_0 : ∀ d, d < 150 → pOkI prog_3_method_9_code pI_87 (0 + d) = true := by decide +kernel
theorem pO_87_1 : ∀ d, d < 11 → pOkI prog_3_method_9_code pI_87 (150 + d) = true := by decide +kernel
theorem pG_87 : pQI 87 := fun pc i len h => by
    have hlt : pc < 161 := (eB1_some (show eB1 pc 161 _ = some _ from h)).1
    show decode prog_3_method_9_code pc = _ ∧ _
    by_cases h0 : pc < 150
    · have hz := pO_87_0 (pc - 0) (by omega)
      rw [show 0 + (pc - 0) = pc by omega] at hz
      exact pOkI_use hz h
    have hz := pO_87_1 (pc - 150) (by omega)
    rw [show 150 + (pc - 150) = pc by omega] at hz
    exact pOkI_use hz h
theorem pO_88_0 : ∀ d, d < 150 → pOkI prog_3_method_10_code pI_88 (0 + d) = true := by decide +kernel
theorem pO_88_1 : ∀ d, d < 23 → pOkI prog_3_method_10_code pI_88 (150 + d) = true := by decide +kernel
theorem pG_88 : pQI 88 := fun pc i len h => by
    have hlt : pc < 173 := (eB1_some (show eB1 pc 173 _ = some _ from h)).1
    show decode prog_3_method_10_code pc = _ ∧ _
    by_cases h0 : pc < 150
    · have hz := pO_88_0 (pc - 0) (by omega)
      rw [show 0 + (pc - 0) = pc by omega] at hz
      exact pOkI_use hz h
    have hz := pO_88_1 (pc - 150) (by omega)
    rw [show 150 + (pc - 150) = pc by omega] at hz
    exact pOkI_use hz h
theorem pO_89_0 : ∀ d, d < 29 → pOkI prog_4_method_1_code pI_89 (0 + d) = true := by decide +kernel
theorem pG_89 : pQI 89 := fun pc i len h => by
    have hlt : pc < 29 := (eB1_some (show eB1 pc 29 _ = some _ from h)).1
    show decode prog_4_method_1_code pc = _ ∧ _
    have hz := pO_89_0 (pc - 0) (by omega)
    rw [show 0 + (pc - 0) = pc by omega] at hz
    exact pOkI_use hz h
theorem pO_90_0 : ∀ d, d < 37 → pOkI prog_4_method_2_code pI_90 (0 + d) = true := by decide +kernel
theorem pG_90 : pQI 90 := fun pc i len h => by
    have hlt : pc < 37 := (eB1_some (show eB1 pc 37 _ = some _ from h)).1
    show decode prog_4_method_2_code pc = _ ∧ _
    have hz := pO_90_0 (pc - 0) (by omega)
    rw [show 0 + (pc - 0) = pc by omega] at hz
    exact pOkI_use hz h
theorem pO_91_0 : ∀ d, d < 23 → pOkI prog_4_method_3_code pI_91 (0 + d) = true := by decide +kernel
theorem pG_91 : pQI 91 := fun pc i len h => by
    have hlt : pc < 23 := (eB1_some (show eB1 pc 23 _ = some _ from h)).1
    show decode prog_4_method_3_code pc = _ ∧ _
    have hz := pO_91_0 (pc - 0) (by omega)
    rw [show 0 + (pc - 0) = pc by omega] at hz
    exact pOkI_use hz h
theorem pO_92_0 : ∀ d, d < 9 → pOkI prog_4_method_4_code pI_92 (0 + d) = true := by decide +kernel
theorem pG_92 : pQI 92 := fun pc i len h => by
    have hlt : pc < 9 := (eB1_some (show eB1 pc 9 _ = some _ from h)).1
    show decode prog_4_method_4_code pc = _ ∧ _
    have hz := pO_92_0 (pc - 0) (by omega)
    rw [show 0 + (pc - 0) = pc by omega] at hz
    exact pOkI_use hz h
theorem pO_93_0 : ∀ d, d < 46 → pOkI prog_4_method_5_code pI_93 (0 + d) = true := by decide +kernel
theorem pG_93 : pQI 93 := fun pc i len h => by
    have hlt : pc < 46 := (eB1_some (show eB1 pc 46 _ = some _ from h)).1
    show decode prog_4_method_5_code pc = _ ∧ _
    have hz := pO_93_0 (pc - 0) (by omega)
    rw [show 0 + (pc - 0) = pc by omega] at hz
    exact pOkI_use hz h
theorem pO_94_0 : ∀ d, d < 86 → pOkI prog_4_method_6_code pI_94 (0 + d) = true := by decide +kernel
theorem pG_94 : pQI 94 := fun pc i len h => by
    have hlt : pc < 86 := (eB1_some (show eB1 pc 86 _ = some _ from h)).1
    show decode prog_4_method_6_code pc = _ ∧ _
    have hz := pO_94_0 (pc - 0) (by omega)
    rw [show 0 + (pc - 0) = pc by omega] at hz
    exact pOkI_use hz h
theorem pO_95_0 : ∀ d, d < 26 → pOkI prog_4_method_7_code pI_95 (0 + d) = true := by decide +kernel
theorem pG_95 : pQI 95 := fun pc i len h => by
    have hlt : pc < 26 := (eB1_some (show eB1 pc 26 _ = some _ from h)).1
    show decode prog_4_method_7_code pc = _ ∧ _
    have hz := pO_95_0 (pc - 0) (by omega)
    rw [show 0 + (pc - 0) = pc by omega] at hz
    exact pOkI_use hz h
theorem pO_96_0 : ∀ d, d < 28 → pOkI prog_4_method_8_code pI_96 (0 + d) = true := by decide +kernel
theorem pG_96 : pQI 96 := fun pc i len h => by
    have hlt : pc < 28 := (eB1_some (show eB1 pc 28 _ = some _ from h)).1
    show decode prog_4_method_8_code pc = _ ∧ _
    have hz := pO_96_0 (pc - 0) (by omega)
    rw [show 0 + (pc - 0) = pc by omega] at hz
    exact pOkI_use hz h
theorem pO_97_0 : ∀ d, d < 31 → pOkI prog_4_method_9_code pI_97 (0 + d) = true := by decide +kernel
theorem pG_97 : pQI 97 := fun pc i len h => by
    have hlt : pc < 31 := (eB1_some (show eB1 pc 31 _ = some _ from h)).1
    show decode prog_4_method_9_code pc = _ ∧ _
    have hz := pO_97_0 (pc - 0) (by omega)
    rw [show 0 + (pc - 0) = pc by omega] at hz
    exact pOkI_use hz h
theorem pO_98_0 : ∀ d, d < 38 → pOkI prog_4_method_10_code pI_98 (0 + d) = true := by decide +kernel
theorem pG_98 : pQI 98 := fun pc i len h => by
    have hlt : pc < 38 := (eB1_some (show eB1 pc 38 _ = some _ from h)).1
    show decode prog_4_method_10_code pc = _ ∧ _
    have hz := pO_98_0 (pc - 0) (by omega)
    rw [show 0 + (pc - 0) = pc by omega] at hz
    exact pOkI_use hz h
theorem pO_99_0 : ∀ d, d < 53 → pOkI prog_4_method_11_code pI_99 (0 + d) = true := by decide +kernel
theorem pG_99 : pQI 99 := fun pc i len h => by
    have hlt : pc < 53 := (eB1_some (show eB1 pc 53 _ = some _ from h)).1
    show decode prog_4_method_11_code pc = _ ∧ _
    have hz := pO_99_0 (pc - 0) (by omega)
    rw [show 0 + (pc - 0) = pc by omega] at hz
    exact pOkI_use hz h
theorem pO_100_0 : ∀ d, d < 37 → pOkI prog_5_method_2_code pI_100 (0 + d) = true := by decide +kernel
theorem pG_100 : pQI 100 := fun pc i len h => by
    have hlt : pc < 37 := (eB1_some (show eB1 pc 37 _ = some _ from h)).1
    show decode prog_5_method_2_code pc = _ ∧ _
    have hz := pO_100_0 (pc - 0) (by omega)
    rw [show 0 + (pc - 0) = pc by omega] at hz
    exact pOkI_use hz h
theorem pO_101_0 : ∀ d, d < 12 → pOkI prog_5_method_3_code pI_101 (0 + d) = true := by decide +kernel
theorem pG_101 : pQI 101 := fun pc i len h => by
    have hlt : pc < 12 := (eB1_some (show eB1 pc 12 _ = some _ from h)).1
    show decode prog_5_method_3_code pc = _ ∧ _
    have hz := pO_101_0 (pc - 0) (by omega)
    rw [show 0 + (pc - 0) = pc by omega] at hz
    exact pOkI_use hz h
theorem pO_102_0 : ∀ d, d < 24 → pOkI prog_5_method_4_code pI_102 (0 + d) = true := by decide +kernel
theorem pG_102 : pQI 102 := fun pc i len h => by
    have hlt : pc < 24 := (eB1_some (show eB1 pc 24 _ = some _ from h)).1
    show decode prog_5_method_4_code pc = _ ∧ _
    have hz := pO_102_0 (pc - 0) (by omega)
    rw [show 0 + (pc - 0) = pc by omega] at hz
    exact pOkI_use hz h
theorem pO_103_0 : ∀ d, d < 24 → pOkI prog_5_method_5_code pI_103 (0 + d) = true := by decide +kernel
theorem pG_103 : pQI 103 := fun pc i len h => by
    have hlt : pc < 24 := (eB1_some (show eB1 pc 24 _ = some _ from h)).1
    show decode prog_5_method_5_code pc = _ ∧ _
    have hz := pO_103_0 (pc - 0) (by omega)
    rw [show 0 + (pc - 0) = pc by omega] at hz
    exact pOkI_use hz h
theorem pO_104_0 : ∀ d, d < 40 → pOkI prog_5_method_6_code pI_104 (0 + d) = true := by decide +kernel
theorem pG_104 : pQI 104 := fun pc i len h => by
    have hlt : pc < 40 := (eB1_some (show eB1 pc 40 _ = some _ from h)).1
    show decode prog_5_method_6_code pc = _ ∧ _
    have hz := pO_104_0 (pc - 0) (by omega)
    rw [show 0 + (pc - 0) = pc by omega] at hz
    exact pOkI_use hz h
theorem pO_105_0 : ∀ d, d < 82 → pOkI prog_6_method_1_code pI_105 (0 + d) = true := by decide +kernel
theorem pG_105 : pQI 105 := fun pc i len h => by
    have hlt : pc < 82 := (eB1_some (show eB1 pc 82 _ = some _ from h)).1
    show decode prog_6_method_1_code pc = _ ∧ _
    have hz := pO_105_0 (pc - 0) (by omega)
    rw [show 0 + (pc - 0) = pc by omega] at hz
    exact pOkI_use hz h
theorem pO_106_0 : ∀ d, d < 16 → pOkI prog_6_method_2_code pI_106 (0 + d) = true := by decide +kernel
theorem pG_106 : pQI 106 := fun pc i len h => by
    have hlt : pc < 16 := (eB1_some (show eB1 pc 16 _ = some _ from h)).1
    show decode prog_6_method_2_code pc = _ ∧ _
    have hz := pO_106_0 (pc - 0) (by omega)
    rw [show 0 + (pc - 0) = pc by omega] at hz
    exact pOkI_use hz h
theorem pO_107_0 : ∀ d, d < 150 → pOkI prog_6_method_3_code pI_107 (0 + d) = true := by decide +kernel
theorem pO_107_1 : ∀ d, d < 24 → pOkI prog_6_method_3_code pI_107 (150 + d) = true := by decide +kernel
theorem pG_107 : pQI 107 := fun pc i len h => by
    have hlt : pc < 174 := (eB1_some (show eB1 pc 174 _ = some _ from h)).1
    show decode prog_6_method_3_code pc = _ ∧ _
    by_cases h0 : pc < 150
    · have hz := pO_107_0 (pc - 0) (by omega)
      rw [show 0 + (pc - 0) = pc by omega] at hz
      exact pOkI_use hz h
    have hz := pO_107_1 (pc - 150) (by omega)
    rw [show 150 + (pc - 150) = pc by omega] at hz
    exact pOkI_use hz h
theorem pO_108_0 : ∀ d, d < 67 → pOkI prog_6_method_4_code pI_108 (0 + d) = true := by decide +kernel
theorem pG_108 : pQI 108 := fun pc i len h => by
    have hlt : pc < 67 := (eB1_some (show eB1 pc 67 _ = some _ from h)).1
    show decode prog_6_method_4_code pc = _ ∧ _
    have hz := pO_108_0 (pc - 0) (by omega)
    rw [show 0 + (pc - 0) = pc by omega] at hz
    exact pOkI_use hz h
theorem pO_109_0 : ∀ d, d < 10 → pOkI prog_7_method_1_code pI_109 (0 + d) = true := by decide +kernel
theorem pG_109 : pQI 109 := fun pc i len h => by
    have hlt : pc < 10 := (eB1_some (show eB1 pc 10 _ = some _ from h)).1
    show decode prog_7_method_1_code pc = _ ∧ _
    have hz := pO_109_0 (pc - 0) (by omega)
    rw [show 0 + (pc - 0) = pc by omega] at hz
    exact pOkI_use hz h
theorem pO_110_0 : ∀ d, d < 20 → pOkI prog_7_method_2_code pI_110 (0 + d) = true := by decide +kernel
theorem pG_110 : pQI 110 := fun pc i len h => by
    have hlt : pc < 20 := (eB1_some (show eB1 pc 20 _ = some _ from h)).1
    show decode prog_7_method_2_code pc = _ ∧ _
    have hz := pO_110_0 (pc - 0) (by omega)
    rw [show 0 + (pc - 0) = pc by omega] at hz
    exact pOkI_use hz h
theorem pO_111_0 : ∀ d, d < 72 → pOkI prog_7_method_3_code pI_111 (0 + d) = true := by decide +kernel
theorem pG_111 : pQI 111 := fun pc i len h => by
    have hlt : pc < 72 := (eB1_some (show eB1 pc 72 _ = some _ from h)).1
    show decode prog_7_method_3_code pc = _ ∧ _
    have hz := pO_111_0 (pc - 0) (by omega)
    rw [show 0 + (pc - 0) = pc by omega] at hz
    exact pOkI_use hz h
theorem pO_112_0 : ∀ d, d < 42 → pOkI prog_8_method_1_code pI_112 (0 + d) = true := by decide +kernel
theorem pG_112 : pQI 112 := fun pc i len h => by
    have hlt : pc < 42 := (eB1_some (show eB1 pc 42 _ = some _ from h)).1
    show decode prog_8_method_1_code pc = _ ∧ _
    have hz := pO_112_0 (pc - 0) (by omega)
    rw [show 0 + (pc - 0) = pc by omega] at hz
    exact pOkI_use hz h
theorem pO_113_0 : ∀ d, d < 92 → pOkI prog_8_method_2_code pI_113 (0 + d) = true := by decide +kernel
theorem pG_113 : pQI 113 := fun pc i len h => by
    have hlt : pc < 92 := (eB1_some (show eB1 pc 92 _ = some _ from h)).1
    show decode prog_8_method_2_code pc = _ ∧ _
    have hz := pO_113_0 (pc - 0) (by omega)
    rw [show 0 + (pc - 0) = pc by omega] at hz
    exact pOkI_use hz h
theorem pO_114_0 : ∀ d, d < 14 → pOkI prog_9_method_1_code pI_114 (0 + d) = true := by decide +kernel
theorem pG_114 : pQI 114 := fun pc i len h => by
    have hlt : pc < 14 := (eB1_some (show eB1 pc 14 _ = some _ from h)).1
    show decode prog_9_method_1_code pc = _ ∧ _
    have hz := pO_114_0 (pc - 0) (by omega)
    rw [show 0 + (pc - 0) = pc by omega] at hz
    exact pOkI_use hz h
theorem pO_115_0 : ∀ d, d < 35 → pOkI prog_9_method_2_code pI_115 (0 + d) = true := by decide +kernel
theorem pG_115 : pQI 115 := fun pc i len h => by
    have hlt : pc < 35 := (eB1_some (show eB1 pc 35 _ = some _ from h)).1
    show decode prog_9_method_2_code pc = _ ∧ _
    have hz := pO_115_0 (pc - 0) (by omega)
    rw [show 0 + (pc - 0) = pc by omega] at hz
    exact pOkI_use hz h
theorem pO_116_0 : ∀ d, d < 125 → pOkI prog_9_method_3_code pI_116 (0 + d) = true := by decide +kernel
theorem pG_116 : pQI 116 := fun pc i len h => by
    have hlt : pc < 125 := (eB1_some (show eB1 pc 125 _ = some _ from h)).1
    show decode prog_9_method_3_code pc = _ ∧ _
    have hz := pO_116_0 (pc - 0) (by omega)
    rw [show 0 + (pc - 0) = pc by omega] at hz
    exact pOkI_use hz h
theorem pO_117_0 : ∀ d, d < 31 → pOkI prog_9_method_4_code pI_117 (0 + d) = true := by decide +kernel
theorem pG_117 : pQI 117 := fun pc i len h => by
    have hlt : pc < 31 := (eB1_some (show eB1 pc 31 _ = some _ from h)).1
    show decode prog_9_method_4_code pc = _ ∧ _
    have hz := pO_117_0 (pc - 0) (by omega)
    rw [show 0 + (pc - 0) = pc by omega] at hz
    exact pOkI_use hz h
theorem pO_118_0 : ∀ d, d < 14 → pOkI prog_10_method_1_code pI_118 (0 + d) = true := by decide +kernel
theorem pG_118 : pQI 118 := fun pc i len h => by
    have hlt : pc < 14 := (eB1_some (show eB1 pc 14 _ = some _ from h)).1
    show decode prog_10_method_1_code pc = _ ∧ _
    have hz := pO_118_0 (pc - 0) (by omega)
    rw [show 0 + (pc - 0) = pc by omega] at hz
    exact pOkI_use hz h
theorem pO_119_0 : ∀ d, d < 102 → pOkI prog_10_method_2_code pI_119 (0 + d) = true := by decide +kernel
theorem pG_119 : pQI 119 := fun pc i len h => by
    have hlt : pc < 102 := (eB1_some (show eB1 pc 102 _ = some _ from h)).1
    show decode prog_10_method_2_code pc = _ ∧ _
    have hz := pO_119_0 (pc - 0) (by omega)
    rw [show 0 + (pc - 0) = pc by omega] at hz
    exact pOkI_use hz h
theorem pO_120_0 : ∀ d, d < 122 → pOkI prog_10_method_3_code pI_120 (0 + d) = true := by decide +kernel
theorem pG_120 : pQI 120 := fun pc i len h => by
    have hlt : pc < 122 := (eB1_some (show eB1 pc 122 _ = some _ from h)).1
    show decode prog_10_method_3_code pc = _ ∧ _
    have hz := pO_120_0 (pc - 0) (by omega)
    rw [show 0 + (pc - 0) = pc by omega] at hz
    exact pOkI_use hz h
theorem pO_121_0 : ∀ d, d < 90 → pOkI prog_10_method_4_code pI_121 (0 + d) = true := by decide +kernel
theorem pG_121 : pQI 121 := fun pc i len h => by
    have hlt : pc < 90 := (eB1_some (show eB1 pc 90 _ = some _ from h)).1
    show decode prog_10_method_4_code pc = _ ∧ _
    have hz := pO_121_0 (pc - 0) (by omega)
    rw [show 0 + (pc - 0) = pc by omega] at hz
    exact pOkI_use hz h
theorem pO_122_0 : ∀ d, d < 38 → pOkI prog_10_method_5_code pI_122 (0 + d) = true := by decide +kernel
theorem pG_122 : pQI 122 := fun pc i len h => by
    have hlt : pc < 38 := (eB1_some (show eB1 pc 38 _ = some _ from h)).1
    show decode prog_10_method_5_code pc = _ ∧ _
    have hz := pO_122_0 (pc - 0) (by omega)
    rw [show 0 + (pc - 0) = pc by omega] at hz
    exact pOkI_use hz h
theorem pO_123_0 : ∀ d, d < 59 → pOkI prog_10_method_6_code pI_123 (0 + d) = true := by decide +kernel
theorem pG_123 : pQI 123 := fun pc i len h => by
    have hlt : pc < 59 := (eB1_some (show eB1 pc 59 _ = some _ from h)).1
    show decode prog_10_method_6_code pc = _ ∧ _
    have hz := pO_123_0 (pc - 0) (by omega)
    rw [show 0 + (pc - 0) = pc by omega] at hz
    exact pOkI_use hz h
theorem pO_124_0 : ∀ d, d < 13 → pOkI method_3_code pI_124 (0 + d) = true := by decide +kernel
theorem pG_124 : pQI 124 := fun pc i len h => by
    have hlt : pc < 13 := (eB1_some (show eB1 pc 13 _ = some _ from h)).1
    show decode method_3_code pc = _ ∧ _
    have hz := pO_124_0 (pc - 0) (by omega)
    rw [show 0 + (pc - 0) = pc by omega] at hz
    exact pOkI_use hz h
theorem pO_125_0 : ∀ d, d < 27 → pOkI method_4_code pI_125 (0 + d) = true := by decide +kernel
theorem pG_125 : pQI 125 := fun pc i len h => by
    have hlt : pc < 27 := (eB1_some (show eB1 pc 27 _ = some _ from h)).1
    show decode method_4_code pc = _ ∧ _
    have hz := pO_125_0 (pc - 0) (by omega)
    rw [show 0 + (pc - 0) = pc by omega] at hz
    exact pOkI_use hz h
theorem pO_126_0 : ∀ d, d < 20 → pOkI method_5_code pI_126 (0 + d) = true := by decide +kernel
theorem pG_126 : pQI 126 := fun pc i len h => by
    have hlt : pc < 20 := (eB1_some (show eB1 pc 20 _ = some _ from h)).1
    show decode method_5_code pc = _ ∧ _
    have hz := pO_126_0 (pc - 0) (by omega)
    rw [show 0 + (pc - 0) = pc by omega] at hz
    exact pOkI_use hz h
theorem pO_127_0 : ∀ d, d < 27 → pOkI method_6_code pI_127 (0 + d) = true := by decide +kernel
theorem pG_127 : pQI 127 := fun pc i len h => by
    have hlt : pc < 27 := (eB1_some (show eB1 pc 27 _ = some _ from h)).1
    show decode method_6_code pc = _ ∧ _
    have hz := pO_127_0 (pc - 0) (by omega)
    rw [show 0 + (pc - 0) = pc by omega] at hz
    exact pOkI_use hz h
theorem pO_128_0 : ∀ d, d < 20 → pOkI method_7_code pI_128 (0 + d) = true := by decide +kernel
theorem pG_128 : pQI 128 := fun pc i len h => by
    have hlt : pc < 20 := (eB1_some (show eB1 pc 20 _ = some _ from h)).1
    show decode method_7_code pc = _ ∧ _
    have hz := pO_128_0 (pc - 0) (by omega)
    rw [show 0 + (pc - 0) = pc by omega] at hz
    exact pOkI_use hz h
theorem pO_129_0 : ∀ d, d < 16 → pOkI method_8_code pI_129 (0 + d) = true := by decide +kernel
theorem pG_129 : pQI 129 := fun pc i len h => by
    have hlt : pc < 16 := (eB1_some (show eB1 pc 16 _ = some _ from h)).1
    show decode method_8_code pc = _ ∧ _
    have hz := pO_129_0 (pc - 0) (by omega)
    rw [show 0 + (pc - 0) = pc by omega] at hz
    exact pOkI_use hz h
theorem pO_130_0 : ∀ d, d < 20 → pOkI method_9_code pI_130 (0 + d) = true := by decide +kernel
theorem pG_130 : pQI 130 := fun pc i len h => by
    have hlt : pc < 20 := (eB1_some (show eB1 pc 20 _ = some _ from h)).1
    show decode method_9_code pc = _ ∧ _
    have hz := pO_130_0 (pc - 0) (by omega)
    rw [show 0 + (pc - 0) = pc by omega] at hz
    exact pOkI_use hz h
theorem pO_131_0 : ∀ d, d < 16 → pOkI method_10_code pI_131 (0 + d) = true := by decide +kernel
theorem pG_131 : pQI 131 := fun pc i len h => by
    have hlt : pc < 16 := (eB1_some (show eB1 pc 16 _ = some _ from h)).1
    show decode method_10_code pc = _ ∧ _
    have hz := pO_131_0 (pc - 0) (by omega)
    rw [show 0 + (pc - 0) = pc by omega] at hz
    exact pOkI_use hz h
theorem pO_132_0 : ∀ d, d < 19 → pOkI method_11_code pI_132 (0 + d) = true := by decide +kernel
theorem pG_132 : pQI 132 := fun pc i len h => by
    have hlt : pc < 19 := (eB1_some (show eB1 pc 19 _ = some _ from h)).1
    show decode method_11_code pc = _ ∧ _
    have hz := pO_132_0 (pc - 0) (by omega)
    rw [show 0 + (pc - 0) = pc by omega] at hz
    exact pOkI_use hz h
theorem pO_133_0 : ∀ d, d < 17 → pOkI method_12_code pI_133 (0 + d) = true := by decide +kernel
theorem pG_133 : pQI 133 := fun pc i len h => by
    have hlt : pc < 17 := (eB1_some (show eB1 pc 17 _ = some _ from h)).1
    show decode method_12_code pc = _ ∧ _
    have hz := pO_133_0 (pc - 0) (by omega)
    rw [show 0 + (pc - 0) = pc by omega] at hz
    exact pOkI_use hz h
theorem pO_134_0 : ∀ d, d < 23 → pOkI method_13_code pI_134 (0 + d) = true := by decide +kernel
theorem pG_134 : pQI 134 := fun pc i len h => by
    have hlt : pc < 23 := (eB1_some (show eB1 pc 23 _ = some _ from h)).1
    show decode method_13_code pc = _ ∧ _
    have hz := pO_134_0 (pc - 0) (by omega)
    rw [show 0 + (pc - 0) = pc by omega] at hz
    exact pOkI_use hz h
theorem pO_135_0 : ∀ d, d < 17 → pOkI method_14_code pI_135 (0 + d) = true := by decide +kernel
theorem pG_135 : pQI 135 := fun pc i len h => by
    have hlt : pc < 17 := (eB1_some (show eB1 pc 17 _ = some _ from h)).1
    show decode method_14_code pc = _ ∧ _
    have hz := pO_135_0 (pc - 0) (by omega)
    rw [show 0 + (pc - 0) = pc by omega] at hz
    exact pOkI_use hz h
theorem pO_136_0 : ∀ d, d < 17 → pOkI method_15_code pI_136 (0 + d) = true := by decide +kernel
theorem pG_136 : pQI 136 := fun pc i len h => by
    have hlt : pc < 17 := (eB1_some (show eB1 pc 17 _ = some _ from h)).1
    show decode method_15_code pc = _ ∧ _
    have hz := pO_136_0 (pc - 0) (by omega)
    rw [show 0 + (pc - 0) = pc by omega] at hz
    exact pOkI_use hz h
theorem pO_137_0 : ∀ d, d < 25 → pOkI method_16_code pI_137 (0 + d) = true := by decide +kernel
theorem pG_137 : pQI 137 := fun pc i len h => by
    have hlt : pc < 25 := (eB1_some (show eB1 pc 25 _ = some _ from h)).1
    show decode method_16_code pc = _ ∧ _
    have hz := pO_137_0 (pc - 0) (by omega)
    rw [show 0 + (pc - 0) = pc by omega] at hz
    exact pOkI_use hz h
theorem pO_138_0 : ∀ d, d < 13 → pOkI method_17_code pI_138 (0 + d) = true := by decide +kernel
theorem pG_138 : pQI 138 := fun pc i len h => by
    have hlt : pc < 13 := (eB1_some (show eB1 pc 13 _ = some _ from h)).1
    show decode method_17_code pc = _ ∧ _
    have hz := pO_138_0 (pc - 0) (by omega)
    rw [show 0 + (pc - 0) = pc by omega] at hz
    exact pOkI_use hz h
theorem pO_139_0 : ∀ d, d < 150 → pOkI code pI_139 (0 + d) = true := by decide +kernel
theorem pO_139_1 : ∀ d, d < 150 → pOkI code pI_139 (150 + d) = true := by decide +kernel
theorem pO_139_2 : ∀ d, d < 150 → pOkI code pI_139 (300 + d) = true := by decide +kernel
theorem pO_139_3 : ∀ d, d < 150 → pOkI code pI_139 (450 + d) = true := by decide +kernel
theorem pO_139_4 : ∀ d, d < 150 → pOkI code pI_139 (600 + d) = true := by decide +kernel
theorem pO_139_5 : ∀ d, d < 150 → pOkI code pI_139 (750 + d) = true := by decide +kernel
theorem pO_139_6 : ∀ d, d < 130 → pOkI code pI_139 (900 + d) = true := by decide +kernel
theorem pG_139 : pQI 139 := fun pc i len h => by
    have hlt : pc < 1030 := (eB1_some (show eB1 pc 1030 _ = some _ from h)).1
    show decode code pc = _ ∧ _
    by_cases h0 : pc < 150
    · have hz := pO_139_0 (pc - 0) (by omega)
      rw [show 0 + (pc - 0) = pc by omega] at hz
      exact pOkI_use hz h
    by_cases h1 : pc < 300
    · have hz := pO_139_1 (pc - 150) (by omega)
      rw [show 150 + (pc - 150) = pc by omega] at hz
      exact pOkI_use hz h
    by_cases h2 : pc < 450
    · have hz := pO_139_2 (pc - 300) (by omega)
      rw [show 300 + (pc - 300) = pc by omega] at hz
      exact pOkI_use hz h
    by_cases h3 : pc < 600
    · have hz := pO_139_3 (pc - 450) (by omega)
      rw [show 450 + (pc - 450) = pc by omega] at hz
      exact pOkI_use hz h
    by_cases h4 : pc < 750
    · have hz := pO_139_4 (pc - 600) (by omega)
      rw [show 600 + (pc - 600) = pc by omega] at hz
      exact pOkI_use hz h
    by_cases h5 : pc < 900
    · have hz := pO_139_5 (pc - 750) (by omega)
      rw [show 750 + (pc - 750) = pc by omega] at hz
      exact pOkI_use hz h
    have hz := pO_139_6 (pc - 900) (by omega)
    rw [show 900 + (pc - 900) = pc by omega] at hz
    exact pOkI_use hz h
theorem pGR_0 : ∀ k ∈ [0, 1, 2, 3, 4, 5, 6, 7, 8, 9, 10, 11, 12, 13, 14, 15, 16, 17, 18, 19, 20, 21, 22, 23, 24, 25, 26, 27, 28, 29, 30, 31, 32, 33, 34], pQI k := List.forall_mem_cons.mpr ⟨pG_0, List.forall_mem_cons.mpr ⟨pG_1, List.forall_mem_cons.mpr ⟨pG_2, List.forall_mem_cons.mpr ⟨pG_3, List.forall_mem_cons.mpr ⟨pG_4, List.forall_mem_cons.mpr ⟨pG_5, List.forall_mem_cons.mpr ⟨pG_6, List.forall_mem_cons.mpr ⟨pG_7, List.forall_mem_cons.mpr ⟨pG_8, List.forall_mem_cons.mpr ⟨pG_9, List.forall_mem_cons.mpr ⟨pG_10, List.forall_mem_cons.mpr ⟨pG_11, List.forall_mem_cons.mpr ⟨pG_12, List.forall_mem_cons.mpr ⟨pG_13, List.forall_mem_cons.mpr ⟨pG_14, List.forall_mem_cons.mpr ⟨pG_15, List.forall_mem_cons.mpr ⟨pG_16, List.forall_mem_cons.mpr ⟨pG_17, List.forall_mem_cons.mpr ⟨pG_18, List.forall_mem_cons.mpr ⟨pG_19, List.forall_mem_cons.mpr ⟨pG_20, List.forall_mem_cons.mpr ⟨pG_21, List.forall_mem_cons.mpr ⟨pG_22, List.forall_mem_cons.mpr ⟨pG_23, List.forall_mem_cons.mpr ⟨pG_24, List.forall_mem_cons.mpr ⟨pG_25, List.forall_mem_cons.mpr ⟨pG_26, List.forall_mem_cons.mpr ⟨pG_27, List.forall_mem_cons.mpr ⟨pG_28, List.forall_mem_cons.mpr ⟨pG_29, List.forall_mem_cons.mpr ⟨pG_30, List.forall_mem_cons.mpr ⟨pG_31, List.forall_mem_cons.mpr ⟨pG_32, List.forall_mem_cons.mpr ⟨pG_33, List.forall_mem_cons.mpr ⟨pG_34, fun _ h => absurd h List.not_mem_nil⟩⟩⟩⟩⟩⟩⟩⟩⟩⟩⟩⟩⟩⟩⟩⟩⟩⟩⟩⟩⟩⟩⟩⟩⟩⟩⟩⟩⟩⟩⟩⟩⟩⟩⟩
theorem pGR_1 : ∀ k ∈ [35, 36, 37, 38, 39, 40, 41, 42, 43, 44, 45, 46, 47, 48, 49, 50, 51, 52, 53, 54, 55, 56, 57, 58, 59, 60, 61, 62, 63, 64, 65, 66, 67, 68, 69], pQI k := List.forall_mem_cons.mpr ⟨pG_35, List.forall_mem_cons.mpr ⟨pG_36, List.forall_mem_cons.mpr ⟨pG_37, List.forall_mem_cons.mpr ⟨pG_38, List.forall_mem_cons.mpr ⟨pG_39, List.forall_mem_cons.mpr ⟨pG_40, List.forall_mem_cons.mpr ⟨pG_41, List.forall_mem_cons.mpr ⟨pG_42, List.forall_mem_cons.mpr ⟨pG_43, List.forall_mem_cons.mpr ⟨pG_44, List.forall_mem_cons.mpr ⟨pG_45, List.forall_mem_cons.mpr ⟨pG_46, List.forall_mem_cons.mpr ⟨pG_47, List.forall_mem_cons.mpr ⟨pG_48, List.forall_mem_cons.mpr ⟨pG_49, List.forall_mem_cons.mpr ⟨pG_50, List.forall_mem_cons.mpr ⟨pG_51, List.forall_mem_cons.mpr ⟨pG_52, List.forall_mem_cons.mpr ⟨pG_53, List.forall_mem_cons.mpr ⟨pG_54, List.forall_mem_cons.mpr ⟨pG_55, List.forall_mem_cons.mpr ⟨pG_56, List.forall_mem_cons.mpr ⟨pG_57, List.forall_mem_cons.mpr ⟨pG_58, List.forall_mem_cons.mpr ⟨pG_59, List.forall_mem_cons.mpr ⟨pG_60, List.forall_mem_cons.mpr ⟨pG_61, List.forall_mem_cons.mpr ⟨pG_62, List.forall_mem_cons.mpr ⟨pG_63, List.forall_mem_cons.mpr ⟨pG_64, List.forall_mem_cons.mpr ⟨pG_65, List.forall_mem_cons.mpr ⟨pG_66, List.forall_mem_cons.mpr ⟨pG_67, List.forall_mem_cons.mpr ⟨pG_68, List.forall_mem_cons.mpr ⟨pG_69, fun _ h => absurd h List.not_mem_nil⟩⟩⟩⟩⟩⟩⟩⟩⟩⟩⟩⟩⟩⟩⟩⟩⟩⟩⟩⟩⟩⟩⟩⟩⟩⟩⟩⟩⟩⟩⟩⟩⟩⟩⟩
theorem pGR_2 : ∀ k ∈ [70, 71, 72, 73, 74, 75, 76, 77, 78, 79, 80, 81, 82, 83, 84, 85, 86, 87, 88, 89, 90, 91, 92, 93, 94, 95, 96, 97, 98, 99, 100, 101, 102, 103, 104], pQI k := List.forall_mem_cons.mpr ⟨pG_70, List.forall_mem_cons.mpr ⟨pG_71, List.forall_mem_cons.mpr ⟨pG_72, List.forall_mem_cons.mpr ⟨pG_73, List.forall_mem_cons.mpr ⟨pG_74, List.forall_mem_cons.mpr ⟨pG_75, List.forall_mem_cons.mpr ⟨pG_76, List.forall_mem_cons.mpr ⟨pG_77, List.forall_mem_cons.mpr ⟨pG_78, List.forall_mem_cons.mpr ⟨pG_79, List.forall_mem_cons.mpr ⟨pG_80, List.forall_mem_cons.mpr ⟨pG_81, List.forall_mem_cons.mpr ⟨pG_82, List.forall_mem_cons.mpr ⟨pG_83, List.forall_mem_cons.mpr ⟨pG_84, List.forall_mem_cons.mpr ⟨pG_85, List.forall_mem_cons.mpr ⟨pG_86, List.forall_mem_cons.mpr ⟨pG_87, List.forall_mem_cons.mpr ⟨pG_88, List.forall_mem_cons.mpr ⟨pG_89, List.forall_mem_cons.mpr ⟨pG_90, List.forall_mem_cons.mpr ⟨pG_91, List.forall_mem_cons.mpr ⟨pG_92, List.forall_mem_cons.mpr ⟨pG_93, List.forall_mem_cons.mpr ⟨pG_94, List.forall_mem_cons.mpr ⟨pG_95, List.forall_mem_cons.mpr ⟨pG_96, List.forall_mem_cons.mpr ⟨pG_97, List.forall_mem_cons.mpr ⟨pG_98, List.forall_mem_cons.mpr ⟨pG_99, List.forall_mem_cons.mpr ⟨pG_100, List.forall_mem_cons.mpr ⟨pG_101, List.forall_mem_cons.mpr ⟨pG_102, List.forall_mem_cons.mpr ⟨pG_103, List.forall_mem_cons.mpr ⟨pG_104, fun _ h => absurd h List.not_mem_nil⟩⟩⟩⟩⟩⟩⟩⟩⟩⟩⟩⟩⟩⟩⟩⟩⟩⟩⟩⟩⟩⟩⟩⟩⟩⟩⟩⟩⟩⟩⟩⟩⟩⟩⟩
theorem pGR_3 : ∀ k ∈ [105, 106, 107, 108, 109, 110, 111, 112, 113, 114, 115, 116, 117, 118, 119, 120, 121, 122, 123, 124, 125, 126, 127, 128, 129, 130, 131, 132, 133, 134, 135, 136, 137, 138, 139], pQI k := List.forall_mem_cons.mpr ⟨pG_105, List.forall_mem_cons.mpr ⟨pG_106, List.forall_mem_cons.mpr ⟨pG_107, List.forall_mem_cons.mpr ⟨pG_108, List.forall_mem_cons.mpr ⟨pG_109, List.forall_mem_cons.mpr ⟨pG_110, List.forall_mem_cons.mpr ⟨pG_111, List.forall_mem_cons.mpr ⟨pG_112, List.forall_mem_cons.mpr ⟨pG_113, List.forall_mem_cons.mpr ⟨pG_114, List.forall_mem_cons.mpr ⟨pG_115, List.forall_mem_cons.mpr ⟨pG_116, List.forall_mem_cons.mpr ⟨pG_117, List.forall_mem_cons.mpr ⟨pG_118, List.forall_mem_cons.mpr ⟨pG_119, List.forall_mem_cons.mpr ⟨pG_120, List.forall_mem_cons.mpr ⟨pG_121, List.forall_mem_cons.mpr ⟨pG_122, List.forall_mem_cons.mpr ⟨pG_123, List.forall_mem_cons.mpr ⟨pG_124, List.forall_mem_cons.mpr ⟨pG_125, List.forall_mem_cons.mpr ⟨pG_126, List.forall_mem_cons.mpr ⟨pG_127, List.forall_mem_cons.mpr ⟨pG_128, List.forall_mem_cons.mpr ⟨pG_129, List.forall_mem_cons.mpr ⟨pG_130, List.forall_mem_cons.mpr ⟨pG_131, List.forall_mem_cons.mpr ⟨pG_132, List.forall_mem_cons.mpr ⟨pG_133, List.forall_mem_cons.mpr ⟨pG_134, List.forall_mem_cons.mpr ⟨pG_135, List.forall_mem_cons.mpr ⟨pG_136, List.forall_mem_cons.mpr ⟨pG_137, List.forall_mem_cons.mpr ⟨pG_138, List.forall_mem_cons.mpr ⟨pG_139, fun _ h => absurd h List.not_mem_nil⟩⟩⟩⟩⟩⟩⟩⟩⟩⟩⟩⟩⟩⟩⟩⟩⟩⟩⟩⟩⟩⟩⟩⟩⟩⟩⟩⟩⟩⟩⟩⟩⟩⟩⟩
def pKs : List Nat := [0, 1, 2, 3, 4, 5, 6, 7, 8, 9, 10, 11, 12, 13, 14, 15, 16, 17, 18, 19, 20, 21, 22, 23, 24, 25, 26, 27, 28, 29, 30, 31, 32, 33, 34] ++ ([35, 36, 37, 38, 39, 40, 41, 42, 43, 44, 45, 46, 47, 48, 49, 50, 51, 52, 53, 54, 55, 56, 57, 58, 59, 60, 61, 62, 63, 64, 65, 66, 67, 68, 69] ++ ([70, 71, 72, 73, 74, 75, 76, 77, 78, 79, 80, 81, 82, 83, 84, 85, 86, 87, 88, 89, 90, 91, 92, 93, 94, 95, 96, 97, 98, 99, 100, 101, 102, 103, 104] ++ ([105, 106, 107, 108, 109, 110, 111, 112, 113, 114, 115, 116, 117, 118, 119, 120, 121, 122, 123, 124, 125, 126, 127, 128, 129, 130, 131, 132, 133, 134, 135, 136, 137, 138, 139])))
theorem pKs_in : ∀ k, k < 140 → k ∈ pKs := by decide +kernel
theorem pG_all : ∀ k ∈ pKs, pQI k := by
  show ∀ k ∈ [0, 1, 2, 3, 4, 5, 6, 7, 8, 9, 10, 11, 12, 13, 14, 15, 16, 17, 18, 19, 20, 21, 22, 23, 24, 25, 26, 27, 28, 29, 30, 31, 32, 33, 34] ++ ([35, 36, 37, 38, 39, 40, 41, 42, 43, 44, 45, 46, 47, 48, 49, 50, 51, 52, 53, 54, 55, 56, 57, 58, 59, 60, 61, 62, 63, 64, 65, 66, 67, 68, 69] ++ ([70, 71, 72, 73, 74, 75, 76, 77, 78, 79, 80, 81, 82, 83, 84, 85, 86, 87, 88, 89, 90, 91, 92, 93, 94, 95, 96, 97, 98, 99, 100, 101, 102, 103, 104] ++ ([105, 106, 107, 108, 109, 110, 111, 112, 113, 114, 115, 116, 117, 118, 119, 120, 121, 122, 123, 124, 125, 126, 127, 128, 129, 130, 131, 132, 133, 134, 135, 136, 137, 138, 139]))), pQI k
  exact List.forall_mem_append.mpr ⟨pGR_0, List.forall_mem_append.mpr ⟨pGR_1, List.forall_mem_append.mpr ⟨pGR_2, pGR_3⟩⟩⟩
theorem pg_ins : gIns pP pN := fun k pc i len h => pG_all k (pKs_in k (eB1_some (show eB1 k 140 _ = some _ from h)).1) pc i len h
end
section
theorem pw_0 : (Cond.laysFinal "MembraneRounds" "MembraneRounds" "book" "LMembraneRounds$RuleBook;" : Cond) ∈ lw_gd := lw_gd_in (List.mem_of_getElem? (i := 284) (by decide +kernel)) (by decide +kernel)
theorem pw_1 : (Cond.laysFinal "MembraneRounds" "MembraneRounds" "chooser" "LMembraneRounds$Chooser;" : Cond) ∈ lw_gd := lw_gd_in (List.mem_of_getElem? (i := 286) (by decide +kernel)) (by decide +kernel)
theorem pw_2 : (Cond.laysFinal "MembraneRounds" "MembraneRounds" "worker" "LMembraneRounds$Worker;" : Cond) ∈ lw_gd := lw_gd_in (List.mem_of_getElem? (i := 288) (by decide +kernel)) (by decide +kernel)
theorem pw_3 : (Cond.laysFinal "MembraneRounds" "MembraneRounds" "judge" "LMembraneRounds$Judge;" : Cond) ∈ lw_gd := lw_gd_in (List.mem_of_getElem? (i := 290) (by decide +kernel)) (by decide +kernel)
theorem pw_4 : (Cond.laysFinal "MembraneRounds" "MembraneRounds" "scribe" "LMembraneRounds$Scribe;" : Cond) ∈ lw_gd := lw_gd_in (List.mem_of_getElem? (i := 292) (by decide +kernel)) (by decide +kernel)
theorem pw_5 : (Cond.laysFinal "MembraneRounds" "MembraneRounds" "chosen" "[I" : Cond) ∈ lw_gd := lw_gd_in (List.mem_of_getElem? (i := 294) (by decide +kernel)) (by decide +kernel)
theorem pw_6 : (Cond.lays "MembraneRounds" "MembraneRounds" "now" "LMembraneRounds$Configuration;" : Cond) ∈ lw_gd := lw_gd_in (List.mem_of_getElem? (i := 296) (by decide +kernel)) (by decide +kernel)
theorem pw_7 : (Cond.lays "MembraneRounds" "MembraneRounds" "trial" "LMembraneRounds$Configuration;" : Cond) ∈ lw_gd := lw_gd_in (List.mem_of_getElem? (i := 298) (by decide +kernel)) (by decide +kernel)
theorem pU_0 : ∀ w ∈ u_ws "MembraneRounds" pT_0 8, w ∈ lw_gd := by
  show ∀ w ∈ [(Cond.laysFinal "MembraneRounds" "MembraneRounds" "book" "LMembraneRounds$RuleBook;" : Cond), (Cond.laysFinal "MembraneRounds" "MembraneRounds" "chooser" "LMembraneRounds$Chooser;" : Cond), (Cond.laysFinal "MembraneRounds" "MembraneRounds" "worker" "LMembraneRounds$Worker;" : Cond), (Cond.laysFinal "MembraneRounds" "MembraneRounds" "judge" "LMembraneRounds$Judge;" : Cond), (Cond.laysFinal "MembraneRounds" "MembraneRounds" "scribe" "LMembraneRounds$Scribe;" : Cond), (Cond.laysFinal "MembraneRounds" "MembraneRounds" "chosen" "[I" : Cond), (Cond.lays "MembraneRounds" "MembraneRounds" "now" "LMembraneRounds$Configuration;" : Cond), (Cond.lays "MembraneRounds" "MembraneRounds" "trial" "LMembraneRounds$Configuration;" : Cond)], w ∈ lw_gd
  exact List.forall_mem_cons.mpr ⟨pw_0, List.forall_mem_cons.mpr ⟨pw_1, List.forall_mem_cons.mpr ⟨pw_2, List.forall_mem_cons.mpr ⟨pw_3, List.forall_mem_cons.mpr ⟨pw_4, List.forall_mem_cons.mpr ⟨pw_5, List.forall_mem_cons.mpr ⟨pw_6, List.forall_mem_cons.mpr ⟨pw_7, fun _ h => absurd h List.not_mem_nil⟩⟩⟩⟩⟩⟩⟩⟩
def pF_0 : Nat → FieldType := fun j => cond (Nat.blt j 4) (cond (Nat.blt j 2) (cond (Nat.blt j 1) (cond (Nat.beq j 0) (.object "MembraneRounds$RuleBook") .int) (cond (Nat.beq j 1) (.object "MembraneRounds$Chooser") .int)) (cond (Nat.blt j 3) (cond (Nat.beq j 2) (.object "MembraneRounds$Worker") .int) (cond (Nat.beq j 3) (.object "MembraneRounds$Judge") .int))) (cond (Nat.blt j 6) (cond (Nat.blt j 5) (cond (Nat.beq j 4) (.object "MembraneRounds$Scribe") .int) (cond (Nat.beq j 5) (.array .int) .int)) (cond (Nat.blt j 7) (cond (Nat.beq j 6) (.object "MembraneRounds$Configuration") .int) (cond (Nat.beq j 7) (.object "MembraneRounds$Configuration") .int)))
theorem pD_0 : ∀ k, k < 8 → parseFieldDescriptor (pT_0 k).2.2.1 = some (pF_0 k) := by decide +kernel
theorem pNm_0 : ∀ a, a < 8 → ∀ b, b < 8 → a ≠ b → (pT_0 a).2.1 ≠ (pT_0 b).2.1 := by decide +kernel
theorem pw_8 : (Cond.lays "MembraneRoundsModel" "MembraneRoundsModel" "code" "I" : Cond) ∈ lw_gd := lw_gd_in (List.mem_of_getElem? (i := 768) (by decide +kernel)) (by decide +kernel)
theorem pw_9 : (Cond.lays "MembraneRoundsModel" "MembraneRoundsModel" "rules" "I" : Cond) ∈ lw_gd := lw_gd_in (List.mem_of_getElem? (i := 770) (by decide +kernel)) (by decide +kernel)
theorem pw_10 : (Cond.laysFinal "MembraneRoundsModel" "MembraneRoundsModel" "labels" "[I" : Cond) ∈ lw_gd := lw_gd_in (List.mem_of_getElem? (i := 772) (by decide +kernel)) (by decide +kernel)
theorem pw_11 : (Cond.laysFinal "MembraneRoundsModel" "MembraneRoundsModel" "lefts" "[I" : Cond) ∈ lw_gd := lw_gd_in (List.mem_of_getElem? (i := 774) (by decide +kernel)) (by decide +kernel)
theorem pw_12 : (Cond.laysFinal "MembraneRoundsModel" "MembraneRoundsModel" "heres" "[I" : Cond) ∈ lw_gd := lw_gd_in (List.mem_of_getElem? (i := 776) (by decide +kernel)) (by decide +kernel)
theorem pw_13 : (Cond.laysFinal "MembraneRoundsModel" "MembraneRoundsModel" "outs" "[I" : Cond) ∈ lw_gd := lw_gd_in (List.mem_of_getElem? (i := 778) (by decide +kernel)) (by decide +kernel)
theorem pw_14 : (Cond.laysFinal "MembraneRoundsModel" "MembraneRoundsModel" "intos" "[I" : Cond) ∈ lw_gd := lw_gd_in (List.mem_of_getElem? (i := 780) (by decide +kernel)) (by decide +kernel)
theorem pw_15 : (Cond.laysFinal "MembraneRoundsModel" "MembraneRoundsModel" "targets" "[I" : Cond) ∈ lw_gd := lw_gd_in (List.mem_of_getElem? (i := 782) (by decide +kernel)) (by decide +kernel)
theorem pw_16 : (Cond.laysFinal "MembraneRoundsModel" "MembraneRoundsModel" "acts" "[I" : Cond) ∈ lw_gd := lw_gd_in (List.mem_of_getElem? (i := 784) (by decide +kernel)) (by decide +kernel)
theorem pw_17 : (Cond.laysFinal "MembraneRoundsModel" "MembraneRoundsModel" "others" "[I" : Cond) ∈ lw_gd := lw_gd_in (List.mem_of_getElem? (i := 786) (by decide +kernel)) (by decide +kernel)
theorem pw_18 : (Cond.laysFinal "MembraneRoundsModel" "MembraneRoundsModel" "cells" "[I" : Cond) ∈ lw_gd := lw_gd_in (List.mem_of_getElem? (i := 788) (by decide +kernel)) (by decide +kernel)
theorem pw_19 : (Cond.lays "MembraneRoundsModel" "MembraneRoundsModel" "found" "I" : Cond) ∈ lw_gd := lw_gd_in (List.mem_of_getElem? (i := 790) (by decide +kernel)) (by decide +kernel)
theorem pw_20 : (Cond.lays "MembraneRoundsModel" "MembraneRoundsModel" "more" "I" : Cond) ∈ lw_gd := lw_gd_in (List.mem_of_getElem? (i := 792) (by decide +kernel)) (by decide +kernel)
theorem pw_21 : (Cond.laysFinal "MembraneRoundsModel" "MembraneRoundsModel" "rest" "[I" : Cond) ∈ lw_gd := lw_gd_in (List.mem_of_getElem? (i := 794) (by decide +kernel)) (by decide +kernel)
theorem pw_22 : (Cond.laysFinal "MembraneRoundsModel" "MembraneRoundsModel" "uses" "[I" : Cond) ∈ lw_gd := lw_gd_in (List.mem_of_getElem? (i := 796) (by decide +kernel)) (by decide +kernel)
theorem pw_23 : (Cond.lays "MembraneRoundsModel" "MembraneRoundsModel" "acted" "Z" : Cond) ∈ lw_gd := lw_gd_in (List.mem_of_getElem? (i := 798) (by decide +kernel)) (by decide +kernel)
theorem pw_24 : (Cond.laysFinal "MembraneRoundsModel" "MembraneRoundsModel" "list" "[I" : Cond) ∈ lw_gd := lw_gd_in (List.mem_of_getElem? (i := 800) (by decide +kernel)) (by decide +kernel)
theorem pw_25 : (Cond.lays "MembraneRoundsModel" "MembraneRoundsModel" "listed" "I" : Cond) ∈ lw_gd := lw_gd_in (List.mem_of_getElem? (i := 802) (by decide +kernel)) (by decide +kernel)
theorem pw_26 : (Cond.laysFinal "MembraneRoundsModel" "MembraneRoundsModel" "begins" "[I" : Cond) ∈ lw_gd := lw_gd_in (List.mem_of_getElem? (i := 804) (by decide +kernel)) (by decide +kernel)
theorem pw_27 : (Cond.laysFinal "MembraneRoundsModel" "MembraneRoundsModel" "many" "[I" : Cond) ∈ lw_gd := lw_gd_in (List.mem_of_getElem? (i := 806) (by decide +kernel)) (by decide +kernel)
theorem pw_28 : (Cond.laysFinal "MembraneRoundsModel" "MembraneRoundsModel" "digits" "[I" : Cond) ∈ lw_gd := lw_gd_in (List.mem_of_getElem? (i := 808) (by decide +kernel)) (by decide +kernel)
theorem pw_29 : (Cond.laysFinal "MembraneRoundsModel" "MembraneRoundsModel" "chosen" "[I" : Cond) ∈ lw_gd := lw_gd_in (List.mem_of_getElem? (i := 810) (by decide +kernel)) (by decide +kernel)
theorem pw_30 : (Cond.lays "MembraneRoundsModel" "MembraneRoundsModel" "length" "I" : Cond) ∈ lw_gd := lw_gd_in (List.mem_of_getElem? (i := 812) (by decide +kernel)) (by decide +kernel)
theorem pw_31 : (Cond.lays "MembraneRoundsModel" "MembraneRoundsModel" "wanted" "I" : Cond) ∈ lw_gd := lw_gd_in (List.mem_of_getElem? (i := 814) (by decide +kernel)) (by decide +kernel)
theorem pw_32 : (Cond.lays "MembraneRoundsModel" "MembraneRoundsModel" "letter" "I" : Cond) ∈ lw_gd := lw_gd_in (List.mem_of_getElem? (i := 816) (by decide +kernel)) (by decide +kernel)
theorem pw_33 : (Cond.laysFinal "MembraneRoundsModel" "MembraneRoundsModel" "open" "[I" : Cond) ∈ lw_gd := lw_gd_in (List.mem_of_getElem? (i := 818) (by decide +kernel)) (by decide +kernel)
theorem pU_1 : ∀ w ∈ u_ws "MembraneRoundsModel" pT_1 26, w ∈ lw_gd := by
  show ∀ w ∈ [(Cond.lays "MembraneRoundsModel" "MembraneRoundsModel" "code" "I" : Cond), (Cond.lays "MembraneRoundsModel" "MembraneRoundsModel" "rules" "I" : Cond), (Cond.laysFinal "MembraneRoundsModel" "MembraneRoundsModel" "labels" "[I" : Cond), (Cond.laysFinal "MembraneRoundsModel" "MembraneRoundsModel" "lefts" "[I" : Cond), (Cond.laysFinal "MembraneRoundsModel" "MembraneRoundsModel" "heres" "[I" : Cond), (Cond.laysFinal "MembraneRoundsModel" "MembraneRoundsModel" "outs" "[I" : Cond), (Cond.laysFinal "MembraneRoundsModel" "MembraneRoundsModel" "intos" "[I" : Cond), (Cond.laysFinal "MembraneRoundsModel" "MembraneRoundsModel" "targets" "[I" : Cond), (Cond.laysFinal "MembraneRoundsModel" "MembraneRoundsModel" "acts" "[I" : Cond), (Cond.laysFinal "MembraneRoundsModel" "MembraneRoundsModel" "others" "[I" : Cond), (Cond.laysFinal "MembraneRoundsModel" "MembraneRoundsModel" "cells" "[I" : Cond), (Cond.lays "MembraneRoundsModel" "MembraneRoundsModel" "found" "I" : Cond), (Cond.lays "MembraneRoundsModel" "MembraneRoundsModel" "more" "I" : Cond), (Cond.laysFinal "MembraneRoundsModel" "MembraneRoundsModel" "rest" "[I" : Cond), (Cond.laysFinal "MembraneRoundsModel" "MembraneRoundsModel" "uses" "[I" : Cond), (Cond.lays "MembraneRoundsModel" "MembraneRoundsModel" "acted" "Z" : Cond), (Cond.laysFinal "MembraneRoundsModel" "MembraneRoundsModel" "list" "[I" : Cond), (Cond.lays "MembraneRoundsModel" "MembraneRoundsModel" "listed" "I" : Cond), (Cond.laysFinal "MembraneRoundsModel" "MembraneRoundsModel" "begins" "[I" : Cond), (Cond.laysFinal "MembraneRoundsModel" "MembraneRoundsModel" "many" "[I" : Cond), (Cond.laysFinal "MembraneRoundsModel" "MembraneRoundsModel" "digits" "[I" : Cond), (Cond.laysFinal "MembraneRoundsModel" "MembraneRoundsModel" "chosen" "[I" : Cond), (Cond.lays "MembraneRoundsModel" "MembraneRoundsModel" "length" "I" : Cond), (Cond.lays "MembraneRoundsModel" "MembraneRoundsModel" "wanted" "I" : Cond), (Cond.lays "MembraneRoundsModel" "MembraneRoundsModel" "letter" "I" : Cond), (Cond.laysFinal "MembraneRoundsModel" "MembraneRoundsModel" "open" "[I" : Cond)], w ∈ lw_gd
  exact List.forall_mem_cons.mpr ⟨pw_8, List.forall_mem_cons.mpr ⟨pw_9, List.forall_mem_cons.mpr ⟨pw_10, List.forall_mem_cons.mpr ⟨pw_11, List.forall_mem_cons.mpr ⟨pw_12, List.forall_mem_cons.mpr ⟨pw_13, List.forall_mem_cons.mpr ⟨pw_14, List.forall_mem_cons.mpr ⟨pw_15, List.forall_mem_cons.mpr ⟨pw_16, List.forall_mem_cons.mpr ⟨pw_17, List.forall_mem_cons.mpr ⟨pw_18, List.forall_mem_cons.mpr ⟨pw_19, List.forall_mem_cons.mpr ⟨pw_20, List.forall_mem_cons.mpr ⟨pw_21, List.forall_mem_cons.mpr ⟨pw_22, List.forall_mem_cons.mpr ⟨pw_23, List.forall_mem_cons.mpr ⟨pw_24, List.forall_mem_cons.mpr ⟨pw_25, List.forall_mem_cons.mpr ⟨pw_26, List.forall_mem_cons.mpr ⟨pw_27, List.forall_mem_cons.mpr ⟨pw_28, List.forall_mem_cons.mpr ⟨pw_29, List.forall_mem_cons.mpr ⟨pw_30, List.forall_mem_cons.mpr ⟨pw_31, List.forall_mem_cons.mpr ⟨pw_32, List.forall_mem_cons.mpr ⟨pw_33, fun _ h => absurd h List.not_mem_nil⟩⟩⟩⟩⟩⟩⟩⟩⟩⟩⟩⟩⟩⟩⟩⟩⟩⟩⟩⟩⟩⟩⟩⟩⟩⟩
def pF_1 : Nat → FieldType := fun j => cond (Nat.blt j 13) (cond (Nat.blt j 6) (cond (Nat.blt j 3) (cond (Nat.blt j 1) (cond (Nat.beq j 0) .int .int) (cond (Nat.blt j 2) (cond (Nat.beq j 1) .int .int) (cond (Nat.beq j 2) (.array .int) .int))) (cond (Nat.blt j 4) (cond (Nat.beq j 3) (.array .int) .int) (cond (Nat.blt j 5) (cond (Nat.beq j 4) (.array .int) .int) (cond (Nat.beq j 5) (.array .int) .int)))) (cond (Nat.blt j 9) (cond (Nat.blt j 7) (cond (Nat.beq j 6) (.array .int) .int) (cond (Nat.blt j 8) (cond (Nat.beq j 7) (.array .int) .int) (cond (Nat.beq j 8) (.array .int) .int))) (cond (Nat.blt j 11) (cond (Nat.blt j 10) (cond (Nat.beq j 9) (.array .int) .int) (cond (Nat.beq j 10) (.array .int) .int)) (cond (Nat.blt j 12) (cond (Nat.beq j 11) .int .int) (cond (Nat.beq j 12) .int .int))))) (cond (Nat.blt j 19) (cond (Nat.blt j 16) (cond (Nat.blt j 14) (cond (Nat.beq j 13) (.array .int) .int) (cond (Nat.blt j 15) (cond (Nat.beq j 14) (.array .int) .int) (cond (Nat.beq j 15) .boolean .int))) (cond (Nat.blt j 17) (cond (Nat.beq j 16) (.array .int) .int) (cond (Nat.blt j 18) (cond (Nat.beq j 17) .int .int) (cond (Nat.beq j 18) (.array .int) .int)))) (cond (Nat.blt j 22) (cond (Nat.blt j 20) (cond (Nat.beq j 19) (.array .int) .int) (cond (Nat.blt j 21) (cond (Nat.beq j 20) (.array .int) .int) (cond (Nat.beq j 21) (.array .int) .int))) (cond (Nat.blt j 24) (cond (Nat.blt j 23) (cond (Nat.beq j 22) .int .int) (cond (Nat.beq j 23) .int .int)) (cond (Nat.blt j 25) (cond (Nat.beq j 24) .int .int) (cond (Nat.beq j 25) (.array .int) .int)))))
theorem pD_1 : ∀ k, k < 26 → parseFieldDescriptor (pT_1 k).2.2.1 = some (pF_1 k) := by decide +kernel
theorem pNm_1 : ∀ a, a < 26 → ∀ b, b < 26 → a ≠ b → (pT_1 a).2.1 ≠ (pT_1 b).2.1 := by decide +kernel
theorem pw_34 : (Cond.laysFinal "MembraneRounds$Chooser" "MembraneRounds$Chooser" "open" "[LMembraneRounds$Rule;" : Cond) ∈ lw_gd := lw_gd_in (List.mem_of_getElem? (i := 168) (by decide +kernel)) (by decide +kernel)
theorem pw_35 : (Cond.lays "MembraneRounds$Chooser" "MembraneRounds$Chooser" "opens" "I" : Cond) ∈ lw_gd := lw_gd_in (List.mem_of_getElem? (i := 170) (by decide +kernel)) (by decide +kernel)
theorem pw_36 : (Cond.laysFinal "MembraneRounds$Chooser" "MembraneRounds$Chooser" "row" "[I" : Cond) ∈ lw_gd := lw_gd_in (List.mem_of_getElem? (i := 172) (by decide +kernel)) (by decide +kernel)
theorem pw_37 : (Cond.lays "MembraneRounds$Chooser" "MembraneRounds$Chooser" "start" "I" : Cond) ∈ lw_gd := lw_gd_in (List.mem_of_getElem? (i := 174) (by decide +kernel)) (by decide +kernel)
theorem pw_38 : (Cond.lays "MembraneRounds$Chooser" "MembraneRounds$Chooser" "end" "I" : Cond) ∈ lw_gd := lw_gd_in (List.mem_of_getElem? (i := 176) (by decide +kernel)) (by decide +kernel)
theorem pw_39 : (Cond.laysFinal "MembraneRounds$Chooser" "MembraneRounds$Chooser" "starts" "[I" : Cond) ∈ lw_gd := lw_gd_in (List.mem_of_getElem? (i := 178) (by decide +kernel)) (by decide +kernel)
theorem pw_40 : (Cond.laysFinal "MembraneRounds$Chooser" "MembraneRounds$Chooser" "places" "[I" : Cond) ∈ lw_gd := lw_gd_in (List.mem_of_getElem? (i := 180) (by decide +kernel)) (by decide +kernel)
theorem pU_2 : ∀ w ∈ u_ws "MembraneRounds$Chooser" pT_2 7, w ∈ lw_gd := by
  show ∀ w ∈ [(Cond.laysFinal "MembraneRounds$Chooser" "MembraneRounds$Chooser" "open" "[LMembraneRounds$Rule;" : Cond), (Cond.lays "MembraneRounds$Chooser" "MembraneRounds$Chooser" "opens" "I" : Cond), (Cond.laysFinal "MembraneRounds$Chooser" "MembraneRounds$Chooser" "row" "[I" : Cond), (Cond.lays "MembraneRounds$Chooser" "MembraneRounds$Chooser" "start" "I" : Cond), (Cond.lays "MembraneRounds$Chooser" "MembraneRounds$Chooser" "end" "I" : Cond), (Cond.laysFinal "MembraneRounds$Chooser" "MembraneRounds$Chooser" "starts" "[I" : Cond), (Cond.laysFinal "MembraneRounds$Chooser" "MembraneRounds$Chooser" "places" "[I" : Cond)], w ∈ lw_gd
  exact List.forall_mem_cons.mpr ⟨pw_34, List.forall_mem_cons.mpr ⟨pw_35, List.forall_mem_cons.mpr ⟨pw_36, List.forall_mem_cons.mpr ⟨pw_37, List.forall_mem_cons.mpr ⟨pw_38, List.forall_mem_cons.mpr ⟨pw_39, List.forall_mem_cons.mpr ⟨pw_40, fun _ h => absurd h List.not_mem_nil⟩⟩⟩⟩⟩⟩⟩
def pF_2 : Nat → FieldType := fun j => cond (Nat.blt j 3) (cond (Nat.blt j 1) (cond (Nat.beq j 0) (.array (.object "MembraneRounds$Rule")) .int) (cond (Nat.blt j 2) (cond (Nat.beq j 1) .int .int) (cond (Nat.beq j 2) (.array .int) .int))) (cond (Nat.blt j 5) (cond (Nat.blt j 4) (cond (Nat.beq j 3) .int .int) (cond (Nat.beq j 4) .int .int)) (cond (Nat.blt j 6) (cond (Nat.beq j 5) (.array .int) .int) (cond (Nat.beq j 6) (.array .int) .int)))
theorem pD_2 : ∀ k, k < 7 → parseFieldDescriptor (pT_2 k).2.2.1 = some (pF_2 k) := by decide +kernel
theorem pNm_2 : ∀ a, a < 7 → ∀ b, b < 7 → a ≠ b → (pT_2 a).2.1 ≠ (pT_2 b).2.1 := by decide +kernel
theorem pw_41 : (Cond.laysFinal "MembraneRounds$Configuration" "MembraneRounds$Configuration" "labels" "[I" : Cond) ∈ lw_gd := lw_gd_in (List.mem_of_getElem? (i := 222) (by decide +kernel)) (by decide +kernel)
theorem pw_42 : (Cond.laysFinal "MembraneRounds$Configuration" "MembraneRounds$Configuration" "parents" "[I" : Cond) ∈ lw_gd := lw_gd_in (List.mem_of_getElem? (i := 224) (by decide +kernel)) (by decide +kernel)
theorem pw_43 : (Cond.laysFinal "MembraneRounds$Configuration" "MembraneRounds$Configuration" "heaps" "[J" : Cond) ∈ lw_gd := lw_gd_in (List.mem_of_getElem? (i := 226) (by decide +kernel)) (by decide +kernel)
theorem pU_3 : ∀ w ∈ u_ws "MembraneRounds$Configuration" pT_3 3, w ∈ lw_gd := by
  show ∀ w ∈ [(Cond.laysFinal "MembraneRounds$Configuration" "MembraneRounds$Configuration" "labels" "[I" : Cond), (Cond.laysFinal "MembraneRounds$Configuration" "MembraneRounds$Configuration" "parents" "[I" : Cond), (Cond.laysFinal "MembraneRounds$Configuration" "MembraneRounds$Configuration" "heaps" "[J" : Cond)], w ∈ lw_gd
  exact List.forall_mem_cons.mpr ⟨pw_41, List.forall_mem_cons.mpr ⟨pw_42, List.forall_mem_cons.mpr ⟨pw_43, fun _ h => absurd h List.not_mem_nil⟩⟩⟩
def pF_3 : Nat → FieldType := fun j => cond (Nat.blt j 1) (cond (Nat.beq j 0) (.array .int) .int) (cond (Nat.blt j 2) (cond (Nat.beq j 1) (.array .int) .int) (cond (Nat.beq j 2) (.array .long) .int))
theorem pD_3 : ∀ k, k < 3 → parseFieldDescriptor (pT_3 k).2.2.1 = some (pF_3 k) := by decide +kernel
theorem pNm_3 : ∀ a, a < 3 → ∀ b, b < 3 → a ≠ b → (pT_3 a).2.1 ≠ (pT_3 b).2.1 := by decide +kernel
theorem pw_44 : (Cond.lays "MembraneRounds$Judge" "MembraneRounds$Judge" "found" "[LMembraneRounds$Configuration;" : Cond) ∈ lw_gd := lw_gd_in (List.mem_of_getElem? (i := 237) (by decide +kernel)) (by decide +kernel)
theorem pw_45 : (Cond.lays "MembraneRounds$Judge" "MembraneRounds$Judge" "count" "I" : Cond) ∈ lw_gd := lw_gd_in (List.mem_of_getElem? (i := 239) (by decide +kernel)) (by decide +kernel)
theorem pw_46 : (Cond.lays "MembraneRounds$Judge" "MembraneRounds$Judge" "before" "[LMembraneRounds$Configuration;" : Cond) ∈ lw_gd := lw_gd_in (List.mem_of_getElem? (i := 241) (by decide +kernel)) (by decide +kernel)
theorem pw_47 : (Cond.laysFinal "MembraneRounds$Judge" "MembraneRounds$Judge" "trial" "LMembraneRounds$Configuration;" : Cond) ∈ lw_gd := lw_gd_in (List.mem_of_getElem? (i := 243) (by decide +kernel)) (by decide +kernel)
theorem pw_48 : (Cond.laysFinal "MembraneRounds$Judge" "MembraneRounds$Judge" "chosen" "[I" : Cond) ∈ lw_gd := lw_gd_in (List.mem_of_getElem? (i := 245) (by decide +kernel)) (by decide +kernel)
theorem pU_4 : ∀ w ∈ u_ws "MembraneRounds$Judge" pT_4 5, w ∈ lw_gd := by
  show ∀ w ∈ [(Cond.lays "MembraneRounds$Judge" "MembraneRounds$Judge" "found" "[LMembraneRounds$Configuration;" : Cond), (Cond.lays "MembraneRounds$Judge" "MembraneRounds$Judge" "count" "I" : Cond), (Cond.lays "MembraneRounds$Judge" "MembraneRounds$Judge" "before" "[LMembraneRounds$Configuration;" : Cond), (Cond.laysFinal "MembraneRounds$Judge" "MembraneRounds$Judge" "trial" "LMembraneRounds$Configuration;" : Cond), (Cond.laysFinal "MembraneRounds$Judge" "MembraneRounds$Judge" "chosen" "[I" : Cond)], w ∈ lw_gd
  exact List.forall_mem_cons.mpr ⟨pw_44, List.forall_mem_cons.mpr ⟨pw_45, List.forall_mem_cons.mpr ⟨pw_46, List.forall_mem_cons.mpr ⟨pw_47, List.forall_mem_cons.mpr ⟨pw_48, fun _ h => absurd h List.not_mem_nil⟩⟩⟩⟩⟩
def pF_4 : Nat → FieldType := fun j => cond (Nat.blt j 2) (cond (Nat.blt j 1) (cond (Nat.beq j 0) (.array (.object "MembraneRounds$Configuration")) .int) (cond (Nat.beq j 1) .int .int)) (cond (Nat.blt j 3) (cond (Nat.beq j 2) (.array (.object "MembraneRounds$Configuration")) .int) (cond (Nat.blt j 4) (cond (Nat.beq j 3) (.object "MembraneRounds$Configuration") .int) (cond (Nat.beq j 4) (.array .int) .int)))
theorem pD_4 : ∀ k, k < 5 → parseFieldDescriptor (pT_4 k).2.2.1 = some (pF_4 k) := by decide +kernel
theorem pNm_4 : ∀ a, a < 5 → ∀ b, b < 5 → a ≠ b → (pT_4 a).2.1 ≠ (pT_4 b).2.1 := by decide +kernel
theorem pw_49 : (Cond.laysFinal "MembraneRounds$Rule" "MembraneRounds$Rule" "number" "I" : Cond) ∈ lw_gd := lw_gd_in (List.mem_of_getElem? (i := 118) (by decide +kernel)) (by decide +kernel)
theorem pw_50 : (Cond.lays "MembraneRounds$Rule" "MembraneRounds$Rule" "label" "I" : Cond) ∈ lw_gd := lw_gd_in (List.mem_of_getElem? (i := 120) (by decide +kernel)) (by decide +kernel)
theorem pw_51 : (Cond.lays "MembraneRounds$Rule" "MembraneRounds$Rule" "left" "J" : Cond) ∈ lw_gd := lw_gd_in (List.mem_of_getElem? (i := 122) (by decide +kernel)) (by decide +kernel)
theorem pw_52 : (Cond.lays "MembraneRounds$Rule" "MembraneRounds$Rule" "leftKinds" "J" : Cond) ∈ lw_gd := lw_gd_in (List.mem_of_getElem? (i := 124) (by decide +kernel)) (by decide +kernel)
theorem pw_53 : (Cond.lays "MembraneRounds$Rule" "MembraneRounds$Rule" "here" "J" : Cond) ∈ lw_gd := lw_gd_in (List.mem_of_getElem? (i := 126) (by decide +kernel)) (by decide +kernel)
theorem pw_54 : (Cond.lays "MembraneRounds$Rule" "MembraneRounds$Rule" "out" "J" : Cond) ∈ lw_gd := lw_gd_in (List.mem_of_getElem? (i := 128) (by decide +kernel)) (by decide +kernel)
theorem pw_55 : (Cond.lays "MembraneRounds$Rule" "MembraneRounds$Rule" "into" "J" : Cond) ∈ lw_gd := lw_gd_in (List.mem_of_getElem? (i := 130) (by decide +kernel)) (by decide +kernel)
theorem pw_56 : (Cond.lays "MembraneRounds$Rule" "MembraneRounds$Rule" "intoLabel" "I" : Cond) ∈ lw_gd := lw_gd_in (List.mem_of_getElem? (i := 132) (by decide +kernel)) (by decide +kernel)
theorem pw_57 : (Cond.lays "MembraneRounds$Rule" "MembraneRounds$Rule" "dissolves" "Z" : Cond) ∈ lw_gd := lw_gd_in (List.mem_of_getElem? (i := 134) (by decide +kernel)) (by decide +kernel)
theorem pw_58 : (Cond.lays "MembraneRounds$Rule" "MembraneRounds$Rule" "divides" "Z" : Cond) ∈ lw_gd := lw_gd_in (List.mem_of_getElem? (i := 136) (by decide +kernel)) (by decide +kernel)
theorem pw_59 : (Cond.lays "MembraneRounds$Rule" "MembraneRounds$Rule" "other" "J" : Cond) ∈ lw_gd := lw_gd_in (List.mem_of_getElem? (i := 138) (by decide +kernel)) (by decide +kernel)
theorem pU_5 : ∀ w ∈ u_ws "MembraneRounds$Rule" pT_5 11, w ∈ lw_gd := by
  show ∀ w ∈ [(Cond.laysFinal "MembraneRounds$Rule" "MembraneRounds$Rule" "number" "I" : Cond), (Cond.lays "MembraneRounds$Rule" "MembraneRounds$Rule" "label" "I" : Cond), (Cond.lays "MembraneRounds$Rule" "MembraneRounds$Rule" "left" "J" : Cond), (Cond.lays "MembraneRounds$Rule" "MembraneRounds$Rule" "leftKinds" "J" : Cond), (Cond.lays "MembraneRounds$Rule" "MembraneRounds$Rule" "here" "J" : Cond), (Cond.lays "MembraneRounds$Rule" "MembraneRounds$Rule" "out" "J" : Cond), (Cond.lays "MembraneRounds$Rule" "MembraneRounds$Rule" "into" "J" : Cond), (Cond.lays "MembraneRounds$Rule" "MembraneRounds$Rule" "intoLabel" "I" : Cond), (Cond.lays "MembraneRounds$Rule" "MembraneRounds$Rule" "dissolves" "Z" : Cond), (Cond.lays "MembraneRounds$Rule" "MembraneRounds$Rule" "divides" "Z" : Cond), (Cond.lays "MembraneRounds$Rule" "MembraneRounds$Rule" "other" "J" : Cond)], w ∈ lw_gd
  exact List.forall_mem_cons.mpr ⟨pw_49, List.forall_mem_cons.mpr ⟨pw_50, List.forall_mem_cons.mpr ⟨pw_51, List.forall_mem_cons.mpr ⟨pw_52, List.forall_mem_cons.mpr ⟨pw_53, List.forall_mem_cons.mpr ⟨pw_54, List.forall_mem_cons.mpr ⟨pw_55, List.forall_mem_cons.mpr ⟨pw_56, List.forall_mem_cons.mpr ⟨pw_57, List.forall_mem_cons.mpr ⟨pw_58, List.forall_mem_cons.mpr ⟨pw_59, fun _ h => absurd h List.not_mem_nil⟩⟩⟩⟩⟩⟩⟩⟩⟩⟩⟩
def pF_5 : Nat → FieldType := fun j => cond (Nat.blt j 5) (cond (Nat.blt j 2) (cond (Nat.blt j 1) (cond (Nat.beq j 0) .int .int) (cond (Nat.beq j 1) .int .int)) (cond (Nat.blt j 3) (cond (Nat.beq j 2) .long .int) (cond (Nat.blt j 4) (cond (Nat.beq j 3) .long .int) (cond (Nat.beq j 4) .long .int)))) (cond (Nat.blt j 8) (cond (Nat.blt j 6) (cond (Nat.beq j 5) .long .int) (cond (Nat.blt j 7) (cond (Nat.beq j 6) .long .int) (cond (Nat.beq j 7) .int .int))) (cond (Nat.blt j 9) (cond (Nat.beq j 8) .boolean .int) (cond (Nat.blt j 10) (cond (Nat.beq j 9) .boolean .int) (cond (Nat.beq j 10) .long .int))))
theorem pD_5 : ∀ k, k < 11 → parseFieldDescriptor (pT_5 k).2.2.1 = some (pF_5 k) := by decide +kernel
theorem pNm_5 : ∀ a, a < 11 → ∀ b, b < 11 → a ≠ b → (pT_5 a).2.1 ≠ (pT_5 b).2.1 := by decide +kernel
theorem pw_60 : (Cond.laysFinal "MembraneRounds$RuleBook" "MembraneRounds$RuleBook" "rules" "[LMembraneRounds$Rule;" : Cond) ∈ lw_gd := lw_gd_in (List.mem_of_getElem? (i := 149) (by decide +kernel)) (by decide +kernel)
theorem pw_61 : (Cond.lays "MembraneRounds$RuleBook" "MembraneRounds$RuleBook" "count" "I" : Cond) ∈ lw_gd := lw_gd_in (List.mem_of_getElem? (i := 151) (by decide +kernel)) (by decide +kernel)
theorem pU_6 : ∀ w ∈ u_ws "MembraneRounds$RuleBook" pT_6 2, w ∈ lw_gd := by
  show ∀ w ∈ [(Cond.laysFinal "MembraneRounds$RuleBook" "MembraneRounds$RuleBook" "rules" "[LMembraneRounds$Rule;" : Cond), (Cond.lays "MembraneRounds$RuleBook" "MembraneRounds$RuleBook" "count" "I" : Cond)], w ∈ lw_gd
  exact List.forall_mem_cons.mpr ⟨pw_60, List.forall_mem_cons.mpr ⟨pw_61, fun _ h => absurd h List.not_mem_nil⟩⟩
def pF_6 : Nat → FieldType := fun j => cond (Nat.blt j 1) (cond (Nat.beq j 0) (.array (.object "MembraneRounds$Rule")) .int) (cond (Nat.beq j 1) .int .int)
theorem pD_6 : ∀ k, k < 2 → parseFieldDescriptor (pT_6 k).2.2.1 = some (pF_6 k) := by decide +kernel
theorem pNm_6 : ∀ a, a < 2 → ∀ b, b < 2 → a ≠ b → (pT_6 a).2.1 ≠ (pT_6 b).2.1 := by decide +kernel
theorem pw_62 : (Cond.laysFinal "MembraneRounds$Scribe" "MembraneRounds$Scribe" "row" "[C" : Cond) ∈ lw_gd := lw_gd_in (List.mem_of_getElem? (i := 256) (by decide +kernel)) (by decide +kernel)
theorem pw_63 : (Cond.lays "MembraneRounds$Scribe" "MembraneRounds$Scribe" "length" "I" : Cond) ∈ lw_gd := lw_gd_in (List.mem_of_getElem? (i := 258) (by decide +kernel)) (by decide +kernel)
theorem pU_7 : ∀ w ∈ u_ws "MembraneRounds$Scribe" pT_7 2, w ∈ lw_gd := by
  show ∀ w ∈ [(Cond.laysFinal "MembraneRounds$Scribe" "MembraneRounds$Scribe" "row" "[C" : Cond), (Cond.lays "MembraneRounds$Scribe" "MembraneRounds$Scribe" "length" "I" : Cond)], w ∈ lw_gd
  exact List.forall_mem_cons.mpr ⟨pw_62, List.forall_mem_cons.mpr ⟨pw_63, fun _ h => absurd h List.not_mem_nil⟩⟩
def pF_7 : Nat → FieldType := fun j => cond (Nat.blt j 1) (cond (Nat.beq j 0) (.array .char) .int) (cond (Nat.beq j 1) .int .int)
theorem pD_7 : ∀ k, k < 2 → parseFieldDescriptor (pT_7 k).2.2.1 = some (pF_7 k) := by decide +kernel
theorem pNm_7 : ∀ a, a < 2 → ∀ b, b < 2 → a ≠ b → (pT_7 a).2.1 ≠ (pT_7 b).2.1 := by decide +kernel
theorem pw_64 : (Cond.laysFinal "MembraneRounds$Worker" "MembraneRounds$Worker" "onceUsed" "[LMembraneRounds$Rule;" : Cond) ∈ lw_gd := lw_gd_in (List.mem_of_getElem? (i := 192) (by decide +kernel)) (by decide +kernel)
theorem pU_8 : ∀ w ∈ u_ws "MembraneRounds$Worker" pT_8 1, w ∈ lw_gd := by
  show ∀ w ∈ [(Cond.laysFinal "MembraneRounds$Worker" "MembraneRounds$Worker" "onceUsed" "[LMembraneRounds$Rule;" : Cond)], w ∈ lw_gd
  exact List.forall_mem_cons.mpr ⟨pw_64, fun _ h => absurd h List.not_mem_nil⟩
def pF_8 : Nat → FieldType := fun j => cond (Nat.beq j 0) (.array (.object "MembraneRounds$Rule")) .int
theorem pD_8 : ∀ k, k < 1 → parseFieldDescriptor (pT_8 k).2.2.1 = some (pF_8 k) := by decide +kernel
theorem pNm_8 : ∀ a, a < 1 → ∀ b, b < 1 → a ≠ b → (pT_8 a).2.1 ≠ (pT_8 b).2.1 := by decide +kernel
theorem pU_9 : ∀ w ∈ u_ws "java/lang/IllegalArgumentException" pT_9 0, w ∈ lw_gd := by
  show ∀ w ∈ [], w ∈ lw_gd
  exact fun _ h => absurd h List.not_mem_nil
def pF_9 : Nat → FieldType := fun j => .int
theorem pD_9 : ∀ k, k < 0 → parseFieldDescriptor (pT_9 k).2.2.1 = some (pF_9 k) := by decide +kernel
theorem pNm_9 : ∀ a, a < 0 → ∀ b, b < 0 → a ≠ b → (pT_9 a).2.1 ≠ (pT_9 b).2.1 := by decide +kernel
theorem pU_10 : ∀ w ∈ u_ws "java/lang/IndexOutOfBoundsException" pT_10 0, w ∈ lw_gd := by
  show ∀ w ∈ [], w ∈ lw_gd
  exact fun _ h => absurd h List.not_mem_nil
def pF_10 : Nat → FieldType := fun j => .int
theorem pD_10 : ∀ k, k < 0 → parseFieldDescriptor (pT_10 k).2.2.1 = some (pF_10 k) := by decide +kernel
theorem pNm_10 : ∀ a, a < 0 → ∀ b, b < 0 → a ≠ b → (pT_10 a).2.1 ≠ (pT_10 b).2.1 := by decide +kernel
theorem pU_11 : ∀ w ∈ u_ws "java/lang/IllegalStateException" pT_11 0, w ∈ lw_gd := by
  show ∀ w ∈ [], w ∈ lw_gd
  exact fun _ h => absurd h List.not_mem_nil
def pF_11 : Nat → FieldType := fun j => .int
theorem pD_11 : ∀ k, k < 0 → parseFieldDescriptor (pT_11 k).2.2.1 = some (pF_11 k) := by decide +kernel
theorem pNm_11 : ∀ a, a < 0 → ∀ b, b < 0 → a ≠ b → (pT_11 a).2.1 ≠ (pT_11 b).2.1 := by decide +kernel
def pfFL : List (Nat × Nat × Nat × Nat × FieldType × Bool) := [(0, 12, (0, 0, (.object "MembraneRounds$RuleBook"), true)), (0, 19, (0, 1, (.object "MembraneRounds$Chooser"), true)), (0, 26, (0, 2, (.object "MembraneRounds$Worker"), true)), (0, 33, (0, 3, (.object "MembraneRounds$Judge"), true)), (0, 40, (0, 4, (.object "MembraneRounds$Scribe"), true)), (0, 44, (0, 5, (.array .int), true)), (0, 51, (0, 6, (.object "MembraneRounds$Configuration"), false)), (0, 55, (0, 7, (.object "MembraneRounds$Configuration"), false)), (0, 65, (6, 1, .int, false)), (0, 69, (4, 1, .int, false)), (0, 91, (3, 2, (.array .long), true)), (0, 121, (6, 0, (.array (.object "MembraneRounds$Rule")), true)), (0, 125, (5, 6, .long, false)), (0, 131, (5, 7, .int, false)), (0, 137, (5, 8, .boolean, false)), (0, 141, (5, 9, .boolean, false)), (0, 144, (5, 10, .long, false)), (0, 182, (3, 0, (.array .int), true)), (0, 185, (3, 1, (.array .int), true)), (0, 220, (4, 0, (.array (.object "MembraneRounds$Configuration")), false)), (1, 7, (1, 2, (.array .int), true)), (1, 13, (1, 3, (.array .int), true)), (1, 16, (1, 4, (.array .int), true)), (1, 19, (1, 5, (.array .int), true)), (1, 22, (1, 6, (.array .int), true)), (1, 25, (1, 7, (.array .int), true)), (1, 28, (1, 8, (.array .int), true)), (1, 31, (1, 9, (.array .int), true)), (1, 34, (1, 10, (.array .int), true)), (1, 37, (1, 13, (.array .int), true)), (1, 40, (1, 14, (.array .int), true)), (1, 43, (1, 16, (.array .int), true)), (1, 46, (1, 18, (.array .int), true)), (1, 49, (1, 19, (.array .int), true)), (1, 52, (1, 20, (.array .int), true)), (1, 55, (1, 21, (.array .int), true)), (1, 58, (1, 25, (.array .int), true)), (1, 65, (1, 0, .int, false)), (1, 77, (1, 1, .int, false)), (1, 80, (1, 11, .int, false)), (1, 105, (1, 15, .boolean, false)), (1, 143, (1, 17, .int, false)), (1, 164, (1, 12, .int, false)), (1, 177, (1, 22, .int, false)), (1, 180, (1, 23, .int, false)), (1, 183, (1, 24, .int, false)), (2, 11, (2, 0, (.array (.object "MembraneRounds$Rule")), true)), (2, 17, (2, 2, (.array .int), true)), (2, 21, (2, 5, (.array .int), true)), (2, 24, (2, 6, (.array .int), true)), (2, 31, (3, 2, (.array .long), true)), (2, 37, (2, 1, .int, false)), (2, 45, (5, 2, .long, false)), (2, 53, (5, 0, .int, true)), (2, 62, (2, 4, .int, false)), (2, 68, (2, 3, .int, false)), (2, 81, (6, 1, .int, false)), (2, 86, (6, 0, (.array (.object "MembraneRounds$Rule")), true)), (2, 89, (5, 1, .int, false)), (2, 92, (3, 0, (.array .int), true)), (2, 99, (5, 9, .boolean, false)), (2, 107, (5, 6, .long, false)), (2, 110, (5, 7, .int, false)), (2, 120, (5, 3, .long, false)), (3, 9, (3, 0, (.array .int), true)), (3, 15, (3, 1, (.array .int), true)), (3, 18, (3, 2, (.array .long), true)), (4, 11, (4, 0, (.array (.object "MembraneRounds$Configuration")), false)), (4, 17, (4, 2, (.array (.object "MembraneRounds$Configuration")), false)), (4, 21, (4, 3, (.object "MembraneRounds$Configuration"), true)), (4, 25, (4, 4, (.array .int), true)), (4, 33, (4, 1, .int, false)), (5, 9, (5, 0, .int, true)), (5, 15, (5, 8, .boolean, false)), (5, 19, (5, 9, .boolean, false)), (5, 26, (5, 2, .long, false)), (6, 11, (6, 0, (.array (.object "MembraneRounds$Rule")), true)), (6, 20, (6, 1, .int, false)), (6, 24, (5, 1, .int, false)), (6, 27, (5, 2, .long, false)), (6, 37, (5, 3, .long, false)), (6, 40, (5, 4, .long, false)), (6, 43, (5, 5, .long, false)), (6, 46, (5, 6, .long, false)), (6, 49, (5, 7, .int, false)), (6, 52, (5, 8, .boolean, false)), (6, 56, (5, 9, .boolean, false)), (6, 59, (5, 10, .long, false)), (6, 62, (5, 0, .int, true)), (7, 11, (7, 0, (.array .char), true)), (7, 15, (7, 1, .int, false)), (7, 23, (3, 0, (.array .int), true)), (7, 33, (3, 2, (.array .long), true)), (7, 43, (3, 1, (.array .int), true)), (8, 11, (8, 0, (.array (.object "MembraneRounds$Rule")), true)), (8, 17, (6, 1, .int, false)), (8, 29, (6, 0, (.array (.object "MembraneRounds$Rule")), true)), (8, 50, (3, 2, (.array .long), true)), (8, 54, (5, 2, .long, false)), (8, 58, (5, 9, .boolean, false)), (8, 62, (5, 4, .long, false)), (8, 65, (3, 1, (.array .int), true)), (8, 69, (5, 5, .long, false)), (8, 72, (5, 6, .long, false)), (8, 75, (5, 7, .int, false)), (8, 88, (3, 0, (.array .int), true)), (8, 91, (5, 10, .long, false)), (8, 98, (5, 8, .boolean, false))]
theorem pfF_mem : ∀ o, o < 16 → ∀ i, i < 512 → (match pFld o i with | none => true | some v => decide ((o, i, v) ∈ pfFL)) = true := by decide +kernel
theorem pfF_in {o i : Nat} {v : Nat × Nat × FieldType × Bool} (h : pFld o i = some v) : (o, i, v) ∈ pfFL := by
  obtain ⟨h1, h2, -⟩ := eB2_some (show eB2 o i _ = some _ from h)
  have h3 := pfF_mem o h1 i h2
  rw [h] at h3
  simpa using h3
def pFQ (z : Nat × Nat × Nat × Nat × FieldType × Bool) : Prop := ∃ (C : String) (T : u_T) (n : Nat) (ty0 : Nat → FieldType), pCL[z.2.2.1]? = some (C, T, n) ∧ z.2.2.2.1 < n ∧ C = pCn z.2.2.1 ∧ (T z.2.2.2.1).1 = C ∧
  Cond.fieldLink (pCn z.1) z.2.1 C (T z.2.2.2.1).2.1 (T z.2.2.2.1).2.2.1 ∈ lw_gd ∧ (∀ w ∈ u_ws C T n, w ∈ lw_gd) ∧ (T z.2.2.2.1).2.2.2 = z.2.2.2.2.2 ∧ parseFieldDescriptor (T z.2.2.2.1).2.2.1 = some z.2.2.2.2.1 ∧
  (∀ k, k < n → parseFieldDescriptor (T k).2.2.1 = some (ty0 k)) ∧ (∀ a, a < n → ∀ b, b < n → a ≠ b → (T a).2.1 ≠ (T b).2.1)
theorem pw_65 : (Cond.fieldLink "MembraneRounds" 12 "MembraneRounds" "book" "LMembraneRounds$RuleBook;" : Cond) ∈ lw_gd := lw_gd_in (List.mem_of_getElem? (i := 276) (by decide +kernel)) (by decide +kernel)
theorem pfE_0 : pFQ (0, 12, (0, 0, (.object "MembraneRounds$RuleBook"), true)) := ⟨"MembraneRounds", pT_0, 8, pF_0, rfl, by decide, rfl, rfl, pw_65, pU_0, rfl, by decide +kernel, pD_0, pNm_0⟩
theorem pw_66 : (Cond.fieldLink "MembraneRounds" 19 "MembraneRounds" "chooser" "LMembraneRounds$Chooser;" : Cond) ∈ lw_gd := lw_gd_in (List.mem_of_getElem? (i := 277) (by decide +kernel)) (by decide +kernel)
theorem pfE_1 : pFQ (0, 19, (0, 1, (.object "MembraneRounds$Chooser"), true)) := ⟨"MembraneRounds", pT_0, 8, pF_0, rfl, by decide, rfl, rfl, pw_66, pU_0, rfl, by decide +kernel, pD_0, pNm_0⟩
theorem pw_67 : (Cond.fieldLink "MembraneRounds" 26 "MembraneRounds" "worker" "LMembraneRounds$Worker;" : Cond) ∈ lw_gd := lw_gd_in (List.mem_of_getElem? (i := 278) (by decide +kernel)) (by decide +kernel)
theorem pfE_2 : pFQ (0, 26, (0, 2, (.object "MembraneRounds$Worker"), true)) := ⟨"MembraneRounds", pT_0, 8, pF_0, rfl, by decide, rfl, rfl, pw_67, pU_0, rfl, by decide +kernel, pD_0, pNm_0⟩
theorem pw_68 : (Cond.fieldLink "MembraneRounds" 33 "MembraneRounds" "judge" "LMembraneRounds$Judge;" : Cond) ∈ lw_gd := lw_gd_in (List.mem_of_getElem? (i := 279) (by decide +kernel)) (by decide +kernel)
theorem pfE_3 : pFQ (0, 33, (0, 3, (.object "MembraneRounds$Judge"), true)) := ⟨"MembraneRounds", pT_0, 8, pF_0, rfl, by decide, rfl, rfl, pw_68, pU_0, rfl, by decide +kernel, pD_0, pNm_0⟩
theorem pw_69 : (Cond.fieldLink "MembraneRounds" 40 "MembraneRounds" "scribe" "LMembraneRounds$Scribe;" : Cond) ∈ lw_gd := lw_gd_in (List.mem_of_getElem? (i := 280) (by decide +kernel)) (by decide +kernel)
theorem pfE_4 : pFQ (0, 40, (0, 4, (.object "MembraneRounds$Scribe"), true)) := ⟨"MembraneRounds", pT_0, 8, pF_0, rfl, by decide, rfl, rfl, pw_69, pU_0, rfl, by decide +kernel, pD_0, pNm_0⟩
theorem pw_70 : (Cond.fieldLink "MembraneRounds" 44 "MembraneRounds" "chosen" "[I" : Cond) ∈ lw_gd := lw_gd_in (List.mem_of_getElem? (i := 281) (by decide +kernel)) (by decide +kernel)
theorem pfE_5 : pFQ (0, 44, (0, 5, (.array .int), true)) := ⟨"MembraneRounds", pT_0, 8, pF_0, rfl, by decide, rfl, rfl, pw_70, pU_0, rfl, by decide +kernel, pD_0, pNm_0⟩
theorem pw_71 : (Cond.fieldLink "MembraneRounds" 51 "MembraneRounds" "now" "LMembraneRounds$Configuration;" : Cond) ∈ lw_gd := lw_gd_in (List.mem_of_getElem? (i := 282) (by decide +kernel)) (by decide +kernel)
theorem pfE_6 : pFQ (0, 51, (0, 6, (.object "MembraneRounds$Configuration"), false)) := ⟨"MembraneRounds", pT_0, 8, pF_0, rfl, by decide, rfl, rfl, pw_71, pU_0, rfl, by decide +kernel, pD_0, pNm_0⟩
theorem pw_72 : (Cond.fieldLink "MembraneRounds" 55 "MembraneRounds" "trial" "LMembraneRounds$Configuration;" : Cond) ∈ lw_gd := lw_gd_in (List.mem_of_getElem? (i := 283) (by decide +kernel)) (by decide +kernel)
theorem pfE_7 : pFQ (0, 55, (0, 7, (.object "MembraneRounds$Configuration"), false)) := ⟨"MembraneRounds", pT_0, 8, pF_0, rfl, by decide, rfl, rfl, pw_72, pU_0, rfl, by decide +kernel, pD_0, pNm_0⟩
theorem pw_73 : (Cond.fieldLink "MembraneRounds" 65 "MembraneRounds$RuleBook" "count" "I" : Cond) ∈ lw_gd := lw_gd_in (List.mem_of_getElem? (i := 146) (by decide +kernel)) (by decide +kernel)
theorem pfE_8 : pFQ (0, 65, (6, 1, .int, false)) := ⟨"MembraneRounds$RuleBook", pT_6, 2, pF_6, rfl, by decide, rfl, rfl, pw_73, pU_6, rfl, by decide +kernel, pD_6, pNm_6⟩
theorem pw_74 : (Cond.fieldLink "MembraneRounds" 69 "MembraneRounds$Judge" "count" "I" : Cond) ∈ lw_gd := lw_gd_in (List.mem_of_getElem? (i := 233) (by decide +kernel)) (by decide +kernel)
theorem pfE_9 : pFQ (0, 69, (4, 1, .int, false)) := ⟨"MembraneRounds$Judge", pT_4, 5, pF_4, rfl, by decide, rfl, rfl, pw_74, pU_4, rfl, by decide +kernel, pD_4, pNm_4⟩
theorem pw_75 : (Cond.fieldLink "MembraneRounds" 91 "MembraneRounds$Configuration" "heaps" "[J" : Cond) ∈ lw_gd := lw_gd_in (List.mem_of_getElem? (i := 221) (by decide +kernel)) (by decide +kernel)
theorem pfE_10 : pFQ (0, 91, (3, 2, (.array .long), true)) := ⟨"MembraneRounds$Configuration", pT_3, 3, pF_3, rfl, by decide, rfl, rfl, pw_75, pU_3, rfl, by decide +kernel, pD_3, pNm_3⟩
theorem pw_76 : (Cond.fieldLink "MembraneRounds" 121 "MembraneRounds$RuleBook" "rules" "[LMembraneRounds$Rule;" : Cond) ∈ lw_gd := lw_gd_in (List.mem_of_getElem? (i := 143) (by decide +kernel)) (by decide +kernel)
theorem pfE_11 : pFQ (0, 121, (6, 0, (.array (.object "MembraneRounds$Rule")), true)) := ⟨"MembraneRounds$RuleBook", pT_6, 2, pF_6, rfl, by decide, rfl, rfl, pw_76, pU_6, rfl, by decide +kernel, pD_6, pNm_6⟩
theorem pw_77 : (Cond.fieldLink "MembraneRounds" 125 "MembraneRounds$Rule" "into" "J" : Cond) ∈ lw_gd := lw_gd_in (List.mem_of_getElem? (i := 100) (by decide +kernel)) (by decide +kernel)
theorem pfE_12 : pFQ (0, 125, (5, 6, .long, false)) := ⟨"MembraneRounds$Rule", pT_5, 11, pF_5, rfl, by decide, rfl, rfl, pw_77, pU_5, rfl, by decide +kernel, pD_5, pNm_5⟩
theorem pw_78 : (Cond.fieldLink "MembraneRounds" 131 "MembraneRounds$Rule" "intoLabel" "I" : Cond) ∈ lw_gd := lw_gd_in (List.mem_of_getElem? (i := 104) (by decide +kernel)) (by decide +kernel)
theorem pfE_13 : pFQ (0, 131, (5, 7, .int, false)) := ⟨"MembraneRounds$Rule", pT_5, 11, pF_5, rfl, by decide, rfl, rfl, pw_78, pU_5, rfl, by decide +kernel, pD_5, pNm_5⟩
theorem pw_79 : (Cond.fieldLink "MembraneRounds" 137 "MembraneRounds$Rule" "dissolves" "Z" : Cond) ∈ lw_gd := lw_gd_in (List.mem_of_getElem? (i := 109) (by decide +kernel)) (by decide +kernel)
theorem pfE_14 : pFQ (0, 137, (5, 8, .boolean, false)) := ⟨"MembraneRounds$Rule", pT_5, 11, pF_5, rfl, by decide, rfl, rfl, pw_79, pU_5, rfl, by decide +kernel, pD_5, pNm_5⟩
theorem pw_80 : (Cond.fieldLink "MembraneRounds" 141 "MembraneRounds$Rule" "divides" "Z" : Cond) ∈ lw_gd := lw_gd_in (List.mem_of_getElem? (i := 114) (by decide +kernel)) (by decide +kernel)
theorem pfE_15 : pFQ (0, 141, (5, 9, .boolean, false)) := ⟨"MembraneRounds$Rule", pT_5, 11, pF_5, rfl, by decide, rfl, rfl, pw_80, pU_5, rfl, by decide +kernel, pD_5, pNm_5⟩
theorem pw_81 : (Cond.fieldLink "MembraneRounds" 144 "MembraneRounds$Rule" "other" "J" : Cond) ∈ lw_gd := lw_gd_in (List.mem_of_getElem? (i := 117) (by decide +kernel)) (by decide +kernel)
theorem pfE_16 : pFQ (0, 144, (5, 10, .long, false)) := ⟨"MembraneRounds$Rule", pT_5, 11, pF_5, rfl, by decide, rfl, rfl, pw_81, pU_5, rfl, by decide +kernel, pD_5, pNm_5⟩
theorem pw_82 : (Cond.fieldLink "MembraneRounds" 182 "MembraneRounds$Configuration" "labels" "[I" : Cond) ∈ lw_gd := lw_gd_in (List.mem_of_getElem? (i := 212) (by decide +kernel)) (by decide +kernel)
theorem pfE_17 : pFQ (0, 182, (3, 0, (.array .int), true)) := ⟨"MembraneRounds$Configuration", pT_3, 3, pF_3, rfl, by decide, rfl, rfl, pw_82, pU_3, rfl, by decide +kernel, pD_3, pNm_3⟩
theorem pw_83 : (Cond.fieldLink "MembraneRounds" 185 "MembraneRounds$Configuration" "parents" "[I" : Cond) ∈ lw_gd := lw_gd_in (List.mem_of_getElem? (i := 216) (by decide +kernel)) (by decide +kernel)
theorem pfE_18 : pFQ (0, 185, (3, 1, (.array .int), true)) := ⟨"MembraneRounds$Configuration", pT_3, 3, pF_3, rfl, by decide, rfl, rfl, pw_83, pU_3, rfl, by decide +kernel, pD_3, pNm_3⟩
theorem pw_84 : (Cond.fieldLink "MembraneRounds" 220 "MembraneRounds$Judge" "found" "[LMembraneRounds$Configuration;" : Cond) ∈ lw_gd := lw_gd_in (List.mem_of_getElem? (i := 231) (by decide +kernel)) (by decide +kernel)
theorem pfE_19 : pFQ (0, 220, (4, 0, (.array (.object "MembraneRounds$Configuration")), false)) := ⟨"MembraneRounds$Judge", pT_4, 5, pF_4, rfl, by decide, rfl, rfl, pw_84, pU_4, rfl, by decide +kernel, pD_4, pNm_4⟩
theorem pw_85 : (Cond.fieldLink "MembraneRoundsModel" 7 "MembraneRoundsModel" "labels" "[I" : Cond) ∈ lw_gd := lw_gd_in (List.mem_of_getElem? (i := 744) (by decide +kernel)) (by decide +kernel)
theorem pfE_20 : pFQ (1, 7, (1, 2, (.array .int), true)) := ⟨"MembraneRoundsModel", pT_1, 26, pF_1, rfl, by decide, rfl, rfl, pw_85, pU_1, rfl, by decide +kernel, pD_1, pNm_1⟩
theorem pw_86 : (Cond.fieldLink "MembraneRoundsModel" 13 "MembraneRoundsModel" "lefts" "[I" : Cond) ∈ lw_gd := lw_gd_in (List.mem_of_getElem? (i := 745) (by decide +kernel)) (by decide +kernel)
theorem pfE_21 : pFQ (1, 13, (1, 3, (.array .int), true)) := ⟨"MembraneRoundsModel", pT_1, 26, pF_1, rfl, by decide, rfl, rfl, pw_86, pU_1, rfl, by decide +kernel, pD_1, pNm_1⟩
theorem pw_87 : (Cond.fieldLink "MembraneRoundsModel" 16 "MembraneRoundsModel" "heres" "[I" : Cond) ∈ lw_gd := lw_gd_in (List.mem_of_getElem? (i := 746) (by decide +kernel)) (by decide +kernel)
theorem pfE_22 : pFQ (1, 16, (1, 4, (.array .int), true)) := ⟨"MembraneRoundsModel", pT_1, 26, pF_1, rfl, by decide, rfl, rfl, pw_87, pU_1, rfl, by decide +kernel, pD_1, pNm_1⟩
theorem pw_88 : (Cond.fieldLink "MembraneRoundsModel" 19 "MembraneRoundsModel" "outs" "[I" : Cond) ∈ lw_gd := lw_gd_in (List.mem_of_getElem? (i := 747) (by decide +kernel)) (by decide +kernel)
theorem pfE_23 : pFQ (1, 19, (1, 5, (.array .int), true)) := ⟨"MembraneRoundsModel", pT_1, 26, pF_1, rfl, by decide, rfl, rfl, pw_88, pU_1, rfl, by decide +kernel, pD_1, pNm_1⟩
theorem pw_89 : (Cond.fieldLink "MembraneRoundsModel" 22 "MembraneRoundsModel" "intos" "[I" : Cond) ∈ lw_gd := lw_gd_in (List.mem_of_getElem? (i := 748) (by decide +kernel)) (by decide +kernel)
theorem pfE_24 : pFQ (1, 22, (1, 6, (.array .int), true)) := ⟨"MembraneRoundsModel", pT_1, 26, pF_1, rfl, by decide, rfl, rfl, pw_89, pU_1, rfl, by decide +kernel, pD_1, pNm_1⟩
theorem pw_90 : (Cond.fieldLink "MembraneRoundsModel" 25 "MembraneRoundsModel" "targets" "[I" : Cond) ∈ lw_gd := lw_gd_in (List.mem_of_getElem? (i := 749) (by decide +kernel)) (by decide +kernel)
theorem pfE_25 : pFQ (1, 25, (1, 7, (.array .int), true)) := ⟨"MembraneRoundsModel", pT_1, 26, pF_1, rfl, by decide, rfl, rfl, pw_90, pU_1, rfl, by decide +kernel, pD_1, pNm_1⟩
theorem pw_91 : (Cond.fieldLink "MembraneRoundsModel" 28 "MembraneRoundsModel" "acts" "[I" : Cond) ∈ lw_gd := lw_gd_in (List.mem_of_getElem? (i := 750) (by decide +kernel)) (by decide +kernel)
theorem pfE_26 : pFQ (1, 28, (1, 8, (.array .int), true)) := ⟨"MembraneRoundsModel", pT_1, 26, pF_1, rfl, by decide, rfl, rfl, pw_91, pU_1, rfl, by decide +kernel, pD_1, pNm_1⟩
theorem pw_92 : (Cond.fieldLink "MembraneRoundsModel" 31 "MembraneRoundsModel" "others" "[I" : Cond) ∈ lw_gd := lw_gd_in (List.mem_of_getElem? (i := 751) (by decide +kernel)) (by decide +kernel)
theorem pfE_27 : pFQ (1, 31, (1, 9, (.array .int), true)) := ⟨"MembraneRoundsModel", pT_1, 26, pF_1, rfl, by decide, rfl, rfl, pw_92, pU_1, rfl, by decide +kernel, pD_1, pNm_1⟩
theorem pw_93 : (Cond.fieldLink "MembraneRoundsModel" 34 "MembraneRoundsModel" "cells" "[I" : Cond) ∈ lw_gd := lw_gd_in (List.mem_of_getElem? (i := 752) (by decide +kernel)) (by decide +kernel)
theorem pfE_28 : pFQ (1, 34, (1, 10, (.array .int), true)) := ⟨"MembraneRoundsModel", pT_1, 26, pF_1, rfl, by decide, rfl, rfl, pw_93, pU_1, rfl, by decide +kernel, pD_1, pNm_1⟩
theorem pw_94 : (Cond.fieldLink "MembraneRoundsModel" 37 "MembraneRoundsModel" "rest" "[I" : Cond) ∈ lw_gd := lw_gd_in (List.mem_of_getElem? (i := 755) (by decide +kernel)) (by decide +kernel)
theorem pfE_29 : pFQ (1, 37, (1, 13, (.array .int), true)) := ⟨"MembraneRoundsModel", pT_1, 26, pF_1, rfl, by decide, rfl, rfl, pw_94, pU_1, rfl, by decide +kernel, pD_1, pNm_1⟩
theorem pw_95 : (Cond.fieldLink "MembraneRoundsModel" 40 "MembraneRoundsModel" "uses" "[I" : Cond) ∈ lw_gd := lw_gd_in (List.mem_of_getElem? (i := 756) (by decide +kernel)) (by decide +kernel)
theorem pfE_30 : pFQ (1, 40, (1, 14, (.array .int), true)) := ⟨"MembraneRoundsModel", pT_1, 26, pF_1, rfl, by decide, rfl, rfl, pw_95, pU_1, rfl, by decide +kernel, pD_1, pNm_1⟩
theorem pw_96 : (Cond.fieldLink "MembraneRoundsModel" 43 "MembraneRoundsModel" "list" "[I" : Cond) ∈ lw_gd := lw_gd_in (List.mem_of_getElem? (i := 758) (by decide +kernel)) (by decide +kernel)
theorem pfE_31 : pFQ (1, 43, (1, 16, (.array .int), true)) := ⟨"MembraneRoundsModel", pT_1, 26, pF_1, rfl, by decide, rfl, rfl, pw_96, pU_1, rfl, by decide +kernel, pD_1, pNm_1⟩
theorem pw_97 : (Cond.fieldLink "MembraneRoundsModel" 46 "MembraneRoundsModel" "begins" "[I" : Cond) ∈ lw_gd := lw_gd_in (List.mem_of_getElem? (i := 760) (by decide +kernel)) (by decide +kernel)
theorem pfE_32 : pFQ (1, 46, (1, 18, (.array .int), true)) := ⟨"MembraneRoundsModel", pT_1, 26, pF_1, rfl, by decide, rfl, rfl, pw_97, pU_1, rfl, by decide +kernel, pD_1, pNm_1⟩
theorem pw_98 : (Cond.fieldLink "MembraneRoundsModel" 49 "MembraneRoundsModel" "many" "[I" : Cond) ∈ lw_gd := lw_gd_in (List.mem_of_getElem? (i := 761) (by decide +kernel)) (by decide +kernel)
theorem pfE_33 : pFQ (1, 49, (1, 19, (.array .int), true)) := ⟨"MembraneRoundsModel", pT_1, 26, pF_1, rfl, by decide, rfl, rfl, pw_98, pU_1, rfl, by decide +kernel, pD_1, pNm_1⟩
theorem pw_99 : (Cond.fieldLink "MembraneRoundsModel" 52 "MembraneRoundsModel" "digits" "[I" : Cond) ∈ lw_gd := lw_gd_in (List.mem_of_getElem? (i := 762) (by decide +kernel)) (by decide +kernel)
theorem pfE_34 : pFQ (1, 52, (1, 20, (.array .int), true)) := ⟨"MembraneRoundsModel", pT_1, 26, pF_1, rfl, by decide, rfl, rfl, pw_99, pU_1, rfl, by decide +kernel, pD_1, pNm_1⟩
theorem pw_100 : (Cond.fieldLink "MembraneRoundsModel" 55 "MembraneRoundsModel" "chosen" "[I" : Cond) ∈ lw_gd := lw_gd_in (List.mem_of_getElem? (i := 763) (by decide +kernel)) (by decide +kernel)
theorem pfE_35 : pFQ (1, 55, (1, 21, (.array .int), true)) := ⟨"MembraneRoundsModel", pT_1, 26, pF_1, rfl, by decide, rfl, rfl, pw_100, pU_1, rfl, by decide +kernel, pD_1, pNm_1⟩
theorem pw_101 : (Cond.fieldLink "MembraneRoundsModel" 58 "MembraneRoundsModel" "open" "[I" : Cond) ∈ lw_gd := lw_gd_in (List.mem_of_getElem? (i := 767) (by decide +kernel)) (by decide +kernel)
theorem pfE_36 : pFQ (1, 58, (1, 25, (.array .int), true)) := ⟨"MembraneRoundsModel", pT_1, 26, pF_1, rfl, by decide, rfl, rfl, pw_101, pU_1, rfl, by decide +kernel, pD_1, pNm_1⟩
theorem pw_102 : (Cond.fieldLink "MembraneRoundsModel" 65 "MembraneRoundsModel" "code" "I" : Cond) ∈ lw_gd := lw_gd_in (List.mem_of_getElem? (i := 742) (by decide +kernel)) (by decide +kernel)
theorem pfE_37 : pFQ (1, 65, (1, 0, .int, false)) := ⟨"MembraneRoundsModel", pT_1, 26, pF_1, rfl, by decide, rfl, rfl, pw_102, pU_1, rfl, by decide +kernel, pD_1, pNm_1⟩
theorem pw_103 : (Cond.fieldLink "MembraneRoundsModel" 77 "MembraneRoundsModel" "rules" "I" : Cond) ∈ lw_gd := lw_gd_in (List.mem_of_getElem? (i := 743) (by decide +kernel)) (by decide +kernel)
theorem pfE_38 : pFQ (1, 77, (1, 1, .int, false)) := ⟨"MembraneRoundsModel", pT_1, 26, pF_1, rfl, by decide, rfl, rfl, pw_103, pU_1, rfl, by decide +kernel, pD_1, pNm_1⟩
theorem pw_104 : (Cond.fieldLink "MembraneRoundsModel" 80 "MembraneRoundsModel" "found" "I" : Cond) ∈ lw_gd := lw_gd_in (List.mem_of_getElem? (i := 753) (by decide +kernel)) (by decide +kernel)
theorem pfE_39 : pFQ (1, 80, (1, 11, .int, false)) := ⟨"MembraneRoundsModel", pT_1, 26, pF_1, rfl, by decide, rfl, rfl, pw_104, pU_1, rfl, by decide +kernel, pD_1, pNm_1⟩
theorem pw_105 : (Cond.fieldLink "MembraneRoundsModel" 105 "MembraneRoundsModel" "acted" "Z" : Cond) ∈ lw_gd := lw_gd_in (List.mem_of_getElem? (i := 757) (by decide +kernel)) (by decide +kernel)
theorem pfE_40 : pFQ (1, 105, (1, 15, .boolean, false)) := ⟨"MembraneRoundsModel", pT_1, 26, pF_1, rfl, by decide, rfl, rfl, pw_105, pU_1, rfl, by decide +kernel, pD_1, pNm_1⟩
theorem pw_106 : (Cond.fieldLink "MembraneRoundsModel" 143 "MembraneRoundsModel" "listed" "I" : Cond) ∈ lw_gd := lw_gd_in (List.mem_of_getElem? (i := 759) (by decide +kernel)) (by decide +kernel)
theorem pfE_41 : pFQ (1, 143, (1, 17, .int, false)) := ⟨"MembraneRoundsModel", pT_1, 26, pF_1, rfl, by decide, rfl, rfl, pw_106, pU_1, rfl, by decide +kernel, pD_1, pNm_1⟩
theorem pw_107 : (Cond.fieldLink "MembraneRoundsModel" 164 "MembraneRoundsModel" "more" "I" : Cond) ∈ lw_gd := lw_gd_in (List.mem_of_getElem? (i := 754) (by decide +kernel)) (by decide +kernel)
theorem pfE_42 : pFQ (1, 164, (1, 12, .int, false)) := ⟨"MembraneRoundsModel", pT_1, 26, pF_1, rfl, by decide, rfl, rfl, pw_107, pU_1, rfl, by decide +kernel, pD_1, pNm_1⟩
theorem pw_108 : (Cond.fieldLink "MembraneRoundsModel" 177 "MembraneRoundsModel" "length" "I" : Cond) ∈ lw_gd := lw_gd_in (List.mem_of_getElem? (i := 764) (by decide +kernel)) (by decide +kernel)
theorem pfE_43 : pFQ (1, 177, (1, 22, .int, false)) := ⟨"MembraneRoundsModel", pT_1, 26, pF_1, rfl, by decide, rfl, rfl, pw_108, pU_1, rfl, by decide +kernel, pD_1, pNm_1⟩
theorem pw_109 : (Cond.fieldLink "MembraneRoundsModel" 180 "MembraneRoundsModel" "wanted" "I" : Cond) ∈ lw_gd := lw_gd_in (List.mem_of_getElem? (i := 765) (by decide +kernel)) (by decide +kernel)
theorem pfE_44 : pFQ (1, 180, (1, 23, .int, false)) := ⟨"MembraneRoundsModel", pT_1, 26, pF_1, rfl, by decide, rfl, rfl, pw_109, pU_1, rfl, by decide +kernel, pD_1, pNm_1⟩
theorem pw_110 : (Cond.fieldLink "MembraneRoundsModel" 183 "MembraneRoundsModel" "letter" "I" : Cond) ∈ lw_gd := lw_gd_in (List.mem_of_getElem? (i := 766) (by decide +kernel)) (by decide +kernel)
theorem pfE_45 : pFQ (1, 183, (1, 24, .int, false)) := ⟨"MembraneRoundsModel", pT_1, 26, pF_1, rfl, by decide, rfl, rfl, pw_110, pU_1, rfl, by decide +kernel, pD_1, pNm_1⟩
theorem pw_111 : (Cond.fieldLink "MembraneRounds$Chooser" 11 "MembraneRounds$Chooser" "open" "[LMembraneRounds$Rule;" : Cond) ∈ lw_gd := lw_gd_in (List.mem_of_getElem? (i := 161) (by decide +kernel)) (by decide +kernel)
theorem pfE_46 : pFQ (2, 11, (2, 0, (.array (.object "MembraneRounds$Rule")), true)) := ⟨"MembraneRounds$Chooser", pT_2, 7, pF_2, rfl, by decide, rfl, rfl, pw_111, pU_2, rfl, by decide +kernel, pD_2, pNm_2⟩
theorem pw_112 : (Cond.fieldLink "MembraneRounds$Chooser" 17 "MembraneRounds$Chooser" "row" "[I" : Cond) ∈ lw_gd := lw_gd_in (List.mem_of_getElem? (i := 163) (by decide +kernel)) (by decide +kernel)
theorem pfE_47 : pFQ (2, 17, (2, 2, (.array .int), true)) := ⟨"MembraneRounds$Chooser", pT_2, 7, pF_2, rfl, by decide, rfl, rfl, pw_112, pU_2, rfl, by decide +kernel, pD_2, pNm_2⟩
theorem pw_113 : (Cond.fieldLink "MembraneRounds$Chooser" 21 "MembraneRounds$Chooser" "starts" "[I" : Cond) ∈ lw_gd := lw_gd_in (List.mem_of_getElem? (i := 166) (by decide +kernel)) (by decide +kernel)
theorem pfE_48 : pFQ (2, 21, (2, 5, (.array .int), true)) := ⟨"MembraneRounds$Chooser", pT_2, 7, pF_2, rfl, by decide, rfl, rfl, pw_113, pU_2, rfl, by decide +kernel, pD_2, pNm_2⟩
theorem pw_114 : (Cond.fieldLink "MembraneRounds$Chooser" 24 "MembraneRounds$Chooser" "places" "[I" : Cond) ∈ lw_gd := lw_gd_in (List.mem_of_getElem? (i := 167) (by decide +kernel)) (by decide +kernel)
theorem pfE_49 : pFQ (2, 24, (2, 6, (.array .int), true)) := ⟨"MembraneRounds$Chooser", pT_2, 7, pF_2, rfl, by decide, rfl, rfl, pw_114, pU_2, rfl, by decide +kernel, pD_2, pNm_2⟩
theorem pw_115 : (Cond.fieldLink "MembraneRounds$Chooser" 31 "MembraneRounds$Configuration" "heaps" "[J" : Cond) ∈ lw_gd := lw_gd_in (List.mem_of_getElem? (i := 218) (by decide +kernel)) (by decide +kernel)
theorem pfE_50 : pFQ (2, 31, (3, 2, (.array .long), true)) := ⟨"MembraneRounds$Configuration", pT_3, 3, pF_3, rfl, by decide, rfl, rfl, pw_115, pU_3, rfl, by decide +kernel, pD_3, pNm_3⟩
theorem pw_116 : (Cond.fieldLink "MembraneRounds$Chooser" 37 "MembraneRounds$Chooser" "opens" "I" : Cond) ∈ lw_gd := lw_gd_in (List.mem_of_getElem? (i := 162) (by decide +kernel)) (by decide +kernel)
theorem pfE_51 : pFQ (2, 37, (2, 1, .int, false)) := ⟨"MembraneRounds$Chooser", pT_2, 7, pF_2, rfl, by decide, rfl, rfl, pw_116, pU_2, rfl, by decide +kernel, pD_2, pNm_2⟩
theorem pw_117 : (Cond.fieldLink "MembraneRounds$Chooser" 45 "MembraneRounds$Rule" "left" "J" : Cond) ∈ lw_gd := lw_gd_in (List.mem_of_getElem? (i := 89) (by decide +kernel)) (by decide +kernel)
theorem pfE_52 : pFQ (2, 45, (5, 2, .long, false)) := ⟨"MembraneRounds$Rule", pT_5, 11, pF_5, rfl, by decide, rfl, rfl, pw_117, pU_5, rfl, by decide +kernel, pD_5, pNm_5⟩
theorem pw_118 : (Cond.fieldLink "MembraneRounds$Chooser" 53 "MembraneRounds$Rule" "number" "I" : Cond) ∈ lw_gd := lw_gd_in (List.mem_of_getElem? (i := 85) (by decide +kernel)) (by decide +kernel)
theorem pfE_53 : pFQ (2, 53, (5, 0, .int, true)) := ⟨"MembraneRounds$Rule", pT_5, 11, pF_5, rfl, by decide, rfl, rfl, pw_118, pU_5, rfl, by decide +kernel, pD_5, pNm_5⟩
theorem pw_119 : (Cond.fieldLink "MembraneRounds$Chooser" 62 "MembraneRounds$Chooser" "end" "I" : Cond) ∈ lw_gd := lw_gd_in (List.mem_of_getElem? (i := 165) (by decide +kernel)) (by decide +kernel)
theorem pfE_54 : pFQ (2, 62, (2, 4, .int, false)) := ⟨"MembraneRounds$Chooser", pT_2, 7, pF_2, rfl, by decide, rfl, rfl, pw_119, pU_2, rfl, by decide +kernel, pD_2, pNm_2⟩
theorem pw_120 : (Cond.fieldLink "MembraneRounds$Chooser" 68 "MembraneRounds$Chooser" "start" "I" : Cond) ∈ lw_gd := lw_gd_in (List.mem_of_getElem? (i := 164) (by decide +kernel)) (by decide +kernel)
theorem pfE_55 : pFQ (2, 68, (2, 3, .int, false)) := ⟨"MembraneRounds$Chooser", pT_2, 7, pF_2, rfl, by decide, rfl, rfl, pw_120, pU_2, rfl, by decide +kernel, pD_2, pNm_2⟩
theorem pw_121 : (Cond.fieldLink "MembraneRounds$Chooser" 81 "MembraneRounds$RuleBook" "count" "I" : Cond) ∈ lw_gd := lw_gd_in (List.mem_of_getElem? (i := 148) (by decide +kernel)) (by decide +kernel)
theorem pfE_56 : pFQ (2, 81, (6, 1, .int, false)) := ⟨"MembraneRounds$RuleBook", pT_6, 2, pF_6, rfl, by decide, rfl, rfl, pw_121, pU_6, rfl, by decide +kernel, pD_6, pNm_6⟩
theorem pw_122 : (Cond.fieldLink "MembraneRounds$Chooser" 86 "MembraneRounds$RuleBook" "rules" "[LMembraneRounds$Rule;" : Cond) ∈ lw_gd := lw_gd_in (List.mem_of_getElem? (i := 144) (by decide +kernel)) (by decide +kernel)
theorem pfE_57 : pFQ (2, 86, (6, 0, (.array (.object "MembraneRounds$Rule")), true)) := ⟨"MembraneRounds$RuleBook", pT_6, 2, pF_6, rfl, by decide, rfl, rfl, pw_122, pU_6, rfl, by decide +kernel, pD_6, pNm_6⟩
theorem pw_123 : (Cond.fieldLink "MembraneRounds$Chooser" 89 "MembraneRounds$Rule" "label" "I" : Cond) ∈ lw_gd := lw_gd_in (List.mem_of_getElem? (i := 87) (by decide +kernel)) (by decide +kernel)
theorem pfE_58 : pFQ (2, 89, (5, 1, .int, false)) := ⟨"MembraneRounds$Rule", pT_5, 11, pF_5, rfl, by decide, rfl, rfl, pw_123, pU_5, rfl, by decide +kernel, pD_5, pNm_5⟩
theorem pw_124 : (Cond.fieldLink "MembraneRounds$Chooser" 92 "MembraneRounds$Configuration" "labels" "[I" : Cond) ∈ lw_gd := lw_gd_in (List.mem_of_getElem? (i := 211) (by decide +kernel)) (by decide +kernel)
theorem pfE_59 : pFQ (2, 92, (3, 0, (.array .int), true)) := ⟨"MembraneRounds$Configuration", pT_3, 3, pF_3, rfl, by decide, rfl, rfl, pw_124, pU_3, rfl, by decide +kernel, pD_3, pNm_3⟩
theorem pw_125 : (Cond.fieldLink "MembraneRounds$Chooser" 99 "MembraneRounds$Rule" "divides" "Z" : Cond) ∈ lw_gd := lw_gd_in (List.mem_of_getElem? (i := 113) (by decide +kernel)) (by decide +kernel)
theorem pfE_60 : pFQ (2, 99, (5, 9, .boolean, false)) := ⟨"MembraneRounds$Rule", pT_5, 11, pF_5, rfl, by decide, rfl, rfl, pw_125, pU_5, rfl, by decide +kernel, pD_5, pNm_5⟩
theorem pw_126 : (Cond.fieldLink "MembraneRounds$Chooser" 107 "MembraneRounds$Rule" "into" "J" : Cond) ∈ lw_gd := lw_gd_in (List.mem_of_getElem? (i := 101) (by decide +kernel)) (by decide +kernel)
theorem pfE_61 : pFQ (2, 107, (5, 6, .long, false)) := ⟨"MembraneRounds$Rule", pT_5, 11, pF_5, rfl, by decide, rfl, rfl, pw_126, pU_5, rfl, by decide +kernel, pD_5, pNm_5⟩
theorem pw_127 : (Cond.fieldLink "MembraneRounds$Chooser" 110 "MembraneRounds$Rule" "intoLabel" "I" : Cond) ∈ lw_gd := lw_gd_in (List.mem_of_getElem? (i := 105) (by decide +kernel)) (by decide +kernel)
theorem pfE_62 : pFQ (2, 110, (5, 7, .int, false)) := ⟨"MembraneRounds$Rule", pT_5, 11, pF_5, rfl, by decide, rfl, rfl, pw_127, pU_5, rfl, by decide +kernel, pD_5, pNm_5⟩
theorem pw_128 : (Cond.fieldLink "MembraneRounds$Chooser" 120 "MembraneRounds$Rule" "leftKinds" "J" : Cond) ∈ lw_gd := lw_gd_in (List.mem_of_getElem? (i := 93) (by decide +kernel)) (by decide +kernel)
theorem pfE_63 : pFQ (2, 120, (5, 3, .long, false)) := ⟨"MembraneRounds$Rule", pT_5, 11, pF_5, rfl, by decide, rfl, rfl, pw_128, pU_5, rfl, by decide +kernel, pD_5, pNm_5⟩
theorem pw_129 : (Cond.fieldLink "MembraneRounds$Configuration" 9 "MembraneRounds$Configuration" "labels" "[I" : Cond) ∈ lw_gd := lw_gd_in (List.mem_of_getElem? (i := 208) (by decide +kernel)) (by decide +kernel)
theorem pfE_64 : pFQ (3, 9, (3, 0, (.array .int), true)) := ⟨"MembraneRounds$Configuration", pT_3, 3, pF_3, rfl, by decide, rfl, rfl, pw_129, pU_3, rfl, by decide +kernel, pD_3, pNm_3⟩
theorem pw_130 : (Cond.fieldLink "MembraneRounds$Configuration" 15 "MembraneRounds$Configuration" "parents" "[I" : Cond) ∈ lw_gd := lw_gd_in (List.mem_of_getElem? (i := 213) (by decide +kernel)) (by decide +kernel)
theorem pfE_65 : pFQ (3, 15, (3, 1, (.array .int), true)) := ⟨"MembraneRounds$Configuration", pT_3, 3, pF_3, rfl, by decide, rfl, rfl, pw_130, pU_3, rfl, by decide +kernel, pD_3, pNm_3⟩
theorem pw_131 : (Cond.fieldLink "MembraneRounds$Configuration" 18 "MembraneRounds$Configuration" "heaps" "[J" : Cond) ∈ lw_gd := lw_gd_in (List.mem_of_getElem? (i := 217) (by decide +kernel)) (by decide +kernel)
theorem pfE_66 : pFQ (3, 18, (3, 2, (.array .long), true)) := ⟨"MembraneRounds$Configuration", pT_3, 3, pF_3, rfl, by decide, rfl, rfl, pw_131, pU_3, rfl, by decide +kernel, pD_3, pNm_3⟩
theorem pw_132 : (Cond.fieldLink "MembraneRounds$Judge" 11 "MembraneRounds$Judge" "found" "[LMembraneRounds$Configuration;" : Cond) ∈ lw_gd := lw_gd_in (List.mem_of_getElem? (i := 230) (by decide +kernel)) (by decide +kernel)
theorem pfE_67 : pFQ (4, 11, (4, 0, (.array (.object "MembraneRounds$Configuration")), false)) := ⟨"MembraneRounds$Judge", pT_4, 5, pF_4, rfl, by decide, rfl, rfl, pw_132, pU_4, rfl, by decide +kernel, pD_4, pNm_4⟩
theorem pw_133 : (Cond.fieldLink "MembraneRounds$Judge" 17 "MembraneRounds$Judge" "before" "[LMembraneRounds$Configuration;" : Cond) ∈ lw_gd := lw_gd_in (List.mem_of_getElem? (i := 234) (by decide +kernel)) (by decide +kernel)
theorem pfE_68 : pFQ (4, 17, (4, 2, (.array (.object "MembraneRounds$Configuration")), false)) := ⟨"MembraneRounds$Judge", pT_4, 5, pF_4, rfl, by decide, rfl, rfl, pw_133, pU_4, rfl, by decide +kernel, pD_4, pNm_4⟩
theorem pw_134 : (Cond.fieldLink "MembraneRounds$Judge" 21 "MembraneRounds$Judge" "trial" "LMembraneRounds$Configuration;" : Cond) ∈ lw_gd := lw_gd_in (List.mem_of_getElem? (i := 235) (by decide +kernel)) (by decide +kernel)
theorem pfE_69 : pFQ (4, 21, (4, 3, (.object "MembraneRounds$Configuration"), true)) := ⟨"MembraneRounds$Judge", pT_4, 5, pF_4, rfl, by decide, rfl, rfl, pw_134, pU_4, rfl, by decide +kernel, pD_4, pNm_4⟩
theorem pw_135 : (Cond.fieldLink "MembraneRounds$Judge" 25 "MembraneRounds$Judge" "chosen" "[I" : Cond) ∈ lw_gd := lw_gd_in (List.mem_of_getElem? (i := 236) (by decide +kernel)) (by decide +kernel)
theorem pfE_70 : pFQ (4, 25, (4, 4, (.array .int), true)) := ⟨"MembraneRounds$Judge", pT_4, 5, pF_4, rfl, by decide, rfl, rfl, pw_135, pU_4, rfl, by decide +kernel, pD_4, pNm_4⟩
theorem pw_136 : (Cond.fieldLink "MembraneRounds$Judge" 33 "MembraneRounds$Judge" "count" "I" : Cond) ∈ lw_gd := lw_gd_in (List.mem_of_getElem? (i := 232) (by decide +kernel)) (by decide +kernel)
theorem pfE_71 : pFQ (4, 33, (4, 1, .int, false)) := ⟨"MembraneRounds$Judge", pT_4, 5, pF_4, rfl, by decide, rfl, rfl, pw_136, pU_4, rfl, by decide +kernel, pD_4, pNm_4⟩
theorem pw_137 : (Cond.fieldLink "MembraneRounds$Rule" 9 "MembraneRounds$Rule" "number" "I" : Cond) ∈ lw_gd := lw_gd_in (List.mem_of_getElem? (i := 83) (by decide +kernel)) (by decide +kernel)
theorem pfE_72 : pFQ (5, 9, (5, 0, .int, true)) := ⟨"MembraneRounds$Rule", pT_5, 11, pF_5, rfl, by decide, rfl, rfl, pw_137, pU_5, rfl, by decide +kernel, pD_5, pNm_5⟩
theorem pw_138 : (Cond.fieldLink "MembraneRounds$Rule" 15 "MembraneRounds$Rule" "dissolves" "Z" : Cond) ∈ lw_gd := lw_gd_in (List.mem_of_getElem? (i := 106) (by decide +kernel)) (by decide +kernel)
theorem pfE_73 : pFQ (5, 15, (5, 8, .boolean, false)) := ⟨"MembraneRounds$Rule", pT_5, 11, pF_5, rfl, by decide, rfl, rfl, pw_138, pU_5, rfl, by decide +kernel, pD_5, pNm_5⟩
theorem pw_139 : (Cond.fieldLink "MembraneRounds$Rule" 19 "MembraneRounds$Rule" "divides" "Z" : Cond) ∈ lw_gd := lw_gd_in (List.mem_of_getElem? (i := 110) (by decide +kernel)) (by decide +kernel)
theorem pfE_74 : pFQ (5, 19, (5, 9, .boolean, false)) := ⟨"MembraneRounds$Rule", pT_5, 11, pF_5, rfl, by decide, rfl, rfl, pw_139, pU_5, rfl, by decide +kernel, pD_5, pNm_5⟩
theorem pw_140 : (Cond.fieldLink "MembraneRounds$Rule" 26 "MembraneRounds$Rule" "left" "J" : Cond) ∈ lw_gd := lw_gd_in (List.mem_of_getElem? (i := 91) (by decide +kernel)) (by decide +kernel)
theorem pfE_75 : pFQ (5, 26, (5, 2, .long, false)) := ⟨"MembraneRounds$Rule", pT_5, 11, pF_5, rfl, by decide, rfl, rfl, pw_140, pU_5, rfl, by decide +kernel, pD_5, pNm_5⟩
theorem pw_141 : (Cond.fieldLink "MembraneRounds$RuleBook" 11 "MembraneRounds$RuleBook" "rules" "[LMembraneRounds$Rule;" : Cond) ∈ lw_gd := lw_gd_in (List.mem_of_getElem? (i := 141) (by decide +kernel)) (by decide +kernel)
theorem pfE_76 : pFQ (6, 11, (6, 0, (.array (.object "MembraneRounds$Rule")), true)) := ⟨"MembraneRounds$RuleBook", pT_6, 2, pF_6, rfl, by decide, rfl, rfl, pw_141, pU_6, rfl, by decide +kernel, pD_6, pNm_6⟩
theorem pw_142 : (Cond.fieldLink "MembraneRounds$RuleBook" 20 "MembraneRounds$RuleBook" "count" "I" : Cond) ∈ lw_gd := lw_gd_in (List.mem_of_getElem? (i := 145) (by decide +kernel)) (by decide +kernel)
theorem pfE_77 : pFQ (6, 20, (6, 1, .int, false)) := ⟨"MembraneRounds$RuleBook", pT_6, 2, pF_6, rfl, by decide, rfl, rfl, pw_142, pU_6, rfl, by decide +kernel, pD_6, pNm_6⟩
theorem pw_143 : (Cond.fieldLink "MembraneRounds$RuleBook" 24 "MembraneRounds$Rule" "label" "I" : Cond) ∈ lw_gd := lw_gd_in (List.mem_of_getElem? (i := 86) (by decide +kernel)) (by decide +kernel)
theorem pfE_78 : pFQ (6, 24, (5, 1, .int, false)) := ⟨"MembraneRounds$Rule", pT_5, 11, pF_5, rfl, by decide, rfl, rfl, pw_143, pU_5, rfl, by decide +kernel, pD_5, pNm_5⟩
theorem pw_144 : (Cond.fieldLink "MembraneRounds$RuleBook" 27 "MembraneRounds$Rule" "left" "J" : Cond) ∈ lw_gd := lw_gd_in (List.mem_of_getElem? (i := 88) (by decide +kernel)) (by decide +kernel)
theorem pfE_79 : pFQ (6, 27, (5, 2, .long, false)) := ⟨"MembraneRounds$Rule", pT_5, 11, pF_5, rfl, by decide, rfl, rfl, pw_144, pU_5, rfl, by decide +kernel, pD_5, pNm_5⟩
theorem pw_145 : (Cond.fieldLink "MembraneRounds$RuleBook" 37 "MembraneRounds$Rule" "leftKinds" "J" : Cond) ∈ lw_gd := lw_gd_in (List.mem_of_getElem? (i := 92) (by decide +kernel)) (by decide +kernel)
theorem pfE_80 : pFQ (6, 37, (5, 3, .long, false)) := ⟨"MembraneRounds$Rule", pT_5, 11, pF_5, rfl, by decide, rfl, rfl, pw_145, pU_5, rfl, by decide +kernel, pD_5, pNm_5⟩
theorem pw_146 : (Cond.fieldLink "MembraneRounds$RuleBook" 40 "MembraneRounds$Rule" "here" "J" : Cond) ∈ lw_gd := lw_gd_in (List.mem_of_getElem? (i := 94) (by decide +kernel)) (by decide +kernel)
theorem pfE_81 : pFQ (6, 40, (5, 4, .long, false)) := ⟨"MembraneRounds$Rule", pT_5, 11, pF_5, rfl, by decide, rfl, rfl, pw_146, pU_5, rfl, by decide +kernel, pD_5, pNm_5⟩
theorem pw_147 : (Cond.fieldLink "MembraneRounds$RuleBook" 43 "MembraneRounds$Rule" "out" "J" : Cond) ∈ lw_gd := lw_gd_in (List.mem_of_getElem? (i := 96) (by decide +kernel)) (by decide +kernel)
theorem pfE_82 : pFQ (6, 43, (5, 5, .long, false)) := ⟨"MembraneRounds$Rule", pT_5, 11, pF_5, rfl, by decide, rfl, rfl, pw_147, pU_5, rfl, by decide +kernel, pD_5, pNm_5⟩
theorem pw_148 : (Cond.fieldLink "MembraneRounds$RuleBook" 46 "MembraneRounds$Rule" "into" "J" : Cond) ∈ lw_gd := lw_gd_in (List.mem_of_getElem? (i := 98) (by decide +kernel)) (by decide +kernel)
theorem pfE_83 : pFQ (6, 46, (5, 6, .long, false)) := ⟨"MembraneRounds$Rule", pT_5, 11, pF_5, rfl, by decide, rfl, rfl, pw_148, pU_5, rfl, by decide +kernel, pD_5, pNm_5⟩
theorem pw_149 : (Cond.fieldLink "MembraneRounds$RuleBook" 49 "MembraneRounds$Rule" "intoLabel" "I" : Cond) ∈ lw_gd := lw_gd_in (List.mem_of_getElem? (i := 102) (by decide +kernel)) (by decide +kernel)
theorem pfE_84 : pFQ (6, 49, (5, 7, .int, false)) := ⟨"MembraneRounds$Rule", pT_5, 11, pF_5, rfl, by decide, rfl, rfl, pw_149, pU_5, rfl, by decide +kernel, pD_5, pNm_5⟩
theorem pw_150 : (Cond.fieldLink "MembraneRounds$RuleBook" 52 "MembraneRounds$Rule" "dissolves" "Z" : Cond) ∈ lw_gd := lw_gd_in (List.mem_of_getElem? (i := 107) (by decide +kernel)) (by decide +kernel)
theorem pfE_85 : pFQ (6, 52, (5, 8, .boolean, false)) := ⟨"MembraneRounds$Rule", pT_5, 11, pF_5, rfl, by decide, rfl, rfl, pw_150, pU_5, rfl, by decide +kernel, pD_5, pNm_5⟩
theorem pw_151 : (Cond.fieldLink "MembraneRounds$RuleBook" 56 "MembraneRounds$Rule" "divides" "Z" : Cond) ∈ lw_gd := lw_gd_in (List.mem_of_getElem? (i := 111) (by decide +kernel)) (by decide +kernel)
theorem pfE_86 : pFQ (6, 56, (5, 9, .boolean, false)) := ⟨"MembraneRounds$Rule", pT_5, 11, pF_5, rfl, by decide, rfl, rfl, pw_151, pU_5, rfl, by decide +kernel, pD_5, pNm_5⟩
theorem pw_152 : (Cond.fieldLink "MembraneRounds$RuleBook" 59 "MembraneRounds$Rule" "other" "J" : Cond) ∈ lw_gd := lw_gd_in (List.mem_of_getElem? (i := 115) (by decide +kernel)) (by decide +kernel)
theorem pfE_87 : pFQ (6, 59, (5, 10, .long, false)) := ⟨"MembraneRounds$Rule", pT_5, 11, pF_5, rfl, by decide, rfl, rfl, pw_152, pU_5, rfl, by decide +kernel, pD_5, pNm_5⟩
theorem pw_153 : (Cond.fieldLink "MembraneRounds$RuleBook" 62 "MembraneRounds$Rule" "number" "I" : Cond) ∈ lw_gd := lw_gd_in (List.mem_of_getElem? (i := 84) (by decide +kernel)) (by decide +kernel)
theorem pfE_88 : pFQ (6, 62, (5, 0, .int, true)) := ⟨"MembraneRounds$Rule", pT_5, 11, pF_5, rfl, by decide, rfl, rfl, pw_153, pU_5, rfl, by decide +kernel, pD_5, pNm_5⟩
theorem pw_154 : (Cond.fieldLink "MembraneRounds$Scribe" 11 "MembraneRounds$Scribe" "row" "[C" : Cond) ∈ lw_gd := lw_gd_in (List.mem_of_getElem? (i := 254) (by decide +kernel)) (by decide +kernel)
theorem pfE_89 : pFQ (7, 11, (7, 0, (.array .char), true)) := ⟨"MembraneRounds$Scribe", pT_7, 2, pF_7, rfl, by decide, rfl, rfl, pw_154, pU_7, rfl, by decide +kernel, pD_7, pNm_7⟩
theorem pw_155 : (Cond.fieldLink "MembraneRounds$Scribe" 15 "MembraneRounds$Scribe" "length" "I" : Cond) ∈ lw_gd := lw_gd_in (List.mem_of_getElem? (i := 255) (by decide +kernel)) (by decide +kernel)
theorem pfE_90 : pFQ (7, 15, (7, 1, .int, false)) := ⟨"MembraneRounds$Scribe", pT_7, 2, pF_7, rfl, by decide, rfl, rfl, pw_155, pU_7, rfl, by decide +kernel, pD_7, pNm_7⟩
theorem pw_156 : (Cond.fieldLink "MembraneRounds$Scribe" 23 "MembraneRounds$Configuration" "labels" "[I" : Cond) ∈ lw_gd := lw_gd_in (List.mem_of_getElem? (i := 209) (by decide +kernel)) (by decide +kernel)
theorem pfE_91 : pFQ (7, 23, (3, 0, (.array .int), true)) := ⟨"MembraneRounds$Configuration", pT_3, 3, pF_3, rfl, by decide, rfl, rfl, pw_156, pU_3, rfl, by decide +kernel, pD_3, pNm_3⟩
theorem pw_157 : (Cond.fieldLink "MembraneRounds$Scribe" 33 "MembraneRounds$Configuration" "heaps" "[J" : Cond) ∈ lw_gd := lw_gd_in (List.mem_of_getElem? (i := 220) (by decide +kernel)) (by decide +kernel)
theorem pfE_92 : pFQ (7, 33, (3, 2, (.array .long), true)) := ⟨"MembraneRounds$Configuration", pT_3, 3, pF_3, rfl, by decide, rfl, rfl, pw_157, pU_3, rfl, by decide +kernel, pD_3, pNm_3⟩
theorem pw_158 : (Cond.fieldLink "MembraneRounds$Scribe" 43 "MembraneRounds$Configuration" "parents" "[I" : Cond) ∈ lw_gd := lw_gd_in (List.mem_of_getElem? (i := 215) (by decide +kernel)) (by decide +kernel)
theorem pfE_93 : pFQ (7, 43, (3, 1, (.array .int), true)) := ⟨"MembraneRounds$Configuration", pT_3, 3, pF_3, rfl, by decide, rfl, rfl, pw_158, pU_3, rfl, by decide +kernel, pD_3, pNm_3⟩
theorem pw_159 : (Cond.fieldLink "MembraneRounds$Worker" 11 "MembraneRounds$Worker" "onceUsed" "[LMembraneRounds$Rule;" : Cond) ∈ lw_gd := lw_gd_in (List.mem_of_getElem? (i := 191) (by decide +kernel)) (by decide +kernel)
theorem pfE_94 : pFQ (8, 11, (8, 0, (.array (.object "MembraneRounds$Rule")), true)) := ⟨"MembraneRounds$Worker", pT_8, 1, pF_8, rfl, by decide, rfl, rfl, pw_159, pU_8, rfl, by decide +kernel, pD_8, pNm_8⟩
theorem pw_160 : (Cond.fieldLink "MembraneRounds$Worker" 17 "MembraneRounds$RuleBook" "count" "I" : Cond) ∈ lw_gd := lw_gd_in (List.mem_of_getElem? (i := 147) (by decide +kernel)) (by decide +kernel)
theorem pfE_95 : pFQ (8, 17, (6, 1, .int, false)) := ⟨"MembraneRounds$RuleBook", pT_6, 2, pF_6, rfl, by decide, rfl, rfl, pw_160, pU_6, rfl, by decide +kernel, pD_6, pNm_6⟩
theorem pw_161 : (Cond.fieldLink "MembraneRounds$Worker" 29 "MembraneRounds$RuleBook" "rules" "[LMembraneRounds$Rule;" : Cond) ∈ lw_gd := lw_gd_in (List.mem_of_getElem? (i := 142) (by decide +kernel)) (by decide +kernel)
theorem pfE_96 : pFQ (8, 29, (6, 0, (.array (.object "MembraneRounds$Rule")), true)) := ⟨"MembraneRounds$RuleBook", pT_6, 2, pF_6, rfl, by decide, rfl, rfl, pw_161, pU_6, rfl, by decide +kernel, pD_6, pNm_6⟩
theorem pw_162 : (Cond.fieldLink "MembraneRounds$Worker" 50 "MembraneRounds$Configuration" "heaps" "[J" : Cond) ∈ lw_gd := lw_gd_in (List.mem_of_getElem? (i := 219) (by decide +kernel)) (by decide +kernel)
theorem pfE_97 : pFQ (8, 50, (3, 2, (.array .long), true)) := ⟨"MembraneRounds$Configuration", pT_3, 3, pF_3, rfl, by decide, rfl, rfl, pw_162, pU_3, rfl, by decide +kernel, pD_3, pNm_3⟩
theorem pw_163 : (Cond.fieldLink "MembraneRounds$Worker" 54 "MembraneRounds$Rule" "left" "J" : Cond) ∈ lw_gd := lw_gd_in (List.mem_of_getElem? (i := 90) (by decide +kernel)) (by decide +kernel)
theorem pfE_98 : pFQ (8, 54, (5, 2, .long, false)) := ⟨"MembraneRounds$Rule", pT_5, 11, pF_5, rfl, by decide, rfl, rfl, pw_163, pU_5, rfl, by decide +kernel, pD_5, pNm_5⟩
theorem pw_164 : (Cond.fieldLink "MembraneRounds$Worker" 58 "MembraneRounds$Rule" "divides" "Z" : Cond) ∈ lw_gd := lw_gd_in (List.mem_of_getElem? (i := 112) (by decide +kernel)) (by decide +kernel)
theorem pfE_99 : pFQ (8, 58, (5, 9, .boolean, false)) := ⟨"MembraneRounds$Rule", pT_5, 11, pF_5, rfl, by decide, rfl, rfl, pw_164, pU_5, rfl, by decide +kernel, pD_5, pNm_5⟩
theorem pw_165 : (Cond.fieldLink "MembraneRounds$Worker" 62 "MembraneRounds$Rule" "here" "J" : Cond) ∈ lw_gd := lw_gd_in (List.mem_of_getElem? (i := 95) (by decide +kernel)) (by decide +kernel)
theorem pfE_100 : pFQ (8, 62, (5, 4, .long, false)) := ⟨"MembraneRounds$Rule", pT_5, 11, pF_5, rfl, by decide, rfl, rfl, pw_165, pU_5, rfl, by decide +kernel, pD_5, pNm_5⟩
theorem pw_166 : (Cond.fieldLink "MembraneRounds$Worker" 65 "MembraneRounds$Configuration" "parents" "[I" : Cond) ∈ lw_gd := lw_gd_in (List.mem_of_getElem? (i := 214) (by decide +kernel)) (by decide +kernel)
theorem pfE_101 : pFQ (8, 65, (3, 1, (.array .int), true)) := ⟨"MembraneRounds$Configuration", pT_3, 3, pF_3, rfl, by decide, rfl, rfl, pw_166, pU_3, rfl, by decide +kernel, pD_3, pNm_3⟩
theorem pw_167 : (Cond.fieldLink "MembraneRounds$Worker" 69 "MembraneRounds$Rule" "out" "J" : Cond) ∈ lw_gd := lw_gd_in (List.mem_of_getElem? (i := 97) (by decide +kernel)) (by decide +kernel)
theorem pfE_102 : pFQ (8, 69, (5, 5, .long, false)) := ⟨"MembraneRounds$Rule", pT_5, 11, pF_5, rfl, by decide, rfl, rfl, pw_167, pU_5, rfl, by decide +kernel, pD_5, pNm_5⟩
theorem pw_168 : (Cond.fieldLink "MembraneRounds$Worker" 72 "MembraneRounds$Rule" "into" "J" : Cond) ∈ lw_gd := lw_gd_in (List.mem_of_getElem? (i := 99) (by decide +kernel)) (by decide +kernel)
theorem pfE_103 : pFQ (8, 72, (5, 6, .long, false)) := ⟨"MembraneRounds$Rule", pT_5, 11, pF_5, rfl, by decide, rfl, rfl, pw_168, pU_5, rfl, by decide +kernel, pD_5, pNm_5⟩
theorem pw_169 : (Cond.fieldLink "MembraneRounds$Worker" 75 "MembraneRounds$Rule" "intoLabel" "I" : Cond) ∈ lw_gd := lw_gd_in (List.mem_of_getElem? (i := 103) (by decide +kernel)) (by decide +kernel)
theorem pfE_104 : pFQ (8, 75, (5, 7, .int, false)) := ⟨"MembraneRounds$Rule", pT_5, 11, pF_5, rfl, by decide, rfl, rfl, pw_169, pU_5, rfl, by decide +kernel, pD_5, pNm_5⟩
theorem pw_170 : (Cond.fieldLink "MembraneRounds$Worker" 88 "MembraneRounds$Configuration" "labels" "[I" : Cond) ∈ lw_gd := lw_gd_in (List.mem_of_getElem? (i := 210) (by decide +kernel)) (by decide +kernel)
theorem pfE_105 : pFQ (8, 88, (3, 0, (.array .int), true)) := ⟨"MembraneRounds$Configuration", pT_3, 3, pF_3, rfl, by decide, rfl, rfl, pw_170, pU_3, rfl, by decide +kernel, pD_3, pNm_3⟩
theorem pw_171 : (Cond.fieldLink "MembraneRounds$Worker" 91 "MembraneRounds$Rule" "other" "J" : Cond) ∈ lw_gd := lw_gd_in (List.mem_of_getElem? (i := 116) (by decide +kernel)) (by decide +kernel)
theorem pfE_106 : pFQ (8, 91, (5, 10, .long, false)) := ⟨"MembraneRounds$Rule", pT_5, 11, pF_5, rfl, by decide, rfl, rfl, pw_171, pU_5, rfl, by decide +kernel, pD_5, pNm_5⟩
theorem pw_172 : (Cond.fieldLink "MembraneRounds$Worker" 98 "MembraneRounds$Rule" "dissolves" "Z" : Cond) ∈ lw_gd := lw_gd_in (List.mem_of_getElem? (i := 108) (by decide +kernel)) (by decide +kernel)
theorem pfE_107 : pFQ (8, 98, (5, 8, .boolean, false)) := ⟨"MembraneRounds$Rule", pT_5, 11, pF_5, rfl, by decide, rfl, rfl, pw_172, pU_5, rfl, by decide +kernel, pD_5, pNm_5⟩
theorem pfFR_0 : ∀ z ∈ ([(0, 12, (0, 0, (.object "MembraneRounds$RuleBook"), true)), (0, 19, (0, 1, (.object "MembraneRounds$Chooser"), true)), (0, 26, (0, 2, (.object "MembraneRounds$Worker"), true)), (0, 33, (0, 3, (.object "MembraneRounds$Judge"), true)), (0, 40, (0, 4, (.object "MembraneRounds$Scribe"), true)), (0, 44, (0, 5, (.array .int), true)), (0, 51, (0, 6, (.object "MembraneRounds$Configuration"), false)), (0, 55, (0, 7, (.object "MembraneRounds$Configuration"), false)), (0, 65, (6, 1, .int, false)), (0, 69, (4, 1, .int, false)), (0, 91, (3, 2, (.array .long), true)), (0, 121, (6, 0, (.array (.object "MembraneRounds$Rule")), true)), (0, 125, (5, 6, .long, false)), (0, 131, (5, 7, .int, false)), (0, 137, (5, 8, .boolean, false)), (0, 141, (5, 9, .boolean, false)), (0, 144, (5, 10, .long, false)), (0, 182, (3, 0, (.array .int), true)), (0, 185, (3, 1, (.array .int), true)), (0, 220, (4, 0, (.array (.object "MembraneRounds$Configuration")), false)), (1, 7, (1, 2, (.array .int), true)), (1, 13, (1, 3, (.array .int), true)), (1, 16, (1, 4, (.array .int), true)), (1, 19, (1, 5, (.array .int), true)), (1, 22, (1, 6, (.array .int), true)), (1, 25, (1, 7, (.array .int), true)), (1, 28, (1, 8, (.array .int), true)), (1, 31, (1, 9, (.array .int), true)), (1, 34, (1, 10, (.array .int), true)), (1, 37, (1, 13, (.array .int), true))] : List (Nat × Nat × Nat × Nat × FieldType × Bool)), pFQ z := List.forall_mem_cons.mpr ⟨pfE_0, List.forall_mem_cons.mpr ⟨pfE_1, List.forall_mem_cons.mpr ⟨pfE_2, List.forall_mem_cons.mpr ⟨pfE_3, List.forall_mem_cons.mpr ⟨pfE_4, List.forall_mem_cons.mpr ⟨pfE_5, List.forall_mem_cons.mpr ⟨pfE_6, List.forall_mem_cons.mpr ⟨pfE_7, List.forall_mem_cons.mpr ⟨pfE_8, List.forall_mem_cons.mpr ⟨pfE_9, List.forall_mem_cons.mpr ⟨pfE_10, List.forall_mem_cons.mpr ⟨pfE_11, List.forall_mem_cons.mpr ⟨pfE_12, List.forall_mem_cons.mpr ⟨pfE_13, List.forall_mem_cons.mpr ⟨pfE_14, List.forall_mem_cons.mpr ⟨pfE_15, List.forall_mem_cons.mpr ⟨pfE_16, List.forall_mem_cons.mpr ⟨pfE_17, List.forall_mem_cons.mpr ⟨pfE_18, List.forall_mem_cons.mpr ⟨pfE_19, List.forall_mem_cons.mpr ⟨pfE_20, List.forall_mem_cons.mpr ⟨pfE_21, List.forall_mem_cons.mpr ⟨pfE_22, List.forall_mem_cons.mpr ⟨pfE_23, List.forall_mem_cons.mpr ⟨pfE_24, List.forall_mem_cons.mpr ⟨pfE_25, List.forall_mem_cons.mpr ⟨pfE_26, List.forall_mem_cons.mpr ⟨pfE_27, List.forall_mem_cons.mpr ⟨pfE_28, List.forall_mem_cons.mpr ⟨pfE_29, fun _ h => absurd h List.not_mem_nil⟩⟩⟩⟩⟩⟩⟩⟩⟩⟩⟩⟩⟩⟩⟩⟩⟩⟩⟩⟩⟩⟩⟩⟩⟩⟩⟩⟩⟩⟩
theorem pfFR_1 : ∀ z ∈ ([(1, 40, (1, 14, (.array .int), true)), (1, 43, (1, 16, (.array .int), true)), (1, 46, (1, 18, (.array .int), true)), (1, 49, (1, 19, (.array .int), true)), (1, 52, (1, 20, (.array .int), true)), (1, 55, (1, 21, (.array .int), true)), (1, 58, (1, 25, (.array .int), true)), (1, 65, (1, 0, .int, false)), (1, 77, (1, 1, .int, false)), (1, 80, (1, 11, .int, false)), (1, 105, (1, 15, .boolean, false)), (1, 143, (1, 17, .int, false)), (1, 164, (1, 12, .int, false)), (1, 177, (1, 22, .int, false)), (1, 180, (1, 23, .int, false)), (1, 183, (1, 24, .int, false)), (2, 11, (2, 0, (.array (.object "MembraneRounds$Rule")), true)), (2, 17, (2, 2, (.array .int), true)), (2, 21, (2, 5, (.array .int), true)), (2, 24, (2, 6, (.array .int), true)), (2, 31, (3, 2, (.array .long), true)), (2, 37, (2, 1, .int, false)), (2, 45, (5, 2, .long, false)), (2, 53, (5, 0, .int, true)), (2, 62, (2, 4, .int, false)), (2, 68, (2, 3, .int, false)), (2, 81, (6, 1, .int, false)), (2, 86, (6, 0, (.array (.object "MembraneRounds$Rule")), true)), (2, 89, (5, 1, .int, false)), (2, 92, (3, 0, (.array .int), true))] : List (Nat × Nat × Nat × Nat × FieldType × Bool)), pFQ z := List.forall_mem_cons.mpr ⟨pfE_30, List.forall_mem_cons.mpr ⟨pfE_31, List.forall_mem_cons.mpr ⟨pfE_32, List.forall_mem_cons.mpr ⟨pfE_33, List.forall_mem_cons.mpr ⟨pfE_34, List.forall_mem_cons.mpr ⟨pfE_35, List.forall_mem_cons.mpr ⟨pfE_36, List.forall_mem_cons.mpr ⟨pfE_37, List.forall_mem_cons.mpr ⟨pfE_38, List.forall_mem_cons.mpr ⟨pfE_39, List.forall_mem_cons.mpr ⟨pfE_40, List.forall_mem_cons.mpr ⟨pfE_41, List.forall_mem_cons.mpr ⟨pfE_42, List.forall_mem_cons.mpr ⟨pfE_43, List.forall_mem_cons.mpr ⟨pfE_44, List.forall_mem_cons.mpr ⟨pfE_45, List.forall_mem_cons.mpr ⟨pfE_46, List.forall_mem_cons.mpr ⟨pfE_47, List.forall_mem_cons.mpr ⟨pfE_48, List.forall_mem_cons.mpr ⟨pfE_49, List.forall_mem_cons.mpr ⟨pfE_50, List.forall_mem_cons.mpr ⟨pfE_51, List.forall_mem_cons.mpr ⟨pfE_52, List.forall_mem_cons.mpr ⟨pfE_53, List.forall_mem_cons.mpr ⟨pfE_54, List.forall_mem_cons.mpr ⟨pfE_55, List.forall_mem_cons.mpr ⟨pfE_56, List.forall_mem_cons.mpr ⟨pfE_57, List.forall_mem_cons.mpr ⟨pfE_58, List.forall_mem_cons.mpr ⟨pfE_59, fun _ h => absurd h List.not_mem_nil⟩⟩⟩⟩⟩⟩⟩⟩⟩⟩⟩⟩⟩⟩⟩⟩⟩⟩⟩⟩⟩⟩⟩⟩⟩⟩⟩⟩⟩⟩
theorem pfFR_2 : ∀ z ∈ ([(2, 99, (5, 9, .boolean, false)), (2, 107, (5, 6, .long, false)), (2, 110, (5, 7, .int, false)), (2, 120, (5, 3, .long, false)), (3, 9, (3, 0, (.array .int), true)), (3, 15, (3, 1, (.array .int), true)), (3, 18, (3, 2, (.array .long), true)), (4, 11, (4, 0, (.array (.object "MembraneRounds$Configuration")), false)), (4, 17, (4, 2, (.array (.object "MembraneRounds$Configuration")), false)), (4, 21, (4, 3, (.object "MembraneRounds$Configuration"), true)), (4, 25, (4, 4, (.array .int), true)), (4, 33, (4, 1, .int, false)), (5, 9, (5, 0, .int, true)), (5, 15, (5, 8, .boolean, false)), (5, 19, (5, 9, .boolean, false)), (5, 26, (5, 2, .long, false)), (6, 11, (6, 0, (.array (.object "MembraneRounds$Rule")), true)), (6, 20, (6, 1, .int, false)), (6, 24, (5, 1, .int, false)), (6, 27, (5, 2, .long, false)), (6, 37, (5, 3, .long, false)), (6, 40, (5, 4, .long, false)), (6, 43, (5, 5, .long, false)), (6, 46, (5, 6, .long, false)), (6, 49, (5, 7, .int, false)), (6, 52, (5, 8, .boolean, false)), (6, 56, (5, 9, .boolean, false)), (6, 59, (5, 10, .long, false)), (6, 62, (5, 0, .int, true)), (7, 11, (7, 0, (.array .char), true))] : List (Nat × Nat × Nat × Nat × FieldType × Bool)), pFQ z := List.forall_mem_cons.mpr ⟨pfE_60, List.forall_mem_cons.mpr ⟨pfE_61, List.forall_mem_cons.mpr ⟨pfE_62, List.forall_mem_cons.mpr ⟨pfE_63, List.forall_mem_cons.mpr ⟨pfE_64, List.forall_mem_cons.mpr ⟨pfE_65, List.forall_mem_cons.mpr ⟨pfE_66, List.forall_mem_cons.mpr ⟨pfE_67, List.forall_mem_cons.mpr ⟨pfE_68, List.forall_mem_cons.mpr ⟨pfE_69, List.forall_mem_cons.mpr ⟨pfE_70, List.forall_mem_cons.mpr ⟨pfE_71, List.forall_mem_cons.mpr ⟨pfE_72, List.forall_mem_cons.mpr ⟨pfE_73, List.forall_mem_cons.mpr ⟨pfE_74, List.forall_mem_cons.mpr ⟨pfE_75, List.forall_mem_cons.mpr ⟨pfE_76, List.forall_mem_cons.mpr ⟨pfE_77, List.forall_mem_cons.mpr ⟨pfE_78, List.forall_mem_cons.mpr ⟨pfE_79, List.forall_mem_cons.mpr ⟨pfE_80, List.forall_mem_cons.mpr ⟨pfE_81, List.forall_mem_cons.mpr ⟨pfE_82, List.forall_mem_cons.mpr ⟨pfE_83, List.forall_mem_cons.mpr ⟨pfE_84, List.forall_mem_cons.mpr ⟨pfE_85, List.forall_mem_cons.mpr ⟨pfE_86, List.forall_mem_cons.mpr ⟨pfE_87, List.forall_mem_cons.mpr ⟨pfE_88, List.forall_mem_cons.mpr ⟨pfE_89, fun _ h => absurd h List.not_mem_nil⟩⟩⟩⟩⟩⟩⟩⟩⟩⟩⟩⟩⟩⟩⟩⟩⟩⟩⟩⟩⟩⟩⟩⟩⟩⟩⟩⟩⟩⟩
theorem pfFR_3 : ∀ z ∈ ([(7, 15, (7, 1, .int, false)), (7, 23, (3, 0, (.array .int), true)), (7, 33, (3, 2, (.array .long), true)), (7, 43, (3, 1, (.array .int), true)), (8, 11, (8, 0, (.array (.object "MembraneRounds$Rule")), true)), (8, 17, (6, 1, .int, false)), (8, 29, (6, 0, (.array (.object "MembraneRounds$Rule")), true)), (8, 50, (3, 2, (.array .long), true)), (8, 54, (5, 2, .long, false)), (8, 58, (5, 9, .boolean, false)), (8, 62, (5, 4, .long, false)), (8, 65, (3, 1, (.array .int), true)), (8, 69, (5, 5, .long, false)), (8, 72, (5, 6, .long, false)), (8, 75, (5, 7, .int, false)), (8, 88, (3, 0, (.array .int), true)), (8, 91, (5, 10, .long, false)), (8, 98, (5, 8, .boolean, false))] : List (Nat × Nat × Nat × Nat × FieldType × Bool)), pFQ z := List.forall_mem_cons.mpr ⟨pfE_90, List.forall_mem_cons.mpr ⟨pfE_91, List.forall_mem_cons.mpr ⟨pfE_92, List.forall_mem_cons.mpr ⟨pfE_93, List.forall_mem_cons.mpr ⟨pfE_94, List.forall_mem_cons.mpr ⟨pfE_95, List.forall_mem_cons.mpr ⟨pfE_96, List.forall_mem_cons.mpr ⟨pfE_97, List.forall_mem_cons.mpr ⟨pfE_98, List.forall_mem_cons.mpr ⟨pfE_99, List.forall_mem_cons.mpr ⟨pfE_100, List.forall_mem_cons.mpr ⟨pfE_101, List.forall_mem_cons.mpr ⟨pfE_102, List.forall_mem_cons.mpr ⟨pfE_103, List.forall_mem_cons.mpr ⟨pfE_104, List.forall_mem_cons.mpr ⟨pfE_105, List.forall_mem_cons.mpr ⟨pfE_106, List.forall_mem_cons.mpr ⟨pfE_107, fun _ h => absurd h List.not_mem_nil⟩⟩⟩⟩⟩⟩⟩⟩⟩⟩⟩⟩⟩⟩⟩⟩⟩⟩
theorem pfF_all : ∀ z ∈ pfFL, pFQ z := by
  show ∀ z ∈ ([(0, 12, (0, 0, (.object "MembraneRounds$RuleBook"), true)), (0, 19, (0, 1, (.object "MembraneRounds$Chooser"), true)), (0, 26, (0, 2, (.object "MembraneRounds$Worker"), true)), (0, 33, (0, 3, (.object "MembraneRounds$Judge"), true)), (0, 40, (0, 4, (.object "MembraneRounds$Scribe"), true)), (0, 44, (0, 5, (.array .int), true)), (0, 51, (0, 6, (.object "MembraneRounds$Configuration"), false)), (0, 55, (0, 7, (.object "MembraneRounds$Configuration"), false)), (0, 65, (6, 1, .int, false)), (0, 69, (4, 1, .int, false)), (0, 91, (3, 2, (.array .long), true)), (0, 121, (6, 0, (.array (.object "MembraneRounds$Rule")), true)), (0, 125, (5, 6, .long, false)), (0, 131, (5, 7, .int, false)), (0, 137, (5, 8, .boolean, false)), (0, 141, (5, 9, .boolean, false)), (0, 144, (5, 10, .long, false)), (0, 182, (3, 0, (.array .int), true)), (0, 185, (3, 1, (.array .int), true)), (0, 220, (4, 0, (.array (.object "MembraneRounds$Configuration")), false)), (1, 7, (1, 2, (.array .int), true)), (1, 13, (1, 3, (.array .int), true)), (1, 16, (1, 4, (.array .int), true)), (1, 19, (1, 5, (.array .int), true)), (1, 22, (1, 6, (.array .int), true)), (1, 25, (1, 7, (.array .int), true)), (1, 28, (1, 8, (.array .int), true)), (1, 31, (1, 9, (.array .int), true)), (1, 34, (1, 10, (.array .int), true)), (1, 37, (1, 13, (.array .int), true))] : List (Nat × Nat × Nat × Nat × FieldType × Bool)) ++ (([(1, 40, (1, 14, (.array .int), true)), (1, 43, (1, 16, (.array .int), true)), (1, 46, (1, 18, (.array .int), true)), (1, 49, (1, 19, (.array .int), true)), (1, 52, (1, 20, (.array .int), true)), (1, 55, (1, 21, (.array .int), true)), (1, 58, (1, 25, (.array .int), true)), (1, 65, (1, 0, .int, false)), (1, 77, (1, 1, .int, false)), (1, 80, (1, 11, .int, false)), (1, 105, (1, 15, .boolean, false)), (1, 143, (1, 17, .int, false)), (1, 164, (1, 12, .int, false)), (1, 177, (1, 22, .int, false)), (1, 180, (1, 23, .int, false)), (1, 183, (1, 24, .int, false)), (2, 11, (2, 0, (.array (.object "MembraneRounds$Rule")), true)), (2, 17, (2, 2, (.array .int), true)), (2, 21, (2, 5, (.array .int), true)), (2, 24, (2, 6, (.array .int), true)), (2, 31, (3, 2, (.array .long), true)), (2, 37, (2, 1, .int, false)), (2, 45, (5, 2, .long, false)), (2, 53, (5, 0, .int, true)), (2, 62, (2, 4, .int, false)), (2, 68, (2, 3, .int, false)), (2, 81, (6, 1, .int, false)), (2, 86, (6, 0, (.array (.object "MembraneRounds$Rule")), true)), (2, 89, (5, 1, .int, false)), (2, 92, (3, 0, (.array .int), true))] : List (Nat × Nat × Nat × Nat × FieldType × Bool)) ++ (([(2, 99, (5, 9, .boolean, false)), (2, 107, (5, 6, .long, false)), (2, 110, (5, 7, .int, false)), (2, 120, (5, 3, .long, false)), (3, 9, (3, 0, (.array .int), true)), (3, 15, (3, 1, (.array .int), true)), (3, 18, (3, 2, (.array .long), true)), (4, 11, (4, 0, (.array (.object "MembraneRounds$Configuration")), false)), (4, 17, (4, 2, (.array (.object "MembraneRounds$Configuration")), false)), (4, 21, (4, 3, (.object "MembraneRounds$Configuration"), true)), (4, 25, (4, 4, (.array .int), true)), (4, 33, (4, 1, .int, false)), (5, 9, (5, 0, .int, true)), (5, 15, (5, 8, .boolean, false)), (5, 19, (5, 9, .boolean, false)), (5, 26, (5, 2, .long, false)), (6, 11, (6, 0, (.array (.object "MembraneRounds$Rule")), true)), (6, 20, (6, 1, .int, false)), (6, 24, (5, 1, .int, false)), (6, 27, (5, 2, .long, false)), (6, 37, (5, 3, .long, false)), (6, 40, (5, 4, .long, false)), (6, 43, (5, 5, .long, false)), (6, 46, (5, 6, .long, false)), (6, 49, (5, 7, .int, false)), (6, 52, (5, 8, .boolean, false)), (6, 56, (5, 9, .boolean, false)), (6, 59, (5, 10, .long, false)), (6, 62, (5, 0, .int, true)), (7, 11, (7, 0, (.array .char), true))] : List (Nat × Nat × Nat × Nat × FieldType × Bool)) ++ (([(7, 15, (7, 1, .int, false)), (7, 23, (3, 0, (.array .int), true)), (7, 33, (3, 2, (.array .long), true)), (7, 43, (3, 1, (.array .int), true)), (8, 11, (8, 0, (.array (.object "MembraneRounds$Rule")), true)), (8, 17, (6, 1, .int, false)), (8, 29, (6, 0, (.array (.object "MembraneRounds$Rule")), true)), (8, 50, (3, 2, (.array .long), true)), (8, 54, (5, 2, .long, false)), (8, 58, (5, 9, .boolean, false)), (8, 62, (5, 4, .long, false)), (8, 65, (3, 1, (.array .int), true)), (8, 69, (5, 5, .long, false)), (8, 72, (5, 6, .long, false)), (8, 75, (5, 7, .int, false)), (8, 88, (3, 0, (.array .int), true)), (8, 91, (5, 10, .long, false)), (8, 98, (5, 8, .boolean, false))] : List (Nat × Nat × Nat × Nat × FieldType × Bool))))), pFQ z
  exact List.forall_mem_append.mpr ⟨pfFR_0, List.forall_mem_append.mpr ⟨pfFR_1, List.forall_mem_append.mpr ⟨pfFR_2, pfFR_3⟩⟩⟩
theorem pg_fld : gFld pP pN pCL := fun o ix c j ty fin h => pfF_all (o, ix, c, j, ty, fin) (pfF_in h)
theorem pg_ty : gTy pP pN := ⟨rfl, rfl, rfl, fun tt c h => by
  obtain ⟨h1, -⟩ := eB1_some (show eB1 tt 8 _ = some _ from h)
  have key : ∀ tt, tt < 8 → (match pElt tt with | none => true | some c => decide (pTy[tt]? = some (.object (pCn c)))) = true := by decide +kernel
  have h2 := key tt h1
  rw [show pElt tt = some c from h] at h2
  simpa using h2⟩
theorem pg_cl : gCl pN pCL := fun c r h => by
  have hlt : c < 12 := (List.getElem?_eq_some_iff.mp h).1
  have key : ∀ c, c < 12 → (pCL[c]?.map (fun r => r.1)) = some (pCn c) := by decide +kernel
  have h2 := key c hlt
  rw [h] at h2
  exact Option.some.inj h2
theorem pw_173 : (Cond.arrayClass .int : Cond) ∈ lw_gd := lw_gd_in (List.mem_of_getElem? (i := 183) (by decide +kernel)) (by decide +kernel)
theorem pw_174 : (Cond.arrayClass .long : Cond) ∈ lw_gd := lw_gd_in (List.mem_of_getElem? (i := 229) (by decide +kernel)) (by decide +kernel)
theorem pw_175 : (Cond.arrayClass .char : Cond) ∈ lw_gd := lw_gd_in (List.mem_of_getElem? (i := 261) (by decide +kernel)) (by decide +kernel)
def paAL : List (Nat × Nat × Nat) := [(2, 9, 3), (4, 9, 4), (6, 9, 3), (8, 9, 3)]
theorem paA_mem : ∀ o, o < 16 → ∀ i, i < 512 → (match pArr o i with | none => true | some v => decide ((o, i, v) ∈ paAL)) = true := by decide +kernel
theorem paA_in {o i : Nat} {v : Nat} (h : pArr o i = some v) : (o, i, v) ∈ paAL := by
  obtain ⟨h1, h2, -⟩ := eB2_some (show eB2 o i _ = some _ from h)
  have h3 := paA_mem o h1 i h2
  rw [h] at h3
  simpa using h3
def pAQ (z : Nat × Nat × Nat) : Prop := ∀ C, pTy[z.2.2]? = some (.object C) → Cond.classLink (pCn z.1) z.2.1 C ∈ lw_gd
theorem pw_176 : (Cond.classLink "MembraneRounds$Chooser" 9 "MembraneRounds$Rule" : Cond) ∈ lw_gd := lw_gd_in (List.mem_of_getElem? (i := 160) (by decide +kernel)) (by decide +kernel)
theorem paE_0 : pAQ (2, 9, 3) := fun C h => by
  have h2 : C = "MembraneRounds$Rule" := by
    have h3 : (some (.object "MembraneRounds$Rule") : Option FieldType) = some (.object C) := h
    injection h3 with h4
    injection h4 with h5
    exact h5.symm
  subst h2
  exact pw_176
theorem pw_177 : (Cond.classLink "MembraneRounds$Judge" 9 "MembraneRounds$Configuration" : Cond) ∈ lw_gd := lw_gd_in (List.mem_of_getElem? (i := 201) (by decide +kernel)) (by decide +kernel)
theorem paE_1 : pAQ (4, 9, 4) := fun C h => by
  have h2 : C = "MembraneRounds$Configuration" := by
    have h3 : (some (.object "MembraneRounds$Configuration") : Option FieldType) = some (.object C) := h
    injection h3 with h4
    injection h4 with h5
    exact h5.symm
  subst h2
  exact pw_177
theorem pw_178 : (Cond.classLink "MembraneRounds$RuleBook" 9 "MembraneRounds$Rule" : Cond) ∈ lw_gd := lw_gd_in (List.mem_of_getElem? (i := 76) (by decide +kernel)) (by decide +kernel)
theorem paE_2 : pAQ (6, 9, 3) := fun C h => by
  have h2 : C = "MembraneRounds$Rule" := by
    have h3 : (some (.object "MembraneRounds$Rule") : Option FieldType) = some (.object C) := h
    injection h3 with h4
    injection h4 with h5
    exact h5.symm
  subst h2
  exact pw_178
theorem pw_179 : (Cond.classLink "MembraneRounds$Worker" 9 "MembraneRounds$Rule" : Cond) ∈ lw_gd := lw_gd_in (List.mem_of_getElem? (i := 190) (by decide +kernel)) (by decide +kernel)
theorem paE_3 : pAQ (8, 9, 3) := fun C h => by
  have h2 : C = "MembraneRounds$Rule" := by
    have h3 : (some (.object "MembraneRounds$Rule") : Option FieldType) = some (.object C) := h
    injection h3 with h4
    injection h4 with h5
    exact h5.symm
  subst h2
  exact pw_179
theorem paAR_0 : ∀ z ∈ ([(2, 9, 3), (4, 9, 4), (6, 9, 3), (8, 9, 3)] : List (Nat × Nat × Nat)), pAQ z := List.forall_mem_cons.mpr ⟨paE_0, List.forall_mem_cons.mpr ⟨paE_1, List.forall_mem_cons.mpr ⟨paE_2, List.forall_mem_cons.mpr ⟨paE_3, fun _ h => absurd h List.not_mem_nil⟩⟩⟩⟩
theorem paA_all : ∀ z ∈ paAL, pAQ z := by
  show ∀ z ∈ ([(2, 9, 3), (4, 9, 4), (6, 9, 3), (8, 9, 3)] : List (Nat × Nat × Nat)), pAQ z
  exact paAR_0
def pcCL : List (Nat × Nat × Nat) := [(0, 9, 6), (0, 16, 2), (0, 23, 8), (0, 30, 4), (0, 37, 7), (0, 48, 3), (0, 77, 11), (0, 198, 10), (0, 203, 9), (4, 9, 3), (6, 9, 5), (14, 8, 0), (14, 69, 1)]
theorem pcC_mem : ∀ o, o < 16 → ∀ i, i < 512 → (match pCls o i with | none => true | some v => decide ((o, i, v) ∈ pcCL)) = true := by decide +kernel
theorem pcC_in {o i : Nat} {v : Nat} (h : pCls o i = some v) : (o, i, v) ∈ pcCL := by
  obtain ⟨h1, h2, -⟩ := eB2_some (show eB2 o i _ = some _ from h)
  have h3 := pcC_mem o h1 i h2
  rw [h] at h3
  simpa using h3
def pCQ (z : Nat × Nat × Nat) : Prop := ∃ (C : String) (T : u_T) (n : Nat) (ty0 : Nat → FieldType), pCL[z.2.2]? = some (C, T, n) ∧ Cond.classLink (pCn z.1) z.2.1 C ∈ lw_gd ∧ Cond.instantiable C (pBla z.2.2).2 ∈ lw_gd ∧ Cond.initialized C ∈ lw_gd ∧
    (∀ w ∈ u_ws C T n, w ∈ lw_gd) ∧ (∀ k, k < n → parseFieldDescriptor (T k).2.2.1 = some (ty0 k)) ∧ (∀ k, k < n → defaultValue (ty0 k) = vp_V (pBla z.2.2).1 k) ∧ ∀ v ∈ (pBla z.2.2).1, v = .int 0 ∨ v = .long 0 ∨ v = .null
theorem pw_180 : (Cond.classLink "MembraneRounds" 9 "MembraneRounds$RuleBook" : Cond) ∈ lw_gd := lw_gd_in (List.mem_of_getElem? (i := 70) (by decide +kernel)) (by decide +kernel)
theorem pw_181 : (Cond.instantiable "MembraneRounds$RuleBook" 2 : Cond) ∈ lw_gd := lw_gd_in (List.mem_of_getElem? (i := 71) (by decide +kernel)) (by decide +kernel)
theorem pw_182 : (Cond.initialized "MembraneRounds$RuleBook" : Cond) ∈ lw_gd := lw_gd_in (List.mem_of_getElem? (i := 44) (by decide +kernel)) (by decide +kernel)
theorem pcE_0 : pCQ (0, 9, 6) := ⟨"MembraneRounds$RuleBook", pT_6, 2, pF_6, rfl, pw_180, pw_181, pw_182, pU_6, pD_6, by decide +kernel, by decide +kernel⟩
theorem pw_183 : (Cond.classLink "MembraneRounds" 16 "MembraneRounds$Chooser" : Cond) ∈ lw_gd := lw_gd_in (List.mem_of_getElem? (i := 154) (by decide +kernel)) (by decide +kernel)
theorem pw_184 : (Cond.instantiable "MembraneRounds$Chooser" 7 : Cond) ∈ lw_gd := lw_gd_in (List.mem_of_getElem? (i := 155) (by decide +kernel)) (by decide +kernel)
theorem pw_185 : (Cond.initialized "MembraneRounds$Chooser" : Cond) ∈ lw_gd := lw_gd_in (List.mem_of_getElem? (i := 46) (by decide +kernel)) (by decide +kernel)
theorem pcE_1 : pCQ (0, 16, 2) := ⟨"MembraneRounds$Chooser", pT_2, 7, pF_2, rfl, pw_183, pw_184, pw_185, pU_2, pD_2, by decide +kernel, by decide +kernel⟩
theorem pw_186 : (Cond.classLink "MembraneRounds" 23 "MembraneRounds$Worker" : Cond) ∈ lw_gd := lw_gd_in (List.mem_of_getElem? (i := 184) (by decide +kernel)) (by decide +kernel)
theorem pw_187 : (Cond.instantiable "MembraneRounds$Worker" 1 : Cond) ∈ lw_gd := lw_gd_in (List.mem_of_getElem? (i := 185) (by decide +kernel)) (by decide +kernel)
theorem pw_188 : (Cond.initialized "MembraneRounds$Worker" : Cond) ∈ lw_gd := lw_gd_in (List.mem_of_getElem? (i := 47) (by decide +kernel)) (by decide +kernel)
theorem pcE_2 : pCQ (0, 23, 8) := ⟨"MembraneRounds$Worker", pT_8, 1, pF_8, rfl, pw_186, pw_187, pw_188, pU_8, pD_8, by decide +kernel, by decide +kernel⟩
theorem pw_189 : (Cond.classLink "MembraneRounds" 30 "MembraneRounds$Judge" : Cond) ∈ lw_gd := lw_gd_in (List.mem_of_getElem? (i := 195) (by decide +kernel)) (by decide +kernel)
theorem pw_190 : (Cond.instantiable "MembraneRounds$Judge" 5 : Cond) ∈ lw_gd := lw_gd_in (List.mem_of_getElem? (i := 196) (by decide +kernel)) (by decide +kernel)
theorem pw_191 : (Cond.initialized "MembraneRounds$Judge" : Cond) ∈ lw_gd := lw_gd_in (List.mem_of_getElem? (i := 48) (by decide +kernel)) (by decide +kernel)
theorem pcE_3 : pCQ (0, 30, 4) := ⟨"MembraneRounds$Judge", pT_4, 5, pF_4, rfl, pw_189, pw_190, pw_191, pU_4, pD_4, by decide +kernel, by decide +kernel⟩
theorem pw_192 : (Cond.classLink "MembraneRounds" 37 "MembraneRounds$Scribe" : Cond) ∈ lw_gd := lw_gd_in (List.mem_of_getElem? (i := 248) (by decide +kernel)) (by decide +kernel)
theorem pw_193 : (Cond.instantiable "MembraneRounds$Scribe" 2 : Cond) ∈ lw_gd := lw_gd_in (List.mem_of_getElem? (i := 249) (by decide +kernel)) (by decide +kernel)
theorem pw_194 : (Cond.initialized "MembraneRounds$Scribe" : Cond) ∈ lw_gd := lw_gd_in (List.mem_of_getElem? (i := 50) (by decide +kernel)) (by decide +kernel)
theorem pcE_4 : pCQ (0, 37, 7) := ⟨"MembraneRounds$Scribe", pT_7, 2, pF_7, rfl, pw_192, pw_193, pw_194, pU_7, pD_7, by decide +kernel, by decide +kernel⟩
theorem pw_195 : (Cond.classLink "MembraneRounds" 48 "MembraneRounds$Configuration" : Cond) ∈ lw_gd := lw_gd_in (List.mem_of_getElem? (i := 262) (by decide +kernel)) (by decide +kernel)
theorem pw_196 : (Cond.instantiable "MembraneRounds$Configuration" 3 : Cond) ∈ lw_gd := lw_gd_in (List.mem_of_getElem? (i := 203) (by decide +kernel)) (by decide +kernel)
theorem pw_197 : (Cond.initialized "MembraneRounds$Configuration" : Cond) ∈ lw_gd := lw_gd_in (List.mem_of_getElem? (i := 49) (by decide +kernel)) (by decide +kernel)
theorem pcE_5 : pCQ (0, 48, 3) := ⟨"MembraneRounds$Configuration", pT_3, 3, pF_3, rfl, pw_195, pw_196, pw_197, pU_3, pD_3, by decide +kernel, by decide +kernel⟩
theorem pw_198 : (Cond.classLink "MembraneRounds" 77 "java/lang/IllegalStateException" : Cond) ∈ lw_gd := lw_gd_in (List.mem_of_getElem? (i := 441) (by decide +kernel)) (by decide +kernel)
theorem pw_199 : (Cond.instantiable "java/lang/IllegalStateException" 6 : Cond) ∈ lw_gd := lw_gd_in (List.mem_of_getElem? (i := 442) (by decide +kernel)) (by decide +kernel)
theorem pw_200 : (Cond.initialized "java/lang/IllegalStateException" : Cond) ∈ lw_gd := lw_gd_in (List.mem_of_getElem? (i := 57) (by decide +kernel)) (by decide +kernel)
theorem pcE_6 : pCQ (0, 77, 11) := ⟨"java/lang/IllegalStateException", pT_11, 0, pF_11, rfl, pw_198, pw_199, pw_200, pU_11, pD_11, by decide +kernel, by decide +kernel⟩
theorem pw_201 : (Cond.classLink "MembraneRounds" 198 "java/lang/IndexOutOfBoundsException" : Cond) ∈ lw_gd := lw_gd_in (List.mem_of_getElem? (i := 421) (by decide +kernel)) (by decide +kernel)
theorem pw_202 : (Cond.instantiable "java/lang/IndexOutOfBoundsException" 6 : Cond) ∈ lw_gd := lw_gd_in (List.mem_of_getElem? (i := 422) (by decide +kernel)) (by decide +kernel)
theorem pw_203 : (Cond.initialized "java/lang/IndexOutOfBoundsException" : Cond) ∈ lw_gd := lw_gd_in (List.mem_of_getElem? (i := 56) (by decide +kernel)) (by decide +kernel)
theorem pcE_7 : pCQ (0, 198, 10) := ⟨"java/lang/IndexOutOfBoundsException", pT_10, 0, pF_10, rfl, pw_201, pw_202, pw_203, pU_10, pD_10, by decide +kernel, by decide +kernel⟩
theorem pw_204 : (Cond.classLink "MembraneRounds" 203 "java/lang/IllegalArgumentException" : Cond) ∈ lw_gd := lw_gd_in (List.mem_of_getElem? (i := 340) (by decide +kernel)) (by decide +kernel)
theorem pw_205 : (Cond.instantiable "java/lang/IllegalArgumentException" 6 : Cond) ∈ lw_gd := lw_gd_in (List.mem_of_getElem? (i := 341) (by decide +kernel)) (by decide +kernel)
theorem pw_206 : (Cond.initialized "java/lang/IllegalArgumentException" : Cond) ∈ lw_gd := lw_gd_in (List.mem_of_getElem? (i := 55) (by decide +kernel)) (by decide +kernel)
theorem pcE_8 : pCQ (0, 203, 9) := ⟨"java/lang/IllegalArgumentException", pT_9, 0, pF_9, rfl, pw_204, pw_205, pw_206, pU_9, pD_9, by decide +kernel, by decide +kernel⟩
theorem pcE_9 : pCQ (4, 9, 3) := ⟨"MembraneRounds$Configuration", pT_3, 3, pF_3, rfl, pw_177, pw_196, pw_197, pU_3, pD_3, by decide +kernel, by decide +kernel⟩
theorem pw_207 : (Cond.instantiable "MembraneRounds$Rule" 11 : Cond) ∈ lw_gd := lw_gd_in (List.mem_of_getElem? (i := 78) (by decide +kernel)) (by decide +kernel)
theorem pw_208 : (Cond.initialized "MembraneRounds$Rule" : Cond) ∈ lw_gd := lw_gd_in (List.mem_of_getElem? (i := 45) (by decide +kernel)) (by decide +kernel)
theorem pcE_10 : pCQ (6, 9, 5) := ⟨"MembraneRounds$Rule", pT_5, 11, pF_5, rfl, pw_178, pw_207, pw_208, pU_5, pD_5, by decide +kernel, by decide +kernel⟩
theorem pw_209 : (Cond.classLink "MembraneRoundsLaw" 8 "MembraneRounds" : Cond) ∈ lw_gd := lw_gd_in (List.mem_of_getElem? (i := 62) (by decide +kernel)) (by decide +kernel)
theorem pw_210 : (Cond.instantiable "MembraneRounds" 8 : Cond) ∈ lw_gd := lw_gd_in (List.mem_of_getElem? (i := 63) (by decide +kernel)) (by decide +kernel)
theorem pw_211 : (Cond.initialized "MembraneRounds" : Cond) ∈ lw_gd := lw_gd_in (List.mem_of_getElem? (i := 43) (by decide +kernel)) (by decide +kernel)
theorem pcE_11 : pCQ (14, 8, 0) := ⟨"MembraneRounds", pT_0, 8, pF_0, rfl, pw_209, pw_210, pw_211, pU_0, pD_0, by decide +kernel, by decide +kernel⟩
theorem pw_212 : (Cond.classLink "MembraneRoundsLaw" 69 "MembraneRoundsModel" : Cond) ∈ lw_gd := lw_gd_in (List.mem_of_getElem? (i := 728) (by decide +kernel)) (by decide +kernel)
theorem pw_213 : (Cond.instantiable "MembraneRoundsModel" 26 : Cond) ∈ lw_gd := lw_gd_in (List.mem_of_getElem? (i := 729) (by decide +kernel)) (by decide +kernel)
theorem pw_214 : (Cond.initialized "MembraneRoundsModel" : Cond) ∈ lw_gd := lw_gd_in (List.mem_of_getElem? (i := 51) (by decide +kernel)) (by decide +kernel)
theorem pcE_12 : pCQ (14, 69, 1) := ⟨"MembraneRoundsModel", pT_1, 26, pF_1, rfl, pw_212, pw_213, pw_214, pU_1, pD_1, by decide +kernel, by decide +kernel⟩
theorem pcCR_0 : ∀ z ∈ ([(0, 9, 6), (0, 16, 2), (0, 23, 8), (0, 30, 4), (0, 37, 7), (0, 48, 3), (0, 77, 11), (0, 198, 10), (0, 203, 9), (4, 9, 3), (6, 9, 5), (14, 8, 0), (14, 69, 1)] : List (Nat × Nat × Nat)), pCQ z := List.forall_mem_cons.mpr ⟨pcE_0, List.forall_mem_cons.mpr ⟨pcE_1, List.forall_mem_cons.mpr ⟨pcE_2, List.forall_mem_cons.mpr ⟨pcE_3, List.forall_mem_cons.mpr ⟨pcE_4, List.forall_mem_cons.mpr ⟨pcE_5, List.forall_mem_cons.mpr ⟨pcE_6, List.forall_mem_cons.mpr ⟨pcE_7, List.forall_mem_cons.mpr ⟨pcE_8, List.forall_mem_cons.mpr ⟨pcE_9, List.forall_mem_cons.mpr ⟨pcE_10, List.forall_mem_cons.mpr ⟨pcE_11, List.forall_mem_cons.mpr ⟨pcE_12, fun _ h => absurd h List.not_mem_nil⟩⟩⟩⟩⟩⟩⟩⟩⟩⟩⟩⟩⟩
theorem pcC_all : ∀ z ∈ pcCL, pCQ z := by
  show ∀ z ∈ ([(0, 9, 6), (0, 16, 2), (0, 23, 8), (0, 30, 4), (0, 37, 7), (0, 48, 3), (0, 77, 11), (0, 198, 10), (0, 203, 9), (4, 9, 3), (6, 9, 5), (14, 8, 0), (14, 69, 1)] : List (Nat × Nat × Nat)), pCQ z
  exact pcCR_0
theorem pg_new : gNew pP pN pCL := ⟨⟨pw_173, pw_174, pw_175⟩, fun o ix tt C h hty => paA_all (o, ix, tt) (paA_in h) C hty, fun o ix c h => pcC_all (o, ix, c) (pcC_in h)⟩
theorem pg_ci : ∀ o ix v, pP.con o ix = some (.int v) → Cond.constant (pN.cn o) ix v ∈ lw_gd := fun o ix v h => by
  obtain ⟨h1, h2, -⟩ := eB2_some (show eB2 o ix _ = some _ from h)
  have key : ∀ o, o < 16 → ∀ i, i < 512 → (match pCon o i with | some (.int _) => false | _ => true) = true := by decide +kernel
  have h3 := key o h1 ix h2
  rw [show pCon o ix = some (.int v) from h] at h3
  cases h3
def plCL : List (Nat × Nat × Value) := [(0, 101, (.long 3378524555624460)), (3, 38, (.long 3378524555624460)), (3, 44, (.long 281262169255736295)), (13, 11, (.long 4095)), (13, 13, (.long 576601524159907840))]
theorem plC_mem : ∀ o, o < 16 → ∀ i, i < 512 → (match pCon o i with | none => true | some v => decide ((o, i, v) ∈ plCL)) = true := by decide +kernel
theorem plC_in {o i : Nat} {v : Value} (h : pCon o i = some v) : (o, i, v) ∈ plCL := by
  obtain ⟨h1, h2, -⟩ := eB2_some (show eB2 o i _ = some _ from h)
  have h3 := plC_mem o h1 i h2
  rw [h] at h3
  simpa using h3
def pLQ (z : Nat × Nat × Value) : Prop := ∀ v, z.2.2 = .long v → Cond.constantLong (pCn z.1) z.2.1 v ∈ lw_gd
theorem pw_215 : (Cond.constantLong "MembraneRounds" 101 3378524555624460 : Cond) ∈ lw_gd := lw_gd_in (List.mem_of_getElem? (i := 472) (by decide +kernel)) (by decide +kernel)
theorem plE_0 : pLQ (0, 101, (.long 3378524555624460)) := fun v h => by
  injection h with h2
  subst h2
  exact pw_215
theorem pw_216 : (Cond.constantLong "MembraneRounds$Configuration" 38 3378524555624460 : Cond) ∈ lw_gd := lw_gd_in (List.mem_of_getElem? (i := 614) (by decide +kernel)) (by decide +kernel)
theorem plE_1 : pLQ (3, 38, (.long 3378524555624460)) := fun v h => by
  injection h with h2
  subst h2
  exact pw_216
theorem pw_217 : (Cond.constantLong "MembraneRounds$Configuration" 44 281262169255736295 : Cond) ∈ lw_gd := lw_gd_in (List.mem_of_getElem? (i := 616) (by decide +kernel)) (by decide +kernel)
theorem plE_2 : pLQ (3, 44, (.long 281262169255736295)) := fun v h => by
  injection h with h2
  subst h2
  exact pw_217
theorem pw_218 : (Cond.constantLong "MembraneRounds$Heap" 11 4095 : Cond) ∈ lw_gd := lw_gd_in (List.mem_of_getElem? (i := 328) (by decide +kernel)) (by decide +kernel)
theorem plE_3 : pLQ (13, 11, (.long 4095)) := fun v h => by
  injection h with h2
  subst h2
  exact pw_218
theorem pw_219 : (Cond.constantLong "MembraneRounds$Heap" 13 576601524159907840 : Cond) ∈ lw_gd := lw_gd_in (List.mem_of_getElem? (i := 476) (by decide +kernel)) (by decide +kernel)
theorem plE_4 : pLQ (13, 13, (.long 576601524159907840)) := fun v h => by
  injection h with h2
  subst h2
  exact pw_219
theorem plCR_0 : ∀ z ∈ ([(0, 101, (.long 3378524555624460)), (3, 38, (.long 3378524555624460)), (3, 44, (.long 281262169255736295)), (13, 11, (.long 4095)), (13, 13, (.long 576601524159907840))] : List (Nat × Nat × Value)), pLQ z := List.forall_mem_cons.mpr ⟨plE_0, List.forall_mem_cons.mpr ⟨plE_1, List.forall_mem_cons.mpr ⟨plE_2, List.forall_mem_cons.mpr ⟨plE_3, List.forall_mem_cons.mpr ⟨plE_4, fun _ h => absurd h List.not_mem_nil⟩⟩⟩⟩⟩
theorem plC_all : ∀ z ∈ plCL, pLQ z := by
  show ∀ z ∈ ([(0, 101, (.long 3378524555624460)), (3, 38, (.long 3378524555624460)), (3, 44, (.long 281262169255736295)), (13, 11, (.long 4095)), (13, 13, (.long 576601524159907840))] : List (Nat × Nat × Value)), pLQ z
  exact plCR_0
theorem pg_cl2 : ∀ o ix v, pP.con o ix = some (.long v) → Cond.constantLong (pN.cn o) ix v ∈ lw_gd := fun o ix v h => plC_all (o, ix, .long v) (plC_in h) v rfl
end
