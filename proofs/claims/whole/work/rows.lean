section
def lw_okq (q : MethodName × Nat) : Prop := (q.1.cls ≠ "java/lang/invoke/MethodHandle" ∧ q.1.cls ≠ "java/lang/invoke/VarHandle") ∧ Cond.instantiable q.1.cls q.2 ∈ tables_1 ∧ Cond.privateMethod q.1 ∈ tables_1 ∧ Cond.instanceMethod q.1 ∈ tables_1
theorem lw_p0 : lw_okq (⟨"MembraneRounds$Scribe", "writeMembrane", "(LMembraneRounds$Configuration;II)V"⟩, 2) := ⟨⟨by decide +kernel, by decide +kernel⟩, List.mem_of_getElem? (i := 207) (by decide +kernel), List.mem_of_getElem? (i := 276) (by decide +kernel), List.mem_of_getElem? (i := 277) (by decide +kernel)⟩
theorem lw_p1 : lw_okq (⟨"MembraneRounds$Scribe", "add", "(C)V"⟩, 2) := ⟨⟨by decide +kernel, by decide +kernel⟩, List.mem_of_getElem? (i := 207) (by decide +kernel), List.mem_of_getElem? (i := 280) (by decide +kernel), List.mem_of_getElem? (i := 281) (by decide +kernel)⟩
theorem lw_p2 : lw_okq (⟨"java/lang/Throwable", "fillInStackTrace", "(I)Ljava/lang/Throwable;"⟩, 6) := ⟨⟨by decide +kernel, by decide +kernel⟩, List.mem_of_getElem? (i := 337) (by decide +kernel), List.mem_of_getElem? (i := 335) (by decide +kernel), List.mem_of_getElem? (i := 336) (by decide +kernel)⟩
theorem lw_p3 : lw_okq (⟨"MembraneRounds", "checkMembrane", "(I)V"⟩, 8) := ⟨⟨by decide +kernel, by decide +kernel⟩, List.mem_of_getElem? (i := 21) (by decide +kernel), List.mem_of_getElem? (i := 376) (by decide +kernel), List.mem_of_getElem? (i := 377) (by decide +kernel)⟩
theorem lw_p4 : lw_okq (⟨"MembraneRounds", "checkRule", "(I)V"⟩, 8) := ⟨⟨by decide +kernel, by decide +kernel⟩, List.mem_of_getElem? (i := 21) (by decide +kernel), List.mem_of_getElem? (i := 467) (by decide +kernel), List.mem_of_getElem? (i := 468) (by decide +kernel)⟩
theorem lw_p5 : lw_okq (⟨"MembraneRounds", "checkEndsNothing", "(I)V"⟩, 8) := ⟨⟨by decide +kernel, by decide +kernel⟩, List.mem_of_getElem? (i := 21) (by decide +kernel), List.mem_of_getElem? (i := 479) (by decide +kernel), List.mem_of_getElem? (i := 480) (by decide +kernel)⟩
theorem lw_p6 : lw_okq (⟨"MembraneRounds$Chooser", "gatherOpen", "(LMembraneRounds$RuleBook;LMembraneRounds$Configuration;I)V"⟩, 7) := ⟨⟨by decide +kernel, by decide +kernel⟩, List.mem_of_getElem? (i := 113) (by decide +kernel), List.mem_of_getElem? (i := 506) (by decide +kernel), List.mem_of_getElem? (i := 507) (by decide +kernel)⟩
theorem lw_p7 : lw_okq (⟨"MembraneRounds$Worker", "takeAndMake", "(LMembraneRounds$Configuration;ILMembraneRounds$Rule;I)V"⟩, 1) := ⟨⟨by decide +kernel, by decide +kernel⟩, List.mem_of_getElem? (i := 143) (by decide +kernel), List.mem_of_getElem? (i := 549) (by decide +kernel), List.mem_of_getElem? (i := 550) (by decide +kernel)⟩
theorem lw_p8 : lw_okq (⟨"MembraneRounds$Worker", "splitAll", "(LMembraneRounds$Configuration;)Z"⟩, 1) := ⟨⟨by decide +kernel, by decide +kernel⟩, List.mem_of_getElem? (i := 143) (by decide +kernel), List.mem_of_getElem? (i := 555) (by decide +kernel), List.mem_of_getElem? (i := 556) (by decide +kernel)⟩
theorem lw_p9 : lw_okq (⟨"MembraneRounds$Worker", "meltAll", "(LMembraneRounds$Configuration;)V"⟩, 1) := ⟨⟨by decide +kernel, by decide +kernel⟩, List.mem_of_getElem? (i := 143) (by decide +kernel), List.mem_of_getElem? (i := 561) (by decide +kernel), List.mem_of_getElem? (i := 562) (by decide +kernel)⟩
theorem lw_p10 : lw_okq (⟨"MembraneRounds$Chooser", "list", "(LMembraneRounds$RuleBook;LMembraneRounds$Configuration;I)V"⟩, 7) := ⟨⟨by decide +kernel, by decide +kernel⟩, List.mem_of_getElem? (i := 113) (by decide +kernel), List.mem_of_getElem? (i := 596) (by decide +kernel), List.mem_of_getElem? (i := 597) (by decide +kernel)⟩
theorem lw_p11 : lw_okq (⟨"MembraneRounds$Chooser", "search", "(IJIZ)V"⟩, 7) := ⟨⟨by decide +kernel, by decide +kernel⟩, List.mem_of_getElem? (i := 113) (by decide +kernel), List.mem_of_getElem? (i := 600) (by decide +kernel), List.mem_of_getElem? (i := 601) (by decide +kernel)⟩
theorem lw_p12 : lw_okq (⟨"MembraneRounds$Chooser", "canBecomeMaximal", "(IJZ)Z"⟩, 7) := ⟨⟨by decide +kernel, by decide +kernel⟩, List.mem_of_getElem? (i := 113) (by decide +kernel), List.mem_of_getElem? (i := 604) (by decide +kernel), List.mem_of_getElem? (i := 605) (by decide +kernel)⟩
theorem lw_p13 : lw_okq (⟨"MembraneRounds$Judge", "keep", "(LMembraneRounds$Configuration;)Z"⟩, 5) := ⟨⟨by decide +kernel, by decide +kernel⟩, List.mem_of_getElem? (i := 154) (by decide +kernel), List.mem_of_getElem? (i := 660) (by decide +kernel), List.mem_of_getElem? (i := 661) (by decide +kernel)⟩
theorem lw_p14 : lw_okq (⟨"MembraneRounds", "checkOutcome", "(I)V"⟩, 8) := ⟨⟨by decide +kernel, by decide +kernel⟩, List.mem_of_getElem? (i := 21) (by decide +kernel), List.mem_of_getElem? (i := 675) (by decide +kernel), List.mem_of_getElem? (i := 676) (by decide +kernel)⟩
theorem lw_p15 : lw_okq (⟨"MembraneRoundsModel", "empty", "(I)V"⟩, 26) := ⟨⟨by decide +kernel, by decide +kernel⟩, List.mem_of_getElem? (i := 687) (by decide +kernel), List.mem_of_getElem? (i := 693) (by decide +kernel), List.mem_of_getElem? (i := 694) (by decide +kernel)⟩
def lw_privs_1 : List (MethodName × Nat) := [(⟨"MembraneRounds$Scribe", "writeMembrane", "(LMembraneRounds$Configuration;II)V"⟩, 2), (⟨"MembraneRounds$Scribe", "add", "(C)V"⟩, 2), (⟨"java/lang/Throwable", "fillInStackTrace", "(I)Ljava/lang/Throwable;"⟩, 6), (⟨"MembraneRounds", "checkMembrane", "(I)V"⟩, 8), (⟨"MembraneRounds", "checkRule", "(I)V"⟩, 8), (⟨"MembraneRounds", "checkEndsNothing", "(I)V"⟩, 8), (⟨"MembraneRounds$Chooser", "gatherOpen", "(LMembraneRounds$RuleBook;LMembraneRounds$Configuration;I)V"⟩, 7), (⟨"MembraneRounds$Worker", "takeAndMake", "(LMembraneRounds$Configuration;ILMembraneRounds$Rule;I)V"⟩, 1), (⟨"MembraneRounds$Worker", "splitAll", "(LMembraneRounds$Configuration;)Z"⟩, 1), (⟨"MembraneRounds$Worker", "meltAll", "(LMembraneRounds$Configuration;)V"⟩, 1), (⟨"MembraneRounds$Chooser", "list", "(LMembraneRounds$RuleBook;LMembraneRounds$Configuration;I)V"⟩, 7), (⟨"MembraneRounds$Chooser", "search", "(IJIZ)V"⟩, 7), (⟨"MembraneRounds$Chooser", "canBecomeMaximal", "(IJZ)Z"⟩, 7), (⟨"MembraneRounds$Judge", "keep", "(LMembraneRounds$Configuration;)Z"⟩, 5), (⟨"MembraneRounds", "checkOutcome", "(I)V"⟩, 8), (⟨"MembraneRoundsModel", "empty", "(I)V"⟩, 26)]
theorem lw_r1 : ∀ q ∈ lw_privs_1, lw_okq q := List.forall_mem_cons.mpr ⟨lw_p0, List.forall_mem_cons.mpr ⟨lw_p1, List.forall_mem_cons.mpr ⟨lw_p2, List.forall_mem_cons.mpr ⟨lw_p3, List.forall_mem_cons.mpr ⟨lw_p4, List.forall_mem_cons.mpr ⟨lw_p5, List.forall_mem_cons.mpr ⟨lw_p6, List.forall_mem_cons.mpr ⟨lw_p7, List.forall_mem_cons.mpr ⟨lw_p8, List.forall_mem_cons.mpr ⟨lw_p9, List.forall_mem_cons.mpr ⟨lw_p10, List.forall_mem_cons.mpr ⟨lw_p11, List.forall_mem_cons.mpr ⟨lw_p12, List.forall_mem_cons.mpr ⟨lw_p13, List.forall_mem_cons.mpr ⟨lw_p14, List.forall_mem_cons.mpr ⟨lw_p15, fun _ h => absurd h List.not_mem_nil⟩⟩⟩⟩⟩⟩⟩⟩⟩⟩⟩⟩⟩⟩⟩⟩
theorem lw_p16 : lw_okq (⟨"MembraneRoundsModel", "set", "(IIII)V"⟩, 26) := ⟨⟨by decide +kernel, by decide +kernel⟩, List.mem_of_getElem? (i := 687) (by decide +kernel), List.mem_of_getElem? (i := 697) (by decide +kernel), List.mem_of_getElem? (i := 698) (by decide +kernel)⟩
theorem lw_p17 : lw_okq (⟨"MembraneRoundsModel", "free", "(I)I"⟩, 26) := ⟨⟨by decide +kernel, by decide +kernel⟩, List.mem_of_getElem? (i := 687) (by decide +kernel), List.mem_of_getElem? (i := 792) (by decide +kernel), List.mem_of_getElem? (i := 793) (by decide +kernel)⟩
theorem lw_p18 : lw_okq (⟨"MembraneRoundsModel", "has", "(II)Z"⟩, 26) := ⟨⟨by decide +kernel, by decide +kernel⟩, List.mem_of_getElem? (i := 687) (by decide +kernel), List.mem_of_getElem? (i := 796) (by decide +kernel), List.mem_of_getElem? (i := 797) (by decide +kernel)⟩
theorem lw_p19 : lw_okq (⟨"MembraneRoundsModel", "cell", "(III)I"⟩, 26) := ⟨⟨by decide +kernel, by decide +kernel⟩, List.mem_of_getElem? (i := 687) (by decide +kernel), List.mem_of_getElem? (i := 800) (by decide +kernel), List.mem_of_getElem? (i := 801) (by decide +kernel)⟩
theorem lw_p20 : lw_okq (⟨"MembraneRoundsModel", "give", "(IIII)V"⟩, 26) := ⟨⟨by decide +kernel, by decide +kernel⟩, List.mem_of_getElem? (i := 687) (by decide +kernel), List.mem_of_getElem? (i := 814) (by decide +kernel), List.mem_of_getElem? (i := 815) (by decide +kernel)⟩
theorem lw_p21 : lw_okq (⟨"MembraneRoundsModel", "noRule", "(I)Z"⟩, 26) := ⟨⟨by decide +kernel, by decide +kernel⟩, List.mem_of_getElem? (i := 687) (by decide +kernel), List.mem_of_getElem? (i := 826) (by decide +kernel), List.mem_of_getElem? (i := 827) (by decide +kernel)⟩
theorem lw_p22 : lw_okq (⟨"MembraneRoundsModel", "greedy", "(II)I"⟩, 26) := ⟨⟨by decide +kernel, by decide +kernel⟩, List.mem_of_getElem? (i := 687) (by decide +kernel), List.mem_of_getElem? (i := 842) (by decide +kernel), List.mem_of_getElem? (i := 843) (by decide +kernel)⟩
theorem lw_p23 : lw_okq (⟨"MembraneRoundsModel", "begin", "(II)V"⟩, 26) := ⟨⟨by decide +kernel, by decide +kernel⟩, List.mem_of_getElem? (i := 687) (by decide +kernel), List.mem_of_getElem? (i := 846) (by decide +kernel), List.mem_of_getElem? (i := 847) (by decide +kernel)⟩
theorem lw_p24 : lw_okq (⟨"MembraneRoundsModel", "allowed", "(III)I"⟩, 26) := ⟨⟨by decide +kernel, by decide +kernel⟩, List.mem_of_getElem? (i := 687) (by decide +kernel), List.mem_of_getElem? (i := 850) (by decide +kernel), List.mem_of_getElem? (i := 851) (by decide +kernel)⟩
theorem lw_p25 : lw_okq (⟨"MembraneRoundsModel", "childOf", "(III)I"⟩, 26) := ⟨⟨by decide +kernel, by decide +kernel⟩, List.mem_of_getElem? (i := 687) (by decide +kernel), List.mem_of_getElem? (i := 854) (by decide +kernel), List.mem_of_getElem? (i := 855) (by decide +kernel)⟩
theorem lw_p26 : lw_okq (⟨"MembraneRoundsModel", "children", "(II)I"⟩, 26) := ⟨⟨by decide +kernel, by decide +kernel⟩, List.mem_of_getElem? (i := 687) (by decide +kernel), List.mem_of_getElem? (i := 858) (by decide +kernel), List.mem_of_getElem? (i := 859) (by decide +kernel)⟩
theorem lw_p27 : lw_okq (⟨"MembraneRoundsModel", "times", "(I)I"⟩, 26) := ⟨⟨by decide +kernel, by decide +kernel⟩, List.mem_of_getElem? (i := 687) (by decide +kernel), List.mem_of_getElem? (i := 862) (by decide +kernel), List.mem_of_getElem? (i := 863) (by decide +kernel)⟩
theorem lw_p28 : lw_okq (⟨"MembraneRoundsModel", "take", "(II)V"⟩, 26) := ⟨⟨by decide +kernel, by decide +kernel⟩, List.mem_of_getElem? (i := 687) (by decide +kernel), List.mem_of_getElem? (i := 866) (by decide +kernel), List.mem_of_getElem? (i := 867) (by decide +kernel)⟩
theorem lw_p29 : lw_okq (⟨"MembraneRoundsModel", "pack", "()I"⟩, 26) := ⟨⟨by decide +kernel, by decide +kernel⟩, List.mem_of_getElem? (i := 687) (by decide +kernel), List.mem_of_getElem? (i := 870) (by decide +kernel), List.mem_of_getElem? (i := 871) (by decide +kernel)⟩
theorem lw_p30 : lw_okq (⟨"MembraneRoundsModel", "step", "(I)Z"⟩, 26) := ⟨⟨by decide +kernel, by decide +kernel⟩, List.mem_of_getElem? (i := 687) (by decide +kernel), List.mem_of_getElem? (i := 880) (by decide +kernel), List.mem_of_getElem? (i := 881) (by decide +kernel)⟩
theorem lw_p31 : lw_okq (⟨"MembraneRoundsModel", "copy", "(II)V"⟩, 26) := ⟨⟨by decide +kernel, by decide +kernel⟩, List.mem_of_getElem? (i := 687) (by decide +kernel), List.mem_of_getElem? (i := 884) (by decide +kernel), List.mem_of_getElem? (i := 885) (by decide +kernel)⟩
def lw_privs_2 : List (MethodName × Nat) := [(⟨"MembraneRoundsModel", "set", "(IIII)V"⟩, 26), (⟨"MembraneRoundsModel", "free", "(I)I"⟩, 26), (⟨"MembraneRoundsModel", "has", "(II)Z"⟩, 26), (⟨"MembraneRoundsModel", "cell", "(III)I"⟩, 26), (⟨"MembraneRoundsModel", "give", "(IIII)V"⟩, 26), (⟨"MembraneRoundsModel", "noRule", "(I)Z"⟩, 26), (⟨"MembraneRoundsModel", "greedy", "(II)I"⟩, 26), (⟨"MembraneRoundsModel", "begin", "(II)V"⟩, 26), (⟨"MembraneRoundsModel", "allowed", "(III)I"⟩, 26), (⟨"MembraneRoundsModel", "childOf", "(III)I"⟩, 26), (⟨"MembraneRoundsModel", "children", "(II)I"⟩, 26), (⟨"MembraneRoundsModel", "times", "(I)I"⟩, 26), (⟨"MembraneRoundsModel", "take", "(II)V"⟩, 26), (⟨"MembraneRoundsModel", "pack", "()I"⟩, 26), (⟨"MembraneRoundsModel", "step", "(I)Z"⟩, 26), (⟨"MembraneRoundsModel", "copy", "(II)V"⟩, 26)]
theorem lw_r2 : ∀ q ∈ lw_privs_2, lw_okq q := List.forall_mem_cons.mpr ⟨lw_p16, List.forall_mem_cons.mpr ⟨lw_p17, List.forall_mem_cons.mpr ⟨lw_p18, List.forall_mem_cons.mpr ⟨lw_p19, List.forall_mem_cons.mpr ⟨lw_p20, List.forall_mem_cons.mpr ⟨lw_p21, List.forall_mem_cons.mpr ⟨lw_p22, List.forall_mem_cons.mpr ⟨lw_p23, List.forall_mem_cons.mpr ⟨lw_p24, List.forall_mem_cons.mpr ⟨lw_p25, List.forall_mem_cons.mpr ⟨lw_p26, List.forall_mem_cons.mpr ⟨lw_p27, List.forall_mem_cons.mpr ⟨lw_p28, List.forall_mem_cons.mpr ⟨lw_p29, List.forall_mem_cons.mpr ⟨lw_p30, List.forall_mem_cons.mpr ⟨lw_p31, fun _ h => absurd h List.not_mem_nil⟩⟩⟩⟩⟩⟩⟩⟩⟩⟩⟩⟩⟩⟩⟩⟩
theorem lw_p32 : lw_okq (⟨"MembraneRoundsModel", "melt", "(I)V"⟩, 26) := ⟨⟨by decide +kernel, by decide +kernel⟩, List.mem_of_getElem? (i := 687) (by decide +kernel), List.mem_of_getElem? (i := 888) (by decide +kernel), List.mem_of_getElem? (i := 889) (by decide +kernel)⟩
theorem lw_p33 : lw_okq (⟨"MembraneRoundsModel", "write", "(III)I"⟩, 26) := ⟨⟨by decide +kernel, by decide +kernel⟩, List.mem_of_getElem? (i := 687) (by decide +kernel), List.mem_of_getElem? (i := 900) (by decide +kernel), List.mem_of_getElem? (i := 901) (by decide +kernel)⟩
theorem lw_p34 : lw_okq (⟨"MembraneRoundsModel", "stuck", "(III)Z"⟩, 26) := ⟨⟨by decide +kernel, by decide +kernel⟩, List.mem_of_getElem? (i := 687) (by decide +kernel), List.mem_of_getElem? (i := 904) (by decide +kernel), List.mem_of_getElem? (i := 905) (by decide +kernel)⟩
theorem lw_p35 : lw_okq (⟨"MembraneRoundsModel", "greed", "(IIII)I"⟩, 26) := ⟨⟨by decide +kernel, by decide +kernel⟩, List.mem_of_getElem? (i := 687) (by decide +kernel), List.mem_of_getElem? (i := 908) (by decide +kernel), List.mem_of_getElem? (i := 909) (by decide +kernel)⟩
theorem lw_p36 : lw_okq (⟨"MembraneRoundsModel", "spread", "(I)Z"⟩, 26) := ⟨⟨by decide +kernel, by decide +kernel⟩, List.mem_of_getElem? (i := 687) (by decide +kernel), List.mem_of_getElem? (i := 928) (by decide +kernel), List.mem_of_getElem? (i := 929) (by decide +kernel)⟩
theorem lw_p37 : lw_okq (⟨"MembraneRoundsModel", "add", "()Z"⟩, 26) := ⟨⟨by decide +kernel, by decide +kernel⟩, List.mem_of_getElem? (i := 687) (by decide +kernel), List.mem_of_getElem? (i := 932) (by decide +kernel), List.mem_of_getElem? (i := 933) (by decide +kernel)⟩
theorem lw_p38 : lw_okq (⟨"MembraneRoundsModel", "same", "(II)Z"⟩, 26) := ⟨⟨by decide +kernel, by decide +kernel⟩, List.mem_of_getElem? (i := 687) (by decide +kernel), List.mem_of_getElem? (i := 936) (by decide +kernel), List.mem_of_getElem? (i := 937) (by decide +kernel)⟩
theorem lw_p39 : lw_okq (⟨"MembraneRoundsModel", "appendInner", "(I)V"⟩, 26) := ⟨⟨by decide +kernel, by decide +kernel⟩, List.mem_of_getElem? (i := 687) (by decide +kernel), List.mem_of_getElem? (i := 952) (by decide +kernel), List.mem_of_getElem? (i := 953) (by decide +kernel)⟩
theorem lw_p40 : lw_okq (⟨"MembraneRoundsModel", "append", "(I)V"⟩, 26) := ⟨⟨by decide +kernel, by decide +kernel⟩, List.mem_of_getElem? (i := 687) (by decide +kernel), List.mem_of_getElem? (i := 956) (by decide +kernel), List.mem_of_getElem? (i := 957) (by decide +kernel)⟩
theorem lw_p41 : lw_okq (⟨"MembraneRoundsModel", "nextChild", "(II)I"⟩, 26) := ⟨⟨by decide +kernel, by decide +kernel⟩, List.mem_of_getElem? (i := 687) (by decide +kernel), List.mem_of_getElem? (i := 960) (by decide +kernel), List.mem_of_getElem? (i := 961) (by decide +kernel)⟩
def lw_privs_3 : List (MethodName × Nat) := [(⟨"MembraneRoundsModel", "melt", "(I)V"⟩, 26), (⟨"MembraneRoundsModel", "write", "(III)I"⟩, 26), (⟨"MembraneRoundsModel", "stuck", "(III)Z"⟩, 26), (⟨"MembraneRoundsModel", "greed", "(IIII)I"⟩, 26), (⟨"MembraneRoundsModel", "spread", "(I)Z"⟩, 26), (⟨"MembraneRoundsModel", "add", "()Z"⟩, 26), (⟨"MembraneRoundsModel", "same", "(II)Z"⟩, 26), (⟨"MembraneRoundsModel", "appendInner", "(I)V"⟩, 26), (⟨"MembraneRoundsModel", "append", "(I)V"⟩, 26), (⟨"MembraneRoundsModel", "nextChild", "(II)I"⟩, 26)]
theorem lw_r3 : ∀ q ∈ lw_privs_3, lw_okq q := List.forall_mem_cons.mpr ⟨lw_p32, List.forall_mem_cons.mpr ⟨lw_p33, List.forall_mem_cons.mpr ⟨lw_p34, List.forall_mem_cons.mpr ⟨lw_p35, List.forall_mem_cons.mpr ⟨lw_p36, List.forall_mem_cons.mpr ⟨lw_p37, List.forall_mem_cons.mpr ⟨lw_p38, List.forall_mem_cons.mpr ⟨lw_p39, List.forall_mem_cons.mpr ⟨lw_p40, List.forall_mem_cons.mpr ⟨lw_p41, fun _ h => absurd h List.not_mem_nil⟩⟩⟩⟩⟩⟩⟩⟩⟩⟩
def lw_privs : List (MethodName × Nat) := lw_privs_1 ++ (lw_privs_2 ++ (lw_privs_3))
def lw_tbl : List Cond := k2_sels lw_privs ++ tables_1
theorem lw_privs_ok : ∀ q ∈ lw_privs, lw_okq q := by
  show ∀ q ∈ lw_privs_1 ++ (lw_privs_2 ++ (lw_privs_3)), lw_okq q
  exact List.forall_mem_append.mpr ⟨lw_r1, List.forall_mem_append.mpr ⟨lw_r2, lw_r3⟩⟩
end
section
abbrev eA : Type := Nat × ((Nat → Int32) ⊕ ((Nat → Int64) ⊕ (Nat → Option Nat)))
abbrev eE : Type := (Nat × eA) ⊕ (Nat × List Value)
abbrev eH : Type := (Nat → Option eE) × Nat × Nat
abbrev eLo : Type := List (Option Value)
abbrev eS : Type := Nat × eLo × List Value × eH
abbrev eR : Type := Option Value ⊕ Nat
abbrev eT : Type := eS
abbrev eI : Type := Nat → Nat → Option (Instr × Nat)
abbrev eM : Type := Nat → Nat × Nat × Option FieldType × List (Nat × Nat × Nat × Nat)
abbrev eF : Type := Nat → Nat → Option (Nat × Nat × FieldType × Bool)
abbrev eC : Type := Nat → Nat → Option (Nat × Nat × Nat)
abbrev eK : Type := Nat → Nat → Option Nat
abbrev eV : Type := Nat → Nat → Option Value
abbrev eD : Type := Nat → List Value × Nat
abbrev eP : Type := eI × eM × eF × eC × eK × eK × eV × eD × (Nat → Option Nat) × (Nat → Bool) × (Nat → Nat → Option (Nat × Nat × Nat × Nat))
def eP.ins (P : eP) : eI := P.1
def eP.met (P : eP) : eM := P.2.1
def eP.fld (P : eP) : eF := P.2.2.1
def eP.mth (P : eP) : eC := P.2.2.2.1
def eP.cls (P : eP) : eK := P.2.2.2.2.1
def eP.arr (P : eP) : eK := P.2.2.2.2.2.1
def eP.con (P : eP) : eV := P.2.2.2.2.2.2.1
def eP.bla (P : eP) : eD := P.2.2.2.2.2.2.2.1
def eP.elt (P : eP) : Nat → Option Nat := P.2.2.2.2.2.2.2.2.1
def eP.ini (P : eP) : Nat → Bool := P.2.2.2.2.2.2.2.2.2.1
def eP.thr (P : eP) : Nat → Nat → Option (Nat × Nat × Nat × Nat) := P.2.2.2.2.2.2.2.2.2.2
def eOwn (P : eP) (k : Nat) : Nat := (P.met k).1
def eNL (P : eP) (k : Nat) : Nat := (P.met k).2.1
def eRt (P : eP) (k : Nat) : Option FieldType := (P.met k).2.2.1
def eHs (P : eP) (k : Nat) : List (Nat × Nat × Nat × Nat) := (P.met k).2.2.2
def eN (pc : Nat) (lo : eLo) (st : List Value) (h : eH) : Option eT := some (pc, lo, st, h)
def eI1 (st : List Value) (f : Int32 → List Value → Option eT) : Option eT := match st with
  | .int x :: r => f x r
  | _ => none
def eI2 (st : List Value) (f : Int32 → Int32 → List Value → Option eT) : Option eT := match st with
  | .int y :: .int x :: r => f x y r
  | _ => none
def eJ1 (st : List Value) (f : Int64 → List Value → Option eT) : Option eT := match st with
  | .long x :: r => f x r
  | _ => none
def eJ2 (st : List Value) (f : Int64 → Int64 → List Value → Option eT) : Option eT := match st with
  | .long y :: .long x :: r => f x y r
  | _ => none
def eJI (st : List Value) (f : Int64 → Int32 → List Value → Option eT) : Option eT := match st with
  | .int y :: .long x :: r => f x y r
  | _ => none
def eR1 (st : List Value) (f : Nat → List Value → Option eT) : Option eT := match st with
  | .ref a :: r => f a r
  | _ => none
def eQ1 (st : List Value) (f : Option Nat → List Value → Option eT) : Option eT := match st with
  | .ref a :: r => f (some a) r
  | .null :: r => f none r
  | _ => none
def eIA (st : List Value) (f : Nat → Int32 → List Value → Option eT) : Option eT := match st with
  | .int i :: .ref a :: r => f a i r
  | _ => none
def eGet (lo : eLo) (i : Nat) : Option Value := (lo[i]?).join
def eKill (lo : eLo) (i : Nat) : eLo := match i with
  | 0 => lo
  | j + 1 => match lo[j]? with
    | some (some w) => if w.category = 2 then lo.set j none else lo
    | _ => lo
def eSt1 (lo : eLo) (i : Nat) (v : Value) : eLo := (eKill lo i).set i (some v)
def eSt2 (lo : eLo) (i : Nat) (v : Value) : eLo := ((eKill lo i).set i (some v)).set (i + 1) none
def eTo (pc : Nat) (off : Int) (f : Nat → Option eT) : Option eT := match (pc : Int) + off with
  | .ofNat t => f t
  | .negSucc _ => none
def eBr (c : Bool) (pc : Nat) (off : Int) (lo : eLo) (r : List Value) (h : eH) : Option eT :=
  eTo pc off fun t => match c with
    | true => eN t lo r h
    | false => eN (pc + 3) lo r h
def eIf (cd : ClassFile.Cond) (x y : Int32) (pc : Nat) (off : Int) (lo : eLo) (r : List Value) (h : eH) : Option eT := match cd with
  | .eq => eBr (decide (x = y)) pc off lo r h
  | .ne => eBr (decide (¬ x = y)) pc off lo r h
  | .lt => eBr (decide (x < y)) pc off lo r h
  | .ge => eBr (decide (y ≤ x)) pc off lo r h
  | .gt => eBr (decide (y < x)) pc off lo r h
  | .le => eBr (decide (x ≤ y)) pc off lo r h
def eLoI (lo : eLo) (i : Nat) (f : Int32 → Option eT) : Option eT := match eGet lo i with
  | some (.int x) => f x
  | _ => none
def eLoJ (lo : eLo) (i : Nat) (f : Int64 → Option eT) : Option eT := match eGet lo i with
  | some (.long x) => f x
  | _ => none
def eLoA (lo : eLo) (i : Nat) (f : Option Nat → Option eT) : Option eT := match eGet lo i with
  | some (.ref a) => f (some a)
  | some .null => f none
  | _ => none
def eRf (r : Option Nat) : Value := match r with
  | none => .null
  | some a => .ref a
def eFit (ty : FieldType) (v : Value) : Bool := match ty, v with
  | .int, .int _ => true
  | .long, .long _ => true
  | .boolean, .int x => x == 0 || x == 1
  | .object _, .ref _ => true
  | .object _, .null => true
  | .array _, .ref _ => true
  | .array _, .null => true
  | _, _ => false
def eUp {α : Type} (f : Nat → α) (k : Nat) (x : α) : Nat → α := fun j => if j = k then x else f j
def eSetH (h : eH) (a : Nat) (e : eE) : eH := (eUp h.1 a (some e), h.2.1, h.2.2)
def eNew (h : eH) (e : eE) (n : Nat) : eH := (eUp h.1 h.2.1 (some e), h.2.1 + 1, h.2.2 + n)
def eIn (i : Int32) (n : Nat) (x : Option eT) : Option eT := if i < 0 ∨ n ≤ i.toNatClampNeg then none else x
def eLdI (X : Nat × (Nat → Int32)) (h : eH) (t : Nat) (st : List Value) (k : Int32 → List Value → Option eT) : Option eT := eIA st fun a i r => match a with
  | 0 => if t = 0 then eIn i X.1 (k (X.2 i.toNatClampNeg) r) else none
  | b + 1 => match h.1 (b + 1) with
    | some (.inl (t', n, .inl f)) => if t' = t then eIn i n (k (f i.toNatClampNeg) r) else none
    | _ => none
def eLdJ (h : eH) (st : List Value) (k : Int64 → List Value → Option eT) : Option eT := eIA st fun a i r => match h.1 a with
  | some (.inl (1, n, .inr (.inl f))) => if a = 0 then none else eIn i n (k (f i.toNatClampNeg) r)
  | _ => none
def eLdA (P : eP) (h : eH) (st : List Value) (k : Option Nat → List Value → Option eT) : Option eT := eIA st fun a i r => match h.1 a with
  | some (.inl (t, n, .inr (.inr f))) => if a = 0 ∨ P.elt t = none then none else eIn i n (k (f i.toNatClampNeg) r)
  | _ => none
def eStI (h : eH) (t : Nat) (g : Int32 → Int32) (st : List Value) (k : eH → List Value → Option eT) : Option eT := match st with
  | .int x :: .int i :: .ref a :: r => match h.1 a with
    | some (.inl (t', n, .inl f)) => if a = 0 ∨ ¬ t' = t then none else eIn i n (k (eSetH h a (.inl (t', n, .inl (eUp f i.toNatClampNeg (g x))))) r)
    | _ => none
  | _ => none
def eStJ (h : eH) (st : List Value) (k : eH → List Value → Option eT) : Option eT := match st with
  | .long x :: .int i :: .ref a :: r => match h.1 a with
    | some (.inl (1, n, .inr (.inl f))) => if a = 0 then none else eIn i n (k (eSetH h a (.inl (1, n, .inr (.inl (eUp f i.toNatClampNeg x))))) r)
    | _ => none
  | _ => none
def eStA (P : eP) (h : eH) (st : List Value) (k : eH → List Value → Option eT) : Option eT := match st with
  | .ref v :: .int i :: .ref a :: r => match h.1 a with
    | some (.inl (t, n, .inr (.inr f))) => match h.1 v with
      | some (.inr (c, _)) => if a = 0 ∨ v = 0 ∨ ¬ P.elt t = some c then none else eIn i n (k (eSetH h a (.inl (t, n, .inr (.inr (eUp f i.toNatClampNeg (some v)))))) r)
      | _ => none
    | _ => none
  | .null :: .int i :: .ref a :: r => match h.1 a with
    | some (.inl (t, n, .inr (.inr f))) => if a = 0 ∨ P.elt t = none then none else eIn i n (k (eSetH h a (.inl (t, n, .inr (.inr (eUp f i.toNatClampNeg none))))) r)
    | _ => none
  | _ => none
def eLen (X : Nat × (Nat → Int32)) (st : List Value) (k : Int32 → List Value → Option eT) : Option eT := eR1 st fun a r => match a with
  | 0 => k (Int32.ofNat X.1) r
  | _ + 1 => none
def eNwA (h : eH) (t : Nat) (w : Nat) (d : (Nat → Int32) ⊕ ((Nat → Int64) ⊕ (Nat → Option Nat))) (st : List Value) (k : eH → Nat → List Value → Option eT) : Option eT := eI1 st fun n r =>
  if n < 0 ∨ 536870912 < n.toNatClampNeg * w then none else k (eNew h (.inl (t, n.toNatClampNeg, d)) n.toNatClampNeg) h.2.1 r
def eGf (P : eP) (o : Nat) (ix : Nat) (h : eH) (st : List Value) (k : Value → List Value → Option eT) : Option eT := eR1 st fun a r => match P.fld o ix with
  | some (c, j, _) => match h.1 a with
    | some (.inr (c', fs)) => if a = 0 ∨ ¬ c' = c then none else match fs[j]? with
      | some v => k v r
      | none => none
    | _ => none
  | none => none
def ePf (P : eP) (m : Nat) (ix : Nat) (h : eH) (st : List Value) (k : eH → List Value → Option eT) : Option eT := match st with
  | v :: .ref a :: r => match P.fld (eOwn P m) ix with
    | some (c, j, ty, fin) => match h.1 a with
      | some (.inr (c', fs)) => if a = 0 ∨ ¬ c' = c ∨ eFit ty v = false ∨ fs.length ≤ j ∨ (fin && !(P.ini m && eOwn P m == c)) = true then none else k (eSetH h a (.inr (c', fs.set j v))) r
      | _ => none
    | none => none
  | _ => none
def eCpy {α : Type} (f g : Nat → α) (sp dp n : Nat) : Nat → α := fun k => if dp ≤ k ∧ k < dp + n then f (sp + (k - dp)) else g k
def eCopy (h : eH) (st : List Value) (k : eH → List Value → Option eT) : Option eT := match st with
  | .int n :: .int dp :: .ref b :: .int sp :: .ref a :: r =>
    if a = 0 ∨ b = 0 ∨ n < 0 ∨ dp < 0 ∨ sp < 0 then none else match h.1 a, h.1 b with
      | some (.inl (0, na, .inl f)), some (.inl (0, nb, .inl g)) => if na < sp.toNatClampNeg + n.toNatClampNeg ∨ nb < dp.toNatClampNeg + n.toNatClampNeg then none else
          k (eSetH h b (.inl (0, nb, .inl (eCpy f g sp.toNatClampNeg dp.toNatClampNeg n.toNatClampNeg)))) r
      | some (.inl (1, na, .inr (.inl f))), some (.inl (1, nb, .inr (.inl g))) => if na < sp.toNatClampNeg + n.toNatClampNeg ∨ nb < dp.toNatClampNeg + n.toNatClampNeg then none else
          k (eSetH h b (.inl (1, nb, .inr (.inl (eCpy f g sp.toNatClampNeg dp.toNatClampNeg n.toNatClampNeg))))) r
      | _, _ => none
  | _ => none
def eCat (st : List Value) : Nat := (st.map fun v => v.category).sum
def eOwnless (kd kind pc : Nat) (lo : eLo) (st : List Value) (h : eH) : Option eT := match kind with
  | 3 => if kd = 2 then eR1 st fun _ r => eN (pc + 3) lo r h else none
  | 5 => if kd = 0 then eI2 st fun x y r => eN (pc + 3) lo (.int (if y < x then y else x) :: r) h else none
  | 6 => if kd = 0 then eCopy h st fun h' r => eN (pc + 3) lo r h' else none
  | _ => none
def eArgs (P : eP) (kd kind k n : Nat) (st : List Value) (h : eH) : Option (List Value × List Value) :=
  if ¬ kd = kind then none else match kind with
  | 0 => some ((st.take n).reverse, st.drop n)
  | 1 => match (st.take n).reverse with
    | .ref a :: _ => match h.1 a with
      | some (.inr (c, _)) => if a = 0 ∨ ¬ c = eOwn P k then none else some ((st.take n).reverse, st.drop n)
      | _ => none
    | _ => none
  | 2 => match (st.take n).reverse with
    | .ref _ :: _ => some ((st.take n).reverse, st.drop n)
    | _ => none
  | _ => none
def eNar (ty : Option FieldType) (v : Value) : Option Value := match ty, v with
  | some .int, .int x => some (.int x)
  | some .boolean, .int x => some (.int (x &&& 1))
  | some .long, .long x => some (.long x)
  | some (.object _), .ref a => some (.ref a)
  | some (.object _), .null => some .null
  | some (.array _), .ref a => some (.ref a)
  | some (.array _), .null => some .null
  | _, _ => none
def eEnd (P : eP) (k : Nat) (h : eH) (v : Value) : Option (eR × eH) := match eNar (eRt P k) v with
  | some w => some (.inl (some w), h)
  | none => none
def eRet (P : eP) (k : Nat) (i : Instr) (st : List Value) (h : eH) : Option (eR × eH) := match i with
  | .ireturn => match st with
    | [.int x] => eEnd P k h (.int x)
    | _ => none
  | .lreturn => match st with
    | [.long x] => eEnd P k h (.long x)
    | _ => none
  | .areturn => match st with
    | [.ref a] => eEnd P k h (.ref a)
    | [.null] => eEnd P k h .null
    | _ => none
  | .return_ => match st with
    | [] => if eRt P k = none then some (.inl none, h) else none
    | _ => none
  | .athrow => if eHs P k = [] then match st with
      | .ref a :: _ => if a = 0 then none else some (.inr a, h)
      | _ => none
    else none
  | _ => none
def eIns (P : eP) (X : Nat × (Nat → Int32)) (k : Nat) (i : Instr) (pc : Nat) (lo : eLo) (st : List Value) (h : eH) : Option eT := match i with
  | .iconst n => eN (pc + 1) lo (.int (Int32.ofInt n) :: st) h
  | .bipush n => eN (pc + 2) lo (.int (Int8.ofInt n).toInt32 :: st) h
  | .sipush n => eN (pc + 3) lo (.int (Int16.ofInt n).toInt32 :: st) h
  | .lconst n => eN (pc + 1) lo (.long (Int64.ofNat (n : Nat)) :: st) h
  | .aconst_null => eN (pc + 1) lo (.null :: st) h
  | .ldc ix => match P.con (eOwn P k) ix with
    | some (.int v) => eN (pc + 2) lo (.int v :: st) h
    | _ => none
  | .ldc2_w ix => match P.con (eOwn P k) ix with
    | some (.long v) => eN (pc + 3) lo (.long v :: st) h
    | _ => none
  | .iload i => eLoI lo i fun x => eN (pc + 2) lo (.int x :: st) h
  | .iload_n i => eLoI lo i fun x => eN (pc + 1) lo (.int x :: st) h
  | .lload i => eLoJ lo i fun x => eN (pc + 2) lo (.long x :: st) h
  | .lload_n i => eLoJ lo i fun x => eN (pc + 1) lo (.long x :: st) h
  | .aload i => eLoA lo i fun x => eN (pc + 2) lo (eRf x :: st) h
  | .aload_n i => eLoA lo i fun x => eN (pc + 1) lo (eRf x :: st) h
  | .istore i => eI1 st fun x r => if i < lo.length then eN (pc + 2) (eSt1 lo i (.int x)) r h else none
  | .istore_n i => eI1 st fun x r => if (i : Nat) < lo.length then eN (pc + 1) (eSt1 lo i (.int x)) r h else none
  | .lstore i => eJ1 st fun x r => if i + 1 < lo.length then eN (pc + 2) (eSt2 lo i (.long x)) r h else none
  | .lstore_n i => eJ1 st fun x r => if (i : Nat) + 1 < lo.length then eN (pc + 1) (eSt2 lo i (.long x)) r h else none
  | .astore i => eQ1 st fun x r => if i < lo.length then eN (pc + 2) (eSt1 lo i (eRf x)) r h else none
  | .astore_n i => eQ1 st fun x r => if (i : Nat) < lo.length then eN (pc + 1) (eSt1 lo i (eRf x)) r h else none
  | .iinc i n => eLoI lo i fun x => if i < lo.length then eN (pc + 3) (eSt1 lo i (.int (x + Int32.ofInt n))) st h else none
  | .iadd => eI2 st fun x y r => eN (pc + 1) lo (.int (x + y) :: r) h
  | .isub => eI2 st fun x y r => eN (pc + 1) lo (.int (x - y) :: r) h
  | .imul => eI2 st fun x y r => eN (pc + 1) lo (.int (x * y) :: r) h
  | .idiv => eI2 st fun x y r => if y = 0 then none else eN (pc + 1) lo (.int (x / y) :: r) h
  | .iand => eI2 st fun x y r => eN (pc + 1) lo (.int (x &&& y) :: r) h
  | .ior => eI2 st fun x y r => eN (pc + 1) lo (.int (x ||| y) :: r) h
  | .ishl => eI2 st fun x y r => eN (pc + 1) lo (.int (x <<< (y &&& 31)) :: r) h
  | .ishr => eI2 st fun x y r => eN (pc + 1) lo (.int (x >>> (y &&& 31)) :: r) h
  | .ineg => eI1 st fun x r => eN (pc + 1) lo (.int (-x) :: r) h
  | .ladd => eJ2 st fun x y r => eN (pc + 1) lo (.long (x + y) :: r) h
  | .lsub => eJ2 st fun x y r => eN (pc + 1) lo (.long (x - y) :: r) h
  | .lmul => eJ2 st fun x y r => eN (pc + 1) lo (.long (x * y) :: r) h
  | .land => eJ2 st fun x y r => eN (pc + 1) lo (.long (x &&& y) :: r) h
  | .lor => eJ2 st fun x y r => eN (pc + 1) lo (.long (x ||| y) :: r) h
  | .lcmp => eJ2 st fun x y r => eN (pc + 1) lo (.int (lg_cmp x y) :: r) h
  | .lshl => eJI st fun x y r => eN (pc + 1) lo (.long (x <<< (y.toInt64 &&& 63)) :: r) h
  | .lushr => eJI st fun x y r => eN (pc + 1) lo (.long (x.toUInt64 >>> (y.toInt64.toUInt64 &&& Int64.toUInt64 63)).toInt64 :: r) h
  | .i2l => eI1 st fun x r => eN (pc + 1) lo (.long x.toInt64 :: r) h
  | .l2i => eJ1 st fun x r => eN (pc + 1) lo (.int x.toInt32 :: r) h
  | .i2c => eI1 st fun x r => eN (pc + 1) lo (.int (x.toUInt32 % 65536).toInt32 :: r) h
  | .dup => match st with
    | v :: r => if v.category = 1 then eN (pc + 1) lo (v :: v :: r) h else none
    | _ => none
  | .dup2 => match st with
    | .int y :: .ref x :: r => eN (pc + 1) lo (.int y :: .ref x :: .int y :: .ref x :: r) h
    | _ => none
  | .goto off => eTo pc off fun t => eN t lo st h
  | .ifCond cd off => eI1 st fun x r => eIf cd x 0 pc off lo r h
  | .if_icmp cd off => eI2 st fun x y r => eIf cd x y pc off lo r h
  | .ifnull off => eQ1 st fun x r => eBr x.isNone pc off lo r h
  | .tableswitch d lw hi offs => eI1 st fun x r => if x.toInt < lw ∨ hi < x.toInt then eTo pc d fun t => eN t lo r h else
      match offs[(x.toInt - lw).toNat]? with
      | some off => eTo pc off fun t => eN t lo r h
      | none => none
  | .getfield ix => eGf P (eOwn P k) ix h st fun v r => eN (pc + 3) lo (v :: r) h
  | .putfield ix => ePf P k ix h st fun h' r => eN (pc + 3) lo r h'
  | .iaload => eLdI X h 0 st fun x r => eN (pc + 1) lo (.int x :: r) h
  | .caload => eLdI X h 2 st fun x r => eN (pc + 1) lo (.int x :: r) h
  | .laload => eLdJ h st fun x r => eN (pc + 1) lo (.long x :: r) h
  | .aaload => eLdA P h st fun x r => eN (pc + 1) lo (eRf x :: r) h
  | .iastore => eStI h 0 (fun x => x) st fun h' r => eN (pc + 1) lo r h'
  | .castore => eStI h 2 (vp_nar .char) st fun h' r => eN (pc + 1) lo r h'
  | .lastore => eStJ h st fun h' r => eN (pc + 1) lo r h'
  | .aastore => eStA P h st fun h' r => eN (pc + 1) lo r h'
  | .arraylength => eLen X st fun x r => eN (pc + 1) lo (.int x :: r) h
  | .newarray .int => eNwA h 0 4 (.inl fun _ => 0) st fun h' a r => eN (pc + 2) lo (.ref a :: r) h'
  | .newarray .long => eNwA h 1 8 (.inr (.inl fun _ => 0)) st fun h' a r => eN (pc + 2) lo (.ref a :: r) h'
  | .newarray .char => eNwA h 2 2 (.inl fun _ => 0) st fun h' a r => eN (pc + 2) lo (.ref a :: r) h'
  | .anewarray ix => match P.arr (eOwn P k) ix with
    | some t => eNwA h t 4 (.inr (.inr fun _ => none)) st fun h' a r => eN (pc + 3) lo (.ref a :: r) h'
    | none => none
  | .new ix => match P.cls (eOwn P k) ix with
    | some c => eN (pc + 3) lo (.ref h.2.1 :: st) (eNew h (.inr (c, (P.bla c).1)) (P.bla c).2)
    | none => none
  | _ => none
def eKd (i : Instr) : Nat × Nat × Nat := match i with
  | .invokestatic ix => (1, 0, ix)
  | .invokevirtual ix => (1, 1, ix)
  | .invokespecial ix => (1, 2, ix)
  | .ireturn => (2, 0, 0)
  | .lreturn => (2, 0, 0)
  | .areturn => (2, 0, 0)
  | .return_ => (2, 0, 0)
  | .athrow => (2, 0, 0)
  | _ => (0, 0, 0)
def eHan (hs : List (Nat × Nat × Nat × Nat)) (pc c : Nat) : Option Nat := match hs with
  | [] => none
  | (a, b, t, c') :: hs => if a ≤ pc ∧ pc < b ∧ c' = c then some t else eHan hs pc c
def eGo (P : eP) (X : Nat × (Nat → Int32)) (call : Nat → List Value → eH → Option (eR × eH)) (k : Nat) : Nat → eS → Option (eR × eH)
  | 0, _ => none
  | n + 1, (pc, lo, st, h) => match P.ins k pc with
    | none => match P.thr k pc with
      | none => none
      | some q => if eHs P k = [] ∧ eCat st ≤ 8 then some (.inr h.2.1, eNew h (.inr (q.1, (P.bla q.1).1)) (P.bla q.1).2) else none
    | some (i, _) => match eKd i with
      | (0, _, _) => match eIns P X k i pc lo st h with
        | none => none
        | some x => eGo P X call k n x
      | (1, kd, ix) => match P.mth (eOwn P k) ix with
        | none => none
        | some (kind, k', na) => if st.length < na ∨ 8 < eCat (st.drop na) then none else
          if 3 ≤ kind then match eOwnless kd kind pc lo st h with
            | none => none
            | some x => eGo P X call k n x
          else match eArgs P kd kind k' na st h with
            | none => none
            | some (as, r) => match call k' as h with
              | none => none
              | some (.inl v, h') => eGo P X call k n (pc + 3, lo, v.toList ++ r, h')
              | some (.inr a, h') => if a = 0 ∨ ¬ eHs P k' = [] ∨ P.ini k' = true then none else match h'.1 a with
                | some (.inr (c, _)) => match eHan (eHs P k) pc c with
                  | some t => eGo P X call k n (t, lo, [.ref a], h')
                  | none => if eHs P k = [] then some (.inr a, h') else none
                | _ => none
      | _ => eRet P k i st h
def eArg (as : List Value) : eLo := match as with
  | [] => []
  | v :: r => if v.category = 2 then some v :: none :: eArg r else some v :: eArg r
def eEntry (nL : Nat) (as : List Value) : eLo := eArg as ++ List.replicate (nL - (eArg as).length) none
def eRun (P : eP) (X : Nat × (Nat → Int32)) (n : Nat) : Nat → Nat → List Value → eH → Option (eR × eH)
  | 0, _, _, _ => none
  | d + 1, k, as, h => if eNL P k < (eArg as).length then none else eGo P X (eRun P X n d) k n (0, eEntry (eNL P k) as, [], h)
end
section
def eGs (P : eP) (X : Nat × (Nat → Int32)) (d0 k : Nat) (x : eS) (r : eR × eH) : Prop := ∃ n0, ∀ d, d0 ≤ d → ∀ n, n0 ≤ n → ∀ j, n0 ≤ j → eGo P X (eRun P X n d) k j x = some r
def eEv (P : eP) (X : Nat × (Nat → Int32)) (d0 k : Nat) (as : List Value) (h : eH) (r : eR × eH) : Prop := ∃ n0, ∀ d, d0 ≤ d → ∀ n, n0 ≤ n → eRun P X n d k as h = some r
section GS
variable {P : eP} {X : Nat × (Nat → Int32)} {d0 k pc len : Nat} {lo : eLo} {st : List Value} {h : eH} {r : eR × eH} {y : eS} {i : Instr}
theorem eEv.mono {d1 : Nat} {as : List Value} (q : eEv P X d0 k as h r) (hd : d0 ≤ d1) : eEv P X d1 k as h r := by
  obtain ⟨n0, q⟩ := q
  exact ⟨n0, fun d h1 n h2 => q d (Nat.le_trans hd h1) n h2⟩
theorem eEv.of {as : List Value} (ha : ¬ eNL P k < (eArg as).length) (q : eGs P X d0 k (0, eEntry (eNL P k) as, [], h) r) : eEv P X (d0 + 1) k as h r := by
  obtain ⟨n0, q⟩ := q
  refine ⟨n0, fun d hd n hn => ?_⟩
  cases d with
  | zero => omega
  | succ d =>
    show (if eNL P k < (eArg as).length then none else eGo P X (eRun P X n d) k n (0, eEntry (eNL P k) as, [], h)) = some r
    rw [if_neg ha]
    exact q d (by omega) n hn n hn
theorem eGs.step (hi : P.ins k pc = some (i, len)) (hk : (eKd i).1 = 0) (hs : eIns P X k i pc lo st h = some y) (q : eGs P X d0 k y r) : eGs P X d0 k (pc, lo, st, h) r := by
  obtain ⟨n0, q⟩ := q
  refine ⟨n0 + 1, fun d hd n hn j hj => ?_⟩
  cases j with
  | zero => omega
  | succ j =>
    have q' := q d hd n (by omega) j (by omega)
    simp only [eGo, hi]
    generalize hz : eKd i = z at hk
    obtain ⟨z1, z2, z3⟩ := z
    cases hk
    simp only [hs]
    exact q'
theorem eGs.fin (hi : P.ins k pc = some (i, len)) (hk : (eKd i).1 = 2) (hs : eRet P k i st h = some r) : eGs P X d0 k (pc, lo, st, h) r := by
  refine ⟨1, fun d hd n hn j hj => ?_⟩
  cases j with
  | zero => omega
  | succ j =>
    simp only [eGo, hi]
    generalize hz : eKd i = z at hk
    obtain ⟨z1, z2, z3⟩ := z
    cases hk
    exact hs
theorem eGs.call {kd ix kind k' na : Nat} {as rs : List Value} {v : Option Value} {h' : eH} (hi : P.ins k pc = some (i, len)) (hk : eKd i = (1, kd, ix)) (hm : P.mth (eOwn P k) ix = some (kind, k', na)) (h3 : kind < 3)
    (hst : ¬ (st.length < na ∨ 8 < eCat (st.drop na))) (ha : eArgs P kd kind k' na st h = some (as, rs)) (hc : eEv P X d0 k' as h (.inl v, h')) (q : eGs P X d0 k (pc + 3, lo, v.toList ++ rs, h') r) : eGs P X d0 k (pc, lo, st, h) r := by
  obtain ⟨n0, q⟩ := q
  obtain ⟨n1, hc⟩ := hc
  refine ⟨n0 + n1 + 1, fun d hd n hn j hj => ?_⟩
  cases j with
  | zero => omega
  | succ j =>
    simp only [eGo, hi, hk, hm, if_neg hst, if_neg (Nat.not_le.mpr h3), ha, hc d hd n (by omega)]
    exact q d hd n (by omega) j (by omega)
theorem eGs.own {kd ix kind k' na : Nat} (hi : P.ins k pc = some (i, len)) (hk : eKd i = (1, kd, ix)) (hm : P.mth (eOwn P k) ix = some (kind, k', na)) (h3 : 3 ≤ kind)
    (hst : ¬ (st.length < na ∨ 8 < eCat (st.drop na))) (ha : eOwnless kd kind pc lo st h = some y) (q : eGs P X d0 k y r) : eGs P X d0 k (pc, lo, st, h) r := by
  obtain ⟨n0, q⟩ := q
  refine ⟨n0 + 1, fun d hd n hn j hj => ?_⟩
  cases j with
  | zero => omega
  | succ j =>
    simp only [eGo, hi, hk, hm, if_neg hst, if_pos h3, ha]
    exact q d hd n (by omega) j (by omega)
theorem eGs.thr {kd ix kind k' na a c : Nat} {as rs fs : List Value} {h' : eH} (hi : P.ins k pc = some (i, len)) (hk : eKd i = (1, kd, ix)) (hm : P.mth (eOwn P k) ix = some (kind, k', na)) (h3 : kind < 3)
    (hst : ¬ (st.length < na ∨ 8 < eCat (st.drop na))) (ha : eArgs P kd kind k' na st h = some (as, rs)) (hc : eEv P X d0 k' as h (.inr a, h')) (hn : ¬ (a = 0 ∨ ¬ eHs P k' = [] ∨ P.ini k' = true)) (hcell : h'.1 a = some (.inr (c, fs))) (hh : eHs P k = []) : eGs P X d0 k (pc, lo, st, h) (.inr a, h') := by
  obtain ⟨n1, hc⟩ := hc
  refine ⟨n1 + 1, fun d hd n hn2 j hj => ?_⟩
  cases j with
  | zero => omega
  | succ j =>
    simp only [eGo, hi, hk, hm, if_neg hst, if_neg (Nat.not_le.mpr h3), ha, hc d hd n (by omega), if_neg hn, hcell, hh, eHan, if_true]
theorem eGs.cat {kd ix kind k' na a c t : Nat} {as rs fs : List Value} {h' : eH} (hi : P.ins k pc = some (i, len)) (hk : eKd i = (1, kd, ix)) (hm : P.mth (eOwn P k) ix = some (kind, k', na)) (h3 : kind < 3)
    (hst : ¬ (st.length < na ∨ 8 < eCat (st.drop na))) (ha : eArgs P kd kind k' na st h = some (as, rs)) (hc : eEv P X d0 k' as h (.inr a, h')) (hn : ¬ (a = 0 ∨ ¬ eHs P k' = [] ∨ P.ini k' = true)) (hcell : h'.1 a = some (.inr (c, fs))) (hh : eHan (eHs P k) pc c = some t)
    (q : eGs P X d0 k (t, lo, [.ref a], h') r) : eGs P X d0 k (pc, lo, st, h) r := by
  obtain ⟨n0, q⟩ := q
  obtain ⟨n1, hc⟩ := hc
  refine ⟨n0 + n1 + 1, fun d hd n hn2 j hj => ?_⟩
  cases j with
  | zero => omega
  | succ j =>
    simp only [eGo, hi, hk, hm, if_neg hst, if_neg (Nat.not_le.mpr h3), ha, hc d hd n (by omega), if_neg hn, hcell, hh]
    exact q d hd n (by omega) j (by omega)
def eStN (P : eP) (X : Nat × (Nat → Int32)) (k : Nat) : Nat → eS → Option eS
  | 0, x => some x
  | n + 1, (pc, lo, st, h) => match P.ins k pc with
    | none => none
    | some (i, _) => match (eKd i).1 with
      | 0 => match eIns P X k i pc lo st h with
        | none => none
        | some y => eStN P X k n y
      | _ => none
theorem eGs.steps (n : Nat) {x : eS} (hs : eStN P X k n x = some y) (q : eGs P X d0 k y r) : eGs P X d0 k x r := by
  induction n generalizing x with
  | zero => cases hs; exact q
  | succ n ih =>
    obtain ⟨pc, lo, st, h⟩ := x
    simp only [eStN] at hs
    split at hs
    · cases hs
    · rename_i i len hi
      split at hs
      · rename_i hk
        split at hs
        · cases hs
        · rename_i z hz
          exact eGs.step hi hk hz (ih hs)
      · cases hs
theorem eGs.tnew {q : Nat × Nat × Nat × Nat} (hi : P.ins k pc = none) (ht : P.thr k pc = some q) (hh : eHs P k = []) (hc : eCat st ≤ 8) : eGs P X d0 k (pc, lo, st, h) (.inr h.2.1, eNew h (.inr (q.1, (P.bla q.1).1)) (P.bla q.1).2) := by
  refine ⟨1, fun d hd n hn j hj => ?_⟩
  cases j with
  | zero => omega
  | succ j =>
    simp only [eGo, hi, ht]
    rw [if_pos ⟨hh, hc⟩]
end GS
def eW2 (h : eH) (L : List (Nat × eE)) : eH := (fun q => match L.find? (fun z => z.1 == q) with
  | some z => some z.2
  | none => h.1 q, h.2.1, h.2.2)
theorem eW2_find {L : List (Nat × eE)} {i a : Nat} {c : eE} (hN : (L.map Prod.fst).Nodup) (hi : L[i]? = some (a, c)) : L.find? (fun z => z.1 == a) = some (a, c) := by
  induction L generalizing i with
  | nil => cases hi
  | cons z L ih =>
    obtain ⟨h1, h2⟩ := List.nodup_cons.mp hN
    cases i with
    | zero =>
      cases hi
      simp
    | succ i =>
      have hi' : L[i]? = some (a, c) := by simpa using hi
      have hne : z.1 ≠ a := fun e => h1 (by
        rw [e]
        exact List.mem_map.mpr ⟨(a, c), List.mem_of_getElem? hi', rfl⟩)
      have hb : (z.1 == a) = false := by simpa using hne
      rw [List.find?_cons, hb]
      exact ih h2 hi'
theorem eW2_get {h : eH} {L : List (Nat × eE)} (hN : (L.map Prod.fst).Nodup) (i : Nat) {a : Nat} {c : eE} (hi : L[i]? = some (a, c)) : (eW2 h L).1 a = some c := by
  show (match L.find? (fun z => z.1 == a) with
    | some z => some z.2
    | none => h.1 a) = some c
  rw [eW2_find hN hi]
theorem eW2_findset {L : List (Nat × eE)} {i a : Nat} {c0 c : eE} (hN : (L.map Prod.fst).Nodup) (hi : L[i]? = some (a, c0)) (q : Nat) : (L.set i (a, c)).find? (fun z => z.1 == q) = if q = a then some (a, c) else L.find? (fun z => z.1 == q) := by
  induction L generalizing i with
  | nil => cases hi
  | cons z L ih =>
    obtain ⟨h1, h2⟩ := List.nodup_cons.mp hN
    cases i with
    | zero =>
      cases hi
      by_cases hq : q = a
      · subst hq
        simp
      · have hb : (a == q) = false := by simpa using fun e => hq e.symm
        simp only [List.set_cons_zero, List.find?_cons, hb, if_neg hq]
    | succ i =>
      have hi' : L[i]? = some (a, c0) := by simpa using hi
      have hne : z.1 ≠ a := fun e => h1 (by
        rw [e]
        exact List.mem_map.mpr ⟨(a, c0), List.mem_of_getElem? hi', rfl⟩)
      simp only [List.set_cons_succ, List.find?_cons]
      by_cases hz : z.1 = q
      · have hb : (z.1 == q) = true := by simpa using hz
        have hq : ¬ q = a := fun e => hne (hz.trans e)
        simp only [hb, if_neg hq]
      · have hb : (z.1 == q) = false := by simpa using hz
        simp only [hb]
        exact ih h2 hi'
theorem eW2_set {h : eH} {L : List (Nat × eE)} (hN : (L.map Prod.fst).Nodup) (i : Nat) {a : Nat} {c0 c : eE} (hi : L[i]? = some (a, c0)) : eSetH (eW2 h L) a c = eW2 h (L.set i (a, c)) := by
  unfold eSetH eW2
  refine Prod.ext (funext fun q => ?_) rfl
  show (if q = a then some c else (match L.find? (fun z => z.1 == q) with
    | some z => some z.2
    | none => h.1 q)) = (match (L.set i (a, c)).find? (fun z => z.1 == q) with
    | some z => some z.2
    | none => h.1 q)
  rw [eW2_findset hN hi]
  by_cases hq : q = a
  · rw [if_pos hq, if_pos hq]
  · rw [if_neg hq, if_neg hq]
theorem eW2_self {h : eH} {L : List (Nat × eE)} (hL : ∀ z ∈ L, h.1 z.1 = some z.2) : eW2 h L = h := by
  unfold eW2
  refine Prod.ext (funext fun q => ?_) rfl
  show (match L.find? (fun z => z.1 == q) with
    | some z => some z.2
    | none => h.1 q) = h.1 q
  cases hf : L.find? (fun z => z.1 == q) with
  | none => rfl
  | some z =>
    have h1 : (z.1 == q) = true := by
      have := List.find?_some hf
      simpa using this
    have h2 : z.1 = q := by simpa using h1
    subst h2
    exact (hL z (List.mem_of_find?_eq_some hf)).symm
def eSub (L : List (Nat × eE)) (is : List Nat) : List (Nat × eE) := is.filterMap fun i => L[i]?
def ePut (L : List (Nat × eE)) : List Nat → List (Nat × eE) → List (Nat × eE)
  | i :: is, z :: zs => ePut (L.set i z) is zs
  | _, _ => L
theorem eW2_sub {h : eH} {L : List (Nat × eE)} (hN : (L.map Prod.fst).Nodup) (is : List Nat) : eW2 (eW2 h L) (eSub L is) = eW2 h L := by
  refine eW2_self fun z hz => ?_
  obtain ⟨i, -, hi⟩ := List.mem_filterMap.mp hz
  exact eW2_get hN i hi
theorem eW2_cons {h : eH} {a : Nat} {c : eE} {L : List (Nat × eE)} : eW2 h ((a, c) :: L) = eSetH (eW2 h L) a c := by
  unfold eSetH eW2
  refine Prod.ext (funext fun q => ?_) rfl
  show (match ((a, c) :: L).find? (fun z => z.1 == q) with
    | some z => some z.2
    | none => h.1 q) = if q = a then some c else _
  by_cases hq : q = a
  · subst hq
    simp
  · have hb : (a == q) = false := by simpa using fun e => hq e.symm
    simp only [List.find?_cons, hb, if_neg hq]
theorem eW2_put {h : eH} : ∀ (is : List Nat) (zs L : List (Nat × eE)), (L.map Prod.fst).Nodup → (zs.map Prod.fst).Nodup → is.length = zs.length → (∀ (j i : Nat) (z : Nat × eE), is[j]? = some i → zs[j]? = some z → ∃ c0, L[i]? = some (z.1, c0)) → eW2 (eW2 h L) zs = eW2 h (ePut L is zs) := by
  intro is
  induction is with
  | nil =>
    intro zs L hN hZ hl hp
    cases zs with
    | nil => exact eW2_self (fun z hz => absurd hz List.not_mem_nil)
    | cons z zs => cases hl
  | cons i is ih =>
    intro zs L hN hZ hl hp
    cases zs with
    | nil => cases hl
    | cons z zs =>
      obtain ⟨a, c⟩ := z
      obtain ⟨c0, h0⟩ := hp 0 i (a, c) rfl rfl
      obtain ⟨hz1, hz2⟩ := List.nodup_cons.mp hZ
      have hset : (L.set i (a, c)).map Prod.fst = L.map Prod.fst := by
        rw [List.map_set]
        apply List.ext_getElem?
        intro j
        rw [List.getElem?_set]
        split
        · rename_i e
          subst e
          split
          · simp [h0]
          · rename_i hlt
            have := (List.getElem?_eq_some_iff.mp h0).1
            simp at hlt
            omega
        · rfl
      have key := ih zs (L.set i (a, c)) (by rw [hset]; exact hN) hz2 (by simpa using hl) (fun j i' z h1 h2 => by
        obtain ⟨c1, h3⟩ := hp (j + 1) i' z (by simpa using h1) (by simpa using h2)
        by_cases e : i = i'
        · subst e
          have hlt := (List.getElem?_eq_some_iff.mp h0).1
          rw [h0] at h3
          cases h3
          exact ⟨c, by rw [List.getElem?_set]; simp [hlt]⟩
        · exact ⟨c1, by rw [List.getElem?_set, if_neg e]; exact h3⟩)
      rw [show ePut L (i :: is) ((a, c) :: zs) = ePut (L.set i (a, c)) is zs from rfl, ← key, ← eW2_set hN i h0]
      -- laying (a, c) first or last is the same, a is not among zs
      unfold eW2 eSetH eUp
      refine Prod.ext (funext fun q => ?_) rfl
      simp only [List.find?_cons]
      by_cases hq : a = q
      · subst hq
        have hno : zs.find? (fun z => z.1 == a) = none := by
          refine List.find?_eq_none.mpr fun z hz => ?_
          intro hh
          exact hz1 (List.mem_map.mpr ⟨z, hz, by simpa using hh⟩)
        simp [hno]
      · have hb : (a == q) = false := by simpa using hq
        have hq' : ¬ q = a := fun e => hq e.symm
        simp only [hb, if_neg hq']
section GH
variable {P : eP} {X : Nat × (Nat → Int32)} {d0 k pc : Nat} {lo : eLo} {st : List Value} {h : eH} {r : eR × eH}
theorem g_getf {ix c j a : Nat} {ty : FieldType} {fin : Bool} {fs : List Value} {v : Value} (hi : P.ins k pc = some (.getfield ix, 3)) (hf : P.fld (eOwn P k) ix = some (c, j, ty, fin)) (ha : ¬ a = 0) (hc : h.1 a = some (.inr (c, fs))) (hv : fs[j]? = some v)
    (q : eGs P X d0 k (pc + 3, lo, v :: st, h) r) : eGs P X d0 k (pc, lo, .ref a :: st, h) r := by
  refine eGs.step hi rfl ?_ q
  simp only [eIns, eGf, eR1, hf, hc, hv, eN]
  rw [if_neg (by simp [ha])]
theorem g_putf {ix c j a : Nat} {ty : FieldType} {fin : Bool} {fs : List Value} {v : Value} (hi : P.ins k pc = some (.putfield ix, 3)) (hf : P.fld (eOwn P k) ix = some (c, j, ty, fin)) (ha : ¬ a = 0) (hc : h.1 a = some (.inr (c, fs))) (hfit : eFit ty v = true) (hj : j < fs.length) (hfin : (fin && !(P.ini k && eOwn P k == c)) = false)
    (q : eGs P X d0 k (pc + 3, lo, st, eSetH h a (.inr (c, fs.set j v))) r) : eGs P X d0 k (pc, lo, v :: .ref a :: st, h) r := by
  refine eGs.step hi rfl ?_ q
  simp only [eIns, ePf, hf, hc, eN]
  rw [if_neg]
  rintro (h1 | h1 | h1 | h1 | h1)
  · exact ha h1
  · exact h1 trivial
  · rw [hfit] at h1; cases h1
  · omega
  · rw [hfin] at h1; cases h1
theorem g_iald {a n : Nat} {f : Nat → Int32} {i : Int32} (hi : P.ins k pc = some (.iaload, 1)) (ha : ¬ a = 0) (hc : h.1 a = some (.inl (0, n, .inl f))) (hin : ¬ (i < 0 ∨ n ≤ i.toNatClampNeg))
    (q : eGs P X d0 k (pc + 1, lo, .int (f i.toNatClampNeg) :: st, h) r) : eGs P X d0 k (pc, lo, .int i :: .ref a :: st, h) r := by
  refine eGs.step hi rfl ?_ q
  cases a with
  | zero => exact absurd rfl ha
  | succ a => simp only [eIns, eLdI, eIA, hc, eN, eIn, if_neg hin, if_true]
theorem g_cald {a n : Nat} {f : Nat → Int32} {i : Int32} (hi : P.ins k pc = some (.caload, 1)) (ha : ¬ a = 0) (hc : h.1 a = some (.inl (2, n, .inl f))) (hin : ¬ (i < 0 ∨ n ≤ i.toNatClampNeg))
    (q : eGs P X d0 k (pc + 1, lo, .int (f i.toNatClampNeg) :: st, h) r) : eGs P X d0 k (pc, lo, .int i :: .ref a :: st, h) r := by
  refine eGs.step hi rfl ?_ q
  cases a with
  | zero => exact absurd rfl ha
  | succ a => simp only [eIns, eLdI, eIA, hc, eN, eIn, if_neg hin, if_true]
theorem g_lald {a n : Nat} {f : Nat → Int64} {i : Int32} (hi : P.ins k pc = some (.laload, 1)) (ha : ¬ a = 0) (hc : h.1 a = some (.inl (1, n, .inr (.inl f)))) (hin : ¬ (i < 0 ∨ n ≤ i.toNatClampNeg))
    (q : eGs P X d0 k (pc + 1, lo, .long (f i.toNatClampNeg) :: st, h) r) : eGs P X d0 k (pc, lo, .int i :: .ref a :: st, h) r := by
  refine eGs.step hi rfl ?_ q
  simp only [eIns, eLdJ, eIA, hc, eN, eIn, if_neg hin, if_neg ha]
theorem g_aald {a n t c : Nat} {f : Nat → Option Nat} {i : Int32} (hi : P.ins k pc = some (.aaload, 1)) (ha : ¬ a = 0) (hc : h.1 a = some (.inl (t, n, .inr (.inr f)))) (ht : P.elt t = some c) (hin : ¬ (i < 0 ∨ n ≤ i.toNatClampNeg))
    (q : eGs P X d0 k (pc + 1, lo, eRf (f i.toNatClampNeg) :: st, h) r) : eGs P X d0 k (pc, lo, .int i :: .ref a :: st, h) r := by
  refine eGs.step hi rfl ?_ q
  simp only [eIns, eLdA, eIA, hc, eN, eIn, if_neg hin]
  rw [if_neg (by simp [ha, ht])]
theorem g_iast {a n : Nat} {f : Nat → Int32} {i x : Int32} (hi : P.ins k pc = some (.iastore, 1)) (ha : ¬ a = 0) (hc : h.1 a = some (.inl (0, n, .inl f))) (hin : ¬ (i < 0 ∨ n ≤ i.toNatClampNeg))
    (q : eGs P X d0 k (pc + 1, lo, st, eSetH h a (.inl (0, n, .inl (eUp f i.toNatClampNeg x)))) r) : eGs P X d0 k (pc, lo, .int x :: .int i :: .ref a :: st, h) r := by
  refine eGs.step hi rfl ?_ q
  simp only [eIns, eStI, hc, eN, eIn, if_neg hin]
  rw [if_neg (by simp [ha])]
theorem g_cast {a n : Nat} {f : Nat → Int32} {i x : Int32} (hi : P.ins k pc = some (.castore, 1)) (ha : ¬ a = 0) (hc : h.1 a = some (.inl (2, n, .inl f))) (hin : ¬ (i < 0 ∨ n ≤ i.toNatClampNeg))
    (q : eGs P X d0 k (pc + 1, lo, st, eSetH h a (.inl (2, n, .inl (eUp f i.toNatClampNeg (vp_nar .char x))))) r) : eGs P X d0 k (pc, lo, .int x :: .int i :: .ref a :: st, h) r := by
  refine eGs.step hi rfl ?_ q
  simp only [eIns, eStI, hc, eN, eIn, if_neg hin]
  rw [if_neg (by simp [ha])]
theorem g_last {a n : Nat} {f : Nat → Int64} {i : Int32} {x : Int64} (hi : P.ins k pc = some (.lastore, 1)) (ha : ¬ a = 0) (hc : h.1 a = some (.inl (1, n, .inr (.inl f)))) (hin : ¬ (i < 0 ∨ n ≤ i.toNatClampNeg))
    (q : eGs P X d0 k (pc + 1, lo, st, eSetH h a (.inl (1, n, .inr (.inl (eUp f i.toNatClampNeg x))))) r) : eGs P X d0 k (pc, lo, .long x :: .int i :: .ref a :: st, h) r := by
  refine eGs.step hi rfl ?_ q
  simp only [eIns, eStJ, hc, eN, eIn, if_neg hin, if_neg ha]
theorem g_aast {a n t v c : Nat} {f : Nat → Option Nat} {i : Int32} {fs : List Value} (hi : P.ins k pc = some (.aastore, 1)) (ha : ¬ a = 0) (hv : ¬ v = 0) (hc : h.1 a = some (.inl (t, n, .inr (.inr f)))) (hcv : h.1 v = some (.inr (c, fs))) (ht : P.elt t = some c) (hin : ¬ (i < 0 ∨ n ≤ i.toNatClampNeg))
    (q : eGs P X d0 k (pc + 1, lo, st, eSetH h a (.inl (t, n, .inr (.inr (eUp f i.toNatClampNeg (some v)))))) r) : eGs P X d0 k (pc, lo, .ref v :: .int i :: .ref a :: st, h) r := by
  refine eGs.step hi rfl ?_ q
  simp only [eIns, eStA, hc, hcv, eN, eIn, if_neg hin]
  rw [if_neg (by simp [ha, hv, ht])]
theorem g_aastN {a n t c : Nat} {f : Nat → Option Nat} {i : Int32} (hi : P.ins k pc = some (.aastore, 1)) (ha : ¬ a = 0) (hc : h.1 a = some (.inl (t, n, .inr (.inr f)))) (ht : P.elt t = some c) (hin : ¬ (i < 0 ∨ n ≤ i.toNatClampNeg))
    (q : eGs P X d0 k (pc + 1, lo, st, eSetH h a (.inl (t, n, .inr (.inr (eUp f i.toNatClampNeg none))))) r) : eGs P X d0 k (pc, lo, .null :: .int i :: .ref a :: st, h) r := by
  refine eGs.step hi rfl ?_ q
  simp only [eIns, eStA, hc, eN, eIn, if_neg hin]
  rw [if_neg (by simp [ha, ht])]
def eCd (cd : ClassFile.Cond) (x y : Int32) : Bool := match cd with
  | .eq => decide (x = y)
  | .ne => decide (¬ x = y)
  | .lt => decide (x < y)
  | .ge => decide (y ≤ x)
  | .gt => decide (y < x)
  | .le => decide (x ≤ y)
theorem eIf_cd (cd : ClassFile.Cond) (x y : Int32) (pc : Nat) (off : Int) (lo : eLo) (rs : List Value) (h : eH) : eIf cd x y pc off lo rs h = eBr (eCd cd x y) pc off lo rs h := by
  cases cd <;> rfl
theorem g_icmp {cd : ClassFile.Cond} {off : Int} {t : Nat} {x y : Int32} (b : Bool) (hi : P.ins k pc = some (.if_icmp cd off, 3)) (hb : eCd cd x y = b) (ht : (pc : Int) + off = Int.ofNat t) (q : eGs P X d0 k (cond b t (pc + 3), lo, st, h) r) : eGs P X d0 k (pc, lo, .int y :: .int x :: st, h) r := by
  refine eGs.step hi rfl ?_ q
  simp only [eIns, eI2, eIf_cd, eBr, eTo, ht, hb]
  cases b <;> rfl
theorem g_if {cd : ClassFile.Cond} {off : Int} {t : Nat} {x : Int32} (b : Bool) (hi : P.ins k pc = some (.ifCond cd off, 3)) (hb : eCd cd x 0 = b) (ht : (pc : Int) + off = Int.ofNat t) (q : eGs P X d0 k (cond b t (pc + 3), lo, st, h) r) : eGs P X d0 k (pc, lo, .int x :: st, h) r := by
  refine eGs.step hi rfl ?_ q
  simp only [eIns, eI1, eIf_cd, eBr, eTo, ht, hb]
  cases b <;> rfl
end GH
def eLocal (i : Instr) : Bool := match i with
  | .iload _ => true
  | .iload_n _ => true
  | .lload _ => true
  | .lload_n _ => true
  | .aload _ => true
  | .aload_n _ => true
  | .istore _ => true
  | .istore_n _ => true
  | .lstore _ => true
  | .lstore_n _ => true
  | .astore _ => true
  | .astore_n _ => true
  | .iinc _ _ => true
  | _ => false
def eMv (lo : eLo) (x : Option eS) : Option eS := x.map fun x => (x.1, lo, x.2.2.1, x.2.2.2)
theorem eMv_n {lo : eLo} {pc : Nat} {st : List Value} {h : eH} : eMv lo (eN pc [] st h) = eN pc lo st h := rfl
theorem eIns_mv {P : eP} {X : Nat × (Nat → Int32)} {k pc : Nat} {i : Instr} {lo : eLo} {st : List Value} {h : eH} (hi : eLocal i = false) : eIns P X k i pc lo st h = eMv lo (eIns P X k i pc [] st h) := by
  cases i
  all_goals first
    | rfl
    | (cases hi; done)
    | (simp only [eIns, eI1, eI2, eJ1, eJ2, eJI, eR1, eQ1, eIA, eTo, eBr, eIf_cd, eIn, eLdI, eLdJ, eLdA, eStI, eStJ, eStA, eLen, eNwA, eGf, ePf]
       repeat' split
       all_goals first | rfl | (simp_all [eMv, eN]; done))
theorem eKill_len (lo : eLo) (i : Nat) : (eKill lo i).length = lo.length := by
  cases i with
  | zero => rfl
  | succ n =>
    simp only [eKill]
    split
    · split <;> simp
    · rfl
theorem eKill_at {lo : eLo} {i j : Nat} {u : Value} (h : (eKill lo i)[j]? = some (some u)) : lo[j]? = some (some u) ∧ ¬ (j + 1 = i ∧ u.category = 2) := by
  cases i with
  | zero => exact ⟨h, by omega⟩
  | succ n =>
    simp only [eKill] at h
    split at h
    · rename_i w hw
      split at h
      · rw [List.getElem?_set] at h
        split at h
        · split at h <;> cases h
        · rename_i hne
          exact ⟨h, by omega⟩
      · rename_i hc
        refine ⟨h, fun hz => ?_⟩
        have : j = n := by omega
        subst this
        rw [hw] at h
        cases h
        exact hc hz.2
    · rename_i hno
      refine ⟨h, fun hz => ?_⟩
      have : j = n := by omega
      subst this
      exact hno u h
theorem eKill_get {lo : eLo} {i j : Nat} {u : Value} (h : lo[j]? = some (some u)) (hn : ¬ (j + 1 = i ∧ u.category = 2)) : (eKill lo i)[j]? = some (some u) := by
  cases i with
  | zero => exact h
  | succ n =>
    simp only [eKill]
    split
    · rename_i w hw
      split
      · rename_i hc
        rw [List.getElem?_set]
        split
        · rename_i e
          subst e
          rw [hw] at h
          cases h
          exact absurd ⟨rfl, hc⟩ hn
        · exact h
      · exact h
    · exact h
def eSubP (lo' lo : eLo) : Prop := lo'.length = lo.length ∧ ∀ (i : Nat) (v : Value), lo'[i]? = some (some v) → lo[i]? = some (some v)
def eSubL : eLo → eLo → Prop
  | [], [] => True
  | none :: a, _ :: b => eSubL a b
  | some v :: a, w :: b => w = some v ∧ eSubL a b
  | _, _ => False
theorem eSubL.p : ∀ {a b : eLo}, eSubL a b → eSubP a b := by
  intro a
  induction a with
  | nil =>
    intro b h
    cases b with
    | nil => exact ⟨rfl, fun i v h => h⟩
    | cons w b => exact h.elim
  | cons x a ih =>
    intro b h
    cases b with
    | nil => cases x <;> exact h.elim
    | cons w b =>
      cases x with
      | none =>
        obtain ⟨h1, h2⟩ := ih (show eSubL a b from h)
        refine ⟨by simp [h1], fun i v hv => ?_⟩
        cases i with
        | zero => simp at hv
        | succ i => simpa using h2 i v (by simpa using hv)
      | some u =>
        obtain ⟨he, h'⟩ := (show w = some u ∧ eSubL a b from h)
        obtain ⟨h1, h2⟩ := ih h'
        refine ⟨by simp [h1], fun i v hv => ?_⟩
        cases i with
        | zero =>
          simp at hv
          subst hv
          simp [he]
        | succ i => simpa using h2 i v (by simpa using hv)
theorem eSubP.st1 {lo' lo : eLo} {i : Nat} {v : Value} (h : eSubP lo' lo) : eSubP (eSt1 lo' i v) (eSt1 lo i v) := by
  refine ⟨by simp [eSt1, eKill_len, h.1], fun j u hu => ?_⟩
  unfold eSt1 at hu ⊢
  rw [List.getElem?_set] at hu ⊢
  split at hu
  · rename_i e
    rw [if_pos e]
    rw [eKill_len] at hu ⊢
    rw [← h.1]
    exact hu
  · rename_i e
    rw [if_neg e]
    obtain ⟨h1, h2⟩ := eKill_at hu
    exact eKill_get (h.2 j u h1) h2
theorem eSubP.st2 {lo' lo : eLo} {i : Nat} {v : Value} (h : eSubP lo' lo) : eSubP (eSt2 lo' i v) (eSt2 lo i v) := by
  have h1 := h.st1 (i := i) (v := v)
  refine ⟨by simp [eSt2, eKill_len, h.1], fun j u hu => ?_⟩
  have hu' : ((eSt1 lo' i v).set (i + 1) none)[j]? = some (some u) := hu
  show ((eSt1 lo i v).set (i + 1) none)[j]? = some (some u)
  rw [List.getElem?_set] at hu' ⊢
  split at hu'
  · split at hu' <;> cases hu'
  · rename_i e
    rw [if_neg e]
    exact h1.2 j u hu'
theorem eLoI_sub {lo' lo : eLo} {i : Nat} {f g : Int32 → Option eS} {x : eS} {p : eS → Prop} (h : eSubP lo' lo) (hx : eLoI lo' i f = some x) (hf : ∀ v, f v = some x → ∃ y, g v = some y ∧ p y) : ∃ y, eLoI lo i g = some y ∧ p y := by
  unfold eLoI eGet at hx ⊢
  split at hx
  · rename_i v hv
    have h1 : lo'[i]? = some (some (.int v)) := by
      cases hq : lo'[i]? with
      | none => rw [hq] at hv; cases hv
      | some o => rw [hq] at hv; cases o with
        | none => cases hv
        | some u => cases hv; rfl
    rw [h.2 i _ h1]
    exact hf v hx
  · cases hx
theorem eLoJ_sub {lo' lo : eLo} {i : Nat} {f g : Int64 → Option eS} {x : eS} {p : eS → Prop} (h : eSubP lo' lo) (hx : eLoJ lo' i f = some x) (hf : ∀ v, f v = some x → ∃ y, g v = some y ∧ p y) : ∃ y, eLoJ lo i g = some y ∧ p y := by
  unfold eLoJ eGet at hx ⊢
  split at hx
  · rename_i v hv
    have h1 : lo'[i]? = some (some (.long v)) := by
      cases hq : lo'[i]? with
      | none => rw [hq] at hv; cases hv
      | some o => rw [hq] at hv; cases o with
        | none => cases hv
        | some u => cases hv; rfl
    rw [h.2 i _ h1]
    exact hf v hx
  · cases hx
theorem eLoA_sub {lo' lo : eLo} {i : Nat} {f g : Option Nat → Option eS} {x : eS} {p : eS → Prop} (h : eSubP lo' lo) (hx : eLoA lo' i f = some x) (hf : ∀ v, f v = some x → ∃ y, g v = some y ∧ p y) : ∃ y, eLoA lo i g = some y ∧ p y := by
  unfold eLoA eGet at hx ⊢
  have key : ∀ w, lo'[i]?.join = some w → lo[i]? = some (some w) := fun w hw => h.2 i w (by
    cases hq : lo'[i]? with
    | none => rw [hq] at hw; cases hw
    | some o => rw [hq] at hw; cases o with
      | none => cases hw
      | some u => cases hw; rfl)
  split at hx
  · rename_i v hv
    rw [key _ hv]
    exact hf _ hx
  · rename_i hv
    rw [key _ hv]
    exact hf _ hx
  · cases hx
theorem eIns_sub {P : eP} {X : Nat × (Nat → Int32)} {k pc : Nat} {i : Instr} {lo' lo : eLo} {st : List Value} {h : eH} {x : eS} (hs : eSubP lo' lo) (hx : eIns P X k i pc lo' st h = some x) :
    ∃ y, eIns P X k i pc lo st h = some y ∧ y.1 = x.1 ∧ eSubP x.2.1 y.2.1 ∧ y.2.2 = x.2.2 := by
  cases hl : eLocal i with
  | false =>
    rw [eIns_mv hl] at hx ⊢
    cases hz : eIns P X k i pc [] st h with
    | none => rw [hz] at hx; cases hx
    | some z =>
      rw [hz] at hx
      cases hx
      exact ⟨_, rfl, rfl, hs, rfl⟩
  | true =>
    have hlen := hs.1
    cases i <;> first | (cases hl; done) | skip
    case aload j => exact eLoA_sub (f := fun x => eN (pc + 2) lo' (eRf x :: st) h) (g := fun x => eN (pc + 2) lo (eRf x :: st) h) (p := fun y => y.1 = x.1 ∧ eSubP x.2.1 y.2.1 ∧ y.2.2 = x.2.2) hs hx (fun v hv => by
      have hv' : (pc + 2, lo', eRf v :: st, h) = x := Option.some.inj hv
      subst hv'
      exact ⟨_, rfl, rfl, hs, rfl⟩)
    case aload_n j => exact eLoA_sub (f := fun x => eN (pc + 1) lo' (eRf x :: st) h) (g := fun x => eN (pc + 1) lo (eRf x :: st) h) (p := fun y => y.1 = x.1 ∧ eSubP x.2.1 y.2.1 ∧ y.2.2 = x.2.2) hs hx (fun v hv => by
      have hv' : (pc + 1, lo', eRf v :: st, h) = x := Option.some.inj hv
      subst hv'
      exact ⟨_, rfl, rfl, hs, rfl⟩)
    all_goals first
      | exact eLoI_sub hs hx (fun v hv => by cases hv; exact ⟨_, rfl, rfl, hs, rfl⟩)
      | exact eLoJ_sub hs hx (fun v hv => by cases hv; exact ⟨_, rfl, rfl, hs, rfl⟩)
      | exact eLoI_sub hs hx (fun v hv => by
          split at hv
          · rename_i hq
            cases hv
            rw [hlen] at hq
            rw [if_pos hq]
            exact ⟨_, rfl, rfl, hs.st1, rfl⟩
          · cases hv)
      | (simp only [eIns, eI1, eJ1, eQ1] at hx ⊢
         split at hx <;> first | (cases hx; done) | skip
         all_goals
           split at hx
           · rename_i hq
             cases hx
             rw [hlen] at hq
             rw [if_pos hq]
             first | exact ⟨_, rfl, rfl, hs.st1, rfl⟩ | exact ⟨_, rfl, rfl, hs.st2, rfl⟩
           · cases hx)
theorem eOwn_mv {kd kind pc : Nat} {lo : eLo} {st : List Value} {h : eH} : eOwnless kd kind pc lo st h = eMv lo (eOwnless kd kind pc [] st h) := by
  unfold eOwnless
  split
  all_goals
    try simp only [eR1, eI2, eCopy]
    repeat' split
    all_goals first | rfl | (simp_all [eMv, eN]; done)
theorem eGo_sub {P : eP} {X : Nat × (Nat → Int32)} {call : Nat → List Value → eH → Option (eR × eH)} {k : Nat} {r : eR × eH} : ∀ (n : Nat) {pc : Nat} {lo' lo : eLo} {st : List Value} {h : eH}, eSubP lo' lo → eGo P X call k n (pc, lo', st, h) = some r → eGo P X call k n (pc, lo, st, h) = some r := by
  intro n
  induction n with
  | zero => intro pc lo' lo st h hs hx; cases hx
  | succ n ih =>
    intro pc lo' lo st h hs hx
    simp only [eGo] at hx ⊢
    split at hx
    · exact hx
    · rename_i i len hi
      split at hx
      · split at hx
        · cases hx
        · rename_i x hz
          obtain ⟨y, h1, h2, h3, h4⟩ := eIns_sub hs hz
          obtain ⟨y1, y2, y3⟩ := y
          obtain ⟨x1, x2, x3⟩ := x
          cases h2
          cases h4
          simp only [h1]
          exact ih h3 hx
      · split at hx
        · cases hx
        · split at hx
          · cases hx
          · rename_i hq
            rw [if_neg hq]
            split at hx
            · rename_i h3
              rw [if_pos h3]
              split at hx
              · cases hx
              · rename_i x hz
                rw [eOwn_mv] at hz
                rw [eOwn_mv]
                cases hw : eOwnless _ _ pc [] st h with
                | none => rw [hw] at hz; cases hz
                | some w =>
                  rw [hw] at hz
                  cases hz
                  exact ih hs hx
            · rename_i h3
              rw [if_neg h3]
              split at hx
              · cases hx
              · rename_i as rs ha
                split at hx
                · cases hx
                · rename_i v h' hc
                  exact ih hs hx
                · rename_i a h' hc
                  split at hx
                  · cases hx
                  · rename_i hq2
                    rw [if_neg hq2]
                    split at hx
                    · rename_i c fs hcell
                      split at hx
                      · exact ih ⟨rfl, fun i v q => q⟩ (by
                          refine ih hs ?_
                          exact hx)
                      · exact hx
                    · cases hx
      · exact hx
theorem eGs.weak {P : eP} {X : Nat × (Nat → Int32)} {d0 k pc : Nat} {lo' lo : eLo} {st : List Value} {h : eH} {r : eR × eH} (hs : eSubL lo' lo) (q : eGs P X d0 k (pc, lo', st, h) r) : eGs P X d0 k (pc, lo, st, h) r := by
  obtain ⟨n0, q⟩ := q
  exact ⟨n0, fun d hd n hn j hj => eGo_sub j hs.p (q d hd n hn j hj)⟩
end
section
abbrev eG : Type := Nat × Nat × (UInt32 → Nat) × (Nat → ClassId) × va_G × List vw_C
abbrev eG.b (G : eG) : Nat := G.1
abbrev eG.B (G : eG) : Nat := G.2.1
abbrev eG.sa (G : eG) : UInt32 → Nat := G.2.2.1
abbrev eG.ca (G : eG) : Nat → ClassId := G.2.2.2.1
abbrev eG.D (G : eG) : va_G := G.2.2.2.2.1
abbrev eG.cl (G : eG) : List vw_C := G.2.2.2.2.2
abbrev eW : Type := (Nat → String) × (Nat → MethodName) × (Nat → ByteArray) × List FieldType
abbrev eW.cn (N : eW) : Nat → String := N.1
abbrev eW.mn (N : eW) : Nat → MethodName := N.2.1
abbrev eW.cd (N : eW) : Nat → ByteArray := N.2.2.1
abbrev eW.ty (N : eW) : List FieldType := N.2.2.2
def eAd (G : eG) (r : Nat) : Nat := if r = 0 then G.b else G.B + r
def eVal (G : eG) (v : Value) : Value := match v with
  | .ref r => .ref (eAd G r)
  | .float k => .ref (G.sa k)
  | v => v
theorem eVal_cat (G : eG) (v : Value) : (eVal G v).category = v.category := by cases v <;> rfl
theorem eAd_pos {G : eG} {r : Nat} (h : ¬ r = 0) : eAd G r = G.B + r := if_neg h
theorem eVal_rf (G : eG) (x : Option Nat) : eVal G (eRf x) = va_rf (x.map (eAd G)) := by cases x <;> rfl
def eCo (G : eG) (x : eE) : va_E := match x with
  | .inl (t, n, .inl f) => .inl (G.ca t, n, .inl f)
  | .inl (t, n, .inr (.inl f)) => .inl (G.ca t, n, .inr (.inl f))
  | .inl (t, n, .inr (.inr f)) => .inl (G.ca t, n, .inr (.inr (.inr (.inr fun i => (f i).map (eAd G)))))
  | .inr (c, fs) => .inr (c, fs.map (eVal G))
def eRel (G : eG) (h : eH) (H : Heap) : Prop := H.size = G.B + h.2.1 ∧ 1 ≤ h.2.1 ∧ ∀ r x, h.1 r = some x → 1 ≤ r → r < h.2.1 ∧ va_at G.D G.cl (G.B + r, eCo G x) H
def eAs (f : Value → Value) : Nat → eLo → List (Nat × Value)
  | _, [] => []
  | i, none :: r => eAs f (i + 1) r
  | i, some v :: r => (i, f v) :: eAs f (i + 1) r
theorem eAs_mem (f : Value → Value) : ∀ (lo : eLo) (i j : Nat) (w : Value), (j, w) ∈ eAs f i lo ↔ ∃ (k : Nat) (v : Value), j = i + k ∧ lo[k]? = some (some v) ∧ w = f v := by
  intro lo
  induction lo with
  | nil =>
    intro i j w
    simp [eAs]
  | cons a r ih =>
    intro i j w
    cases a with
    | none =>
      simp only [eAs, ih]
      constructor
      · rintro ⟨k, v, h1, h2, h3⟩
        exact ⟨k + 1, v, by omega, by simpa using h2, h3⟩
      · rintro ⟨k, v, h1, h2, h3⟩
        cases k with
        | zero => simp at h2
        | succ k => exact ⟨k, v, by omega, by simpa using h2, h3⟩
    | some a =>
      simp only [eAs, List.mem_cons, Prod.mk.injEq, ih]
      constructor
      · rintro (⟨h1, h2⟩ | ⟨k, v, h1, h2, h3⟩)
        · exact ⟨0, a, by omega, by simp, h2⟩
        · exact ⟨k + 1, v, by omega, by simpa using h2, h3⟩
      · rintro ⟨k, v, h1, h2, h3⟩
        cases k with
        | zero =>
          left
          simp at h2
          subst h2
          exact ⟨by omega, h3⟩
        | succ k => exact Or.inr ⟨k, v, by omega, by simpa using h2, h3⟩
def eLR (G : eG) (ls : Array Slot) (nL : Nat) (lo : eLo) : Prop := lo.length = nL ∧ lv_has ls nL (eAs (eVal G) 0 lo)
theorem eLR.at {G : eG} {ls : Array Slot} {nL i : Nat} {lo : eLo} {v : Value} (h : eLR G ls nL lo) (hi : lo[i]? = some (some v)) : ls[i]? = some (.val (eVal G v)) :=
  h.2.2.2 (i, eVal G v) ((eAs_mem _ lo 0 i _).mpr ⟨i, v, by omega, hi, rfl⟩)
theorem eLR.st1 {G : eG} {ls ls' : Array Slot} {nL i : Nat} {lo : eLo} {v : Value} (h : eLR G ls nL lo) (h' : lv_has ls' nL ((i, eVal G v) :: (eAs (eVal G) 0 lo).filter (fun q => !(q.1 == i) && !(q.1 + 1 == i && q.2.category == 2)))) : eLR G ls' nL (eSt1 lo i v) := by
  refine ⟨by simp [eSt1, eKill_len, h.1], h'.1, h'.2.1, fun q hq => h'.2.2 q ?_⟩
  obtain ⟨j, w⟩ := q
  obtain ⟨k, u, e1, e2, e3⟩ := (eAs_mem _ _ 0 j w).mp hq
  simp only [Nat.zero_add] at e1
  subst e1
  subst e3
  unfold eSt1 at e2
  rw [List.getElem?_set] at e2
  split at e2
  · rename_i he
    subst he
    split at e2
    · cases e2
      exact List.mem_cons_self
    · cases e2
  · rename_i hne
    obtain ⟨g1, g2⟩ := eKill_at e2
    refine List.mem_cons_of_mem _ (List.mem_filter.mpr ⟨(eAs_mem _ _ 0 j _).mpr ⟨j, u, by omega, g1, rfl⟩, ?_⟩)
    simp only [eVal_cat, Bool.and_eq_true, Bool.not_eq_true', beq_eq_false_iff_ne, ne_eq, Bool.and_eq_false_imp, beq_iff_eq]
    exact ⟨fun e => hne e.symm, fun e1 e2 => g2 ⟨e1, e2⟩⟩
theorem eLR.st2 {G : eG} {ls ls' : Array Slot} {nL i : Nat} {lo : eLo} {v : Value} (h : eLR G ls nL lo) (h' : lv_has ls' nL ((i, eVal G v) :: (eAs (eVal G) 0 lo).filter (fun q => !(q.1 == i) && (!(q.1 == i + 1) && !(q.1 + 1 == i && q.2.category == 2))))) : eLR G ls' nL (eSt2 lo i v) := by
  refine ⟨by simp [eSt2, eKill_len, h.1], h'.1, h'.2.1, fun q hq => h'.2.2 q ?_⟩
  obtain ⟨j, w⟩ := q
  obtain ⟨k, u, e1, e2, e3⟩ := (eAs_mem _ _ 0 j w).mp hq
  simp only [Nat.zero_add] at e1
  subst e1
  subst e3
  unfold eSt2 at e2
  rw [List.getElem?_set] at e2
  split at e2
  · split at e2 <;> cases e2
  · rename_i hn2
    rw [List.getElem?_set] at e2
    split at e2
    · rename_i he
      subst he
      split at e2
      · cases e2
        exact List.mem_cons_self
      · cases e2
    · rename_i hne
      obtain ⟨g1, g2⟩ := eKill_at e2
      refine List.mem_cons_of_mem _ (List.mem_filter.mpr ⟨(eAs_mem _ _ 0 j _).mpr ⟨j, u, by omega, g1, rfl⟩, ?_⟩)
      simp only [eVal_cat, Bool.and_eq_true, Bool.not_eq_true', beq_eq_false_iff_ne, ne_eq, Bool.and_eq_false_imp, beq_iff_eq]
      exact ⟨fun e => hne e.symm, fun e => hn2 e.symm, fun e1 e2 => g2 ⟨e1, e2⟩⟩
end
section
theorem eI1_some {st : List Value} {f : Int32 → List Value → Option eT} {t : eT} (h : eI1 st f = some t) : ∃ x r, st = .int x :: r ∧ f x r = some t := by
  unfold eI1 at h
  split at h
  · exact ⟨_, _, rfl, h⟩
  · cases h
theorem eI2_some {st : List Value} {f : Int32 → Int32 → List Value → Option eT} {t : eT} (h : eI2 st f = some t) : ∃ x y r, st = .int y :: .int x :: r ∧ f x y r = some t := by
  unfold eI2 at h
  split at h
  · exact ⟨_, _, _, rfl, h⟩
  · cases h
theorem eJ1_some {st : List Value} {f : Int64 → List Value → Option eT} {t : eT} (h : eJ1 st f = some t) : ∃ x r, st = .long x :: r ∧ f x r = some t := by
  unfold eJ1 at h
  split at h
  · exact ⟨_, _, rfl, h⟩
  · cases h
theorem eJ2_some {st : List Value} {f : Int64 → Int64 → List Value → Option eT} {t : eT} (h : eJ2 st f = some t) : ∃ x y r, st = .long y :: .long x :: r ∧ f x y r = some t := by
  unfold eJ2 at h
  split at h
  · exact ⟨_, _, _, rfl, h⟩
  · cases h
theorem eJI_some {st : List Value} {f : Int64 → Int32 → List Value → Option eT} {t : eT} (h : eJI st f = some t) : ∃ x y r, st = .int y :: .long x :: r ∧ f x y r = some t := by
  unfold eJI at h
  split at h
  · exact ⟨_, _, _, rfl, h⟩
  · cases h
theorem eR1_some {st : List Value} {f : Nat → List Value → Option eT} {t : eT} (h : eR1 st f = some t) : ∃ x r, st = .ref x :: r ∧ f x r = some t := by
  unfold eR1 at h
  split at h
  · exact ⟨_, _, rfl, h⟩
  · cases h
theorem eQ1_some {st : List Value} {f : Option Nat → List Value → Option eT} {t : eT} (h : eQ1 st f = some t) : ∃ x r, st = eRf x :: r ∧ f x r = some t := by
  unfold eQ1 at h
  split at h
  · exact ⟨some _, _, rfl, h⟩
  · exact ⟨none, _, rfl, h⟩
  · cases h
theorem eIA_some {st : List Value} {f : Nat → Int32 → List Value → Option eT} {t : eT} (h : eIA st f = some t) : ∃ a i r, st = .int i :: .ref a :: r ∧ f a i r = some t := by
  unfold eIA at h
  split at h
  · exact ⟨_, _, _, rfl, h⟩
  · cases h
theorem eGet_some {lo : eLo} {i : Nat} {v : Value} (h : eGet lo i = some v) : lo[i]? = some (some v) := by
  unfold eGet at h
  cases hq : lo[i]? with
  | none => rw [hq] at h; cases h
  | some o => rw [hq] at h; cases o with
    | none => cases h
    | some u => cases h; rfl
theorem eLoI_some {lo : eLo} {i : Nat} {f : Int32 → Option eT} {t : eT} (h : eLoI lo i f = some t) : ∃ x, lo[i]? = some (some (.int x)) ∧ f x = some t := by
  unfold eLoI at h
  split at h
  · rename_i x hx
    exact ⟨_, eGet_some hx, h⟩
  · cases h
theorem eLoJ_some {lo : eLo} {i : Nat} {f : Int64 → Option eT} {t : eT} (h : eLoJ lo i f = some t) : ∃ x, lo[i]? = some (some (.long x)) ∧ f x = some t := by
  unfold eLoJ at h
  split at h
  · rename_i x hx
    exact ⟨_, eGet_some hx, h⟩
  · cases h
theorem eLoA_some {lo : eLo} {i : Nat} {f : Option Nat → Option eT} {t : eT} (h : eLoA lo i f = some t) : ∃ x, lo[i]? = some (some (eRf x)) ∧ f x = some t := by
  unfold eLoA at h
  split at h
  · rename_i x hx
    exact ⟨some _, eGet_some hx, h⟩
  · rename_i hx
    exact ⟨none, eGet_some hx, h⟩
  · cases h
theorem eN_inj {pc : Nat} {lo : eLo} {st : List Value} {h : eH} {x : eS} (q : eN pc lo st h = some x) : (pc, lo, st, h) = x := by
  exact Option.some.inj q
theorem eTo_some {pc : Nat} {off : Int} {f : Nat → Option eT} {t : eT} (h : eTo pc off f = some t) : ∃ tgt : Nat, (pc : Int) + off = (tgt : Int) ∧ f tgt = some t := by
  unfold eTo at h
  split at h
  · rename_i n hn
    exact ⟨n, hn, h⟩
  · cases h
theorem eBr_some {b : Bool} {pc : Nat} {off : Int} {lo : eLo} {r : List Value} {h : eH} {x : eS} (q : eBr b pc off lo r h = some x) : ∃ tgt : Nat, (pc : Int) + off = (tgt : Int) ∧ ((b = true ∧ (tgt, lo, r, h) = x) ∨ (b = false ∧ (pc + 3, lo, r, h) = x)) := by
  obtain ⟨tgt, h1, h2⟩ := eTo_some q
  refine ⟨tgt, h1, ?_⟩
  cases b
  · exact Or.inr ⟨rfl, eN_inj h2⟩
  · exact Or.inl ⟨rfl, eN_inj h2⟩
theorem eIn_some {i : Int32} {n : Nat} {x : Option eT} {t : eT} (h : eIn i n x = some t) : ¬ (i < 0 ∨ n ≤ i.toNatClampNeg) ∧ x = some t := by
  unfold eIn at h
  split at h
  · cases h
  · rename_i hn
    exact ⟨hn, h⟩
theorem eIf_then {c : Prop} {d : Decidable c} {y : Option eT} {t : eT} (h : (if c then none else y) = some t) : ¬ c ∧ y = some t := by
  split at h
  · cases h
  · rename_i hn
    exact ⟨hn, h⟩
theorem eIf_else {c : Prop} {d : Decidable c} {y : Option eT} {t : eT} (h : (if c then y else none) = some t) : c ∧ y = some t := by
  split at h
  · rename_i hn
    exact ⟨hn, h⟩
  · cases h
def eIl (i : Instr) : Nat := match i with
  | .bipush _ => 2
  | .iload _ => 2
  | .lload _ => 2
  | .aload _ => 2
  | .istore _ => 2
  | .lstore _ => 2
  | .astore _ => 2
  | .ldc _ => 2
  | .newarray _ => 2
  | .sipush _ => 3
  | .ldc2_w _ => 3
  | .iinc _ _ => 3
  | .goto _ => 3
  | .ifCond _ _ => 3
  | .if_icmp _ _ => 3
  | .ifnull _ => 3
  | .getfield _ => 3
  | .putfield _ => 3
  | .anewarray _ => 3
  | .new _ => 3
  | .invokestatic _ => 3
  | .invokevirtual _ => 3
  | .invokespecial _ => 3
  | .tableswitch _ _ _ _ => 0
  | _ => 1
theorem eRel.at {G : eG} {h : eH} {H : Heap} {a : Nat} {x : eE} (q : eRel G h H) (ha : ¬ a = 0) (hx : h.1 a = some x) : va_at G.D G.cl (eAd G a, eCo G x) H := by
  rw [eAd_pos ha]
  exact (q.2.2 a x hx (by omega)).2
theorem eRel.set {G : eG} {h : eH} {H H1 : Heap} {a : Nat} {x0 x : eE} (q : eRel G h H) (ha : ¬ a = 0) (hx : h.1 a = some x0) (hz : H1.size = H.size) (ho : ∀ z, z ≠ eAd G a → H1[z]? = H[z]?) (hat : va_at G.D G.cl (eAd G a, eCo G x) H1) : eRel G (eSetH h a x) H1 := by
  rw [eAd_pos ha] at ho hat
  refine ⟨by rw [hz]; exact q.1, q.2.1, fun r y hy h1 => ?_⟩
  have hy' : (if r = a then some x else h.1 r) = some y := hy
  by_cases hr : r = a
  · subst hr
    rw [if_pos rfl] at hy'
    cases hy'
    exact ⟨(q.2.2 r x0 hx h1).1, hat⟩
  · rw [if_neg hr] at hy'
    obtain ⟨h2, h3⟩ := q.2.2 r y hy' h1
    exact ⟨h2, h3.kept (ho _ (by show G.B + r ≠ G.B + a; omega))⟩
theorem eRel.new {G : eG} {h : eH} {H H1 : Heap} (q : eRel G h H) (x : eE) (n : Nat) (hz : H1.size = H.size + 1) (ho : ∀ z, z < H.size → H1[z]? = H[z]?) (hat : va_at G.D G.cl (H.size, eCo G x) H1) : eRel G (eNew h x n) H1 := by
  refine ⟨by rw [hz, q.1]; rfl, by show 1 ≤ h.2.1 + 1; omega, fun r y hy h1 => ?_⟩
  have hy' : (if r = h.2.1 then some x else h.1 r) = some y := hy
  by_cases hr : r = h.2.1
  · subst hr
    rw [if_pos rfl] at hy'
    cases hy'
    exact ⟨Nat.lt_succ_self _, by rw [← q.1]; exact hat⟩
  · rw [if_neg hr] at hy'
    obtain ⟨h2, h3⟩ := q.2.2 r y hy' h1
    exact ⟨Nat.lt_succ_of_lt h2, h3.kept (ho _ (by show G.B + r < H.size; rw [q.1]; omega))⟩
theorem eRel.next {G : eG} {h : eH} {H : Heap} (q : eRel G h H) : eAd G h.2.1 = H.size := by
  rw [eAd_pos (by have := q.2.1; omega), q.1]
def eA0 (G : eG) : Nat → Prop := fun q => G.B < q
def eTy (G : eG) (N : eW) : List (ClassId × FieldType) := N.ty.zipIdx.map fun q => (G.ca q.2, q.1)
theorem eTy_at {G : eG} {N : eW} {t : Nat} {ty : FieldType} (h : N.ty[t]? = some ty) : (eTy G N)[t]? = some (G.ca t, ty) := by
  simp [eTy, h]
theorem eS_new {G : eG} {H0 H H1 : Heap} {locs : List Loc} (hS : va_S (eA0 G) H0 H locs) (hz : H1.size = H.size + 1) (ho : ∀ z, z < H.size → H1[z]? = H[z]?) : va_S (eA0 G) H0 H1 locs :=
  ⟨Nat.le_trans hS.1 (by omega), fun x h1 h2 => (ho x (Nat.lt_of_lt_of_le h1 hS.1)).trans (hS.2.1 x h1 h2), hS.2.2⟩
def eGdw (w : Cond) : Bool := (w.onTables && w.keeps) || (match w with
  | .arrayClass _ => true
  | _ => false)
def lw_gd : List Cond := lw_tbl.filter eGdw
theorem lw_gd_in {w : Cond} (h : w ∈ lw_tbl) (hg : eGdw w = true) : w ∈ lw_gd := List.mem_filter.mpr ⟨h, hg⟩
theorem lw_gd_good : GoodIn lw_gd lw_gd := fun w hw => ⟨hw, by
  have hg : eGdw w = true := (List.mem_filter.mp hw).2
  unfold eGdw at hg
  rcases Bool.or_eq_true_iff.mp hg with h | h
  · exact Or.inl h
  · right
    split at h
    · exact ⟨_, rfl⟩
    · cases h⟩
def exSp (C : String) : List Cond := [.declares (Bundle.initS "java/lang/RuntimeException"), .declares (Bundle.initS "java/lang/Exception"), .declares (Bundle.initS Bundle.tN), .castable C C,
  .laysStatic Bundle.tN "UNASSIGNED_STACK" Bundle.steD, .laysStatic Bundle.tN "SUPPRESSED_SENTINEL" Bundle.listD, .isRef (.static Bundle.tN "UNASSIGNED_STACK" Bundle.steD), .isRef (.static Bundle.tN "SUPPRESSED_SENTINEL" Bundle.listD)]
def exSt (G : eG) (U : State) : Prop := ∀ cl k st, U.vm.findClass Bundle.tN = some cl → U.vm.classes[cl]? = some k → k.statics = some st → st ≤ G.B
theorem exSt.moved {G : eG} {s U : State} (hv : s.vm.Alike U.vm) (h : exSt G s) : exSt G U := fun cl k st h1 h2 h3 => by
  rw [hv.findClass] at h1
  obtain ⟨k0, hk0⟩ := Vm.classAt_of_findClass h1
  obtain ⟨k', hk', he⟩ := hv.2.2 _ _ hk0
  cases h2.symm.trans hk'
  exact h cl k0 st h1 hk0 (by rw [he] at h3; exact h3)
theorem exLays {G : eG} {s U : State} {F D : String} (hv : s.vm.Alike U.vm) (hH : ∀ q, q ≤ G.B → U.heap[q]? = s.heap[q]?) (h0 : exSt G s) (w : (Cond.laysStatic Bundle.tN F D).before #[] s = true) : (Cond.laysStatic Bundle.tN F D).before #[] U = true := by
  obtain ⟨cl, k, i, f, a, cell, hc, hi, hst, ha, hcell, hs, hcls, hlt, hty⟩ := Cond.laysStatic_spec w
  obtain ⟨k', hi', hek⟩ := State.fieldFound?_setVm hv hi
  have hb := h0 cl k a hc (State.fieldFound?_class hi) ha
  exact Cond.laysStatic_of (by rw [hv.findClass]; exact hc) hi' hst (by rw [hek]; exact ha) (by rw [hH a hb]; exact hcell) hs hcls hlt (by rw [hek]; exact hty)
theorem exRef {G : eG} {s U : State} {F D : String} (hv : s.vm.Alike U.vm) (hH : ∀ q, q ≤ G.B → U.heap[q]? = s.heap[q]?) (h0 : exSt G s) (w : (Cond.laysStatic Bundle.tN F D).before #[] s = true) (r : (Cond.isRef (.static Bundle.tN F D)).before #[] s = true) : (Cond.isRef (.static Bundle.tN F D)).before #[] U = true := by
  obtain ⟨cl, k, i, f, a, cell, hc, hi, hst, ha, hcell, hs, hcls, hlt, hty⟩ := Cond.laysStatic_spec w
  obtain ⟨k', hi', hek⟩ := State.fieldFound?_setVm hv hi
  have hb := h0 cl k a hc (State.fieldFound?_class hi) ha
  have hi2 : U.fieldFound? Bundle.tN F D = some (cl, k', i, f) := hi'
  have ha' : k'.statics = some a := by rw [hek]; exact ha
  have hcell' : U.heap[a]? = some cell := by rw [hH a hb]; exact hcell
  have e1 : (Term.static Bundle.tN F D).eval #[] s none [] s = cell.slots[f.slot]? := by simp [Term.eval, State.fieldNamed?, hi, hst, ha, hcell, hs]
  have e2 : (Term.static Bundle.tN F D).eval #[] U none [] U = cell.slots[f.slot]? := by simp [Term.eval, State.fieldNamed?, hi2, hst, ha', hcell', hs]
  simp only [Cond.before, Cond.holds, Cond.value, e1] at r
  simp only [Cond.before, Cond.holds, Cond.value, e2]
  exact r
def eFx (P : eP) (N : eW) (G : eG) (U : State) : Prop := ((exSt G U ∧ ∀ k pc q, P.thr k pc = some q → (∃ tx a, vk_R (N.cn (eOwn P k)) q.2.2.1 tx a U) ∧ ∀ w ∈ exSp (N.cn q.1), w.before #[] U = true)) ∧ (∀ o ix t, P.arr o ix = some t → ∃ C, N.ty[t]? = some (.object C) ∧ va_AO C U) ∧
  (∀ o ix k n, P.mth o ix = some (2, k, n) → Cond.methodLink (N.cn o) ix (N.mn k) ∈ lw_gd ∨ ∃ host, va_Nw (.methodLinkNest (N.cn o) ix (N.mn k) host) U) ∧
  ∀ k q, q ∈ eHs P k → ∀ c1 r, G.cl[c1]? = some r → ¬ q.2.2.2 = c1 → va_Nc (N.cn c1) (N.cn q.2.2.2) U
theorem exSp_moved {G : eG} {s U : State} {C : String} (hW : s.WarmedH U.vm) (hH : ∀ q, q ≤ G.B → U.heap[q]? = s.heap[q]?) (h0 : exSt G s) (h : ∀ w ∈ exSp C, w.before #[] s = true) : ∀ w ∈ exSp C, w.before #[] U = true := by
  have l1 := h (.laysStatic Bundle.tN "UNASSIGNED_STACK" Bundle.steD) (by simp [exSp])
  have l2 := h (.laysStatic Bundle.tN "SUPPRESSED_SENTINEL" Bundle.listD) (by simp [exSp])
  intro w hw
  simp only [exSp, List.mem_cons, List.not_mem_nil, or_false] at hw
  rcases hw with rfl | rfl | rfl | rfl | rfl | rfl | rfl | rfl
  · exact va_Nw.warmD hW (h _ (by simp [exSp]))
  · exact va_Nw.warmD hW (h _ (by simp [exSp]))
  · exact va_Nw.warmD hW (h _ (by simp [exSp]))
  · exact va_Nw.warmC hW (h _ (by simp [exSp]))
  · exact exLays hW.alike hH h0 l1
  · exact exLays hW.alike hH h0 l2
  · exact exRef hW.alike hH h0 l1 (h _ (by simp [exSp]))
  · exact exRef hW.alike hH h0 l2 (h _ (by simp [exSp]))
theorem eFx.warm {P : eP} {N : eW} {G : eG} {s U : State} (hW : s.WarmedH U.vm) (hH : ∀ q, q ≤ G.B → U.heap[q]? = s.heap[q]?) (h : eFx P N G s) : eFx P N G U :=
  ⟨⟨h.1.1.moved hW.alike, fun k pc q hq => by
    obtain ⟨⟨tx, a, hZ⟩, hw⟩ := h.1.2 k pc q hq
    exact ⟨⟨tx, a, hZ.warm hW⟩, exSp_moved hW hH h.1.1 hw⟩⟩, fun o ix t ht => by
    obtain ⟨C, h1, h2⟩ := h.2.1 o ix t ht
    exact ⟨C, h1, h2.moved hW.alike⟩, fun o ix k n hm => by
    rcases h.2.2.1 o ix k n hm with h1 | ⟨host, h1⟩
    · exact Or.inl h1
    · exact Or.inr ⟨host, h1.warmM hW⟩, fun k q hq c1 r hr hne => (h.2.2.2 k q hq c1 r hr hne).moved hW.alike⟩
def eCx (P : eP) (N : eW) (G : eG) (X : Nat × (Nat → Int32)) (p : Program) (s : State) (m : MethodId) (args : Array Value) (meth : Method) (c : Code) (k : Nat) : Prop :=
  p.tables.exec = Jvm.exec ∧ c.code = N.cd k ∧ c.maxLocals = eNL P k ∧ s.vm.findClass (N.cn (eOwn P k)) = some m.cls ∧ (∀ w ∈ lw_gd, w.before args s = true) ∧ va_K G.D G.cl (eTy G N) s ∧
  (va_X G.b X.1 X.2 s s.heap ∧ G.b ≤ G.B ∧ G.B < s.heap.size) ∧ eFx P N G s ∧ (P.ini k = true → meth.name = "<init>") ∧ meth.sig.returnType = eRt P k ∧ meth.locks = false ∧ (eHs P k = [] → c.exceptionTable.toList = []) ∧ ∀ raw, Cond.codeWith (N.mn k) (N.cd k) (eNL P k) (eRt P k) raw ∈ lw_gd → c.exceptionTable.toList.map (fun h => (h.startPc, h.endPc, h.handlerPc, h.catchType)) = raw
def gIns (P : eP) (N : eW) : Prop := ∀ k pc i len, P.ins k pc = some (i, len) → decode (N.cd k) pc = .ok (i, len) ∧ (eIl i = 0 ∨ len = eIl i)
def gFld (P : eP) (N : eW) (cl : List vw_C) : Prop := ∀ o ix c j ty fin, P.fld o ix = some (c, j, ty, fin) → ∃ (C : String) (T : u_T) (n : Nat) (ty0 : Nat → FieldType), cl[c]? = some (C, T, n) ∧ j < n ∧ C = N.cn c ∧ (T j).1 = C ∧
  Cond.fieldLink (N.cn o) ix C (T j).2.1 (T j).2.2.1 ∈ lw_gd ∧ (∀ w ∈ u_ws C T n, w ∈ lw_gd) ∧ (T j).2.2.2 = fin ∧ parseFieldDescriptor (T j).2.2.1 = some ty ∧
  (∀ k, k < n → parseFieldDescriptor (T k).2.2.1 = some (ty0 k)) ∧ (∀ a, a < n → ∀ b, b < n → a ≠ b → (T a).2.1 ≠ (T b).2.1)
def eBa (P : eP) (G : eG) (s : State) (k c0 s0 : Nat) (lo : eLo) (h : eH) (H : Heap) (locs : List Loc) (cells slots : Nat) (ls : Array Slot) : Prop :=
  eLR G ls (eNL P k) lo ∧ eRel G h H ∧ va_S (eA0 G) s.heap H locs ∧ cells + c0 = h.2.1 ∧ slots + s0 = h.2.2
section ES
variable {p : Program} {l : Launch} {e : Env} {R : Room} {s : State} {m : MethodId} {args : Array Value} {below : List Frame} {meth : Method} {c : Code} {H : Heap} {locs : List Loc} {cells slots : Nat} {Q : State → Prop}
variable {P : eP} {N : eW} {G : eG} {X : Nat × (Nat → Int32)} {k pc c0 s0 : Nat} {ls : Array Slot} {lo : eLo} {st : List Value} {h : eH} {x : eS}
def eNext (P : eP) (G : eG) (p : Program) (l : Launch) (e : Env) (R : Room) (s : State) (m : MethodId) (args : Array Value) (below : List Frame) (meth : Method) (c : Code) (Q : State → Prop) (k c0 s0 : Nat) (x : eS) : Prop :=
  ∀ (H : Heap) (locs : List Loc) (cells slots : Nat) (ls : Array Slot), eBa P G s k c0 s0 x.2.1 x.2.2.2 H locs cells slots ls → W p l e R s m args below meth c H locs cells slots Q (F0 m x.1 ls (x.2.2.1.map (eVal G)))
def eGoal (P : eP) (G : eG) (p : Program) (l : Launch) (e : Env) (R : Room) (s : State) (m : MethodId) (args : Array Value) (below : List Frame) (meth : Method) (c : Code) (H : Heap) (locs : List Loc) (cells slots : Nat) (Q : State → Prop) (k c0 s0 pc : Nat) (ls : Array Slot) (st : List Value) (h : eH) (x : eS) : Prop :=
  (h.2.1 ≤ x.2.2.2.2.1 ∧ h.2.2 ≤ x.2.2.2.2.2) ∧ (x.2.2.2.2.1 ≤ R.cells + c0 → x.2.2.2.2.2 ≤ R.slots + s0 → 1 ≤ R.frames → 100 ≤ R.locals → eNext P G p l e R s m args below meth c Q k c0 s0 x → W p l e R s m args below meth c H locs cells slots Q (F0 m pc ls (st.map (eVal G))))
theorem es_iconst {n : Int} (cx : eCx P N G X p s m args meth c k) (hd : decode (N.cd k) pc = .ok (.iconst n, 1)) (hi : eIns P X k (.iconst n) pc lo st h = some x) (b : eBa P G s k c0 s0 lo h H locs cells slots ls) :
    eGoal P G p l e R s m args below meth c H locs cells slots Q k c0 s0 pc ls st h x := by
  obtain rfl := eN_inj hi
  exact ⟨⟨Nat.le_refl _, Nat.le_refl _⟩, fun _ _ _ _ kk => lv_iconst cx.1 cx.2.1 hd rfl (kk _ _ _ _ _ b)⟩
theorem es_bipush {n : Int} (cx : eCx P N G X p s m args meth c k) (hd : decode (N.cd k) pc = .ok (.bipush n, 2)) (hi : eIns P X k (.bipush n) pc lo st h = some x) (b : eBa P G s k c0 s0 lo h H locs cells slots ls) :
    eGoal P G p l e R s m args below meth c H locs cells slots Q k c0 s0 pc ls st h x := by
  obtain rfl := eN_inj hi
  exact ⟨⟨Nat.le_refl _, Nat.le_refl _⟩, fun _ _ _ _ kk => lv_bipush cx.1 cx.2.1 hd rfl (kk _ _ _ _ _ b)⟩
theorem es_sipush {n : Int} (cx : eCx P N G X p s m args meth c k) (hd : decode (N.cd k) pc = .ok (.sipush n, 3)) (hi : eIns P X k (.sipush n) pc lo st h = some x) (b : eBa P G s k c0 s0 lo h H locs cells slots ls) :
    eGoal P G p l e R s m args below meth c H locs cells slots Q k c0 s0 pc ls st h x := by
  obtain rfl := eN_inj hi
  exact ⟨⟨Nat.le_refl _, Nat.le_refl _⟩, fun _ _ _ _ kk => lv_sipush cx.1 cx.2.1 hd rfl (kk _ _ _ _ _ b)⟩
theorem es_lconst {n : Fin 2} (cx : eCx P N G X p s m args meth c k) (hd : decode (N.cd k) pc = .ok (.lconst n, 1)) (hi : eIns P X k (.lconst n) pc lo st h = some x) (b : eBa P G s k c0 s0 lo h H locs cells slots ls) :
    eGoal P G p l e R s m args below meth c H locs cells slots Q k c0 s0 pc ls st h x := by
  obtain rfl := eN_inj hi
  exact ⟨⟨Nat.le_refl _, Nat.le_refl _⟩, fun _ _ _ _ kk => lv_lconst cx.1 cx.2.1 hd rfl (kk _ _ _ _ _ b)⟩
theorem es_aconst_null (cx : eCx P N G X p s m args meth c k) (hd : decode (N.cd k) pc = .ok (.aconst_null, 1)) (hi : eIns P X k (.aconst_null) pc lo st h = some x) (b : eBa P G s k c0 s0 lo h H locs cells slots ls) :
    eGoal P G p l e R s m args below meth c H locs cells slots Q k c0 s0 pc ls st h x := by
  obtain rfl := eN_inj hi
  exact ⟨⟨Nat.le_refl _, Nat.le_refl _⟩, fun _ _ _ _ kk => lv_null cx.1 cx.2.1 hd (kk _ _ _ _ _ b)⟩
theorem es_iload {i : Nat} (cx : eCx P N G X p s m args meth c k) (hd : decode (N.cd k) pc = .ok (.iload i, 2)) (hi : eIns P X k (.iload i) pc lo st h = some x) (b : eBa P G s k c0 s0 lo h H locs cells slots ls) :
    eGoal P G p l e R s m args below meth c H locs cells slots Q k c0 s0 pc ls st h x := by
  obtain ⟨y, h1, h2⟩ := eLoI_some hi
  obtain rfl := eN_inj h2
  exact ⟨⟨Nat.le_refl _, Nat.le_refl _⟩, fun _ _ _ _ kk => lv_iload cx.1 cx.2.1 hd (b.1.at h1) (kk _ _ _ _ _ b)⟩
theorem es_iload_n {i : Fin 4} (cx : eCx P N G X p s m args meth c k) (hd : decode (N.cd k) pc = .ok (.iload_n i, 1)) (hi : eIns P X k (.iload_n i) pc lo st h = some x) (b : eBa P G s k c0 s0 lo h H locs cells slots ls) :
    eGoal P G p l e R s m args below meth c H locs cells slots Q k c0 s0 pc ls st h x := by
  obtain ⟨y, h1, h2⟩ := eLoI_some hi
  obtain rfl := eN_inj h2
  exact ⟨⟨Nat.le_refl _, Nat.le_refl _⟩, fun _ _ _ _ kk => lv_iload_n cx.1 cx.2.1 hd rfl (b.1.at h1) (kk _ _ _ _ _ b)⟩
theorem es_lload {i : Nat} (cx : eCx P N G X p s m args meth c k) (hd : decode (N.cd k) pc = .ok (.lload i, 2)) (hi : eIns P X k (.lload i) pc lo st h = some x) (b : eBa P G s k c0 s0 lo h H locs cells slots ls) :
    eGoal P G p l e R s m args below meth c H locs cells slots Q k c0 s0 pc ls st h x := by
  obtain ⟨y, h1, h2⟩ := eLoJ_some hi
  obtain rfl := eN_inj h2
  exact ⟨⟨Nat.le_refl _, Nat.le_refl _⟩, fun _ _ _ _ kk => lv_lload cx.1 cx.2.1 hd (b.1.at h1) (kk _ _ _ _ _ b)⟩
theorem es_lload_n {i : Fin 4} (cx : eCx P N G X p s m args meth c k) (hd : decode (N.cd k) pc = .ok (.lload_n i, 1)) (hi : eIns P X k (.lload_n i) pc lo st h = some x) (b : eBa P G s k c0 s0 lo h H locs cells slots ls) :
    eGoal P G p l e R s m args below meth c H locs cells slots Q k c0 s0 pc ls st h x := by
  obtain ⟨y, h1, h2⟩ := eLoJ_some hi
  obtain rfl := eN_inj h2
  exact ⟨⟨Nat.le_refl _, Nat.le_refl _⟩, fun _ _ _ _ kk => lv_lload_n cx.1 cx.2.1 hd rfl (b.1.at h1) (kk _ _ _ _ _ b)⟩
theorem es_aload {i : Nat} (cx : eCx P N G X p s m args meth c k) (hd : decode (N.cd k) pc = .ok (.aload i, 2)) (hi : eIns P X k (.aload i) pc lo st h = some x) (b : eBa P G s k c0 s0 lo h H locs cells slots ls) :
    eGoal P G p l e R s m args below meth c H locs cells slots Q k c0 s0 pc ls st h x := by
  simp only [eIns] at hi
  obtain ⟨y, h1, h2⟩ := eLoA_some hi
  obtain rfl := eN_inj h2
  cases y with
  | none => exact ⟨⟨Nat.le_refl _, Nat.le_refl _⟩, fun _ _ _ _ kk => lv_aloadN cx.1 cx.2.1 hd (b.1.at h1) (kk _ _ _ _ _ b)⟩
  | some y => exact ⟨⟨Nat.le_refl _, Nat.le_refl _⟩, fun _ _ _ _ kk => lv_aload cx.1 cx.2.1 hd (b.1.at h1) (kk _ _ _ _ _ b)⟩
theorem es_aload_n {i : Fin 4} (cx : eCx P N G X p s m args meth c k) (hd : decode (N.cd k) pc = .ok (.aload_n i, 1)) (hi : eIns P X k (.aload_n i) pc lo st h = some x) (b : eBa P G s k c0 s0 lo h H locs cells slots ls) :
    eGoal P G p l e R s m args below meth c H locs cells slots Q k c0 s0 pc ls st h x := by
  simp only [eIns] at hi
  obtain ⟨y, h1, h2⟩ := eLoA_some hi
  obtain rfl := eN_inj h2
  cases y with
  | none => exact ⟨⟨Nat.le_refl _, Nat.le_refl _⟩, fun _ _ _ _ kk => lv_aload_nN cx.1 cx.2.1 hd rfl (b.1.at h1) (kk _ _ _ _ _ b)⟩
  | some y => exact ⟨⟨Nat.le_refl _, Nat.le_refl _⟩, fun _ _ _ _ kk => lv_aload_n cx.1 cx.2.1 hd rfl (b.1.at h1) (kk _ _ _ _ _ b)⟩
theorem es_istore {i : Nat} (cx : eCx P N G X p s m args meth c k) (hd : decode (N.cd k) pc = .ok (.istore i, 2)) (hi : eIns P X k (.istore i) pc lo st h = some x) (b : eBa P G s k c0 s0 lo h H locs cells slots ls) :
    eGoal P G p l e R s m args below meth c H locs cells slots Q k c0 s0 pc ls st h x := by
  obtain ⟨y, r, rfl, h2⟩ := eI1_some hi
  obtain ⟨h3, h2⟩ := eIf_else h2
  obtain rfl := eN_inj h2
  exact ⟨⟨Nat.le_refl _, Nat.le_refl _⟩, fun _ _ _ _ kk => lv_istore cx.1 cx.2.1 hd b.1.2 (by rw [← b.1.1]; exact h3) rfl (fun ls1 h4 => kk _ _ _ _ _ ⟨b.1.st1 (v := .int y) h4, b.2⟩)⟩
theorem es_lstore {i : Nat} (cx : eCx P N G X p s m args meth c k) (hd : decode (N.cd k) pc = .ok (.lstore i, 2)) (hi : eIns P X k (.lstore i) pc lo st h = some x) (b : eBa P G s k c0 s0 lo h H locs cells slots ls) :
    eGoal P G p l e R s m args below meth c H locs cells slots Q k c0 s0 pc ls st h x := by
  obtain ⟨y, r, rfl, h2⟩ := eJ1_some hi
  obtain ⟨h3, h2⟩ := eIf_else h2
  obtain rfl := eN_inj h2
  exact ⟨⟨Nat.le_refl _, Nat.le_refl _⟩, fun _ _ _ _ kk => lv_lstore cx.1 cx.2.1 hd b.1.2 (by rw [← b.1.1]; exact h3) rfl (fun ls1 h4 => kk _ _ _ _ _ ⟨b.1.st2 (v := .long y) h4, b.2⟩)⟩
theorem es_astore {i : Nat} (cx : eCx P N G X p s m args meth c k) (hd : decode (N.cd k) pc = .ok (.astore i, 2)) (hi : eIns P X k (.astore i) pc lo st h = some x) (b : eBa P G s k c0 s0 lo h H locs cells slots ls) :
    eGoal P G p l e R s m args below meth c H locs cells slots Q k c0 s0 pc ls st h x := by
  simp only [eIns] at hi
  obtain ⟨y, r, rfl, h2⟩ := eQ1_some hi
  obtain ⟨h3, h2⟩ := eIf_else h2
  obtain rfl := eN_inj h2
  cases y with
  | none => exact ⟨⟨Nat.le_refl _, Nat.le_refl _⟩, fun _ _ _ _ kk => lv_astoreN cx.1 cx.2.1 hd b.1.2 (by rw [← b.1.1]; exact h3) rfl (fun ls1 h4 => kk _ _ _ _ _ ⟨b.1.st1 (v := .null) h4, b.2⟩)⟩
  | some y => exact ⟨⟨Nat.le_refl _, Nat.le_refl _⟩, fun _ _ _ _ kk => lv_astore cx.1 cx.2.1 hd b.1.2 (by rw [← b.1.1]; exact h3) rfl (fun ls1 h4 => kk _ _ _ _ _ ⟨b.1.st1 (v := .ref y) h4, b.2⟩)⟩
theorem es_istore_n {i : Fin 4} (cx : eCx P N G X p s m args meth c k) (hd : decode (N.cd k) pc = .ok (.istore_n i, 1)) (hi : eIns P X k (.istore_n i) pc lo st h = some x) (b : eBa P G s k c0 s0 lo h H locs cells slots ls) :
    eGoal P G p l e R s m args below meth c H locs cells slots Q k c0 s0 pc ls st h x := by
  obtain ⟨y, r, rfl, h2⟩ := eI1_some hi
  obtain ⟨h3, h2⟩ := eIf_else h2
  obtain rfl := eN_inj h2
  exact ⟨⟨Nat.le_refl _, Nat.le_refl _⟩, fun _ _ _ _ kk => lv_istore_n cx.1 cx.2.1 hd rfl b.1.2 (by rw [← b.1.1]; exact h3) rfl (fun ls1 h4 => kk _ _ _ _ _ ⟨b.1.st1 (v := .int y) h4, b.2⟩)⟩
theorem es_lstore_n {i : Fin 4} (cx : eCx P N G X p s m args meth c k) (hd : decode (N.cd k) pc = .ok (.lstore_n i, 1)) (hi : eIns P X k (.lstore_n i) pc lo st h = some x) (b : eBa P G s k c0 s0 lo h H locs cells slots ls) :
    eGoal P G p l e R s m args below meth c H locs cells slots Q k c0 s0 pc ls st h x := by
  obtain ⟨y, r, rfl, h2⟩ := eJ1_some hi
  obtain ⟨h3, h2⟩ := eIf_else h2
  obtain rfl := eN_inj h2
  exact ⟨⟨Nat.le_refl _, Nat.le_refl _⟩, fun _ _ _ _ kk => lv_lstore_n cx.1 cx.2.1 hd rfl b.1.2 (by rw [← b.1.1]; exact h3) rfl (fun ls1 h4 => kk _ _ _ _ _ ⟨b.1.st2 (v := .long y) h4, b.2⟩)⟩
theorem es_astore_n {i : Fin 4} (cx : eCx P N G X p s m args meth c k) (hd : decode (N.cd k) pc = .ok (.astore_n i, 1)) (hi : eIns P X k (.astore_n i) pc lo st h = some x) (b : eBa P G s k c0 s0 lo h H locs cells slots ls) :
    eGoal P G p l e R s m args below meth c H locs cells slots Q k c0 s0 pc ls st h x := by
  simp only [eIns] at hi
  obtain ⟨y, r, rfl, h2⟩ := eQ1_some hi
  obtain ⟨h3, h2⟩ := eIf_else h2
  obtain rfl := eN_inj h2
  cases y with
  | none => exact ⟨⟨Nat.le_refl _, Nat.le_refl _⟩, fun _ _ _ _ kk => lv_astore_nN cx.1 cx.2.1 hd rfl b.1.2 (by rw [← b.1.1]; exact h3) rfl (fun ls1 h4 => kk _ _ _ _ _ ⟨b.1.st1 (v := .null) h4, b.2⟩)⟩
  | some y => exact ⟨⟨Nat.le_refl _, Nat.le_refl _⟩, fun _ _ _ _ kk => lv_astore_n cx.1 cx.2.1 hd rfl b.1.2 (by rw [← b.1.1]; exact h3) rfl (fun ls1 h4 => kk _ _ _ _ _ ⟨b.1.st1 (v := .ref y) h4, b.2⟩)⟩
theorem es_iinc {i : Nat} {n : Int} (cx : eCx P N G X p s m args meth c k) (hd : decode (N.cd k) pc = .ok (.iinc i n, 3)) (hi : eIns P X k (.iinc i n) pc lo st h = some x) (b : eBa P G s k c0 s0 lo h H locs cells slots ls) :
    eGoal P G p l e R s m args below meth c H locs cells slots Q k c0 s0 pc ls st h x := by
  obtain ⟨y, h1, h2⟩ := eLoI_some hi
  obtain ⟨h3, h2⟩ := eIf_else h2
  obtain rfl := eN_inj h2
  obtain ⟨q, hq⟩ := List.mem_iff_getElem?.mp ((eAs_mem (eVal G) lo 0 i (.int y)).mpr ⟨i, .int y, by omega, h1, rfl⟩)
  exact ⟨⟨Nat.le_refl _, Nat.le_refl _⟩, fun _ _ _ _ kk => lv_iinc (k := q) cx.1 cx.2.1 hd b.1.2 hq rfl (by rw [← b.1.1]; exact h3) rfl (fun ls1 h4 => kk _ _ _ _ _ ⟨b.1.st1 (v := .int (y + Int32.ofInt n)) h4, b.2⟩)⟩
theorem es_iadd (cx : eCx P N G X p s m args meth c k) (hd : decode (N.cd k) pc = .ok (.iadd, 1)) (hi : eIns P X k (.iadd) pc lo st h = some x) (b : eBa P G s k c0 s0 lo h H locs cells slots ls) :
    eGoal P G p l e R s m args below meth c H locs cells slots Q k c0 s0 pc ls st h x := by
  obtain ⟨y, z, r, rfl, h2⟩ := eI2_some hi
  obtain rfl := eN_inj h2
  exact ⟨⟨Nat.le_refl _, Nat.le_refl _⟩, fun _ _ _ _ kk => lv_iadd cx.1 cx.2.1 hd (kk _ _ _ _ _ b)⟩
theorem es_isub (cx : eCx P N G X p s m args meth c k) (hd : decode (N.cd k) pc = .ok (.isub, 1)) (hi : eIns P X k (.isub) pc lo st h = some x) (b : eBa P G s k c0 s0 lo h H locs cells slots ls) :
    eGoal P G p l e R s m args below meth c H locs cells slots Q k c0 s0 pc ls st h x := by
  obtain ⟨y, z, r, rfl, h2⟩ := eI2_some hi
  obtain rfl := eN_inj h2
  exact ⟨⟨Nat.le_refl _, Nat.le_refl _⟩, fun _ _ _ _ kk => lv_isub cx.1 cx.2.1 hd (kk _ _ _ _ _ b)⟩
theorem es_imul (cx : eCx P N G X p s m args meth c k) (hd : decode (N.cd k) pc = .ok (.imul, 1)) (hi : eIns P X k (.imul) pc lo st h = some x) (b : eBa P G s k c0 s0 lo h H locs cells slots ls) :
    eGoal P G p l e R s m args below meth c H locs cells slots Q k c0 s0 pc ls st h x := by
  obtain ⟨y, z, r, rfl, h2⟩ := eI2_some hi
  obtain rfl := eN_inj h2
  exact ⟨⟨Nat.le_refl _, Nat.le_refl _⟩, fun _ _ _ _ kk => lv_imul cx.1 cx.2.1 hd (kk _ _ _ _ _ b)⟩
theorem es_iand (cx : eCx P N G X p s m args meth c k) (hd : decode (N.cd k) pc = .ok (.iand, 1)) (hi : eIns P X k (.iand) pc lo st h = some x) (b : eBa P G s k c0 s0 lo h H locs cells slots ls) :
    eGoal P G p l e R s m args below meth c H locs cells slots Q k c0 s0 pc ls st h x := by
  obtain ⟨y, z, r, rfl, h2⟩ := eI2_some hi
  obtain rfl := eN_inj h2
  exact ⟨⟨Nat.le_refl _, Nat.le_refl _⟩, fun _ _ _ _ kk => lv_iand cx.1 cx.2.1 hd (kk _ _ _ _ _ b)⟩
theorem es_ior (cx : eCx P N G X p s m args meth c k) (hd : decode (N.cd k) pc = .ok (.ior, 1)) (hi : eIns P X k (.ior) pc lo st h = some x) (b : eBa P G s k c0 s0 lo h H locs cells slots ls) :
    eGoal P G p l e R s m args below meth c H locs cells slots Q k c0 s0 pc ls st h x := by
  obtain ⟨y, z, r, rfl, h2⟩ := eI2_some hi
  obtain rfl := eN_inj h2
  exact ⟨⟨Nat.le_refl _, Nat.le_refl _⟩, fun _ _ _ _ kk => lv_ior cx.1 cx.2.1 hd (kk _ _ _ _ _ b)⟩
theorem es_ishl (cx : eCx P N G X p s m args meth c k) (hd : decode (N.cd k) pc = .ok (.ishl, 1)) (hi : eIns P X k (.ishl) pc lo st h = some x) (b : eBa P G s k c0 s0 lo h H locs cells slots ls) :
    eGoal P G p l e R s m args below meth c H locs cells slots Q k c0 s0 pc ls st h x := by
  obtain ⟨y, z, r, rfl, h2⟩ := eI2_some hi
  obtain rfl := eN_inj h2
  exact ⟨⟨Nat.le_refl _, Nat.le_refl _⟩, fun _ _ _ _ kk => lv_ishl cx.1 cx.2.1 hd (kk _ _ _ _ _ b)⟩
theorem es_ishr (cx : eCx P N G X p s m args meth c k) (hd : decode (N.cd k) pc = .ok (.ishr, 1)) (hi : eIns P X k (.ishr) pc lo st h = some x) (b : eBa P G s k c0 s0 lo h H locs cells slots ls) :
    eGoal P G p l e R s m args below meth c H locs cells slots Q k c0 s0 pc ls st h x := by
  obtain ⟨y, z, r, rfl, h2⟩ := eI2_some hi
  obtain rfl := eN_inj h2
  exact ⟨⟨Nat.le_refl _, Nat.le_refl _⟩, fun _ _ _ _ kk => lv_ishr cx.1 cx.2.1 hd (kk _ _ _ _ _ b)⟩
theorem es_idiv (cx : eCx P N G X p s m args meth c k) (hd : decode (N.cd k) pc = .ok (.idiv, 1)) (hi : eIns P X k (.idiv) pc lo st h = some x) (b : eBa P G s k c0 s0 lo h H locs cells slots ls) :
    eGoal P G p l e R s m args below meth c H locs cells slots Q k c0 s0 pc ls st h x := by
  obtain ⟨y, z, r, rfl, h2⟩ := eI2_some hi
  obtain ⟨h3, h2⟩ := eIf_then h2
  obtain rfl := eN_inj h2
  exact ⟨⟨Nat.le_refl _, Nat.le_refl _⟩, fun _ _ _ _ kk => lv_idiv cx.1 cx.2.1 hd h3 (kk _ _ _ _ _ b)⟩
theorem es_ineg (cx : eCx P N G X p s m args meth c k) (hd : decode (N.cd k) pc = .ok (.ineg, 1)) (hi : eIns P X k (.ineg) pc lo st h = some x) (b : eBa P G s k c0 s0 lo h H locs cells slots ls) :
    eGoal P G p l e R s m args below meth c H locs cells slots Q k c0 s0 pc ls st h x := by
  obtain ⟨y, r, rfl, h2⟩ := eI1_some hi
  obtain rfl := eN_inj h2
  exact ⟨⟨Nat.le_refl _, Nat.le_refl _⟩, fun _ _ _ _ kk => lv_ineg cx.1 cx.2.1 hd (kk _ _ _ _ _ b)⟩
theorem es_ladd (cx : eCx P N G X p s m args meth c k) (hd : decode (N.cd k) pc = .ok (.ladd, 1)) (hi : eIns P X k (.ladd) pc lo st h = some x) (b : eBa P G s k c0 s0 lo h H locs cells slots ls) :
    eGoal P G p l e R s m args below meth c H locs cells slots Q k c0 s0 pc ls st h x := by
  obtain ⟨y, z, r, rfl, h2⟩ := eJ2_some hi
  obtain rfl := eN_inj h2
  exact ⟨⟨Nat.le_refl _, Nat.le_refl _⟩, fun _ _ _ _ kk => lv_ladd cx.1 cx.2.1 hd (kk _ _ _ _ _ b)⟩
theorem es_lsub (cx : eCx P N G X p s m args meth c k) (hd : decode (N.cd k) pc = .ok (.lsub, 1)) (hi : eIns P X k (.lsub) pc lo st h = some x) (b : eBa P G s k c0 s0 lo h H locs cells slots ls) :
    eGoal P G p l e R s m args below meth c H locs cells slots Q k c0 s0 pc ls st h x := by
  obtain ⟨y, z, r, rfl, h2⟩ := eJ2_some hi
  obtain rfl := eN_inj h2
  exact ⟨⟨Nat.le_refl _, Nat.le_refl _⟩, fun _ _ _ _ kk => lv_lsub cx.1 cx.2.1 hd (kk _ _ _ _ _ b)⟩
theorem es_lmul (cx : eCx P N G X p s m args meth c k) (hd : decode (N.cd k) pc = .ok (.lmul, 1)) (hi : eIns P X k (.lmul) pc lo st h = some x) (b : eBa P G s k c0 s0 lo h H locs cells slots ls) :
    eGoal P G p l e R s m args below meth c H locs cells slots Q k c0 s0 pc ls st h x := by
  obtain ⟨y, z, r, rfl, h2⟩ := eJ2_some hi
  obtain rfl := eN_inj h2
  exact ⟨⟨Nat.le_refl _, Nat.le_refl _⟩, fun _ _ _ _ kk => lv_lmul cx.1 cx.2.1 hd (kk _ _ _ _ _ b)⟩
theorem es_land (cx : eCx P N G X p s m args meth c k) (hd : decode (N.cd k) pc = .ok (.land, 1)) (hi : eIns P X k (.land) pc lo st h = some x) (b : eBa P G s k c0 s0 lo h H locs cells slots ls) :
    eGoal P G p l e R s m args below meth c H locs cells slots Q k c0 s0 pc ls st h x := by
  obtain ⟨y, z, r, rfl, h2⟩ := eJ2_some hi
  obtain rfl := eN_inj h2
  exact ⟨⟨Nat.le_refl _, Nat.le_refl _⟩, fun _ _ _ _ kk => lv_land cx.1 cx.2.1 hd (kk _ _ _ _ _ b)⟩
theorem es_lor (cx : eCx P N G X p s m args meth c k) (hd : decode (N.cd k) pc = .ok (.lor, 1)) (hi : eIns P X k (.lor) pc lo st h = some x) (b : eBa P G s k c0 s0 lo h H locs cells slots ls) :
    eGoal P G p l e R s m args below meth c H locs cells slots Q k c0 s0 pc ls st h x := by
  obtain ⟨y, z, r, rfl, h2⟩ := eJ2_some hi
  obtain rfl := eN_inj h2
  exact ⟨⟨Nat.le_refl _, Nat.le_refl _⟩, fun _ _ _ _ kk => lv_lor cx.1 cx.2.1 hd (kk _ _ _ _ _ b)⟩
theorem es_lcmp (cx : eCx P N G X p s m args meth c k) (hd : decode (N.cd k) pc = .ok (.lcmp, 1)) (hi : eIns P X k (.lcmp) pc lo st h = some x) (b : eBa P G s k c0 s0 lo h H locs cells slots ls) :
    eGoal P G p l e R s m args below meth c H locs cells slots Q k c0 s0 pc ls st h x := by
  obtain ⟨y, z, r, rfl, h2⟩ := eJ2_some hi
  obtain rfl := eN_inj h2
  exact ⟨⟨Nat.le_refl _, Nat.le_refl _⟩, fun _ _ _ _ kk => W.lcmp cx.1 cx.2.1 hd (kk _ _ _ _ _ b)⟩
theorem es_lshl (cx : eCx P N G X p s m args meth c k) (hd : decode (N.cd k) pc = .ok (.lshl, 1)) (hi : eIns P X k (.lshl) pc lo st h = some x) (b : eBa P G s k c0 s0 lo h H locs cells slots ls) :
    eGoal P G p l e R s m args below meth c H locs cells slots Q k c0 s0 pc ls st h x := by
  obtain ⟨y, z, r, rfl, h2⟩ := eJI_some hi
  obtain rfl := eN_inj h2
  exact ⟨⟨Nat.le_refl _, Nat.le_refl _⟩, fun _ _ _ _ kk => lv_lshl cx.1 cx.2.1 hd rfl (kk _ _ _ _ _ b)⟩
theorem es_lushr (cx : eCx P N G X p s m args meth c k) (hd : decode (N.cd k) pc = .ok (.lushr, 1)) (hi : eIns P X k (.lushr) pc lo st h = some x) (b : eBa P G s k c0 s0 lo h H locs cells slots ls) :
    eGoal P G p l e R s m args below meth c H locs cells slots Q k c0 s0 pc ls st h x := by
  obtain ⟨y, z, r, rfl, h2⟩ := eJI_some hi
  obtain rfl := eN_inj h2
  exact ⟨⟨Nat.le_refl _, Nat.le_refl _⟩, fun _ _ _ _ kk => lv_lushr cx.1 cx.2.1 hd rfl (kk _ _ _ _ _ b)⟩
theorem es_i2l (cx : eCx P N G X p s m args meth c k) (hd : decode (N.cd k) pc = .ok (.i2l, 1)) (hi : eIns P X k (.i2l) pc lo st h = some x) (b : eBa P G s k c0 s0 lo h H locs cells slots ls) :
    eGoal P G p l e R s m args below meth c H locs cells slots Q k c0 s0 pc ls st h x := by
  obtain ⟨y, r, rfl, h2⟩ := eI1_some hi
  obtain rfl := eN_inj h2
  exact ⟨⟨Nat.le_refl _, Nat.le_refl _⟩, fun _ _ _ _ kk => lv_i2l cx.1 cx.2.1 hd rfl (kk _ _ _ _ _ b)⟩
theorem es_l2i (cx : eCx P N G X p s m args meth c k) (hd : decode (N.cd k) pc = .ok (.l2i, 1)) (hi : eIns P X k (.l2i) pc lo st h = some x) (b : eBa P G s k c0 s0 lo h H locs cells slots ls) :
    eGoal P G p l e R s m args below meth c H locs cells slots Q k c0 s0 pc ls st h x := by
  obtain ⟨y, r, rfl, h2⟩ := eJ1_some hi
  obtain rfl := eN_inj h2
  exact ⟨⟨Nat.le_refl _, Nat.le_refl _⟩, fun _ _ _ _ kk => lv_l2i cx.1 cx.2.1 hd rfl (kk _ _ _ _ _ b)⟩
theorem es_i2c (cx : eCx P N G X p s m args meth c k) (hd : decode (N.cd k) pc = .ok (.i2c, 1)) (hi : eIns P X k (.i2c) pc lo st h = some x) (b : eBa P G s k c0 s0 lo h H locs cells slots ls) :
    eGoal P G p l e R s m args below meth c H locs cells slots Q k c0 s0 pc ls st h x := by
  obtain ⟨y, r, rfl, h2⟩ := eI1_some hi
  obtain rfl := eN_inj h2
  exact ⟨⟨Nat.le_refl _, Nat.le_refl _⟩, fun _ _ _ _ kk => lv_i2c cx.1 cx.2.1 hd rfl (kk _ _ _ _ _ b)⟩
theorem es_dup (cx : eCx P N G X p s m args meth c k) (hd : decode (N.cd k) pc = .ok (.dup, 1)) (hi : eIns P X k (.dup) pc lo st h = some x) (b : eBa P G s k c0 s0 lo h H locs cells slots ls) :
    eGoal P G p l e R s m args below meth c H locs cells slots Q k c0 s0 pc ls st h x := by
  cases st with
  | nil => cases hi
  | cons v r =>
    obtain ⟨h3, h2⟩ := eIf_else hi
    obtain rfl := eN_inj h2
    exact ⟨⟨Nat.le_refl _, Nat.le_refl _⟩, fun _ _ _ _ kk => lv_dup cx.1 cx.2.1 hd ((eVal_cat G v).trans h3) (kk _ _ _ _ _ b)⟩
theorem es_dup2 (cx : eCx P N G X p s m args meth c k) (hd : decode (N.cd k) pc = .ok (.dup2, 1)) (hi : eIns P X k (.dup2) pc lo st h = some x) (b : eBa P G s k c0 s0 lo h H locs cells slots ls) :
    eGoal P G p l e R s m args below meth c H locs cells slots Q k c0 s0 pc ls st h x := by
  simp only [eIns] at hi
  split at hi
  · obtain rfl := eN_inj hi
    exact ⟨⟨Nat.le_refl _, Nat.le_refl _⟩, fun _ _ _ _ kk => lv_dup2_11 cx.1 cx.2.1 hd rfl rfl (kk _ _ _ _ _ b)⟩
  · cases hi
theorem es_goto {off : Int} (cx : eCx P N G X p s m args meth c k) (hd : decode (N.cd k) pc = .ok (.goto off, 3)) (hi : eIns P X k (.goto off) pc lo st h = some x) (b : eBa P G s k c0 s0 lo h H locs cells slots ls) :
    eGoal P G p l e R s m args below meth c H locs cells slots Q k c0 s0 pc ls st h x := by
  obtain ⟨t, ht, h2⟩ := eTo_some hi
  obtain rfl := eN_inj h2
  exact ⟨⟨Nat.le_refl _, Nat.le_refl _⟩, fun _ _ _ _ kk => lv_goto cx.1 cx.2.1 hd ht (kk _ _ _ _ _ b)⟩
theorem es_if_eq {off : Int} (cx : eCx P N G X p s m args meth c k) (hd : decode (N.cd k) pc = .ok (.ifCond .eq off, 3)) (hi : eIns P X k (.ifCond .eq off) pc lo st h = some x) (b : eBa P G s k c0 s0 lo h H locs cells slots ls) :
    eGoal P G p l e R s m args below meth c H locs cells slots Q k c0 s0 pc ls st h x := by
  obtain ⟨y, r, rfl, h2⟩ := eI1_some hi
  obtain ⟨t, ht, ⟨hq, rfl⟩ | ⟨hq, rfl⟩⟩ := eBr_some h2
  · exact ⟨⟨Nat.le_refl _, Nat.le_refl _⟩, fun _ _ _ _ kk => lv_if_eq cx.1 cx.2.1 hd ht (fun _ => kk _ _ _ _ _ b) (fun hn => by first | exact absurd (of_decide_eq_true hq) hn | exact absurd hn (of_decide_eq_true hq))⟩
  · exact ⟨⟨Nat.le_refl _, Nat.le_refl _⟩, fun _ _ _ _ kk => lv_if_eq cx.1 cx.2.1 hd ht (fun hn => by first | exact absurd hn (of_decide_eq_false hq) | exact absurd hn (fun z => of_decide_eq_false hq (fun w => w z))) (fun _ => kk _ _ _ _ _ b)⟩
theorem es_icmp_eq {off : Int} (cx : eCx P N G X p s m args meth c k) (hd : decode (N.cd k) pc = .ok (.if_icmp .eq off, 3)) (hi : eIns P X k (.if_icmp .eq off) pc lo st h = some x) (b : eBa P G s k c0 s0 lo h H locs cells slots ls) :
    eGoal P G p l e R s m args below meth c H locs cells slots Q k c0 s0 pc ls st h x := by
  obtain ⟨y, z, r, rfl, h2⟩ := eI2_some hi
  obtain ⟨t, ht, ⟨hq, rfl⟩ | ⟨hq, rfl⟩⟩ := eBr_some h2
  · exact ⟨⟨Nat.le_refl _, Nat.le_refl _⟩, fun _ _ _ _ kk => lv_icmp_eq cx.1 cx.2.1 hd ht (fun _ => kk _ _ _ _ _ b) (fun hn => by first | exact absurd (of_decide_eq_true hq) hn | exact absurd hn (of_decide_eq_true hq))⟩
  · exact ⟨⟨Nat.le_refl _, Nat.le_refl _⟩, fun _ _ _ _ kk => lv_icmp_eq cx.1 cx.2.1 hd ht (fun hn => by first | exact absurd hn (of_decide_eq_false hq) | exact absurd hn (fun z => of_decide_eq_false hq (fun w => w z))) (fun _ => kk _ _ _ _ _ b)⟩
theorem es_if_ne {off : Int} (cx : eCx P N G X p s m args meth c k) (hd : decode (N.cd k) pc = .ok (.ifCond .ne off, 3)) (hi : eIns P X k (.ifCond .ne off) pc lo st h = some x) (b : eBa P G s k c0 s0 lo h H locs cells slots ls) :
    eGoal P G p l e R s m args below meth c H locs cells slots Q k c0 s0 pc ls st h x := by
  obtain ⟨y, r, rfl, h2⟩ := eI1_some hi
  obtain ⟨t, ht, ⟨hq, rfl⟩ | ⟨hq, rfl⟩⟩ := eBr_some h2
  · exact ⟨⟨Nat.le_refl _, Nat.le_refl _⟩, fun _ _ _ _ kk => lv_if_ne cx.1 cx.2.1 hd ht (fun _ => kk _ _ _ _ _ b) (fun hn => by first | exact absurd (of_decide_eq_true hq) hn | exact absurd hn (of_decide_eq_true hq))⟩
  · exact ⟨⟨Nat.le_refl _, Nat.le_refl _⟩, fun _ _ _ _ kk => lv_if_ne cx.1 cx.2.1 hd ht (fun hn => by first | exact absurd hn (of_decide_eq_false hq) | exact absurd hn (fun z => of_decide_eq_false hq (fun w => w z))) (fun _ => kk _ _ _ _ _ b)⟩
theorem es_icmp_ne {off : Int} (cx : eCx P N G X p s m args meth c k) (hd : decode (N.cd k) pc = .ok (.if_icmp .ne off, 3)) (hi : eIns P X k (.if_icmp .ne off) pc lo st h = some x) (b : eBa P G s k c0 s0 lo h H locs cells slots ls) :
    eGoal P G p l e R s m args below meth c H locs cells slots Q k c0 s0 pc ls st h x := by
  obtain ⟨y, z, r, rfl, h2⟩ := eI2_some hi
  obtain ⟨t, ht, ⟨hq, rfl⟩ | ⟨hq, rfl⟩⟩ := eBr_some h2
  · exact ⟨⟨Nat.le_refl _, Nat.le_refl _⟩, fun _ _ _ _ kk => lv_icmp_ne cx.1 cx.2.1 hd ht (fun _ => kk _ _ _ _ _ b) (fun hn => by first | exact absurd (of_decide_eq_true hq) hn | exact absurd hn (of_decide_eq_true hq))⟩
  · exact ⟨⟨Nat.le_refl _, Nat.le_refl _⟩, fun _ _ _ _ kk => lv_icmp_ne cx.1 cx.2.1 hd ht (fun hn => by first | exact absurd hn (of_decide_eq_false hq) | exact absurd hn (fun z => of_decide_eq_false hq (fun w => w z))) (fun _ => kk _ _ _ _ _ b)⟩
theorem es_if_lt {off : Int} (cx : eCx P N G X p s m args meth c k) (hd : decode (N.cd k) pc = .ok (.ifCond .lt off, 3)) (hi : eIns P X k (.ifCond .lt off) pc lo st h = some x) (b : eBa P G s k c0 s0 lo h H locs cells slots ls) :
    eGoal P G p l e R s m args below meth c H locs cells slots Q k c0 s0 pc ls st h x := by
  obtain ⟨y, r, rfl, h2⟩ := eI1_some hi
  obtain ⟨t, ht, ⟨hq, rfl⟩ | ⟨hq, rfl⟩⟩ := eBr_some h2
  · exact ⟨⟨Nat.le_refl _, Nat.le_refl _⟩, fun _ _ _ _ kk => lv_if_lt cx.1 cx.2.1 hd ht (fun _ => kk _ _ _ _ _ b) (fun hn => by first | exact absurd (of_decide_eq_true hq) hn | exact absurd hn (of_decide_eq_true hq))⟩
  · exact ⟨⟨Nat.le_refl _, Nat.le_refl _⟩, fun _ _ _ _ kk => lv_if_lt cx.1 cx.2.1 hd ht (fun hn => by first | exact absurd hn (of_decide_eq_false hq) | exact absurd hn (fun z => of_decide_eq_false hq (fun w => w z))) (fun _ => kk _ _ _ _ _ b)⟩
theorem es_icmp_lt {off : Int} (cx : eCx P N G X p s m args meth c k) (hd : decode (N.cd k) pc = .ok (.if_icmp .lt off, 3)) (hi : eIns P X k (.if_icmp .lt off) pc lo st h = some x) (b : eBa P G s k c0 s0 lo h H locs cells slots ls) :
    eGoal P G p l e R s m args below meth c H locs cells slots Q k c0 s0 pc ls st h x := by
  obtain ⟨y, z, r, rfl, h2⟩ := eI2_some hi
  obtain ⟨t, ht, ⟨hq, rfl⟩ | ⟨hq, rfl⟩⟩ := eBr_some h2
  · exact ⟨⟨Nat.le_refl _, Nat.le_refl _⟩, fun _ _ _ _ kk => lv_icmp_lt cx.1 cx.2.1 hd ht (fun _ => kk _ _ _ _ _ b) (fun hn => by first | exact absurd (of_decide_eq_true hq) hn | exact absurd hn (of_decide_eq_true hq))⟩
  · exact ⟨⟨Nat.le_refl _, Nat.le_refl _⟩, fun _ _ _ _ kk => lv_icmp_lt cx.1 cx.2.1 hd ht (fun hn => by first | exact absurd hn (of_decide_eq_false hq) | exact absurd hn (fun z => of_decide_eq_false hq (fun w => w z))) (fun _ => kk _ _ _ _ _ b)⟩
theorem es_if_ge {off : Int} (cx : eCx P N G X p s m args meth c k) (hd : decode (N.cd k) pc = .ok (.ifCond .ge off, 3)) (hi : eIns P X k (.ifCond .ge off) pc lo st h = some x) (b : eBa P G s k c0 s0 lo h H locs cells slots ls) :
    eGoal P G p l e R s m args below meth c H locs cells slots Q k c0 s0 pc ls st h x := by
  obtain ⟨y, r, rfl, h2⟩ := eI1_some hi
  obtain ⟨t, ht, ⟨hq, rfl⟩ | ⟨hq, rfl⟩⟩ := eBr_some h2
  · exact ⟨⟨Nat.le_refl _, Nat.le_refl _⟩, fun _ _ _ _ kk => lv_if_ge cx.1 cx.2.1 hd ht (fun _ => kk _ _ _ _ _ b) (fun hn => by first | exact absurd (of_decide_eq_true hq) hn | exact absurd hn (of_decide_eq_true hq))⟩
  · exact ⟨⟨Nat.le_refl _, Nat.le_refl _⟩, fun _ _ _ _ kk => lv_if_ge cx.1 cx.2.1 hd ht (fun hn => by first | exact absurd hn (of_decide_eq_false hq) | exact absurd hn (fun z => of_decide_eq_false hq (fun w => w z))) (fun _ => kk _ _ _ _ _ b)⟩
theorem es_icmp_ge {off : Int} (cx : eCx P N G X p s m args meth c k) (hd : decode (N.cd k) pc = .ok (.if_icmp .ge off, 3)) (hi : eIns P X k (.if_icmp .ge off) pc lo st h = some x) (b : eBa P G s k c0 s0 lo h H locs cells slots ls) :
    eGoal P G p l e R s m args below meth c H locs cells slots Q k c0 s0 pc ls st h x := by
  obtain ⟨y, z, r, rfl, h2⟩ := eI2_some hi
  obtain ⟨t, ht, ⟨hq, rfl⟩ | ⟨hq, rfl⟩⟩ := eBr_some h2
  · exact ⟨⟨Nat.le_refl _, Nat.le_refl _⟩, fun _ _ _ _ kk => lv_icmp_ge cx.1 cx.2.1 hd ht (fun _ => kk _ _ _ _ _ b) (fun hn => by first | exact absurd (of_decide_eq_true hq) hn | exact absurd hn (of_decide_eq_true hq))⟩
  · exact ⟨⟨Nat.le_refl _, Nat.le_refl _⟩, fun _ _ _ _ kk => lv_icmp_ge cx.1 cx.2.1 hd ht (fun hn => by first | exact absurd hn (of_decide_eq_false hq) | exact absurd hn (fun z => of_decide_eq_false hq (fun w => w z))) (fun _ => kk _ _ _ _ _ b)⟩
theorem es_if_gt {off : Int} (cx : eCx P N G X p s m args meth c k) (hd : decode (N.cd k) pc = .ok (.ifCond .gt off, 3)) (hi : eIns P X k (.ifCond .gt off) pc lo st h = some x) (b : eBa P G s k c0 s0 lo h H locs cells slots ls) :
    eGoal P G p l e R s m args below meth c H locs cells slots Q k c0 s0 pc ls st h x := by
  obtain ⟨y, r, rfl, h2⟩ := eI1_some hi
  obtain ⟨t, ht, ⟨hq, rfl⟩ | ⟨hq, rfl⟩⟩ := eBr_some h2
  · exact ⟨⟨Nat.le_refl _, Nat.le_refl _⟩, fun _ _ _ _ kk => lv_if_gt cx.1 cx.2.1 hd ht (fun _ => kk _ _ _ _ _ b) (fun hn => by first | exact absurd (of_decide_eq_true hq) hn | exact absurd hn (of_decide_eq_true hq))⟩
  · exact ⟨⟨Nat.le_refl _, Nat.le_refl _⟩, fun _ _ _ _ kk => lv_if_gt cx.1 cx.2.1 hd ht (fun hn => by first | exact absurd hn (of_decide_eq_false hq) | exact absurd hn (fun z => of_decide_eq_false hq (fun w => w z))) (fun _ => kk _ _ _ _ _ b)⟩
theorem es_icmp_gt {off : Int} (cx : eCx P N G X p s m args meth c k) (hd : decode (N.cd k) pc = .ok (.if_icmp .gt off, 3)) (hi : eIns P X k (.if_icmp .gt off) pc lo st h = some x) (b : eBa P G s k c0 s0 lo h H locs cells slots ls) :
    eGoal P G p l e R s m args below meth c H locs cells slots Q k c0 s0 pc ls st h x := by
  obtain ⟨y, z, r, rfl, h2⟩ := eI2_some hi
  obtain ⟨t, ht, ⟨hq, rfl⟩ | ⟨hq, rfl⟩⟩ := eBr_some h2
  · exact ⟨⟨Nat.le_refl _, Nat.le_refl _⟩, fun _ _ _ _ kk => lv_icmp_gt cx.1 cx.2.1 hd ht (fun _ => kk _ _ _ _ _ b) (fun hn => by first | exact absurd (of_decide_eq_true hq) hn | exact absurd hn (of_decide_eq_true hq))⟩
  · exact ⟨⟨Nat.le_refl _, Nat.le_refl _⟩, fun _ _ _ _ kk => lv_icmp_gt cx.1 cx.2.1 hd ht (fun hn => by first | exact absurd hn (of_decide_eq_false hq) | exact absurd hn (fun z => of_decide_eq_false hq (fun w => w z))) (fun _ => kk _ _ _ _ _ b)⟩
theorem es_if_le {off : Int} (cx : eCx P N G X p s m args meth c k) (hd : decode (N.cd k) pc = .ok (.ifCond .le off, 3)) (hi : eIns P X k (.ifCond .le off) pc lo st h = some x) (b : eBa P G s k c0 s0 lo h H locs cells slots ls) :
    eGoal P G p l e R s m args below meth c H locs cells slots Q k c0 s0 pc ls st h x := by
  obtain ⟨y, r, rfl, h2⟩ := eI1_some hi
  obtain ⟨t, ht, ⟨hq, rfl⟩ | ⟨hq, rfl⟩⟩ := eBr_some h2
  · exact ⟨⟨Nat.le_refl _, Nat.le_refl _⟩, fun _ _ _ _ kk => lv_if_le cx.1 cx.2.1 hd ht (fun _ => kk _ _ _ _ _ b) (fun hn => by first | exact absurd (of_decide_eq_true hq) hn | exact absurd hn (of_decide_eq_true hq))⟩
  · exact ⟨⟨Nat.le_refl _, Nat.le_refl _⟩, fun _ _ _ _ kk => lv_if_le cx.1 cx.2.1 hd ht (fun hn => by first | exact absurd hn (of_decide_eq_false hq) | exact absurd hn (fun z => of_decide_eq_false hq (fun w => w z))) (fun _ => kk _ _ _ _ _ b)⟩
theorem es_icmp_le {off : Int} (cx : eCx P N G X p s m args meth c k) (hd : decode (N.cd k) pc = .ok (.if_icmp .le off, 3)) (hi : eIns P X k (.if_icmp .le off) pc lo st h = some x) (b : eBa P G s k c0 s0 lo h H locs cells slots ls) :
    eGoal P G p l e R s m args below meth c H locs cells slots Q k c0 s0 pc ls st h x := by
  obtain ⟨y, z, r, rfl, h2⟩ := eI2_some hi
  obtain ⟨t, ht, ⟨hq, rfl⟩ | ⟨hq, rfl⟩⟩ := eBr_some h2
  · exact ⟨⟨Nat.le_refl _, Nat.le_refl _⟩, fun _ _ _ _ kk => lv_icmp_le cx.1 cx.2.1 hd ht (fun _ => kk _ _ _ _ _ b) (fun hn => by first | exact absurd (of_decide_eq_true hq) hn | exact absurd hn (of_decide_eq_true hq))⟩
  · exact ⟨⟨Nat.le_refl _, Nat.le_refl _⟩, fun _ _ _ _ kk => lv_icmp_le cx.1 cx.2.1 hd ht (fun hn => by first | exact absurd hn (of_decide_eq_false hq) | exact absurd hn (fun z => of_decide_eq_false hq (fun w => w z))) (fun _ => kk _ _ _ _ _ b)⟩
theorem es_ifnull {off : Int} (cx : eCx P N G X p s m args meth c k) (hd : decode (N.cd k) pc = .ok (.ifnull off, 3)) (hi : eIns P X k (.ifnull off) pc lo st h = some x) (b : eBa P G s k c0 s0 lo h H locs cells slots ls) :
    eGoal P G p l e R s m args below meth c H locs cells slots Q k c0 s0 pc ls st h x := by
  simp only [eIns] at hi
  obtain ⟨y, r, rfl, h2⟩ := eQ1_some hi
  obtain ⟨t, ht, ⟨hq, rfl⟩ | ⟨hq, rfl⟩⟩ := eBr_some h2
  · cases y with
    | none => exact ⟨⟨Nat.le_refl _, Nat.le_refl _⟩, fun _ _ _ _ kk => lv_ifnullN cx.1 cx.2.1 hd ht (kk _ _ _ _ _ b)⟩
    | some y => cases hq
  · cases y with
    | none => cases hq
    | some y => exact ⟨⟨Nat.le_refl _, Nat.le_refl _⟩, fun _ _ _ _ kk => lv_ifnull cx.1 cx.2.1 hd (kk _ _ _ _ _ b)⟩
theorem es_tableswitch {d lw hi : Int} {offs : Array Int} {len : Nat} (cx : eCx P N G X p s m args meth c k) (hd : decode (N.cd k) pc = .ok (.tableswitch d lw hi offs, len)) (hii : eIns P X k (.tableswitch d lw hi offs) pc lo st h = some x) (b : eBa P G s k c0 s0 lo h H locs cells slots ls) :
    eGoal P G p l e R s m args below meth c H locs cells slots Q k c0 s0 pc ls st h x := by
  obtain ⟨y, r, rfl, h2⟩ := eI1_some hii
  split at h2
  · rename_i hq
    obtain ⟨t, ht, h2⟩ := eTo_some h2
    obtain rfl := eN_inj h2
    exact ⟨⟨Nat.le_refl _, Nat.le_refl _⟩, fun _ _ _ _ kk => lv_tableOut cx.1 cx.2.1 hd hq ht (kk _ _ _ _ _ b)⟩
  · rename_i hq
    split at h2
    · rename_i off ho
      obtain ⟨t, ht, h2⟩ := eTo_some h2
      obtain rfl := eN_inj h2
      exact ⟨⟨Nat.le_refl _, Nat.le_refl _⟩, fun _ _ _ _ kk => lv_tableIn cx.1 cx.2.1 hd (fun z => hq (Or.inl z)) (fun z => hq (Or.inr z)) ho ht (kk _ _ _ _ _ b)⟩
    · cases h2
theorem es_ldc {ix : Nat} (cx : eCx P N G X p s m args meth c k) (gc : ∀ o ix v, P.con o ix = some (.int v) → Cond.constant (N.cn o) ix v ∈ lw_gd) (hd : decode (N.cd k) pc = .ok (.ldc ix, 2)) (hi : eIns P X k (.ldc ix) pc lo st h = some x) (b : eBa P G s k c0 s0 lo h H locs cells slots ls) :
    eGoal P G p l e R s m args below meth c H locs cells slots Q k c0 s0 pc ls st h x := by
  simp only [eIns] at hi
  split at hi
  · rename_i v hv
    obtain rfl := eN_inj hi
    exact ⟨⟨Nat.le_refl _, Nat.le_refl _⟩, fun _ _ _ _ kk => lv_ldc cx.1 cx.2.1 cx.2.2.2.1 (cx.2.2.2.2.1 _ (gc _ _ _ hv)) hd (kk _ _ _ _ _ b)⟩
  · cases hi
theorem es_ldc2_w {ix : Nat} (cx : eCx P N G X p s m args meth c k) (gc : ∀ o ix v, P.con o ix = some (.long v) → Cond.constantLong (N.cn o) ix v ∈ lw_gd) (hd : decode (N.cd k) pc = .ok (.ldc2_w ix, 3)) (hi : eIns P X k (.ldc2_w ix) pc lo st h = some x) (b : eBa P G s k c0 s0 lo h H locs cells slots ls) :
    eGoal P G p l e R s m args below meth c H locs cells slots Q k c0 s0 pc ls st h x := by
  simp only [eIns] at hi
  split at hi
  · rename_i v hv
    obtain rfl := eN_inj hi
    exact ⟨⟨Nat.le_refl _, Nat.le_refl _⟩, fun _ _ _ _ kk => lv_ldc2 cx.1 cx.2.1 cx.2.2.2.1 (cx.2.2.2.2.1 _ (gc _ _ _ hv)) hd (kk _ _ _ _ _ b)⟩
  · cases hi
theorem es_getfield {ix : Nat} (cx : eCx P N G X p s m args meth c k) (gf : gFld P N G.cl) (hd : decode (N.cd k) pc = .ok (.getfield ix, 3)) (hi : eIns P X k (.getfield ix) pc lo st h = some x) (b : eBa P G s k c0 s0 lo h H locs cells slots ls) :
    eGoal P G p l e R s m args below meth c H locs cells slots Q k c0 s0 pc ls st h x := by
  simp only [eIns, eGf] at hi
  obtain ⟨a, r, rfl, h2⟩ := eR1_some hi
  split at h2
  · rename_i c1 j tf hf
    obtain ⟨ty, fin⟩ := tf
    obtain ⟨C, T, n, ty0, hcl, hj, hC, hT, hlk, hin, -, -, -, -⟩ := gf _ _ _ _ _ _ hf
    split at h2
    · rename_i c2 fs hcell
      obtain ⟨hq, h2⟩ := eIf_then h2
      split at h2
      · rename_i v hv
        obtain rfl := eN_inj h2
        have h1 : ¬ a = 0 := fun z => hq (Or.inl z)
        have h3 : c2 = c1 := Decidable.of_not_not fun z => hq (Or.inr z)
        subst h3
        have hP : va_P G.D G.cl [(eAd G a, eCo G (.inr (c2, fs)))] H := fun q z hz => by
          cases q with
          | zero => cases hz; exact b.2.1.at h1 hcell
          | succ q => cases hz
        refine ⟨⟨Nat.le_refl _, Nat.le_refl _⟩, fun _ _ _ _ kk => ?_⟩
        exact va_get cx.1 cx.2.1 cx.2.2.2.2.1 hin cx.2.2.2.1 cx.2.2.2.2.2.1 hP 0 rfl hcl j hj (cx.2.2.2.2.1 _ hlk) (fun z hz => by rw [hT] at hz; exact hz) (v := eVal G v) (by simp [hv]) hd (kk _ _ _ _ _ b)
      · cases h2
    · cases h2
  · cases h2
end ES
end
section
theorem eA0_ad {G : eG} {a : Nat} (ha : ¬ a = 0) : eA0 G (eAd G a) := by
  rw [eAd_pos ha]
  show G.B < G.B + a
  omega
theorem e_upd {α : Type} (g : α → Value) (f : Nat → α) (i : Nat) (x : α) : updV (fun j => g (f j)) i (g x) = fun j => g (eUp f i x j) := by
  funext q
  by_cases hq : q = i <;> simp [updV, eUp, hq]
theorem eFit_ok {G : eG} {ty : FieldType} {v : Value} (h : eFit ty v = true) : narrow ty (eVal G v) = eVal G v ∧ fits ty (eVal G v) = true := by
  unfold eFit at h
  split at h
  · exact ⟨rfl, rfl⟩
  · exact ⟨rfl, rfl⟩
  · rename_i y
    rcases Bool.or_eq_true_iff.mp h with q | q
    · have q' : y = 0 := by simpa using q
      subst q'
      exact ⟨rfl, rfl⟩
    · have q' : y = 1 := by simpa using q
      subst q'
      exact ⟨rfl, rfl⟩
  · exact ⟨rfl, rfl⟩
  · exact ⟨rfl, rfl⟩
  · exact ⟨rfl, rfl⟩
  · exact ⟨rfl, rfl⟩
  · cases h
def gTy (P : eP) (N : eW) : Prop := N.ty[0]? = some .int ∧ N.ty[1]? = some .long ∧ N.ty[2]? = some .char ∧ ∀ t c, P.elt t = some c → N.ty[t]? = some (.object (N.cn c))
def gCl (N : eW) (cl : List vw_C) : Prop := ∀ c r, cl[c]? = some r → r.1 = N.cn c
def gNew (P : eP) (N : eW) (cl : List vw_C) : Prop := (Cond.arrayClass .int ∈ lw_gd ∧ Cond.arrayClass .long ∈ lw_gd ∧ Cond.arrayClass .char ∈ lw_gd) ∧
  (∀ o ix t C, P.arr o ix = some t → N.ty[t]? = some (.object C) → Cond.classLink (N.cn o) ix C ∈ lw_gd) ∧
  ∀ o ix c, P.cls o ix = some c → ∃ (C : String) (T : u_T) (n : Nat) (ty0 : Nat → FieldType), cl[c]? = some (C, T, n) ∧ Cond.classLink (N.cn o) ix C ∈ lw_gd ∧ Cond.instantiable C (P.bla c).2 ∈ lw_gd ∧ Cond.initialized C ∈ lw_gd ∧
    (∀ w ∈ u_ws C T n, w ∈ lw_gd) ∧ (∀ k, k < n → parseFieldDescriptor (T k).2.2.1 = some (ty0 k)) ∧ (∀ k, k < n → defaultValue (ty0 k) = vp_V (P.bla c).1 k) ∧ ∀ v ∈ (P.bla c).1, v = .int 0 ∨ v = .long 0 ∨ v = .null
section ES3
variable {p : Program} {l : Launch} {e : Env} {R : Room} {s : State} {m : MethodId} {args : Array Value} {below : List Frame} {meth : Method} {c : Code} {H : Heap} {locs : List Loc} {cells slots : Nat} {Q : State → Prop}
variable {P : eP} {N : eW} {G : eG} {X : Nat × (Nat → Int32)} {k pc c0 s0 : Nat} {ls : Array Slot} {lo : eLo} {st : List Value} {h : eH} {x : eS}
theorem e_single {a : Nat} {y : eE} (b : eRel G h H) (ha : ¬ a = 0) (hc : h.1 a = some y) : va_P G.D G.cl [(eAd G a, eCo G y)] H := fun q z hz => by
  cases q with
  | zero => cases hz; exact b.at ha hc
  | succ q => cases hz
theorem e_in {i : Int32} {n : Nat} {cA : ClassId} {f : Nat → Value} (h : ¬ (i < 0 ∨ n ≤ i.toNatClampNeg)) : ¬ (i < 0 ∨ (arrV cA n f).slots.size ≤ i.toNatClampNeg) := by
  rw [arrV_size]
  exact h
theorem eBa.set {a : Nat} {y0 y : eE} {H1 : Heap} {i : Nat} (b : eBa P G s k c0 s0 lo h H locs cells slots ls) (ha : ¬ a = 0) (hx : h.1 a = some y0) (hz : H1.size = H.size) (ho : ∀ z, z ≠ eAd G a → H1[z]? = H[z]?) (hat : va_at G.D G.cl (eAd G a, eCo G y) H1) :
    eBa P G s k c0 s0 lo (eSetH h a y) H1 (locs ++ [⟨eAd G a, i⟩]) cells slots ls :=
  ⟨b.1, b.2.1.set ha hx hz ho hat, b.2.2.1.put hz ho (eA0_ad ha), b.2.2.2.1, b.2.2.2.2⟩
theorem eBa.new {y : eE} {H1 : Heap} {n : Nat} (b : eBa P G s k c0 s0 lo h H locs cells slots ls) (hz : H1.size = H.size + 1) (ho : ∀ z, z < H.size → H1[z]? = H[z]?) (hat : va_at G.D G.cl (H.size, eCo G y) H1) :
    eBa P G s k c0 s0 lo (eNew h y n) H1 locs (cells + 1) (slots + n) ls :=
  ⟨b.1, b.2.1.new y n hz ho hat, eS_new b.2.2.1 hz ho, by show cells + 1 + c0 = h.2.1 + 1; have := b.2.2.2.1; omega, by show slots + n + s0 = h.2.2 + n; have := b.2.2.2.2; omega⟩
theorem es_putfield {ix : Nat} (cx : eCx P N G X p s m args meth c k) (gf : gFld P N G.cl) (hd : decode (N.cd k) pc = .ok (.putfield ix, 3)) (hi : eIns P X k (.putfield ix) pc lo st h = some x) (b : eBa P G s k c0 s0 lo h H locs cells slots ls) :
    eGoal P G p l e R s m args below meth c H locs cells slots Q k c0 s0 pc ls st h x := by
  simp only [eIns] at hi
  unfold ePf at hi
  split at hi
  · rename_i v a r
    split at hi
    · rename_i c1 j ty fin hf
      obtain ⟨C, T, n, ty0, hcl, hj, hC, hT, hlk, hin, hfin, hpd, hty, hnm⟩ := gf _ _ _ _ _ _ hf
      split at hi
      · rename_i c2 fs hcell
        obtain ⟨hq, h2⟩ := eIf_then hi
        obtain rfl := eN_inj h2
        have h1 : ¬ a = 0 := fun z => hq (Or.inl z)
        have h3 : c2 = c1 := Decidable.of_not_not fun z => hq (Or.inr (Or.inl z))
        have h4 : eFit ty v = true := by
          cases hz : eFit ty v with
          | true => rfl
          | false => exact absurd (Or.inr (Or.inr (Or.inl hz))) hq
        have h5 : j < fs.length := Nat.not_le.mp fun z => hq (Or.inr (Or.inr (Or.inr (Or.inl z))))
        have h6 : (fin && !(P.ini k && eOwn P k == c1)) = false := by
          cases hz : (fin && !(P.ini k && eOwn P k == c1)) with
          | false => rfl
          | true => exact absurd (Or.inr (Or.inr (Or.inr (Or.inr hz)))) hq
        subst h3
        refine ⟨⟨Nat.le_refl _, Nat.le_refl _⟩, fun _ _ _ _ kk => ?_⟩
        have hts := cx.2.2.2.2.1
        have hK := cx.2.2.2.2.2.1
        have hown := cx.2.2.2.1
        have hap := va_apart (own := N.cn (eOwn P k)) hts hin ty0 hty hnm hK hcl
        obtain ⟨r', h1', cell, q1, q2, q3, q4⟩ := b.2.1.at h1 hcell
        have hr : r' = (C, T, n) := Option.some.inj (h1'.symm.trans hcl)
        subst hr
        obtain ⟨hS', hfc, kC, hkC, hkind⟩ := hK.1 c2 _ hcl
        obtain ⟨cf, kf, fi, f, hff, hsl⟩ := hS' j hj
        have hi' : s.fieldFound? C (T j).2.1 (T j).2.2.1 = some (cf, kf, fi, f) := by rw [hT] at hff; exact hff
        have hlay := hts _ (hin _ (u_in_lay hj))
        have hst := (u_facts hfc hkC (u_lays hts hin hj) hff).1
        obtain ⟨hn, hfit⟩ := eFit_ok (G := G) h4
        have hlast : ∀ H1 : Heap, H1[eAd G a]? = some (cell.setSlot (G.D.2 c2 j) (eVal G v)) → va_at G.D G.cl (eAd G a, eCo G (.inr (c2, fs.set j v))) H1 := fun H1 e1 =>
          ⟨_, hcl, t_OB.to (V := updV (vp_V (fs.map (eVal G))) j (eVal G v)) ⟨_, e1, q2, q3, t_set q4 hap hj (eVal G v)⟩ (fun i _ => by
            show _ = vp_V ((fs.set j v).map (eVal G)) i
            rw [List.map_set]
            exact vp_updV_set (by simpa using h5) (eVal G v) i)⟩
        unfold u_lay at hlay
        cases fin with
        | false =>
          rw [if_neg (by rw [hfin]; decide)] at hlay
          have h7 := u_store hfc hkC hkind hlay hff hpd hn hfit
          refine W.putK cx.1 cx.2.1 (f := f) ⟨hown, hts _ hlk, ⟨_, _, _, hi'⟩, hst⟩ (by rw [q2]; exact h7) q1 q3 (by rw [hsl]; exact k2_hasslot (q4 j hj)) rfl rfl hd fun H1 e1 e2 e3 => ?_
          rw [hsl] at e1 ⊢
          exact kk H1 _ cells slots ls (b.set h1 hcell e2 e3 (hlast H1 e1))
        | true =>
          rw [if_pos hfin] at hlay
          have h8 : P.ini k = true ∧ eOwn P k = c2 := by simpa using h6
          have hcf : m.cls = cf := by
            obtain ⟨_, _, c', _, _, _, -, -, hf', -, -, -, hown2, -⟩ := Cond.laysFinal_spec hlay
            have e1 : c' = cf := by have := hff.symm.trans hf'; simp at this; exact this.1.symm
            rw [hT, hC, ← h8.2] at hown2
            rw [← e1]
            exact Option.some.inj (hown.symm.trans hown2)
          have h7 := u_fits hfc hkC hkind (Or.inr hlay) hff hpd hn hfit
          refine W.putFinK cx.1 cx.2.1 hown (hts _ hlk) hi' hst hcf (cx.2.2.2.2.2.2.2.2.1 h8.1) (by rw [q2]; exact h7) q1 q3 (by rw [hsl]; exact k2_hasslot (q4 j hj)) rfl rfl hd fun H1 e1 e2 e3 => ?_
          rw [hsl] at e1 ⊢
          exact kk H1 _ cells slots ls (b.set h1 hcell e2 e3 (hlast H1 e1))
      · cases hi
    · cases hi
  · cases hi
theorem es_iaload (cx : eCx P N G X p s m args meth c k) (gt : gTy P N) (hd : decode (N.cd k) pc = .ok (.iaload, 1)) (hi : eIns P X k (.iaload) pc lo st h = some x) (b : eBa P G s k c0 s0 lo h H locs cells slots ls) :
    eGoal P G p l e R s m args below meth c H locs cells slots Q k c0 s0 pc ls st h x := by
  obtain ⟨a, i, r, rfl, h2⟩ := eIA_some hi
  cases a with
  | zero =>
    obtain ⟨hq, h2⟩ := eIf_else h2
    obtain ⟨h3, h2⟩ := eIn_some h2
    obtain rfl := eN_inj h2
    exact ⟨⟨Nat.le_refl _, Nat.le_refl _⟩, fun _ _ _ _ kk => va_sld cx.1 cx.2.1 cx.2.2.2.2.2.2.1.1 (Nat.lt_of_le_of_lt cx.2.2.2.2.2.2.1.2.1 cx.2.2.2.2.2.2.1.2.2) (Nat.not_lt.mpr cx.2.2.2.2.2.2.1.2.1) b.2.2.1 h3 hd (kk _ _ _ _ _ b)⟩
  | succ a =>
    simp only at h2
    split at h2
    · rename_i t' n f hcell
      obtain ⟨hq, h2⟩ := eIf_else h2
      obtain ⟨h3, h2⟩ := eIn_some h2
      obtain rfl := eN_inj h2
      subst hq
      have ha : ¬ a + 1 = 0 := by omega
      exact ⟨⟨Nat.le_refl _, Nat.le_refl _⟩, fun _ _ _ _ kk => va_iald cx.1 cx.2.1 cx.2.2.2.2.2.1 (e_single b.2.1 ha hcell) 0 0 rfl (eTy_at gt.1) h3 hd (kk _ _ _ _ _ b)⟩
    · cases h2
theorem es_caload (cx : eCx P N G X p s m args meth c k) (gt : gTy P N) (hd : decode (N.cd k) pc = .ok (.caload, 1)) (hi : eIns P X k (.caload) pc lo st h = some x) (b : eBa P G s k c0 s0 lo h H locs cells slots ls) :
    eGoal P G p l e R s m args below meth c H locs cells slots Q k c0 s0 pc ls st h x := by
  obtain ⟨a, i, r, rfl, h2⟩ := eIA_some hi
  cases a with
  | zero =>
    exact absurd (eIf_else h2).1 (by decide)
  | succ a =>
    simp only at h2
    split at h2
    · rename_i t' n f hcell
      obtain ⟨hq, h2⟩ := eIf_else h2
      obtain ⟨h3, h2⟩ := eIn_some h2
      obtain rfl := eN_inj h2
      subst hq
      have ha : ¬ a + 1 = 0 := by omega
      exact ⟨⟨Nat.le_refl _, Nat.le_refl _⟩, fun _ _ _ _ kk => va_cald cx.1 cx.2.1 cx.2.2.2.2.2.1 (e_single b.2.1 ha hcell) 0 2 rfl (eTy_at gt.2.2.1) h3 hd (kk _ _ _ _ _ b)⟩
    · cases h2
theorem es_laload (cx : eCx P N G X p s m args meth c k) (gt : gTy P N) (hd : decode (N.cd k) pc = .ok (.laload, 1)) (hi : eIns P X k (.laload) pc lo st h = some x) (b : eBa P G s k c0 s0 lo h H locs cells slots ls) :
    eGoal P G p l e R s m args below meth c H locs cells slots Q k c0 s0 pc ls st h x := by
  obtain ⟨a, i, r, rfl, h2⟩ := eIA_some hi
  simp only at h2
  split at h2
  · rename_i n f hcell
    obtain ⟨ha, h2⟩ := eIf_then h2
    obtain ⟨h3, h2⟩ := eIn_some h2
    obtain rfl := eN_inj h2
    exact ⟨⟨Nat.le_refl _, Nat.le_refl _⟩, fun _ _ _ _ kk => va_lald cx.1 cx.2.1 cx.2.2.2.2.2.1 (e_single b.2.1 ha hcell) 0 1 rfl (eTy_at gt.2.1) h3 hd (kk _ _ _ _ _ b)⟩
  · cases h2
theorem es_aaload (cx : eCx P N G X p s m args meth c k) (gt : gTy P N) (hd : decode (N.cd k) pc = .ok (.aaload, 1)) (hi : eIns P X k (.aaload) pc lo st h = some x) (b : eBa P G s k c0 s0 lo h H locs cells slots ls) :
    eGoal P G p l e R s m args below meth c H locs cells slots Q k c0 s0 pc ls st h x := by
  obtain ⟨a, i, r, rfl, h2⟩ := eIA_some hi
  simp only at h2
  split at h2
  · rename_i t n f hcell
    obtain ⟨hq, h2⟩ := eIf_then h2
    obtain ⟨h3, h2⟩ := eIn_some h2
    obtain rfl := eN_inj h2
    have ha : ¬ a = 0 := fun z => hq (Or.inl z)
    cases hel : P.elt t with
    | none => exact absurd (Or.inr hel) hq
    | some cc =>
      refine ⟨⟨Nat.le_refl _, Nat.le_refl _⟩, fun _ _ _ _ kk => ?_⟩
      have z : W p l e R s m args below meth c H locs cells slots Q (F0 m (pc + 1) ls (eVal G (eRf (f i.toNatClampNeg)) :: r.map (eVal G))) := kk _ _ _ _ _ b
      rw [eVal_rf] at z
      exact va_aldq cx.1 cx.2.1 cx.2.2.2.2.2.1 (e_single b.2.1 ha hcell) 0 t rfl (eTy_at (gt.2.2.2 t cc hel)) h3 hd z
  · cases h2
theorem es_iastore (cx : eCx P N G X p s m args meth c k) (gt : gTy P N) (hd : decode (N.cd k) pc = .ok (.iastore, 1)) (hi : eIns P X k (.iastore) pc lo st h = some x) (b : eBa P G s k c0 s0 lo h H locs cells slots ls) :
    eGoal P G p l e R s m args below meth c H locs cells slots Q k c0 s0 pc ls st h x := by
  simp only [eIns] at hi
  unfold eStI at hi
  split at hi
  · rename_i y i a r
    split at hi
    · rename_i t' n f hcell
      obtain ⟨hq, h2⟩ := eIf_then hi
      obtain ⟨h3, h2⟩ := eIn_some h2
      obtain rfl := eN_inj h2
      have ha : ¬ a = 0 := fun z => hq (Or.inl z)
      have ht : t' = 0 := Decidable.of_not_not fun z => hq (Or.inr z)
      subst ht
      refine ⟨⟨Nat.le_refl _, Nat.le_refl _⟩, fun _ _ _ _ kk => ?_⟩
      refine W.iast cx.1 cx.2.1 (b.2.1.at ha hcell) ((cx.2.2.2.2.2.1.2 0 _ (eTy_at gt.1)).1 n (fun j => .int (f j))) (fun q => by cases q) (e_in h3) rfl rfl hd fun H1 e1 e2 e3 => ?_
      refine kk H1 _ cells slots ls (b.set ha hcell e2 e3 ?_)
      show H1[_]? = some (arrV (G.ca 0) n fun j => .int (eUp f i.toNatClampNeg y j))
      rw [← e_upd (fun z => Value.int z), ← arrV_store]
      exact e1
    · cases hi
  · cases hi
theorem es_castore (cx : eCx P N G X p s m args meth c k) (gt : gTy P N) (hd : decode (N.cd k) pc = .ok (.castore, 1)) (hi : eIns P X k (.castore) pc lo st h = some x) (b : eBa P G s k c0 s0 lo h H locs cells slots ls) :
    eGoal P G p l e R s m args below meth c H locs cells slots Q k c0 s0 pc ls st h x := by
  simp only [eIns] at hi
  unfold eStI at hi
  split at hi
  · rename_i y i a r
    split at hi
    · rename_i t' n f hcell
      obtain ⟨hq, h2⟩ := eIf_then hi
      obtain ⟨h3, h2⟩ := eIn_some h2
      obtain rfl := eN_inj h2
      have ha : ¬ a = 0 := fun z => hq (Or.inl z)
      have ht : t' = 2 := Decidable.of_not_not fun z => hq (Or.inr z)
      subst ht
      refine ⟨⟨Nat.le_refl _, Nat.le_refl _⟩, fun _ _ _ _ kk => ?_⟩
      refine W.cast cx.1 cx.2.1 (b.2.1.at ha hcell) ((cx.2.2.2.2.2.1.2 2 _ (eTy_at gt.2.2.1)).1 n (fun j => .int (f j))) (fun q => by cases q) (e_in h3) rfl rfl hd fun H1 e1 e2 e3 => ?_
      refine kk H1 _ cells slots ls (b.set ha hcell e2 e3 ?_)
      show H1[_]? = some (arrV (G.ca 2) n fun j => .int (eUp f i.toNatClampNeg (vp_nar .char y) j))
      rw [← e_upd (fun z => Value.int z), ← arrV_store]
      exact e1
    · cases hi
  · cases hi
theorem es_lastore (cx : eCx P N G X p s m args meth c k) (gt : gTy P N) (hd : decode (N.cd k) pc = .ok (.lastore, 1)) (hi : eIns P X k (.lastore) pc lo st h = some x) (b : eBa P G s k c0 s0 lo h H locs cells slots ls) :
    eGoal P G p l e R s m args below meth c H locs cells slots Q k c0 s0 pc ls st h x := by
  simp only [eIns] at hi
  unfold eStJ at hi
  split at hi
  · rename_i y i a r
    split at hi
    · rename_i n f hcell
      obtain ⟨ha, h2⟩ := eIf_then hi
      obtain ⟨h3, h2⟩ := eIn_some h2
      obtain rfl := eN_inj h2
      refine ⟨⟨Nat.le_refl _, Nat.le_refl _⟩, fun _ _ _ _ kk => ?_⟩
      refine W.last cx.1 cx.2.1 (b.2.1.at ha hcell) ((cx.2.2.2.2.2.1.2 1 _ (eTy_at gt.2.1)).1 n (fun j => .long (f j))) (fun q => by cases q) (e_in h3) rfl rfl hd fun H1 e1 e2 e3 => ?_
      refine kk H1 _ cells slots ls (b.set ha hcell e2 e3 ?_)
      show H1[_]? = some (arrV (G.ca 1) n fun j => .long (eUp f i.toNatClampNeg y j))
      rw [← e_upd (fun z => Value.long z), ← arrV_store]
      exact e1
    · cases hi
  · cases hi
theorem es_aastore (cx : eCx P N G X p s m args meth c k) (gt : gTy P N) (gl : gCl N G.cl) (hd : decode (N.cd k) pc = .ok (.aastore, 1)) (hi : eIns P X k (.aastore) pc lo st h = some x) (b : eBa P G s k c0 s0 lo h H locs cells slots ls) :
    eGoal P G p l e R s m args below meth c H locs cells slots Q k c0 s0 pc ls st h x := by
  simp only [eIns] at hi
  unfold eStA at hi
  split at hi
  · rename_i v i a r
    split at hi
    · rename_i t n f hcell
      split at hi
      · rename_i cv fs hv
        obtain ⟨hq, h2⟩ := eIf_then hi
        obtain ⟨h3, h2⟩ := eIn_some h2
        obtain rfl := eN_inj h2
        have ha : ¬ a = 0 := fun z => hq (Or.inl z)
        have hv0 : ¬ v = 0 := fun z => hq (Or.inr (Or.inl z))
        have hel : P.elt t = some cv := Decidable.of_not_not fun z => hq (Or.inr (Or.inr z))
        refine ⟨⟨Nat.le_refl _, Nat.le_refl _⟩, fun _ _ _ _ kk => ?_⟩
        have hK := cx.2.2.2.2.2.1
        obtain ⟨r', hr', cellV, g1, g2, g3, -⟩ := b.2.1.at hv0 hv
        have hcls := (hK.1 cv r' hr').2
        rw [gl cv r' hr'] at hcls
        obtain ⟨kA, comp, k1, k2, k3, -⟩ := (hK.2 t _ (eTy_at (gt.2.2.2 t cv hel))).2
        have hcomp : comp = G.D.1 cv := Option.some.inj (k3.symm.trans hcls.1)
        subst hcomp
        obtain ⟨kC, hkC, -⟩ := hcls.2
        have hlt : i.toNatClampNeg < n := Nat.not_le.mp fun z => h3 (Or.inr z)
        refine W.aast cx.1 cx.2.1 (b.2.1.at ha hcell) (fun q h => by cases h) (fun h => by cases h) k1 k2 rfl hkC ⟨fun z => h3 (Or.inl z), by show _ < (arrV _ _ _).slots.size; rw [arrV_size]; exact hlt⟩ g1 (fun q h => by rw [g3] at h; cases h) (by rw [g2]; exact hkC) (by rw [g2]; exact va_assign hcls) rfl rfl hd fun H1 e1 e2 e3 => ?_
        refine kk H1 _ cells slots ls (b.set ha hcell e2 e3 ?_)
        show H1[_]? = some (arrV (G.ca t) n fun j => va_rf ((eUp f i.toNatClampNeg (some v) j).map (eAd G)))
        rw [← e_upd (fun z : Option Nat => va_rf (z.map (eAd G))), ← arrV_store]
        exact e1
      · cases hi
    · cases hi
  · rename_i i a r
    split at hi
    · rename_i t n f hcell
      obtain ⟨hq, h2⟩ := eIf_then hi
      obtain ⟨h3, h2⟩ := eIn_some h2
      obtain rfl := eN_inj h2
      have ha : ¬ a = 0 := fun z => hq (Or.inl z)
      cases hel : P.elt t with
      | none => exact absurd (Or.inr hel) hq
      | some cv =>
        refine ⟨⟨Nat.le_refl _, Nat.le_refl _⟩, fun _ _ _ _ kk => ?_⟩
        refine va_WaastN cx.1 cx.2.1 (b.2.1.at ha hcell) ((cx.2.2.2.2.2.1.2 t _ (eTy_at (gt.2.2.2 t cv hel))).1 n (fun j => va_rf ((f j).map (eAd G)))) (fun q => by cases q) (e_in h3) rfl rfl hd fun H1 e1 e2 e3 => ?_
        refine kk H1 _ cells slots ls (b.set ha hcell e2 e3 ?_)
        show H1[_]? = some (arrV (G.ca t) n fun j => va_rf ((eUp f i.toNatClampNeg none j).map (eAd G)))
        rw [← e_upd (fun z : Option Nat => va_rf (z.map (eAd G))), ← arrV_store]
        exact e1
    · cases hi
  · cases hi
theorem es_arraylength (cx : eCx P N G X p s m args meth c k) (hd : decode (N.cd k) pc = .ok (.arraylength, 1)) (hi : eIns P X k (.arraylength) pc lo st h = some x) (b : eBa P G s k c0 s0 lo h H locs cells slots ls) :
    eGoal P G p l e R s m args below meth c H locs cells slots Q k c0 s0 pc ls st h x := by
  obtain ⟨a, r, rfl, h2⟩ := eR1_some hi
  cases a with
  | zero =>
    obtain rfl := eN_inj h2
    exact ⟨⟨Nat.le_refl _, Nat.le_refl _⟩, fun _ _ _ _ kk => va_slen cx.1 cx.2.1 cx.2.2.2.2.2.2.1.1 (Nat.lt_of_le_of_lt cx.2.2.2.2.2.2.1.2.1 cx.2.2.2.2.2.2.1.2.2) (Nat.not_lt.mpr cx.2.2.2.2.2.2.1.2.1) b.2.2.1 hd (kk _ _ _ _ _ b)⟩
  | succ a => cases h2
theorem es_newarray_int (cx : eCx P N G X p s m args meth c k) (gt : gTy P N) (gn : gNew P N G.cl) (hd : decode (N.cd k) pc = .ok (.newarray .int, 2)) (hi : eIns P X k (.newarray .int) pc lo st h = some x) (b : eBa P G s k c0 s0 lo h H locs cells slots ls) :
    eGoal P G p l e R s m args below meth c H locs cells slots Q k c0 s0 pc ls st h x := by
  obtain ⟨n, r, rfl, h2⟩ := eI1_some hi
  obtain ⟨hq, h2⟩ := eIf_then h2
  obtain rfl := eN_inj h2
  refine ⟨⟨Nat.le_succ _, Nat.le_add_right _ _⟩, fun hc hs _ _ kk => ?_⟩
  have hc' : h.2.1 + 1 ≤ R.cells + c0 := hc
  have hs' : h.2.2 + n.toNatClampNeg ≤ R.slots + s0 := hs
  have b4 := b.2.2.2.1
  have b5 := b.2.2.2.2
  refine va_newaK (atype := .int) cx.1 cx.2.1 (cx.2.2.2.2.1 _ gn.1.1) rfl hd rfl (fun z => hq (Or.inl z)) rfl (Nat.not_lt.mp fun z => hq (Or.inr z)) (by omega) (by omega) rfl fun H1 cA e1 z1 o1 hAr hNm => ?_
  have hca : cA = G.ca 0 := Option.some.inj (hNm.symm.trans (cx.2.2.2.2.2.1.2 0 _ (eTy_at gt.1)).2)
  subst hca
  have z : W p l e R s m args below meth c H1 locs (cells + 1) (slots + n.toNatClampNeg) Q (F0 m (pc + 2) ls (.ref (eAd G h.2.1) :: r.map (eVal G))) := kk _ _ _ _ _ (b.new z1 o1 e1)
  rw [b.2.1.next] at z
  exact z
theorem es_newarray_long (cx : eCx P N G X p s m args meth c k) (gt : gTy P N) (gn : gNew P N G.cl) (hd : decode (N.cd k) pc = .ok (.newarray .long, 2)) (hi : eIns P X k (.newarray .long) pc lo st h = some x) (b : eBa P G s k c0 s0 lo h H locs cells slots ls) :
    eGoal P G p l e R s m args below meth c H locs cells slots Q k c0 s0 pc ls st h x := by
  obtain ⟨n, r, rfl, h2⟩ := eI1_some hi
  obtain ⟨hq, h2⟩ := eIf_then h2
  obtain rfl := eN_inj h2
  refine ⟨⟨Nat.le_succ _, Nat.le_add_right _ _⟩, fun hc hs _ _ kk => ?_⟩
  have hc' : h.2.1 + 1 ≤ R.cells + c0 := hc
  have hs' : h.2.2 + n.toNatClampNeg ≤ R.slots + s0 := hs
  have b4 := b.2.2.2.1
  have b5 := b.2.2.2.2
  refine va_newaK (atype := .long) cx.1 cx.2.1 (cx.2.2.2.2.1 _ gn.1.2.1) rfl hd rfl (fun z => hq (Or.inl z)) rfl (Nat.not_lt.mp fun z => hq (Or.inr z)) (by omega) (by omega) rfl fun H1 cA e1 z1 o1 hAr hNm => ?_
  have hca : cA = G.ca 1 := Option.some.inj (hNm.symm.trans (cx.2.2.2.2.2.1.2 1 _ (eTy_at gt.2.1)).2)
  subst hca
  have z : W p l e R s m args below meth c H1 locs (cells + 1) (slots + n.toNatClampNeg) Q (F0 m (pc + 2) ls (.ref (eAd G h.2.1) :: r.map (eVal G))) := kk _ _ _ _ _ (b.new z1 o1 e1)
  rw [b.2.1.next] at z
  exact z
theorem es_newarray_char (cx : eCx P N G X p s m args meth c k) (gt : gTy P N) (gn : gNew P N G.cl) (hd : decode (N.cd k) pc = .ok (.newarray .char, 2)) (hi : eIns P X k (.newarray .char) pc lo st h = some x) (b : eBa P G s k c0 s0 lo h H locs cells slots ls) :
    eGoal P G p l e R s m args below meth c H locs cells slots Q k c0 s0 pc ls st h x := by
  obtain ⟨n, r, rfl, h2⟩ := eI1_some hi
  obtain ⟨hq, h2⟩ := eIf_then h2
  obtain rfl := eN_inj h2
  refine ⟨⟨Nat.le_succ _, Nat.le_add_right _ _⟩, fun hc hs _ _ kk => ?_⟩
  have hc' : h.2.1 + 1 ≤ R.cells + c0 := hc
  have hs' : h.2.2 + n.toNatClampNeg ≤ R.slots + s0 := hs
  have b4 := b.2.2.2.1
  have b5 := b.2.2.2.2
  refine va_newaK (atype := .char) cx.1 cx.2.1 (cx.2.2.2.2.1 _ gn.1.2.2) rfl hd rfl (fun z => hq (Or.inl z)) rfl (Nat.not_lt.mp fun z => hq (Or.inr z)) (by omega) (by omega) rfl fun H1 cA e1 z1 o1 hAr hNm => ?_
  have hca : cA = G.ca 2 := Option.some.inj (hNm.symm.trans (cx.2.2.2.2.2.1.2 2 _ (eTy_at gt.2.2.1)).2)
  subst hca
  have z : W p l e R s m args below meth c H1 locs (cells + 1) (slots + n.toNatClampNeg) Q (F0 m (pc + 2) ls (.ref (eAd G h.2.1) :: r.map (eVal G))) := kk _ _ _ _ _ (b.new z1 o1 e1)
  rw [b.2.1.next] at z
  exact z
theorem es_anewarray {ix : Nat} (cx : eCx P N G X p s m args meth c k) (gn : gNew P N G.cl) (hd : decode (N.cd k) pc = .ok (.anewarray ix, 3)) (hi : eIns P X k (.anewarray ix) pc lo st h = some x) (b : eBa P G s k c0 s0 lo h H locs cells slots ls) :
    eGoal P G p l e R s m args below meth c H locs cells slots Q k c0 s0 pc ls st h x := by
  simp only [eIns] at hi
  split at hi
  · rename_i t ht
    obtain ⟨n, r, rfl, h2⟩ := eI1_some hi
    obtain ⟨hq, h2⟩ := eIf_then h2
    obtain rfl := eN_inj h2
    obtain ⟨C, hty, hw2⟩ := cx.2.2.2.2.2.2.2.1.2.1 _ _ _ ht
    have hw1 := gn.2.1 _ _ _ C ht hty
    refine ⟨⟨Nat.le_succ _, Nat.le_add_right _ _⟩, fun hc hs _ _ kk => ?_⟩
    have hc' : h.2.1 + 1 ≤ R.cells + c0 := hc
    have hs' : h.2.2 + n.toNatClampNeg ≤ R.slots + s0 := hs
    have b4 := b.2.2.2.1
    have b5 := b.2.2.2.2
    refine W.anew cx.1 cx.2.1 cx.2.2.2.1 (cx.2.2.2.2.1 _ hw1) (va_AO.use hw2) rfl hd rfl (fun z => hq (Or.inl z)) (Nat.not_lt.mp fun z => hq (Or.inr z)) (by omega) (by omega) fun cA kA comp f1 f2 f3 f4 => ?_
    generalize hH1 : H.push ({ cls := cA, slots := Array.replicate n.toNatClampNeg .null, vm := .none } : Cell) = H1
    have z1 : H1.size = H.size + 1 := by rw [← hH1, Array.size_push]
    have e1 : H1[H.size]? = some (arrV cA n.toNatClampNeg (fun _ => .null)) := by rw [← hH1, Array.getElem?_push_size, ← arrV_new]
    have o1 : ∀ q : Nat, q < H.size → H1[q]? = H[q]? := fun q hq => by rw [← hH1, Array.getElem?_push, if_neg (Nat.ne_of_lt hq)]
    obtain ⟨kA', comp', k1, k2, k3, k4⟩ := (cx.2.2.2.2.2.1.2 t _ (eTy_at hty)).2
    have hca : cA = G.ca t := Option.some.inj (f1.symm.trans k4)
    subst hca
    have z : W p l e R s m args below meth c H1 locs (cells + 1) (slots + n.toNatClampNeg) Q (F0 m (pc + 3) ls (.ref (eAd G h.2.1) :: r.map (eVal G))) := kk _ _ _ _ _ (b.new z1 o1 e1)
    rw [b.2.1.next] at z
    exact z
  · cases hi
theorem es_new {ix : Nat} (cx : eCx P N G X p s m args meth c k) (gn : gNew P N G.cl) (hd : decode (N.cd k) pc = .ok (.new ix, 3)) (hi : eIns P X k (.new ix) pc lo st h = some x) (b : eBa P G s k c0 s0 lo h H locs cells slots ls) :
    eGoal P G p l e R s m args below meth c H locs cells slots Q k c0 s0 pc ls st h x := by
  simp only [eIns] at hi
  split at hi
  · rename_i c1 hcl
    obtain rfl := eN_inj hi
    obtain ⟨C, T, n, ty0, hcl1, hw1, hw2, hw3, hin, hty, hdf, hbl⟩ := gn.2.2 _ _ _ hcl
    refine ⟨⟨Nat.le_succ _, Nat.le_add_right _ _⟩, fun hc hs _ _ kk => ?_⟩
    have hc' : h.2.1 + 1 ≤ R.cells + c0 := hc
    have hs' : h.2.2 + (P.bla c1).2 ≤ R.slots + s0 := hs
    have b4 := b.2.2.2.1
    have b5 := b.2.2.2.2
    have hKn := cx.2.2.2.2.2.1.1 c1 _ hcl1
    refine W.newcK cx.1 cx.2.1 cx.2.2.2.1 (cx.2.2.2.2.1 _ hw1) (cx.2.2.2.2.1 _ hw2) (cx.2.2.2.2.1 _ hw3) rfl hd (by omega) (by omega) hKn.2.1 rfl fun H1 kC hkC e1 z1 o1 => ?_
    have hmap : (P.bla c1).1.map (eVal G) = (P.bla c1).1 := by
      conv => rhs; rw [← List.map_id (P.bla c1).1]
      refine List.map_congr_left fun v hv => ?_
      rcases hbl v hv with rfl | rfl | rfl <;> rfl
    have hat : va_at G.D G.cl (H.size, eCo G (.inr (c1, (P.bla c1).1))) H1 := ⟨_, hcl1, by
      show t_OB H.size (G.D.1 c1) n (G.D.2 c1) H1 (vp_V ((P.bla c1).1.map (eVal G)))
      rw [hmap]
      exact (u_born ty0 cx.2.2.2.2.1 hin hKn hkC e1 hty).to hdf⟩
    have z : W p l e R s m args below meth c H1 locs (cells + 1) (slots + (P.bla c1).2) Q (F0 m (pc + 3) ls (.ref (eAd G h.2.1) :: st.map (eVal G))) := kk _ _ _ _ _ (b.new z1 o1 hat)
    rw [b.2.1.next] at z
    exact z
  · cases hi
end ES3
end
section
def eO (G : eG) (r : eR) : Outcome := match r with
  | .inl v => .returned (v.map (eVal G))
  | .inr a => .threw (eAd G a)
def eZ (G : eG) (s : State) (below : List Frame) (r : eR) (h : eH) (mc ms : Nat) : State → Prop := fun t =>
  t.status = .running ∧ Ended t below (eO G r) ∧ eRel G h t.heap ∧ s.WarmedH t.vm ∧ va_F (eA0 G) s t ∧ ∃ L, s.sameButNew ({ t with vm := s.vm } : State) L mc ms ∧ ∀ q ∈ L, eA0 G q.base
theorem eNar_some {G : eG} {ty : Option FieldType} {v u : Value} (h : eNar ty v = some u) : ∃ t, ty = some t ∧ eVal G u = narrow t (eVal G v) := by
  unfold eNar at h
  split at h <;> first | cases h; done | (cases h; exact ⟨_, rfl, rfl⟩)
section ES4
variable {p : Program} {l : Launch} {e : Env} {R : Room} {s : State} {m : MethodId} {args : Array Value} {below : List Frame} {meth : Method} {c : Code} {H : Heap} {locs : List Loc} {cells slots : Nat}
variable {P : eP} {N : eW} {G : eG} {X : Nat × (Nat → Int32)} {k pc c0 s0 : Nat} {ls : Array Slot} {lo : eLo} {st : List Value} {h : eH} {r : eR} {h' : eH}
theorem e_vret (cx : eCx P N G X p s m args meth c k) (hd : decode (N.cd k) pc = .ok (.return_, 1)) (hr : eRt P k = none) (b : eBa P G s k c0 s0 lo h H locs cells slots ls) :
    W p l e R s m args below meth c H locs cells slots (eZ G s below (.inl none) h cells slots) (F0 m pc ls []) := by
  intro T hT X
  have hexec := cx.1
  have hb := cx.2.1
  have hr' : meth.sig.returnType = none := cx.2.2.2.2.2.2.2.2.2.1.trans hr
  have hlocks : meth.locks = false := cx.2.2.2.2.2.2.2.2.2.2.1
  obtain ⟨fs, hret, hrun, hended, hW, hframe⟩ := X.leave (v := none) (fun _ => rfl)
  have hmeth' : T.vm.method? m = some meth := X.method'
  refine ⟨T.setFrames fs, ?_, hrun, hended, by show eRel G h T.heap; rw [hT]; exact b.2.1, hW, by show _ ≤ T.heap.size ∧ _; rw [hT]; exact ⟨b.2.2.1.1, fun q h1 h2 => by show T.heap[q]? = _; rw [hT]; exact b.2.2.1.2.1 q h1 h2⟩, locs, hframe, b.2.2.1.2.2⟩
  jvm_step X.here [X.here.top, hexec, hb, hd, hmeth', hr']
  (try refine ⟨rfl, ?_⟩); (try refine ⟨rfl, ?_⟩)
  first | (intro acts; rw [hret _ acts rfl rfl rfl]) | rw [hret _ _ rfl rfl rfl]
  exact Steps.refl _
theorem e_iret {y : Int32} {u : Value} (cx : eCx P N G X p s m args meth c k) (hd : decode (N.cd k) pc = .ok (.ireturn, 1)) (hr : eNar (eRt P k) (.int y) = some u) (b : eBa P G s k c0 s0 lo h H locs cells slots ls) :
    W p l e R s m args below meth c H locs cells slots (eZ G s below (.inl (some u)) h cells slots) (F0 m pc ls [.int y]) := by
  intro T hT X
  have hexec := cx.1
  have hb := cx.2.1
  obtain ⟨ty, hty, hu⟩ := eNar_some (G := G) hr
  have hr' : meth.sig.returnType = some ty := cx.2.2.2.2.2.2.2.2.2.1.trans hty
  have hlocks : meth.locks = false := cx.2.2.2.2.2.2.2.2.2.2.1
  obtain ⟨fs, hret, hrun, hended, hW, hframe⟩ := X.leave (v := some (eVal G u)) (fun h => by rw [hr'] at h; cases h)
  have hmeth' : T.vm.method? m = some meth := X.method'
  refine ⟨T.setFrames fs, ?_, hrun, hended, by show eRel G h T.heap; rw [hT]; exact b.2.1, hW, by show _ ≤ T.heap.size ∧ _; rw [hT]; exact ⟨b.2.2.1.1, fun q h1 h2 => by show T.heap[q]? = _; rw [hT]; exact b.2.2.1.2.1 q h1 h2⟩, locs, hframe, b.2.2.1.2.2⟩
  have hu' : narrow ty (.int y) = eVal G u := hu.symm
  jvm_step X.here [X.here.top, hexec, hb, hd, hmeth', hr', hu']
  (try refine ⟨rfl, ?_⟩); (try refine ⟨rfl, ?_⟩)
  first | (intro acts; rw [hret _ acts rfl rfl rfl]) | rw [hret _ _ rfl rfl rfl]
  exact Steps.refl _
theorem e_lret {y : Int64} {u : Value} (cx : eCx P N G X p s m args meth c k) (hd : decode (N.cd k) pc = .ok (.lreturn, 1)) (hr : eNar (eRt P k) (.long y) = some u) (b : eBa P G s k c0 s0 lo h H locs cells slots ls) :
    W p l e R s m args below meth c H locs cells slots (eZ G s below (.inl (some u)) h cells slots) (F0 m pc ls [.long y]) := by
  intro T hT X
  have hexec := cx.1
  have hb := cx.2.1
  have hr2 : eRt P k = some .long ∧ u = .long y := by
    unfold eNar at hr
    split at hr <;> first | cases hr; done | (cases hr; rename_i q1 q2; first | exact ⟨q1, by cases q2; rfl⟩ | cases q2)
  obtain ⟨hty, rfl⟩ := hr2
  have hr' : meth.sig.returnType = some .long := cx.2.2.2.2.2.2.2.2.2.1.trans hty
  have hlocks : meth.locks = false := cx.2.2.2.2.2.2.2.2.2.2.1
  obtain ⟨fs, hret, hrun, hended, hW, hframe⟩ := X.leave (v := some (.long y)) (fun h => by rw [hr'] at h; cases h)
  have hmeth' : T.vm.method? m = some meth := X.method'
  refine ⟨T.setFrames fs, ?_, hrun, hended, by show eRel G h T.heap; rw [hT]; exact b.2.1, hW, by show _ ≤ T.heap.size ∧ _; rw [hT]; exact ⟨b.2.2.1.1, fun q h1 h2 => by show T.heap[q]? = _; rw [hT]; exact b.2.2.1.2.1 q h1 h2⟩, locs, hframe, b.2.2.1.2.2⟩
  jvm_step X.here [X.here.top, hexec, hb, hd, hmeth', hr', narrow]
  (try refine ⟨rfl, ?_⟩); (try refine ⟨rfl, ?_⟩)
  first | (intro acts; rw [hret _ acts rfl rfl rfl]) | rw [hret _ _ rfl rfl rfl]
  exact Steps.refl _
theorem e_aret {y : Option Nat} {u : Value} (cx : eCx P N G X p s m args meth c k) (hd : decode (N.cd k) pc = .ok (.areturn, 1)) (hr : eNar (eRt P k) (eRf y) = some u) (b : eBa P G s k c0 s0 lo h H locs cells slots ls) :
    W p l e R s m args below meth c H locs cells slots (eZ G s below (.inl (some u)) h cells slots) (F0 m pc ls [eVal G (eRf y)]) := by
  intro T hT X
  have hexec := cx.1
  have hb := cx.2.1
  have hr2 : ∃ rt, eRt P k = some rt ∧ u = eRf y ∧ ((∃ n, rt = .object n) ∨ ∃ t, rt = .array t) := by
    cases y <;> (unfold eNar eRf at hr; split at hr <;> first | cases hr; done | (cases hr; rename_i q1 q2; first | cases q2; done | exact ⟨_, q1, by cases q2; rfl, by first | exact Or.inl ⟨_, rfl⟩ | exact Or.inr ⟨_, rfl⟩⟩))
  obtain ⟨rt, hty, rfl, hrt⟩ := hr2
  have hr' : meth.sig.returnType = some rt := cx.2.2.2.2.2.2.2.2.2.1.trans hty
  have hlocks : meth.locks = false := cx.2.2.2.2.2.2.2.2.2.2.1
  obtain ⟨fs, hret, hrun, hended, hW, hframe⟩ := X.leave (v := some (eVal G (eRf y))) (fun h => by rw [hr'] at h; cases h)
  have hmeth' : T.vm.method? m = some meth := X.method'
  refine ⟨T.setFrames fs, ?_, hrun, hended, by show eRel G h T.heap; rw [hT]; exact b.2.1, hW, by show _ ≤ T.heap.size ∧ _; rw [hT]; exact ⟨b.2.2.1.1, fun q h1 h2 => by show T.heap[q]? = _; rw [hT]; exact b.2.2.1.2.1 q h1 h2⟩, locs, hframe, b.2.2.1.2.2⟩
  have hv : eVal G (eRf y) = .null ∨ ∃ a, eVal G (eRf y) = .ref a := by
    cases y with
    | none => exact Or.inl rfl
    | some y => exact Or.inr ⟨_, rfl⟩
  generalize eVal G (eRf y) = v at hret hv ⊢
  rcases hrt with ⟨n, rfl⟩ | ⟨t, rfl⟩ <;> rcases hv with rfl | ⟨a, rfl⟩ <;>
    (jvm_step X.here [X.here.top, hexec, hb, hd, hmeth', hr']
     (try refine ⟨rfl, ?_⟩); (try refine ⟨rfl, ?_⟩)
     first | (intro acts; rw [hret _ acts rfl rfl rfl]) | rw [hret _ _ rfl rfl rfl]
     exact Steps.refl _)
theorem e_athrow {y : Nat} {rs : List Value} (cx : eCx P N G X p s m args meth c k) (hd : decode (N.cd k) pc = .ok (.athrow, 1)) (hh : eHs P k = []) (b : eBa P G s k c0 s0 lo h H locs cells slots ls) :
    W p l e R s m args below meth c H locs cells slots (eZ G s below (.inr y) h cells slots) (F0 m pc ls (.ref (eAd G y) :: rs)) := by
  intro T hT X
  obtain ⟨h1, h2, h3, h4, h5⟩ := X.athrowLeaves cx.1 (g := F0 m pc ls (.ref (eAd G y) :: rs)) rfl rfl rfl (fun x hx => by rw [cx.2.2.2.2.2.2.2.2.2.2.2.1 hh] at hx; exact absurd hx List.not_mem_nil) (a := eAd G y) (rest := rs) rfl (by rw [cx.2.1]; exact hd) (hlocks := cx.2.2.2.2.2.2.2.2.2.2.1)
  exact ⟨_, h1, h2, h3, by show eRel G h T.heap; rw [hT]; exact b.2.1, h4, by show _ ≤ T.heap.size ∧ _; rw [hT]; exact ⟨b.2.2.1.1, fun q h1 h2 => by show T.heap[q]? = _; rw [hT]; exact b.2.2.1.2.1 q h1 h2⟩, locs, h5, b.2.2.1.2.2⟩
theorem e_end {i : Instr} {len : Nat} (cx : eCx P N G X p s m args meth c k) (hd : decode (N.cd k) pc = .ok (i, len)) (hlen : eIl i = 0 ∨ len = eIl i) (hi : eRet P k i st h = some (r, h')) (b : eBa P G s k c0 s0 lo h H locs cells slots ls) :
    h' = h ∧ W p l e R s m args below meth c H locs cells slots (eZ G s below r h cells slots) (F0 m pc ls (st.map (eVal G))) := by
  unfold eRet at hi
  split at hi
  · obtain rfl : len = 1 := by simpa [eIl] using hlen
    split at hi
    · rename_i y
      simp only [eEnd] at hi
      split at hi
      · rename_i u hu
        cases hi
        exact ⟨rfl, e_iret cx hd hu b⟩
      · cases hi
    · cases hi
  · obtain rfl : len = 1 := by simpa [eIl] using hlen
    split at hi
    · rename_i y
      simp only [eEnd] at hi
      split at hi
      · rename_i u hu
        cases hi
        exact ⟨rfl, e_lret cx hd hu b⟩
      · cases hi
    · cases hi
  · obtain rfl : len = 1 := by simpa [eIl] using hlen
    split at hi
    · rename_i y
      simp only [eEnd] at hi
      split at hi
      · rename_i u hu
        cases hi
        exact ⟨rfl, e_aret (y := some y) cx hd hu b⟩
      · cases hi
    · simp only [eEnd] at hi
      split at hi
      · rename_i u hu
        cases hi
        exact ⟨rfl, e_aret (y := none) cx hd hu b⟩
      · cases hi
    · cases hi
  · obtain rfl : len = 1 := by simpa [eIl] using hlen
    split at hi
    · split at hi
      · rename_i hr
        cases hi
        exact ⟨rfl, e_vret cx hd hr b⟩
      · cases hi
    · cases hi
  · obtain rfl : len = 1 := by simpa [eIl] using hlen
    split at hi
    · rename_i hh
      split at hi
      · split at hi
        · cases hi
        · cases hi
          exact ⟨rfl, e_athrow cx hd hh b⟩
      · cases hi
    · cases hi
  · cases hi
end ES4
end
section
def eRm (d mc ms : Nat) : Room := { frames := d + 12, cells := mc, slots := ms, locals := (d + 12) * 64 }
def ePc (P : eP) (N : eW) (G : eG) (X : Nat × (Nat → Int32)) (as : List Value) (h : eH) : Array Value → State → Prop := fun v U =>
  v = (as.map (eVal G)).toArray ∧ va_K G.D G.cl (eTy G N) U ∧ eRel G h U.heap ∧ (va_X G.b X.1 X.2 U U.heap ∧ G.b ≤ G.B) ∧ eFx P N G U
def eQc (G : eG) (r : eR) (h : eH) : Array Value → State → Outcome → State → Prop := fun _ st o t => o = eO G r ∧ eRel G h t.heap ∧ va_F (eA0 G) st t
def eMet (l : Launch) (P : eP) (N : eW) (G : eG) (X : Nat × (Nat → Int32)) (d k : Nat) (as : List Value) (h : eH) (r : eR) (h' : eH) : Prop :=
  MetFree l (N.mn k) (headSpec lw_gd (eRm d (h'.2.1 - h.2.1) (h'.2.2 - h.2.2))) (ePc P N G X as h) (fun _ _ _ _ _ => True)
    (fun a st o t => eQc G r h' a st o t ∧ st.WarmedH t.vm ∧ ∃ L, st.sameButNew ({ t with vm := st.vm } : State) L (h'.2.1 - h.2.1) (h'.2.2 - h.2.2) ∧ ∀ q ∈ L, eA0 G q.base)
def gCode (P : eP) (N : eW) (k : Nat) : Prop := (eHs P k = [] ∧ Cond.code (N.mn k) (N.cd k) (eNL P k) (eRt P k) ∈ lw_gd) ∨ (¬ eHs P k = [] ∧ ∃ hs, Cond.codeWith (N.mn k) (N.cd k) (eNL P k) (eRt P k) hs ∈ lw_gd)
def gName (P : eP) (N : eW) (k : Nat) : Prop := plainName (N.mn k).cls = true ∧ ((N.mn k).cls ≠ "java/lang/invoke/MethodHandle" ∧ (N.mn k).cls ≠ "java/lang/invoke/VarHandle") ∧ (N.mn k).cls = N.cn (eOwn P k) ∧ Cond.initialized (N.mn k).cls ∈ lw_gd ∧ (P.ini k = true → (N.mn k).name = "<init>") ∧ eNL P k ≤ 40
def gMth (P : eP) (N : eW) : Prop := ∀ o ix kind k n, P.mth o ix = some (kind, k, n) →
  (kind < 3 → gCode P N k ∧ gName P N k) ∧ (kind < 2 → Cond.methodLink (N.cn o) ix (N.mn k) ∈ lw_gd) ∧
  (kind = 0 → Cond.static (N.mn k) ∈ lw_gd ∧ (parseMethodDescriptor (N.mn k).desc).map (fun d => d.parameters.length) = some n) ∧
  (kind = 1 → Cond.instanceMethod (N.mn k) ∈ lw_gd ∧ Cond.selects (N.mn k).cls (N.mn k) (N.mn k) ∈ lw_gd ∧ eHs P k = [] ∧ (parseMethodDescriptor (N.mn k).desc).map (fun d => d.parameters.length + 1) = some n) ∧
  (kind = 2 → Cond.instanceMethod (N.mn k) ∈ lw_gd ∧ (N.mn k).name = "<init>" ∧ P.ini k = true ∧ eHs P k = [] ∧ eRt P k = none ∧ (parseMethodDescriptor (N.mn k).desc).map (fun d => d.parameters.length + 1) = some n) ∧
  (kind = 3 → n = 1 ∧ Cond.methodLink (N.cn o) ix Lib.objectInit ∈ lw_gd ∧ Cond.instanceMethod Lib.objectInit ∈ lw_gd ∧ Cond.code Lib.objectInit ⟨#[0xb1]⟩ 1 none ∈ lw_gd) ∧
  (kind = 5 → n = 2 ∧ Cond.methodLink (N.cn o) ix Lib.Math.min.name ∈ lw_gd ∧ Cond.static Lib.Math.min.name ∈ lw_gd ∧ Cond.initialized "java/lang/Math" ∈ lw_gd ∧ Cond.code Lib.Math.min.name Lib.Math.min.code 2 (some .int) ∈ lw_gd) ∧
  (kind = 6 → n = 5 ∧ Cond.methodLink (N.cn o) ix arraycopyName ∈ lw_gd ∧ Cond.native arraycopyName ∈ lw_gd ∧ Cond.static arraycopyName ∈ lw_gd ∧ Cond.initialized "java/lang/System" ∈ lw_gd)
theorem ePc_blind {P : eP} {N : eW} {G : eG} {X : Nat × (Nat → Int32)} {as : List Value} {h : eH} : FrameBlind (ePc P N G X as h) := fun a U g mk q =>
  ⟨q.1, va_K.moved (u := U) (Vm.Alike.refl _) q.2.1, q.2.2.1, ⟨va_X.moved (u := U) (Vm.Alike.refl _) q.2.2.2.1.1, q.2.2.2.1.2⟩, eFx.warm (s := U) (State.WarmedH.refl _) (fun _ _ => rfl) q.2.2.2.2⟩
section ES5
variable {p : Program} {l : Launch} {e : Env} {R : Room} {s : State} {m : MethodId} {args : Array Value} {below : List Frame} {meth : Method} {c : Code} {H : Heap} {locs : List Loc} {cells slots : Nat} {Q : State → Prop}
variable {P : eP} {N : eW} {G : eG} {X : Nat × (Nat → Int32)} {k pc c0 s0 : Nat} {ls : Array Slot} {lo : eLo} {st : List Value} {h : eH}
theorem ePc_at {as : List Value} {U : State} (cx : eCx P N G X p s m args meth c k) (b : eBa P G s k c0 s0 lo h H locs cells slots ls) (hU : U.heap = H) (hW : s.WarmedH U.vm) : ePc P N G X as h (as.map (eVal G)).toArray U :=
  ⟨rfl, cx.2.2.2.2.2.1.moved hW.alike, by rw [hU]; exact b.2.1, ⟨by
    rw [hU]
    exact (va_X.moved hW.alike cx.2.2.2.2.2.2.1.1).kept (b.2.2.1.2.1 _ (Nat.lt_of_le_of_lt cx.2.2.2.2.2.2.1.2.1 cx.2.2.2.2.2.2.1.2.2) (Nat.not_lt.mpr cx.2.2.2.2.2.2.1.2.1)), cx.2.2.2.2.2.2.1.2.1⟩, cx.2.2.2.2.2.2.2.1.warm hW (fun q hq => by rw [hU]; exact b.2.2.1.2.1 q (Nat.lt_of_le_of_lt hq cx.2.2.2.2.2.2.1.2.2) (Nat.not_lt.mpr hq))⟩
theorem eMet.met {d : Nat} {as : List Value} {v : Option Value} {h' : eH} {k' : Nat} (hM : eMet l P N G X d k' as h (.inl v) h') :
    Met l (N.mn k') lw_gd (eRm d (h'.2.1 - h.2.1) (h'.2.2 - h.2.2)) (ePc P N G X as h) (eQc G (.inl v) h') (h'.2.1 - h.2.1) (h'.2.2 - h.2.2) (eA0 G) := by
  intro p e ha hc hk s m args below hf happ hP hK
  obtain ⟨n, o, h1, h2, h3, hq, hw, L, hL, hA⟩ := hM p e ha hc hk s m args below hf happ hP hK
  exact ⟨n, o, h1, h2, h3, hq, L, ⟨⟨_, hq.1⟩, hw, hL⟩, hA⟩
theorem e_back {v : Option Value} {h' : eH} {rs : List Value} {st0 : List Value} {a : Array Value} (b : eBa P G s k c0 s0 lo h H locs cells slots ls) (hm : h.2.1 ≤ h'.2.1 ∧ h.2.2 ≤ h'.2.2)
    (hr : CallRun p l e R s m args below meth c H locs cells slots (h'.2.1 - h.2.1) (h'.2.2 - h.2.2) (F0 m pc ls st0) (rs.map (eVal G)) (eQc G (.inl v) h' a) (eA0 G))
    (kk : eNext P G p l e R s m args below meth c Q k c0 s0 (pc + 3, lo, v.toList ++ rs, h')) : W p l e R s m args below meth c H locs cells slots Q (F0 m pc ls st0) := by
  intro T hT X
  obtain ⟨w, st₀, t, T', L, h0, X', hL, e1, ⟨hv, hR, hF⟩, stp⟩ := hr T hT X
  have hw : w = v.map (eVal G) := by
    have := hv
    simp only [eO, Outcome.returned.injEq] at this
    exact this
  subst hw
  have b4 := b.2.2.2.1
  have b5 := b.2.2.2.2
  rw [← e1] at hR
  have hF1 : H.size ≤ T'.heap.size := by rw [e1, ← h0]; exact hF.1
  have hF2 : ∀ q : Nat, q < H.size → ¬ eA0 G q → T'.heap[q]? = H[q]? := fun q h1 h2 => by rw [e1, ← h0]; exact hF.2 q (by rw [h0]; exact h1) h2
  have z := kk T'.heap (locs ++ L) (cells + (h'.2.1 - h.2.1)) (slots + (h'.2.2 - h.2.2)) ls ⟨b.1, hR, ⟨Nat.le_trans b.2.2.1.1 hF1, fun q h1 h2 => (hF2 q (Nat.lt_of_lt_of_le h1 b.2.2.1.1) h2).trans (b.2.2.1.2.1 q h1 h2), fun q hq => by
      rcases List.mem_append.mp hq with h | h
      · exact b.2.2.1.2.2 q h
      · exact hL q h⟩, by show cells + (h'.2.1 - h.2.1) + c0 = h'.2.1; omega, by show slots + (h'.2.2 - h.2.2) + s0 = h'.2.2; omega⟩
  obtain ⟨t2, a1, b1⟩ := z T' rfl X'
  refine ⟨t2, stp t2 ?_, b1⟩
  have hst : (v.map (eVal G)).toList ++ rs.map (eVal G) = (v.toList ++ rs).map (eVal G) := by cases v <;> simp
  rw [hst]
  exact a1
theorem e_len {y : MethodName} {n j : Nat} (hd : (parseMethodDescriptor y.desc).map (fun d => d.parameters.length + j) = some n) : ∀ sig, parseMethodDescriptor y.desc = some sig → n = sig.parameters.length + j := fun sig h => by
  rw [h] at hd
  exact (Option.some.inj hd).symm
theorem e_cat {rs : List Value} (hrs : eCat rs ≤ 8) : 2 * 0 + ((rs.map (eVal G)).map fun v => v.category).sum ≤ 8 := by
  rw [List.map_map]
  have : ((fun v : Value => v.category) ∘ eVal G) = fun v => v.category := funext (eVal_cat G)
  rw [this]
  unfold eCat at hrs
  omega
theorem e_runI {d k' ix : Nat} {as rs : List Value} {v : Option Value} {h' : eH} {a : Nat} (cx : eCx P N G X p s m args meth c k) (gg : GoodIn lw_gd lw_gd) (b : eBa P G s k c0 s0 lo h H locs cells slots ls)
    (hM : eMet l P N G X d k' (.ref a :: as) h (.inl v) h') (hcode : Cond.code (N.mn k') (N.cd k') (eNL P k') none ∈ lw_gd) (hn : gName P N k') (hlink : Cond.methodLink (N.cn (eOwn P k)) ix (N.mn k') ∈ lw_gd ∨ ∃ host, va_Nw (.methodLinkNest (N.cn (eOwn P k)) ix (N.mn k') host) s) (hin : Cond.instanceMethod (N.mn k') ∈ lw_gd) (hini : (N.mn k').name = "<init>")
    (hlen : (parseMethodDescriptor (N.mn k').desc).map (fun d => d.parameters.length + 1) = some (as.length + 1)) (hrs : eCat rs ≤ 8) (hd : decode (N.cd k) pc = .ok (.invokespecial ix, 3)) (hfr : d + 13 ≤ R.frames ∧ (d + 13) * 64 ≤ R.locals)
    (hc : h'.2.1 ≤ R.cells + c0) (hs : h'.2.2 ≤ R.slots + s0) (hm : h.2.1 ≤ h'.2.1 ∧ h.2.2 ≤ h'.2.2) {st0 : List Value} (hst : st0 = as.reverse ++ .ref a :: rs) :
    CallRun p l e R s m args below meth c H locs cells slots (h'.2.1 - h.2.1) (h'.2.2 - h.2.2) (F0 m pc ls (st0.map (eVal G))) (rs.map (eVal G)) (eQc G (.inl v) h' (Value.ref (eAd G a) :: as.map (eVal G)).toArray) (eA0 G) := by
  have hts := cx.2.2.2.2.1
  have b4 := b.2.2.2.1
  have b5 := b.2.2.2.2
  have hfr1 : d + 12 + 1 ≤ R.frames := by omega
  have hlo1 : 8 + (eNL P k' + 11) + (d + 12) * 64 ≤ R.locals := by
    have := hn.2.2.2.2.2
    omega
  have hst2 : (F0 m pc ls (st0.map (eVal G))).stack = (as.map (eVal G)).reverse ++ .ref (eAd G a) :: rs.map (eVal G) := by subst hst; simp; rfl
  rcases hlink with hlink | ⟨host, hlink⟩
  · exact W.runI (nL := eNL P k) (own := N.cn (eOwn P k)) (Ts := lw_gd) (n := as.length) (bytes := N.cd k') (maxL := eNL P k') (b := eAd G a) (As := as.map (eVal G)) ⟨cx.1, cx.2.1, cx.2.2.1, cx.2.2.2.1, hts⟩ hM.met
      ⟨⟨rfl, rfl, hfr1, hlo1, pay_in hts gg, hcode, hts _ hcode, hts _ hn.2.2.2.1, hn.2.1, fun sig hsig => by have := e_len hlen sig hsig; omega, hts _ hlink⟩, hini, hts _ hin⟩
      ⟨ePc_blind, fun U hU hW => ePc_at cx b hU hW⟩ rfl (by simp) b.1.2.1 hst2 (e_cat hrs) hd ⟨by omega, by omega⟩
  · have hr := va_runIN (l := l) (cells := cells) (slots := slots) (R := R) (below := below) (p := p) (e := e) (meth := meth) (locs := locs) (H := H) (g := F0 m pc ls (st0.map (eVal G))) (rest := rs.map (eVal G)) (nL := eNL P k) (own := N.cn (eOwn P k)) (host := host) (Ts := lw_gd) (n := as.length) (bytes := N.cd k') (maxL := eNL P k') (b := eAd G a) (As := as.map (eVal G)) ⟨cx.1, cx.2.1, cx.2.2.1, cx.2.2.2.1, hts⟩ hM.met
      ⟨⟨⟨rfl, rfl, hfr1, hlo1, pay_in hts gg, hcode⟩, hts _ hcode, hts _ hn.2.2.2.1, hn.2.1, fun sig hsig => by have := e_len hlen sig hsig; omega, va_Nw.use rfl hlink⟩, hini, hts _ hin⟩
      ⟨ePc_blind, fun U hU hW => ePc_at cx b hU hW⟩ rfl (by simp) b.1.2.1 hst2 (e_cat hrs) hd ⟨by omega, by omega⟩
    intro T hT X0
    obtain ⟨w, st₀, t, T', L, h0, X', hL, e1, -, hq, stp⟩ := hr T hT X0
    exact ⟨w, st₀, t, T', L, h0, X', hL, e1, hq, stp⟩
theorem e_recv {a c1 : Nat} {fs : List Value} (cx : eCx P N G X p s m args meth c k) (gl : gCl N G.cl) (b : eBa P G s k c0 s0 lo h H locs cells slots ls) (ha : ¬ a = 0) (hc : h.1 a = some (.inr (c1, fs))) :
    ∃ cellB : Cell, H[eAd G a]? = some cellB ∧ cellB.vm.isStatics = false ∧ s.vm.findClass (N.cn c1) = some cellB.cls := by
  obtain ⟨r, hr, cell, g1, g2, g3, -⟩ := b.2.1.at ha hc
  refine ⟨cell, g1, by rw [g3]; rfl, ?_⟩
  rw [g2, ← gl c1 r hr]
  exact (cx.2.2.2.2.2.1.1 c1 r hr).2.1
theorem e_runV {d k' ix : Nat} {as rs : List Value} {v : Option Value} {h' : eH} {a : Nat} {fs : List Value} (cx : eCx P N G X p s m args meth c k) (gg : GoodIn lw_gd lw_gd) (gl : gCl N G.cl) (b : eBa P G s k c0 s0 lo h H locs cells slots ls)
    (hM : eMet l P N G X d k' (.ref a :: as) h (.inl v) h') (hcode : Cond.code (N.mn k') (N.cd k') (eNL P k') (eRt P k') ∈ lw_gd) (hn : gName P N k') (hlink : Cond.methodLink (N.cn (eOwn P k)) ix (N.mn k') ∈ lw_gd) (hin : Cond.instanceMethod (N.mn k') ∈ lw_gd) (hse : Cond.selects (N.mn k').cls (N.mn k') (N.mn k') ∈ lw_gd)
    (ha : ¬ a = 0) (hcell : h.1 a = some (.inr (eOwn P k', fs)))
    (hlen : (parseMethodDescriptor (N.mn k').desc).map (fun d => d.parameters.length + 1) = some (as.length + 1)) (hrs : eCat rs ≤ 8) (hd : decode (N.cd k) pc = .ok (.invokevirtual ix, 3)) (hfr : d + 13 ≤ R.frames ∧ (d + 13) * 64 ≤ R.locals)
    (hc : h'.2.1 ≤ R.cells + c0) (hs : h'.2.2 ≤ R.slots + s0) (hm : h.2.1 ≤ h'.2.1 ∧ h.2.2 ≤ h'.2.2) {st0 : List Value} (hst : st0 = as.reverse ++ .ref a :: rs) :
    CallRun p l e R s m args below meth c H locs cells slots (h'.2.1 - h.2.1) (h'.2.2 - h.2.2) (F0 m pc ls (st0.map (eVal G))) (rs.map (eVal G)) (eQc G (.inl v) h' (Value.ref (eAd G a) :: as.map (eVal G)).toArray) (eA0 G) := by
  have hts := cx.2.2.2.2.1
  have b4 := b.2.2.2.1
  have b5 := b.2.2.2.2
  refine W.runV (nL := eNL P k) (own := N.cn (eOwn P k)) (C := (N.mn k').cls) (Ts := lw_gd) (n := as.length) (bytes := N.cd k') (maxL := eNL P k') (b := eAd G a) (As := as.map (eVal G)) ⟨cx.1, cx.2.1, cx.2.2.1, cx.2.2.2.1, hts⟩ hM.met
    ⟨⟨rfl, rfl, ?_, ?_, pay_in hts gg, hcode, hts _ hcode, hts _ hn.2.2.2.1, hn.2.1, fun sig hsig => by have := e_len hlen sig hsig; omega, hts _ hlink⟩, hts _ hin, hts _ hse⟩
    ⟨ePc_blind, by rw [hn.2.2.1]; exact e_recv cx gl b ha hcell, fun U hU hW => ePc_at cx b hU hW⟩ rfl (by simp) b.1.2.1 (by subst hst; simp; rfl) (e_cat hrs) hd ⟨by omega, by omega⟩
  · show d + 12 + 1 ≤ R.frames
    omega
  · show 8 + (eNL P k' + 11) + (d + 12) * 64 ≤ R.locals
    have := hn.2.2.2.2.2
    omega
theorem e_backOf {d k' : Nat} {as : List Value} {v : Option Value} {h' : eH} (hts : ∀ w ∈ lw_gd, w.before args s = true) (gg : GoodIn lw_gd lw_gd) (hM : eMet l P N G X d k' as h (.inl v) h') (hcode : gCode P N k') (hn : gName P N k') (hfr : d + 13 ≤ R.frames ∧ (d + 13) * 64 ≤ R.locals) :
    Back l R p e below s args (N.mn k') 3 8 (PreOf R (h'.2.1 - h.2.1) (h'.2.2 - h.2.2) (ePc P N G X as h)) (PostOf (eQc G (.inl v) h') (h'.2.1 - h.2.1) (h'.2.2 - h.2.2) (eA0 G)) := by
  have hws := pay_in hts gg
  have hlo : 8 + (eNL P k' + 11) + (d + 12) * 64 ≤ R.locals := by have := hn.2.2.2.2.2; omega
  rcases hcode with ⟨-, hcode⟩ | ⟨-, hs, hcode⟩
  · exact back_of (bytes := N.cd k') (maxL := eNL P k') (ret := eRt P k') hM.met ePc_blind rfl rfl (by show d + 12 + 1 ≤ _; omega) hlo hws hcode (fun a' U hW => hws _ hn.2.2.2.1 a' U hW)
  · refine Back.of_freeWith (handlers := hs) (S := headSpec lw_gd (eRm d (h'.2.1 - h.2.1) (h'.2.2 - h.2.2))) (P := ePc P N G X as h) (K := fun _ _ _ _ _ => True) (Q := fun a st o t => eQc G (.inl v) h' a st o t ∧ ∃ L, FrameEnd st o t L (h'.2.1 - h.2.1) (h'.2.2 - h.2.2) ∧ ∀ q ∈ L, eA0 G q.base) (bytes := N.cd k') (maxL := eNL P k') (ret := eRt P k')
      (E := fun a st o t L k n => k = (h'.2.1 - h.2.1) ∧ n = (h'.2.2 - h.2.2) ∧ ∀ q ∈ L, eA0 G q.base) hM.met (by show d + 12 + 1 ≤ _; omega) hlo ?_ ?_ (fun _ _ _ _ _ _ _ _ _ => trivial) ?_ ?_
    · intro m meth c A a X hp
      exact ⟨atoms_intro fun w hw => hws w hw _ _ X.warmed, hws _ hcode _ _ X.warmed, hws _ hn.2.2.2.1 _ _ X.warmed, hp.1, hp.2.1⟩
    · intro m meth c A a g mk X hp
      exact ePc_blind _ _ _ _ hp.2.2
    · intro a st o t ⟨hq, L, hF, hL⟩
      exact ⟨L, _, _, hF, rfl, rfl, hL⟩
    · intro m meth c A a g mk v t L k n X hp hq hF ⟨e1, e2, hL⟩
      subst e1; subst e2
      exact ⟨g, mk, t, L, rfl, rfl, hq.1, rfl, hL, rfl, rfl⟩
theorem e_named {k' : Nat} (hts : ∀ w ∈ lw_gd, w.before args s = true) (hcode : gCode P N k') : ∃ mk methM, s.methodNamed? (N.mn k') = some mk ∧ s.vm.method? mk = some methM ∧ parseMethodDescriptor (N.mn k').desc = some methM.sig := by
  rcases hcode with ⟨-, hcode⟩ | ⟨-, hs', hcode⟩
  · obtain ⟨mk, hnamed⟩ := Cond.code_named (hts _ hcode)
    obtain ⟨methM, cM, hmethM, -, -, -, -, -, -, hsigM⟩ := Cond.code_spec hnamed (hts _ hcode)
    exact ⟨mk, methM, hnamed, hmethM, hsigM⟩
  · obtain ⟨mk, methM, cM, hnamed, hmethM, -, -, -, -, -, -, hsigM⟩ := Cond.codeWith_spec (hts _ hcode)
    exact ⟨mk, methM, hnamed, hmethM, hsigM⟩
theorem e_runS {d k' ix : Nat} {as rs : List Value} {v : Option Value} {h' : eH} (cx : eCx P N G X p s m args meth c k) (gg : GoodIn lw_gd lw_gd) (b : eBa P G s k c0 s0 lo h H locs cells slots ls)
    (hM : eMet l P N G X d k' as h (.inl v) h') (hcode : gCode P N k') (hn : gName P N k') (hlink : Cond.methodLink (N.cn (eOwn P k)) ix (N.mn k') ∈ lw_gd) (hstat : Cond.static (N.mn k') ∈ lw_gd)
    (hlen : (parseMethodDescriptor (N.mn k').desc).map (fun d => d.parameters.length) = some as.length) (hrs : eCat rs ≤ 8) (hd : decode (N.cd k) pc = .ok (.invokestatic ix, 3)) (hfr : d + 13 ≤ R.frames ∧ (d + 13) * 64 ≤ R.locals)
    (hc : h'.2.1 ≤ R.cells + c0) (hs : h'.2.2 ≤ R.slots + s0) (hm : h.2.1 ≤ h'.2.1 ∧ h.2.2 ≤ h'.2.2) {st0 : List Value} (hst : st0 = as.reverse ++ rs) :
    CallRun p l e R s m args below meth c H locs cells slots (h'.2.1 - h.2.1) (h'.2.2 - h.2.2) (F0 m pc ls (st0.map (eVal G))) (rs.map (eVal G)) (eQc G (.inl v) h' (as.map (eVal G)).toArray) (eA0 G) := by
  have hts := cx.2.2.2.2.1
  have b4 := b.2.2.2.1
  have b5 := b.2.2.2.2
  have hK := e_backOf (p := p) (e := e) (below := below) hts gg hM hcode hn hfr
  have hsz : (F0 m pc ls (st0.map (eVal G))).locals.size = c.maxLocals := b.1.2.1.trans cx.2.2.1.symm
  have hl2 : ∀ sig, parseMethodDescriptor (N.mn k').desc = some sig → (as.map (eVal G)).length = sig.parameters.length := fun sig hsig => by
    rw [hsig] at hlen
    rw [List.length_map]
    exact (Option.some.inj hlen).symm
  have hst2 : (F0 m pc ls (st0.map (eVal G))).stack = (as.map (eVal G)).reverse ++ rs.map (eVal G) := by subst hst; simp
  obtain ⟨mk, methM, hnamed, hmethM, hsigM⟩ := e_named hts hcode
  have hstatic : methM.isStatic = true := Cond.static_spec hnamed hmethM (hts _ hstat)
  obtain ⟨kP, hkP, -⟩ := className_of_methodNamed hnamed
  have hinitP : kP.init = .initialized := Cond.initialized_spec (findClass_of_methodNamed hnamed) hkP (hts _ hn.2.2.2.1)
  intro T hT X0
  obtain ⟨vm₁, X₁, hstep₁⟩ := X0.invokestatic cx.1 cx.2.2.2.1 (hts _ hlink) hnamed hmethM hstatic hkP hinitP hn.2.1 (g := F0 m pc ls (st0.map (eVal G))) rfl (argsL := as.map (eVal G)) (rest := rs.map (eVal G)) (hl2 _ hsigM) hst2 (by rw [cx.2.1]; exact hd)
  obtain ⟨w, ⟨U', l2, c2, s2⟩, X', ⟨g', mk', t, L, e1, e2, hq, h1, hL, h2, h3⟩, hsteps⟩ := hK m meth c ⟨T.setVm vm₁, locs, cells, slots⟩ { (F0 m pc ls (st0.map (eVal G))) with stack := rs.map (eVal G) } (.invokestatic ix) mk (as.map (eVal G)).toArray X₁ rfl hsz (by rw [cx.2.1]; exact hd) (e_cat hrs) (X₁.named hnamed)
    ⟨by show cells + _ ≤ _; omega, by show slots + _ ≤ _; omega, ePc_at (U := T.setVm vm₁) cx b hT X₁.warmed⟩
  dsimp only [Pt.U, Pt.locs, Pt.cells, Pt.slots] at X' e1 e2 h1 h2 h3 hsteps
  subst h1; subst h2; subst h3
  exact ⟨w, (T.setVm vm₁).calling g' mk' (as.map (eVal G)).toArray, t, U', L, hT, X', hL, e1, hq, fun target h => hstep₁ _ fun acts => by rw [doInvoke_state]; exact hsteps.trans h⟩
end ES5
end
section
theorem e_cpy_eq : @eCpy = @va_cpy := rfl
theorem eOn_some {kd kind pc : Nat} {lo : eLo} {st : List Value} {h : eH} {x : eS} (q : eOwnless kd kind pc lo st h = some x) :
    (kind = 3 ∧ kd = 2 ∧ ∃ a r, st = .ref a :: r ∧ (pc + 3, lo, r, h) = x) ∨
    (kind = 5 ∧ kd = 0 ∧ ∃ y z r, st = .int z :: .int y :: r ∧ (pc + 3, lo, .int (if z < y then z else y) :: r, h) = x) ∨
    (kind = 6 ∧ kd = 0 ∧ eCopy h st (fun h' r => eN (pc + 3) lo r h') = some x) := by
  unfold eOwnless at q
  split at q
  · obtain ⟨h1, h2⟩ := eIf_else q
    obtain ⟨a, r, rfl, h2⟩ := eR1_some h2
    exact Or.inl ⟨rfl, h1, a, r, rfl, eN_inj h2⟩
  · obtain ⟨h1, h2⟩ := eIf_else q
    obtain ⟨y, z, r, rfl, h2⟩ := eI2_some h2
    exact Or.inr (Or.inl ⟨rfl, h1, y, z, r, rfl, eN_inj h2⟩)
  · obtain ⟨h1, h2⟩ := eIf_else q
    exact Or.inr (Or.inr ⟨rfl, h1, h2⟩)
  · cases q
theorem eArgs_some {P : eP} {kd kind k n : Nat} {st : List Value} {h : eH} {as rs : List Value} (hn : ¬ (st.length < n)) (q : eArgs P kd kind k n st h = some (as, rs)) :
    st = as.reverse ++ rs ∧ rs = st.drop n ∧ as.length = n ∧ kd = kind ∧ (kind = 0 ∨ (kind = 1 ∧ ∃ a as' fs, as = .ref a :: as' ∧ ¬ a = 0 ∧ h.1 a = some (.inr (eOwn P k, fs))) ∨ (kind = 2 ∧ ∃ a as', as = .ref a :: as')) := by
  have key : ∀ {as rs : List Value}, (st.take n).reverse = as → st.drop n = rs → st = as.reverse ++ rs ∧ rs = st.drop n ∧ as.length = n := fun h1 h2 => by
    subst h1; subst h2
    exact ⟨by simp, rfl, by simp; omega⟩
  unfold eArgs at q
  split at q
  · cases q
  · rename_i hk
    have hk : kd = kind := Decidable.of_not_not hk
    split at q
    · cases q
      obtain ⟨h1, h2, h3⟩ := key rfl rfl
      exact ⟨h1, h2, h3, hk, Or.inl rfl⟩
    · split at q
      · rename_i a as' hz
        split at q
        · rename_i c fs hc
          split at q
          · cases q
          · rename_i hq
            cases q
            obtain ⟨h1, h2, h3⟩ := key rfl rfl
            have h4 : c = eOwn P k := Decidable.of_not_not fun z => hq (Or.inr z)
            subst h4
            exact ⟨h1, h2, h3, hk, Or.inr (Or.inl ⟨rfl, a, as', fs, hz, fun z => hq (Or.inl z), hc⟩)⟩
        · cases q
      · cases q
    · split at q
      · rename_i a as' hz
        cases q
        obtain ⟨h1, h2, h3⟩ := key rfl rfl
        exact ⟨h1, h2, h3, hk, Or.inr (Or.inr ⟨rfl, a, as', hz⟩)⟩
      · cases q
    · cases q
section ES6
variable {p : Program} {l : Launch} {e : Env} {R : Room} {s : State} {m : MethodId} {args : Array Value} {below : List Frame} {meth : Method} {c : Code} {H : Heap} {locs : List Loc} {cells slots : Nat} {Q : State → Prop}
variable {P : eP} {N : eW} {G : eG} {X : Nat × (Nat → Int32)} {k pc c0 s0 : Nat} {ls : Array Slot} {lo : eLo} {st : List Value} {h : eH} {x : eS}
theorem es_init {ix k0 na a : Nat} {rs : List Value} (cx : eCx P N G X p s m args meth c k) (gm : gMth P N) (hm : P.mth (eOwn P k) ix = some (3, k0, na)) (hd : decode (N.cd k) pc = .ok (.invokespecial ix, 3)) (hrs : eCat ((Value.ref a :: rs).drop na) ≤ 8) (b : eBa P G s k c0 s0 lo h H locs cells slots ls) (hfr : 12 ≤ R.frames ∧ 700 ≤ R.locals)
    (kk : eNext P G p l e R s m args below meth c Q k c0 s0 (pc + 3, lo, rs, h)) : W p l e R s m args below meth c H locs cells slots Q (F0 m pc ls (.ref (eAd G a) :: rs.map (eVal G))) := by
  obtain ⟨rfl, h1, h2, h3⟩ := (gm _ _ _ _ _ hm).2.2.2.2.2.1 rfl
  have hts := cx.2.2.2.2.1
  have hrs' : eCat rs ≤ 8 := hrs
  refine W.objInit cx.1 cx.2.1 cx.2.2.2.1 (hts _ h1) (hts _ h2) (hts _ h3) rfl (b.1.2.1.trans cx.2.2.1.symm) rfl hd (by omega) ?_ (kk _ _ _ _ _ b)
  have := e_cat (G := G) hrs'
  show 2 * 0 + _ + 12 ≤ _
  omega
theorem es_min {ix k0 na : Nat} {y z : Int32} {rs : List Value} (cx : eCx P N G X p s m args meth c k) (gm : gMth P N) (hm : P.mth (eOwn P k) ix = some (5, k0, na)) (hd : decode (N.cd k) pc = .ok (.invokestatic ix, 3)) (hrs : eCat ((Value.int z :: Value.int y :: rs).drop na) ≤ 8) (b : eBa P G s k c0 s0 lo h H locs cells slots ls) (hfr : 12 ≤ R.frames ∧ 700 ≤ R.locals) (hc : h.2.1 ≤ R.cells + c0) (hs : h.2.2 ≤ R.slots + s0)
    (kk : eNext P G p l e R s m args below meth c Q k c0 s0 (pc + 3, lo, .int (if z < y then z else y) :: rs, h)) : W p l e R s m args below meth c H locs cells slots Q (F0 m pc ls (.int z :: .int y :: rs.map (eVal G))) := by
  obtain ⟨rfl, h1, h2, h3, h4⟩ := (gm _ _ _ _ _ hm).2.2.2.2.2.2.1 rfl
  have hts := cx.2.2.2.2.1
  have b4 := b.2.2.2.1
  have b5 := b.2.2.2.2
  have hrs' : eCat rs ≤ 8 := hrs
  have := e_cat (G := G) hrs'
  exact va_mmin cx.1 cx.2.1 (cx.2.2.1.trans b.1.2.1.symm) cx.2.2.2.1 (hts _ h1) (hts _ h2) (hts _ h3) (hts _ h4) (by omega) (by omega) (by omega) (by omega) hd (kk _ _ _ _ _ b)
theorem e_copy_one {ix k0 na : Nat} {sp dp n : Int32} {a d : Nat} {rs : List Value} {t na0 nd : Nat} {α : Type} {mk : α → Value} {f g : Nat → α} {ty : FieldType} {wrap : (Nat → α) → (Nat → Int32) ⊕ ((Nat → Int64) ⊕ (Nat → Option Nat))}
    (hcell : ∀ j (f : Nat → α) (z : Nat) (H : Heap), va_at G.D G.cl (z, eCo G (.inl (t, j, wrap f))) H ↔ H[z]? = some (arrV (G.ca t) j fun i => mk (f i)))
    (cx : eCx P N G X p s m args meth c k) (gm : gMth P N) (hty : N.ty[t]? = some ty) (hprim : refKind ty = false) (hfit : ∀ z, fits ty (mk z) = true) (hmk : ∀ z w, mk z ≠ .ref w) (hm : P.mth (eOwn P k) ix = some (6, k0, na)) (hd : decode (N.cd k) pc = .ok (.invokestatic ix, 3)) (hrs : eCat rs ≤ 8)
    (b : eBa P G s k c0 s0 lo h H locs cells slots ls) (hfr : 12 ≤ R.frames ∧ 700 ≤ R.locals) (ha : ¬ a = 0) (hd0 : ¬ d = 0) (ca : h.1 a = some (.inl (t, na0, wrap f))) (cd : h.1 d = some (.inl (t, nd, wrap g))) (h1 : ¬ sp < 0) (h2 : ¬ dp < 0) (h3 : ¬ n < 0) (h4 : sp.toNatClampNeg + n.toNatClampNeg ≤ na0) (h5 : dp.toNatClampNeg + n.toNatClampNeg ≤ nd)
    (kk : eNext P G p l e R s m args below meth c Q k c0 s0 (pc + 3, lo, rs, eSetH h d (.inl (t, nd, wrap (eCpy f g sp.toNatClampNeg dp.toNatClampNeg n.toNatClampNeg))))) :
    W p l e R s m args below meth c H locs cells slots Q (F0 m pc ls (.int n :: .int dp :: .ref (eAd G d) :: .int sp :: .ref (eAd G a) :: rs.map (eVal G))) := by
  obtain ⟨-, w1, w2, w3, w4⟩ := (gm _ _ _ _ _ hm).2.2.2.2.2.2.2 rfl
  have hts := cx.2.2.2.2.1
  have hK := cx.2.2.2.2.2.1
  have nn : ∀ z : Int32, ¬ z < 0 → z.toInt = (z.toNatClampNeg : Int) := by
    intro z hz
    have hz0 : (0 : Int) ≤ z.toInt := by
      have := Int32.not_lt.mp hz
      simpa using Int32.le_iff_toInt_le.mp this
    show z.toInt = ((z.toInt.toNat : Nat) : Int)
    omega
  intro T hT X0
  have hc0 : H[eAd G a]? = some (arrV (G.ca t) na0 fun i => mk (f i)) := (hcell _ _ _ _).mp (b.2.1.at ha ca)
  have hc1 : H[eAd G d]? = some (arrV (G.ca t) nd fun i => mk (g i)) := (hcell _ _ _ _).mp (b.2.1.at hd0 cd)
  obtain ⟨-, kk0, hk0, cm0, hkk0⟩ := (hK.2 t _ (eTy_at hty)).1 na0 (fun i => mk (f i))
  obtain ⟨-, kk1, hk1, cm1, hkk1⟩ := (hK.2 t _ (eTy_at hty)).1 nd (fun i => mk (g i))
  obtain ⟨vm', X', step⟩ := X0.arraycopy cx.1 cx.2.2.2.1 (hts _ w1) (hts _ w2) (hts _ w3) (hts _ w4) (src := eAd G a) (dst := eAd G d) (cs := arrV (G.ca t) na0 fun i => mk (f i)) (cd := arrV (G.ca t) nd fun i => mk (g i)) (srcPos := sp) (destPos := dp) (n := n) (by rw [hT]; exact hc0) (by rw [hT]; exact hc1)
    (fun _ h => by cases h) (fun _ h => by cases h) (fun h => by cases h) (fun h => by cases h) hk0 hk1 hkk0 hkk1 (by simp [hprim]) h1 h2 h3
    (by rw [nn sp h1, nn n h3, arrV_size]; omega)
    (by rw [nn dp h2, nn n h3, arrV_size]; omega)
    (fun vm₁ _ i hi => by
      have e : (arrV (G.ca t) na0 fun i => mk (f i)).slots.getD (sp.toNatClampNeg + i) .null = mk (f (sp.toNatClampNeg + i)) := by
        rw [Array.getD_eq_getD_getElem?, arrV_read _ _ (by omega)]
        rfl
      rw [e]
      refine ⟨hfit _, ?_⟩
      cases hq : mk (f (sp.toNatClampNeg + i)) <;> first | exact trivial | exact absurd hq (hmk _ _))
    (g := F0 m pc ls (.int n :: .int dp :: .ref (eAd G d) :: .int sp :: .ref (eAd G a) :: rs.map (eVal G))) rfl (b.1.2.1.trans cx.2.2.1.symm) (rest := rs.map (eVal G)) rfl (by rw [cx.2.1]; exact hd) (by omega) (by
      have := e_cat (G := G) hrs
      have hw : nativeFrameWords "java/lang/System" "arraycopy" 5 ≤ 100 := by decide +kernel
      show 2 * 0 + _ + _ ≤ _
      omega)
  have e1 : copied (arrV (G.ca t) na0 fun i => mk (f i)) (arrV (G.ca t) nd fun i => mk (g i)) sp dp n = arrV (G.ca t) nd fun i => mk (va_cpy f g sp.toNatClampNeg dp.toNatClampNeg n.toNatClampNeg i) := va_copied mk (G.ca t) (G.ca t) f g h4
  rw [e1] at X' step
  have hl : eAd G d < H.size := (Array.getElem?_eq_some_iff.mp hc1).1
  have hz : ∀ locs1 : List Loc, (∀ q ∈ locs1, eA0 G q.base) → W p l e R s m args below meth c (H.setIfInBounds (eAd G d) (arrV (G.ca t) nd fun i => mk (va_cpy f g sp.toNatClampNeg dp.toNatClampNeg n.toNatClampNeg i))) locs1 cells slots Q (F0 m (pc + 3) ls (rs.map (eVal G))) := fun locs1 hl1 =>
    kk _ locs1 cells slots ls ⟨b.1, b.2.1.set hd0 cd (by simp) (fun q hq => by simp [Array.getElem?_setIfInBounds, Ne.symm hq]) ((hcell _ _ _ _).mpr (by simp [Array.getElem?_setIfInBounds, hl]; rfl)),
    ⟨by simp; exact b.2.2.1.1, fun q g1 g2 => by
      have hq : q ≠ eAd G d := fun z => g2 (by rw [z]; exact eA0_ad hd0)
      simp only [Array.getElem?_setIfInBounds, if_neg (Ne.symm hq)]
      exact b.2.2.1.2.1 q g1 g2, hl1⟩, b.2.2.2⟩
  obtain ⟨t2, a1, b1⟩ := hz _ (by
    intro q hq
    rcases List.mem_append.mp hq with h | h
    · exact b.2.2.1.2.2 q h
    · obtain ⟨z, -, hz⟩ := List.mem_map.mp h
      rw [← hz]
      exact eA0_ad hd0) _ (by rw [← hT]; rfl) X'
  exact ⟨t2, step t2 a1, b1⟩
end ES6
end
section
section ES7
variable {p : Program} {l : Launch} {e : Env} {R : Room} {s : State} {m : MethodId} {args : Array Value} {below : List Frame} {meth : Method} {c : Code} {H : Heap} {locs : List Loc} {cells slots : Nat} {Q : State → Prop}
variable {P : eP} {N : eW} {G : eG} {X : Nat × (Nat → Int32)} {k pc c0 s0 : Nat} {ls : Array Slot} {lo : eLo} {st : List Value} {h : eH}
theorem e_threw {d k' : Nat} {as : List Value} {y : Nat} {h' : eH} {T : State} {g : JFrame} {mk : MethodId} {ig : Instr} (hts : ∀ w ∈ lw_gd, w.before args s = true) (gg : GoodIn lw_gd lw_gd) (hM : eMet l P N G X d k' as h (.inr y) h') (hcode : Cond.code (N.mn k') (N.cd k') (eNL P k') (eRt P k') ∈ lw_gd) (hn : gName P N k')
    (hfr : d + 13 ≤ R.frames ∧ (d + 13) * 64 ≤ R.locals) (X0 : Stand p l e R s m args below meth c T locs cells slots) (hg : g.method = m) (hsize : g.locals.size = c.maxLocals) (hdg : decode c.code g.pc = .ok (ig, 3)) (hW : 2 * g.monitorRoom + (g.stack.map fun v => v.category).sum ≤ 8) (hnm : T.methodNamed? (N.mn k') = some mk)
    (hPc : ePc P N G X as h (as.map (eVal G)).toArray T) (hc : cells + (h'.2.1 - h.2.1) ≤ R.cells) (hs : slots + (h'.2.2 - h.2.2) ≤ R.slots) :
    ∃ (T' : State) (L : List Loc), Stand p l e R s m args below meth c T' (locs ++ L) (cells + (h'.2.1 - h.2.1)) (slots + (h'.2.2 - h.2.2)) ∧ (∀ q ∈ L, eA0 G q.base) ∧ eRel G h' T'.heap ∧ va_F (eA0 G) T T' ∧
      Steps p.tables e below (doInvoke e (T.setTop g) [] mk (as.map (eVal G)).toArray).1 ((T'.setTop g).pushFrame (.throwing (eAd G y))) := by
  subst hg
  have hws := pay_in hts gg
  have hlo : 8 + (eNL P k' + 11) + (d + 12) * 64 ≤ R.locals := by have := hn.2.2.2.2.2; omega
  obtain ⟨methY, cY, hmY, hcY, -, hlY, -, -, -, -⟩ := Cond.code_spec (args := #[]) hnm (hws _ hcode #[] T X0.warmed)
  obtain ⟨kY, hkY, -⟩ := className_of_methodNamed hnm
  have hinitY : kY.init = .initialized := Cond.initialized_spec (args := #[]) (findClass_of_methodNamed hnm) hkY (hws _ hn.2.2.2.1 #[] T X0.warmed)
  have h0 : At T g.method c below := X0.here
  have happ : (headSpec lw_gd (eRm d (h'.2.1 - h.2.1) (h'.2.2 - h.2.2))).appliesLoose (N.mn k') e.platform (T.calling g mk (as.map (eVal G)).toArray) = true :=
    Spec.appliesLoose_calling (g := g) h0 hdg hnm hkY hinitY
      (X0.room_calling (g := g) (R' := eRm d (h'.2.1 - h.2.1) (h'.2.2 - h.2.2)) hsize hmY hcY (by show d + 12 + 1 ≤ R.frames; omega) (by rw [hlY]; show _ + _ + (eNL P k' + 11) + (d + 12) * 64 ≤ R.locals; omega) hc hs)
      (atoms_intro fun w hw => hws w hw _ _ X0.warmed)
  obtain ⟨mid, hmid⟩ := h0.above
  have hfr2 : (T.setTop g).frames = (.java g :: mid) ++ below := by rw [State.frames_setTop' g h0.top, hmid]; rfl
  obtain ⟨o, s₂, hsteps, -, hend, hq⟩ := Steps.callFree hM p X0.admits X0.cas X0.clock (acts := []) hfr2 happ (ePc_blind _ _ g mk hPc) trivial
  rw [State.frames_setTop' g h0.top] at hend
  have hq' : eQc G (.inr y) h' (as.map (eVal G)).toArray (T.calling g mk (as.map (eVal G)).toArray) o s₂ ∧ (T.calling g mk (as.map (eVal G)).toArray).WarmedH s₂.vm ∧ ∃ L, (T.calling g mk (as.map (eVal G)).toArray).sameButNew ({ s₂ with vm := (T.calling g mk (as.map (eVal G)).toArray).vm } : State) L (h'.2.1 - h.2.1) (h'.2.2 - h.2.2) ∧ ∀ q ∈ L, eA0 G q.base := hq
  obtain ⟨⟨ho, hR, hF⟩, hW₂, L, hsb, hL⟩ := hq'
  obtain ⟨e2, q2, q3, q4, q5, q6⟩ := id hsb
  have ho' : o = .threw (eAd G y) := ho
  subst ho'
  have e3 : s₂ = ({ (T.calling g mk (as.map (eVal G)).toArray).setFrames s₂.frames with heap := s₂.heap, slotsUsed := s₂.slotsUsed } : State).setVm s₂.vm := by
    have : s₂ = ({ s₂ with vm := (T.calling g mk (as.map (eVal G)).toArray).vm } : State).setVm s₂.vm := rfl
    rw [e2] at this
    exact this
  have hf₂ : s₂.frames = .throwing (eAd G y) :: .java g :: T.frames.tail := hend
  have hW' : T.WarmedH s₂.vm := hW₂
  obtain ⟨g₀, hg0⟩ := Option.isSome_iff_exists.mp h0.top
  obtain ⟨r, hr⟩ := State.topJava?_eq_some.mp hg0
  have hs₂ : s₂ = ((({ T with heap := s₂.heap, slotsUsed := s₂.slotsUsed } : State).setVm s₂.vm).setTop g).pushFrame (.throwing (eAd G y)) := by
    have hr' : (({ T with heap := s₂.heap, slotsUsed := s₂.slotsUsed } : State).setVm s₂.vm).frames = .java g₀ :: r := hr
    refine e3.trans ?_
    rw [hf₂, State.calling_eq h0.top, State.setFrames_setFrames, State.pushFrame, State.frames_setTop _ hr', State.setTop_of_frames _ hr', State.setFrames_setFrames, hr]
    rfl
  have hsame : T.sameButNew ({ T with heap := s₂.heap, slotsUsed := s₂.slotsUsed } : State) L (h'.2.1 - h.2.1) (h'.2.2 - h.2.2) := by
    refine ⟨?_, q2, q3, q4, q5, q6⟩
    obtain ⟨t, ht, -⟩ := State.frames_cons hr
    show ({ T with heap := s₂.heap, slotsUsed := s₂.slotsUsed } : State) = { T.setFrames T.frames with heap := s₂.heap, slotsUsed := s₂.slotsUsed }
    rw [State.setFrames_self ht]
  refine ⟨({ T with heap := s₂.heap, slotsUsed := s₂.slotsUsed } : State).setVm s₂.vm, L,
    ⟨X0.admits, X0.cas, X0.clock, X0.frames, X0.room, X0.hears, X0.method, X0.code, (X0.here.setHeapUsed s₂.heap s₂.slotsUsed).setVm hW'.alike, X0.tail, State.WarmedH.trans X0.warmed hW', X0.limits, X0.bytes, X0.same.trans (hsame.setVm s.vm)⟩, hL, hR, hF, ?_⟩
  rw [← hs₂]
  exact hsteps
def eTh (P : eP) (G : eG) (p : Program) (l : Launch) (e : Env) (R : Room) (s : State) (m : MethodId) (args : Array Value) (below : List Frame) (meth : Method) (c : Code) (Q : State → Prop) (k c0 s0 : Nat) (pc : Nat) (lo : eLo) (ls : Array Slot) (rs : List Value) (y : Nat) (h' : eH) : Prop :=
  ∀ (T : State) (locs : List Loc) (cells slots : Nat), Stand p l e R s m args below meth c T locs cells slots → eBa P G s k c0 s0 lo h' T.heap locs cells slots ls →
    ∃ t, Steps p.tables e below ((T.setTop (F0 m pc ls (rs.map (eVal G)))).pushFrame (.throwing (eAd G y))) t ∧ Q t
theorem e_thrS {d k' ix : Nat} {as rs : List Value} {y : Nat} {h' : eH} (cx : eCx P N G X p s m args meth c k) (gg : GoodIn lw_gd lw_gd) (b : eBa P G s k c0 s0 lo h H locs cells slots ls)
    (hM : eMet l P N G X d k' as h (.inr y) h') (hcode : Cond.code (N.mn k') (N.cd k') (eNL P k') (eRt P k') ∈ lw_gd) (hn : gName P N k') (hlink : Cond.methodLink (N.cn (eOwn P k)) ix (N.mn k') ∈ lw_gd) (hstat : Cond.static (N.mn k') ∈ lw_gd)
    (hlen : (parseMethodDescriptor (N.mn k').desc).map (fun d => d.parameters.length) = some as.length) (hrs : eCat rs ≤ 8) (hd : decode (N.cd k) pc = .ok (.invokestatic ix, 3)) (hfr : d + 13 ≤ R.frames ∧ (d + 13) * 64 ≤ R.locals)
    (hc : h'.2.1 ≤ R.cells + c0) (hs : h'.2.2 ≤ R.slots + s0) (hm : h.2.1 ≤ h'.2.1 ∧ h.2.2 ≤ h'.2.2) {st0 : List Value} (hst : st0 = as.reverse ++ rs)
    (kk : eTh P G p l e R s m args below meth c Q k c0 s0 pc lo ls rs y h') : W p l e R s m args below meth c H locs cells slots Q (F0 m pc ls (st0.map (eVal G))) := by
  have hts := cx.2.2.2.2.1
  have b4 := b.2.2.2.1
  have b5 := b.2.2.2.2
  have hl2 : ∀ sig, parseMethodDescriptor (N.mn k').desc = some sig → (as.map (eVal G)).length = sig.parameters.length := fun sig hsig => by
    rw [hsig] at hlen
    rw [List.length_map]
    exact (Option.some.inj hlen).symm
  have hst2 : (F0 m pc ls (st0.map (eVal G))).stack = (as.map (eVal G)).reverse ++ rs.map (eVal G) := by subst hst; simp
  obtain ⟨mk, hnamed⟩ := Cond.code_named (hts _ hcode)
  obtain ⟨methM, cM, hmethM, -, -, -, -, -, -, hsigM⟩ := Cond.code_spec hnamed (hts _ hcode)
  have hstatic : methM.isStatic = true := Cond.static_spec hnamed hmethM (hts _ hstat)
  obtain ⟨kP, hkP, -⟩ := className_of_methodNamed hnamed
  have hinitP : kP.init = .initialized := Cond.initialized_spec (findClass_of_methodNamed hnamed) hkP (hts _ hn.2.2.2.1)
  intro T hT X0
  obtain ⟨vm₁, X₁, hstep₁⟩ := X0.invokestatic cx.1 cx.2.2.2.1 (hts _ hlink) hnamed hmethM hstatic hkP hinitP hn.2.1 (g := F0 m pc ls (st0.map (eVal G))) rfl (argsL := as.map (eVal G)) (rest := rs.map (eVal G)) (hl2 _ hsigM) hst2 (by rw [cx.2.1]; exact hd)
  obtain ⟨T', L, X', hL, hR, hF, hsteps⟩ := e_threw (g := F0 m pc ls (rs.map (eVal G))) hts gg hM hcode hn hfr X₁ rfl (b.1.2.1.trans cx.2.2.1.symm) (by rw [cx.2.1]; exact hd) (e_cat hrs) (X₁.named hnamed) (ePc_at (U := T.setVm vm₁) cx b hT X₁.warmed) (by omega) (by omega)
  have hF1 : H.size ≤ T'.heap.size := by rw [← hT]; exact hF.1
  have hF2 : ∀ q : Nat, q < H.size → ¬ eA0 G q → T'.heap[q]? = H[q]? := fun q h1 h2 => by rw [← hT]; exact hF.2 q (by rw [show (T.setVm vm₁).heap = H from hT]; exact h1) h2
  obtain ⟨t, a1, b1⟩ := kk T' (locs ++ L) _ _ X' ⟨b.1, hR, ⟨Nat.le_trans b.2.2.1.1 hF1, fun q h1 h2 => (hF2 q (Nat.lt_of_lt_of_le h1 b.2.2.1.1) h2).trans (b.2.2.1.2.1 q h1 h2), fun q hq => by
      rcases List.mem_append.mp hq with h | h
      · exact b.2.2.1.2.2 q h
      · exact hL q h⟩, by omega, by omega⟩
  exact ⟨t, (hstep₁ _ fun acts => by rw [doInvoke_state]; exact Steps.refl _).trans (hsteps.trans a1), b1⟩
theorem e_thrV {d k' ix : Nat} {as rs fs : List Value} {a y : Nat} {h' : eH} (cx : eCx P N G X p s m args meth c k) (gg : GoodIn lw_gd lw_gd) (gl : gCl N G.cl) (b : eBa P G s k c0 s0 lo h H locs cells slots ls)
    (hM : eMet l P N G X d k' (.ref a :: as) h (.inr y) h') (hcode : Cond.code (N.mn k') (N.cd k') (eNL P k') (eRt P k') ∈ lw_gd) (hn : gName P N k') (hlink : Cond.methodLink (N.cn (eOwn P k)) ix (N.mn k') ∈ lw_gd) (hin : Cond.instanceMethod (N.mn k') ∈ lw_gd) (hse : Cond.selects (N.mn k').cls (N.mn k') (N.mn k') ∈ lw_gd)
    (ha : ¬ a = 0) (hcell : h.1 a = some (.inr (eOwn P k', fs)))
    (hlen : (parseMethodDescriptor (N.mn k').desc).map (fun d => d.parameters.length + 1) = some (as.length + 1)) (hrs : eCat rs ≤ 8) (hd : decode (N.cd k) pc = .ok (.invokevirtual ix, 3)) (hfr : d + 13 ≤ R.frames ∧ (d + 13) * 64 ≤ R.locals)
    (hc : h'.2.1 ≤ R.cells + c0) (hs : h'.2.2 ≤ R.slots + s0) (hm : h.2.1 ≤ h'.2.1 ∧ h.2.2 ≤ h'.2.2) {st0 : List Value} (hst : st0 = as.reverse ++ .ref a :: rs)
    (kk : eTh P G p l e R s m args below meth c Q k c0 s0 pc lo ls rs y h') : W p l e R s m args below meth c H locs cells slots Q (F0 m pc ls (st0.map (eVal G))) := by
  have hts := cx.2.2.2.2.1
  have b4 := b.2.2.2.1
  have b5 := b.2.2.2.2
  have hst2 : (F0 m pc ls (st0.map (eVal G))).stack = (as.map (eVal G)).reverse ++ .ref (eAd G a) :: rs.map (eVal G) := by subst hst; simp; rfl
  obtain ⟨mk, methM, hnamed, hmethM, hstM, habM⟩ := Cond.instanceMethod_spec (hts _ hin)
  obtain ⟨methM', cM, hmethM', -, -, -, -, -, -, hsigM⟩ := Cond.code_spec hnamed (hts _ hcode)
  cases hmethM.symm.trans hmethM'
  obtain ⟨cellB, hcB, hoB, hclB⟩ := e_recv cx gl b ha hcell
  rw [← hn.2.2.1] at hclB
  obtain ⟨c2, r2, m2, q1, q2, q3, q4, kP, hkP, hkPi⟩ := Cond.selects_spec (hts _ hse)
  cases hclB.symm.trans q1
  cases (State.methodFound?_of_named hnamed hn.2.1).symm.trans q2
  cases hnamed.symm.trans q3
  intro T hT X0
  have hselP : selectMethod e.platform s.vm cellB.cls mk = .method mk := by rw [Launch.admits_selectMethod X0.admits]; exact q4
  obtain ⟨vm₁, X₁, hstep₁⟩ := X0.invokevirtual cx.1 cx.2.2.2.1 (hts _ hlink) hnamed hmethM hstM hkP hkPi hn.2.1 (a := eAd G a) (cell := cellB) (by rw [hT]; exact hcB)
    (fun z h => by rw [h] at hoB; cases hoB) hselP hmethM habM hkP hkPi (g := F0 m pc ls (st0.map (eVal G))) rfl (argsL := as.map (eVal G)) (rest := rs.map (eVal G)) (by have := e_len hlen _ hsigM; rw [List.length_map]; omega) hst2 (by rw [cx.2.1]; exact hd)
  obtain ⟨T', L, X', hL, hR, hF, hsteps⟩ := e_threw (g := F0 m pc ls (rs.map (eVal G))) hts gg hM hcode hn hfr X₁ rfl (b.1.2.1.trans cx.2.2.1.symm) (by rw [cx.2.1]; exact hd) (e_cat hrs) (X₁.named hnamed) (ePc_at (U := T.setVm vm₁) cx b hT X₁.warmed) (by omega) (by omega)
  have hF1 : H.size ≤ T'.heap.size := by rw [← hT]; exact hF.1
  have hF2 : ∀ q : Nat, q < H.size → ¬ eA0 G q → T'.heap[q]? = H[q]? := fun q h1 h2 => by rw [← hT]; exact hF.2 q (by rw [show (T.setVm vm₁).heap = H from hT]; exact h1) h2
  obtain ⟨t, a1, b1⟩ := kk T' (locs ++ L) _ _ X' ⟨b.1, hR, ⟨Nat.le_trans b.2.2.1.1 hF1, fun q h1 h2 => (hF2 q (Nat.lt_of_lt_of_le h1 b.2.2.1.1) h2).trans (b.2.2.1.2.1 q h1 h2), fun q hq => by
      rcases List.mem_append.mp hq with h | h
      · exact b.2.2.1.2.2 q h
      · exact hL q h⟩, by omega, by omega⟩
  exact ⟨t, (hstep₁ _ fun acts => by rw [doInvoke_state]; exact Steps.refl _).trans (hsteps.trans a1), b1⟩
end ES7
end
section
theorem eIns_mono {P : eP} {X : Nat × (Nat → Int32)} {k pc : Nat} {i : Instr} {lo : eLo} {st : List Value} {h : eH} {x : eS} (hx : eIns P X k i pc lo st h = some x) : h.2.1 ≤ x.2.2.2.2.1 ∧ h.2.2 ≤ x.2.2.2.2.2 := by
  cases i
  all_goals first
    | (cases hx; done)
    | (simp only [eIns, eI1, eI2, eJ1, eJ2, eJI, eR1, eQ1, eIA, eTo, eBr, eIf_cd, eIn, eLdI, eLdJ, eLdA, eStI, eStJ, eStA, eLen, eNwA, eGf, ePf, eN, eLoI, eLoJ, eLoA] at hx
       repeat' split at hx
       all_goals first
         | (cases hx; done)
         | (cases hx; exact ⟨Nat.le_refl _, Nat.le_refl _⟩)
         | (cases hx; exact ⟨Nat.le_succ _, Nat.le_add_right _ _⟩))
theorem eOwn_mono {kd kind pc : Nat} {lo : eLo} {st : List Value} {h : eH} {x : eS} (hx : eOwnless kd kind pc lo st h = some x) : h.2.1 ≤ x.2.2.2.2.1 ∧ h.2.2 ≤ x.2.2.2.2.2 := by
  rcases eOn_some hx with ⟨-, -, a, r, -, rfl⟩ | ⟨-, -, y, z, r, -, rfl⟩ | ⟨-, -, hq⟩
  · exact ⟨Nat.le_refl _, Nat.le_refl _⟩
  · exact ⟨Nat.le_refl _, Nat.le_refl _⟩
  · unfold eCopy at hq
    repeat' split at hq
    all_goals first
      | (cases hq; done)
      | (obtain rfl := eN_inj hq; exact ⟨Nat.le_refl _, Nat.le_refl _⟩)
theorem eRet_mono {P : eP} {k : Nat} {i : Instr} {st : List Value} {h h' : eH} {r : eR} (hx : eRet P k i st h = some (r, h')) : h' = h := by
  unfold eRet eEnd at hx
  repeat' split at hx
  all_goals first
    | (cases hx; done)
    | (cases hx; rfl)
theorem eGo_mono {P : eP} {X : Nat × (Nat → Int32)} {call : Nat → List Value → eH → Option (eR × eH)} {k : Nat} {r : eR} {hE : eH} (hcall : ∀ k' as h1 r1 h2, call k' as h1 = some (r1, h2) → h1.2.1 ≤ h2.2.1 ∧ h1.2.2 ≤ h2.2.2) :
    ∀ (n : Nat) (pc : Nat) (lo : eLo) (st : List Value) (h : eH), eGo P X call k n (pc, lo, st, h) = some (r, hE) → h.2.1 ≤ hE.2.1 ∧ h.2.2 ≤ hE.2.2 := by
  intro n
  induction n with
  | zero => intro pc lo st h hx; cases hx
  | succ n ih =>
    intro pc lo st h hx
    simp only [eGo] at hx
    split at hx
    · split at hx
      · cases hx
      · split at hx
        · cases hx
          exact ⟨Nat.le_succ _, Nat.le_add_right _ _⟩
        · cases hx
    · split at hx
      · split at hx
        · cases hx
        · rename_i x hz
          obtain ⟨x1, x2, x3, x4⟩ := x
          have h1 := eIns_mono hz
          have h2 := ih _ _ _ _ hx
          exact ⟨Nat.le_trans h1.1 h2.1, Nat.le_trans h1.2 h2.2⟩
      · split at hx
        · cases hx
        · split at hx
          · cases hx
          · split at hx
            · split at hx
              · cases hx
              · rename_i x hz
                obtain ⟨x1, x2, x3, x4⟩ := x
                have h1 := eOwn_mono hz
                have h2 := ih _ _ _ _ hx
                exact ⟨Nat.le_trans h1.1 h2.1, Nat.le_trans h1.2 h2.2⟩
            · split at hx
              · cases hx
              · split at hx
                · cases hx
                · rename_i v h' hc
                  have h1 := hcall _ _ _ _ _ hc
                  have h2 := ih _ _ _ _ hx
                  exact ⟨Nat.le_trans h1.1 h2.1, Nat.le_trans h1.2 h2.2⟩
                · rename_i a h' hc
                  have h1 := hcall _ _ _ _ _ hc
                  split at hx
                  · cases hx
                  · split at hx
                    · split at hx
                      · have h2 := ih _ _ _ _ hx
                        exact ⟨Nat.le_trans h1.1 h2.1, Nat.le_trans h1.2 h2.2⟩
                      · split at hx
                        · cases hx
                          exact h1
                        · cases hx
                    · cases hx
      · rw [eRet_mono hx]
        exact ⟨Nat.le_refl _, Nat.le_refl _⟩
theorem eRun_mono {P : eP} {X : Nat × (Nat → Int32)} {n : Nat} : ∀ (d k : Nat) (as : List Value) (h : eH) (r : eR) (h' : eH), eRun P X n d k as h = some (r, h') → h.2.1 ≤ h'.2.1 ∧ h.2.2 ≤ h'.2.2 := by
  intro d
  induction d with
  | zero => intro k as h r h' hx; cases hx
  | succ d ih =>
    intro k as h r h' hx
    simp only [eRun] at hx
    split at hx
    · cases hx
    · exact eGo_mono (fun k' as h1 r1 h2 hc => ih k' as h1 r1 h2 hc) _ _ _ _ _ hx
def gAll (P : eP) (N : eW) (cl : List vw_C) : Prop := gIns P N ∧ gFld P N cl ∧ gTy P N ∧ gCl N cl ∧ gNew P N cl ∧ gMth P N ∧ (∀ o ix v, P.con o ix = some (.int v) → Cond.constant (N.cn o) ix v ∈ lw_gd) ∧ (∀ o ix v, P.con o ix = some (.long v) → Cond.constantLong (N.cn o) ix v ∈ lw_gd)
section ES8
variable {p : Program} {l : Launch} {e : Env} {R : Room} {s : State} {m : MethodId} {args : Array Value} {below : List Frame} {meth : Method} {c : Code} {H : Heap} {locs : List Loc} {cells slots : Nat} {Q : State → Prop}
variable {P : eP} {N : eW} {G : eG} {X : Nat × (Nat → Int32)} {k pc c0 s0 : Nat} {ls : Array Slot} {lo : eLo} {st : List Value} {h : eH} {x : eS}
theorem e_step {i : Instr} {len : Nat} (cx : eCx P N G X p s m args meth c k) (ga : gAll P N G.cl) (hd : decode (N.cd k) pc = .ok (i, len)) (hlen : eIl i = 0 ∨ len = eIl i) (hi : eIns P X k i pc lo st h = some x) (b : eBa P G s k c0 s0 lo h H locs cells slots ls) :
    eGoal P G p l e R s m args below meth c H locs cells slots Q k c0 s0 pc ls st h x := by
  obtain ⟨-, gf, gt, gl, gn, -, gci, gcl⟩ := ga
  cases i
  case iconst n =>
    obtain rfl : len = 1 := by simpa [eIl] using hlen
    exact es_iconst cx hd hi b
  case bipush n =>
    obtain rfl : len = 2 := by simpa [eIl] using hlen
    exact es_bipush cx hd hi b
  case sipush n =>
    obtain rfl : len = 3 := by simpa [eIl] using hlen
    exact es_sipush cx hd hi b
  case lconst n =>
    obtain rfl : len = 1 := by simpa [eIl] using hlen
    exact es_lconst cx hd hi b
  case aconst_null =>
    obtain rfl : len = 1 := by simpa [eIl] using hlen
    exact es_aconst_null cx hd hi b
  case iload i =>
    obtain rfl : len = 2 := by simpa [eIl] using hlen
    exact es_iload cx hd hi b
  case iload_n i =>
    obtain rfl : len = 1 := by simpa [eIl] using hlen
    exact es_iload_n cx hd hi b
  case lload i =>
    obtain rfl : len = 2 := by simpa [eIl] using hlen
    exact es_lload cx hd hi b
  case lload_n i =>
    obtain rfl : len = 1 := by simpa [eIl] using hlen
    exact es_lload_n cx hd hi b
  case aload i =>
    obtain rfl : len = 2 := by simpa [eIl] using hlen
    exact es_aload cx hd hi b
  case aload_n i =>
    obtain rfl : len = 1 := by simpa [eIl] using hlen
    exact es_aload_n cx hd hi b
  case istore i =>
    obtain rfl : len = 2 := by simpa [eIl] using hlen
    exact es_istore cx hd hi b
  case istore_n i =>
    obtain rfl : len = 1 := by simpa [eIl] using hlen
    exact es_istore_n cx hd hi b
  case lstore i =>
    obtain rfl : len = 2 := by simpa [eIl] using hlen
    exact es_lstore cx hd hi b
  case lstore_n i =>
    obtain rfl : len = 1 := by simpa [eIl] using hlen
    exact es_lstore_n cx hd hi b
  case astore i =>
    obtain rfl : len = 2 := by simpa [eIl] using hlen
    exact es_astore cx hd hi b
  case astore_n i =>
    obtain rfl : len = 1 := by simpa [eIl] using hlen
    exact es_astore_n cx hd hi b
  case iinc i n =>
    obtain rfl : len = 3 := by simpa [eIl] using hlen
    exact es_iinc cx hd hi b
  case iadd =>
    obtain rfl : len = 1 := by simpa [eIl] using hlen
    exact es_iadd cx hd hi b
  case isub =>
    obtain rfl : len = 1 := by simpa [eIl] using hlen
    exact es_isub cx hd hi b
  case imul =>
    obtain rfl : len = 1 := by simpa [eIl] using hlen
    exact es_imul cx hd hi b
  case iand =>
    obtain rfl : len = 1 := by simpa [eIl] using hlen
    exact es_iand cx hd hi b
  case ior =>
    obtain rfl : len = 1 := by simpa [eIl] using hlen
    exact es_ior cx hd hi b
  case ishl =>
    obtain rfl : len = 1 := by simpa [eIl] using hlen
    exact es_ishl cx hd hi b
  case ishr =>
    obtain rfl : len = 1 := by simpa [eIl] using hlen
    exact es_ishr cx hd hi b
  case idiv =>
    obtain rfl : len = 1 := by simpa [eIl] using hlen
    exact es_idiv cx hd hi b
  case ineg =>
    obtain rfl : len = 1 := by simpa [eIl] using hlen
    exact es_ineg cx hd hi b
  case ladd =>
    obtain rfl : len = 1 := by simpa [eIl] using hlen
    exact es_ladd cx hd hi b
  case lsub =>
    obtain rfl : len = 1 := by simpa [eIl] using hlen
    exact es_lsub cx hd hi b
  case lmul =>
    obtain rfl : len = 1 := by simpa [eIl] using hlen
    exact es_lmul cx hd hi b
  case land =>
    obtain rfl : len = 1 := by simpa [eIl] using hlen
    exact es_land cx hd hi b
  case lor =>
    obtain rfl : len = 1 := by simpa [eIl] using hlen
    exact es_lor cx hd hi b
  case lcmp =>
    obtain rfl : len = 1 := by simpa [eIl] using hlen
    exact es_lcmp cx hd hi b
  case lshl =>
    obtain rfl : len = 1 := by simpa [eIl] using hlen
    exact es_lshl cx hd hi b
  case lushr =>
    obtain rfl : len = 1 := by simpa [eIl] using hlen
    exact es_lushr cx hd hi b
  case i2l =>
    obtain rfl : len = 1 := by simpa [eIl] using hlen
    exact es_i2l cx hd hi b
  case l2i =>
    obtain rfl : len = 1 := by simpa [eIl] using hlen
    exact es_l2i cx hd hi b
  case i2c =>
    obtain rfl : len = 1 := by simpa [eIl] using hlen
    exact es_i2c cx hd hi b
  case dup =>
    obtain rfl : len = 1 := by simpa [eIl] using hlen
    exact es_dup cx hd hi b
  case dup2 =>
    obtain rfl : len = 1 := by simpa [eIl] using hlen
    exact es_dup2 cx hd hi b
  case goto off =>
    obtain rfl : len = 3 := by simpa [eIl] using hlen
    exact es_goto cx hd hi b
  case ifCond cd off =>
    obtain rfl : len = 3 := by simpa [eIl] using hlen
    cases cd
    case eq => exact es_if_eq cx hd hi b
    case ne => exact es_if_ne cx hd hi b
    case lt => exact es_if_lt cx hd hi b
    case ge => exact es_if_ge cx hd hi b
    case gt => exact es_if_gt cx hd hi b
    case le => exact es_if_le cx hd hi b
  case if_icmp cd off =>
    obtain rfl : len = 3 := by simpa [eIl] using hlen
    cases cd
    case eq => exact es_icmp_eq cx hd hi b
    case ne => exact es_icmp_ne cx hd hi b
    case lt => exact es_icmp_lt cx hd hi b
    case ge => exact es_icmp_ge cx hd hi b
    case gt => exact es_icmp_gt cx hd hi b
    case le => exact es_icmp_le cx hd hi b
  case ifnull off =>
    obtain rfl : len = 3 := by simpa [eIl] using hlen
    exact es_ifnull cx hd hi b
  case tableswitch d lw hj offs => exact es_tableswitch cx hd hi b
  case ldc ix =>
    obtain rfl : len = 2 := by simpa [eIl] using hlen
    exact es_ldc cx gci hd hi b
  case ldc2_w ix =>
    obtain rfl : len = 3 := by simpa [eIl] using hlen
    exact es_ldc2_w cx gcl hd hi b
  case getfield ix =>
    obtain rfl : len = 3 := by simpa [eIl] using hlen
    exact es_getfield cx gf hd hi b
  case putfield ix =>
    obtain rfl : len = 3 := by simpa [eIl] using hlen
    exact es_putfield cx gf hd hi b
  case iaload =>
    obtain rfl : len = 1 := by simpa [eIl] using hlen
    exact es_iaload cx gt hd hi b
  case caload =>
    obtain rfl : len = 1 := by simpa [eIl] using hlen
    exact es_caload cx gt hd hi b
  case laload =>
    obtain rfl : len = 1 := by simpa [eIl] using hlen
    exact es_laload cx gt hd hi b
  case aaload =>
    obtain rfl : len = 1 := by simpa [eIl] using hlen
    exact es_aaload cx gt hd hi b
  case iastore =>
    obtain rfl : len = 1 := by simpa [eIl] using hlen
    exact es_iastore cx gt hd hi b
  case castore =>
    obtain rfl : len = 1 := by simpa [eIl] using hlen
    exact es_castore cx gt hd hi b
  case lastore =>
    obtain rfl : len = 1 := by simpa [eIl] using hlen
    exact es_lastore cx gt hd hi b
  case aastore =>
    obtain rfl : len = 1 := by simpa [eIl] using hlen
    exact es_aastore cx gt gl hd hi b
  case arraylength =>
    obtain rfl : len = 1 := by simpa [eIl] using hlen
    exact es_arraylength cx hd hi b
  case newarray at1 =>
    obtain rfl : len = 2 := by simpa [eIl] using hlen
    cases at1
    case int => exact es_newarray_int cx gt gn hd hi b
    case long => exact es_newarray_long cx gt gn hd hi b
    case char => exact es_newarray_char cx gt gn hd hi b
    all_goals cases hi
  case anewarray ix =>
    obtain rfl : len = 3 := by simpa [eIl] using hlen
    exact es_anewarray cx gn hd hi b
  case new ix =>
    obtain rfl : len = 3 := by simpa [eIl] using hlen
    exact es_new cx gn hd hi b
  all_goals cases hi
theorem e_copy {ix k0 na : Nat} (cx : eCx P N G X p s m args meth c k) (ga : gAll P N G.cl) (hm : P.mth (eOwn P k) ix = some (6, k0, na)) (hd : decode (N.cd k) pc = .ok (.invokestatic ix, 3)) (hq : eCopy h st (fun h' r => eN (pc + 3) lo r h') = some x) (hrs : eCat (st.drop na) ≤ 8)
    (b : eBa P G s k c0 s0 lo h H locs cells slots ls) (hfr : 12 ≤ R.frames ∧ 700 ≤ R.locals) (kk : eNext P G p l e R s m args below meth c Q k c0 s0 x) : W p l e R s m args below meth c H locs cells slots Q (F0 m pc ls (st.map (eVal G))) := by
  have gm := ga.2.2.2.2.2.1
  have gt := ga.2.2.1
  obtain ⟨rfl, -⟩ := (gm _ _ _ _ _ hm).2.2.2.2.2.2.2 rfl
  unfold eCopy at hq
  split at hq
  · rename_i n dp d sp a rs
    split at hq
    · cases hq
    · rename_i hz
      have ha : ¬ a = 0 := fun z => hz (Or.inl z)
      have hd0 : ¬ d = 0 := fun z => hz (Or.inr (Or.inl z))
      have h3 : ¬ n < 0 := fun z => hz (Or.inr (Or.inr (Or.inl z)))
      have h2 : ¬ dp < 0 := fun z => hz (Or.inr (Or.inr (Or.inr (Or.inl z))))
      have h1 : ¬ sp < 0 := fun z => hz (Or.inr (Or.inr (Or.inr (Or.inr z))))
      split at hq
      · rename_i na f nb g hca hcd
        split at hq
        · cases hq
        · rename_i hy
          obtain rfl := eN_inj hq
          exact e_copy_one (t := 0) (mk := Value.int) (wrap := fun f => .inl f) (fun j f z H => Iff.rfl) cx gm gt.1 rfl (fun z => rfl) (fun z w q => by cases q) hm hd hrs b hfr ha hd0 hca hcd h1 h2 h3 (Nat.not_lt.mp fun z => hy (Or.inl z)) (Nat.not_lt.mp fun z => hy (Or.inr z)) kk
      · rename_i na f nb g hca hcd
        split at hq
        · cases hq
        · rename_i hy
          obtain rfl := eN_inj hq
          exact e_copy_one (t := 1) (mk := Value.long) (wrap := fun f => .inr (.inl f)) (fun j f z H => Iff.rfl) cx gm gt.2.1 rfl (fun z => rfl) (fun z w q => by cases q) hm hd hrs b hfr ha hd0 hca hcd h1 h2 h3 (Nat.not_lt.mp fun z => hy (Or.inl z)) (Nat.not_lt.mp fun z => hy (Or.inr z)) kk
      · cases hq
  · cases hq
theorem e_own {i : Instr} {kd ix kind k0 na : Nat} (cx : eCx P N G X p s m args meth c k) (ga : gAll P N G.cl) (hk : eKd i = (1, kd, ix)) (hm : P.mth (eOwn P k) ix = some (kind, k0, na)) (hd : decode (N.cd k) pc = .ok (i, 3)) (hrs : ¬ (st.length < na ∨ 8 < eCat (st.drop na))) (hi : eOwnless kd kind pc lo st h = some x)
    (b : eBa P G s k c0 s0 lo h H locs cells slots ls) (hfr : 12 ≤ R.frames ∧ 700 ≤ R.locals) (hc : h.2.1 ≤ R.cells + c0) (hs : h.2.2 ≤ R.slots + s0) (kk : eNext P G p l e R s m args below meth c Q k c0 s0 x) : W p l e R s m args below meth c H locs cells slots Q (F0 m pc ls (st.map (eVal G))) := by
  have gm := ga.2.2.2.2.2.1
  have hrs' : eCat (st.drop na) ≤ 8 := Nat.not_lt.mp fun z => hrs (Or.inr z)
  have hsp : kd = 2 → i = .invokespecial ix := fun z => by
    subst z
    cases i <;> first | (cases hk; done) | (cases hk; rfl)
  have hst : kd = 0 → i = .invokestatic ix := fun z => by
    subst z
    cases i <;> first | (cases hk; done) | (cases hk; rfl)
  rcases eOn_some hi with ⟨rfl, h1, a, r, rfl, rfl⟩ | ⟨rfl, h1, y, z, r, rfl, rfl⟩ | ⟨rfl, h1, hq⟩
  · rw [hsp h1] at hd
    exact es_init cx gm hm hd hrs' b hfr kk
  · rw [hst h1] at hd
    exact es_min cx gm hm hd hrs' b hfr hc hs kk
  · rw [hst h1] at hd
    exact e_copy cx ga hm hd hq hrs' b hfr kk
end ES8
end
section
def gThr (P : eP) (N : eW) (cl : List vw_C) : Prop := ∀ k pc q, P.thr k pc = some q → (decode (N.cd k) pc = .ok (.new q.2.1, 3) ∧ decode (N.cd k) (pc + 3) = .ok (.dup, 1) ∧ decode (N.cd k) (pc + 4) = .ok (.ldc q.2.2.1, 2) ∧ decode (N.cd k) (pc + 6) = .ok (.invokespecial q.2.2.2, 3) ∧ decode (N.cd k) (pc + 9) = .ok (.athrow, 1)) ∧
  P.cls (eOwn P k) q.2.1 = some q.1 ∧ Bundle.fit (N.cn q.1) = true ∧ (∃ T, cl[q.1]? = some (N.cn q.1, T, 0)) ∧ ∀ w ∈ Bundle.ownAtoms (N.cn (eOwn P k)) q.2.2.2 (N.cn q.1) ["java/lang/RuntimeException", "java/lang/Exception"], w ∈ lw_gd ∨ w ∈ exSp (N.cn q.1)
theorem exSp_any {C : String} {w : Cond} (hw : w ∈ exSp C) {A : Array Value} {U : State} (h : w.before #[] U = true) : w.before A U = true := by
  simp only [exSp, List.mem_cons, List.not_mem_nil, or_false] at hw
  rcases hw with rfl | rfl | rfl | rfl | rfl | rfl | rfl | rfl <;> exact h
section EX
variable {p : Program} {l : Launch} {e : Env} {R : Room} {s : State} {m : MethodId} {args : Array Value} {below : List Frame} {meth : Method} {c : Code} {locs : List Loc} {cells slots : Nat}
set_option maxHeartbeats 1000000 in
theorem e_ctor {W0 : State} (X : Stand p l e R s m args below meth c W0 locs cells slots) (hexec : p.tables.exec = Jvm.exec) (htr : e.platform.stackTraces = false) {own cls : String} {names : List String} {ic : Nat}
    (hown : s.vm.findClass own = some m.cls) (hcls : Bundle.fit cls = true) (hnames : ∀ n ∈ names, Bundle.fit n = true) (h : ∀ a ∈ Bundle.ownAtoms own ic cls names, a.before args s = true)
    {B : Nat} (hB : ∀ cl k st, s.vm.findClass Bundle.tN = some cl → s.vm.classes[cl]? = some k → k.statics = some st → st ≤ B) (hlocs : ∀ x ∈ locs, B < x.base)
    {a : Addr} {cX : ClassId} {kX : Class} (hfoundX : s.vm.findClass cls = some cX) (hkX : s.vm.classes[cX]? = some kX) (hcell : W0.heap[a]? = some (freshCell cX kX)) (hnew : s.heap.size ≤ a)
    {msg : Value} (hmsg : msg.isRef = true) {g : JFrame} (hg : g.method = m) (hsize : g.locals.size = c.maxLocals) {rest : List Value} (hstack : g.stack = msg :: .ref a :: rest)
    (hd6 : decode c.code g.pc = .ok (.invokespecial ic, 3)) (hRframes : names.length + 3 < R.frames) (hRlocals : 2 * g.monitorRoom + (rest.map fun v => v.category).sum + (13 * (names.length + 1) + 42) ≤ R.locals) :
    ∃ (vm' : Vm) (cell' : Cell) (L : List Loc), cell'.cls = cX ∧ cell'.vm = .none ∧ (∀ q ∈ L, q.base = a) ∧ Stand p l e R s m args below meth c ((W0.setVm vm').setCell a cell') (locs ++ L) cells slots ∧
      ∀ target, Steps p.tables e below (((W0.setVm vm').setCell a cell').setTop { g with pc := g.pc + 3, stack := rest }) target → Steps p.tables e below (W0.setTop g) target := by
  have hown1 : e.platform.frameOwnsMonitors = true := by rw [X.admits.platform]
  have hfin : e.platform.finalization = false := by rw [X.admits.platform]
  have hpl : e.platform.magicAccessors = ({} : Platform).magicAccessors := by rw [X.admits.platform]
  have at0 : ∀ x, x ∈ Bundle.ownAtoms own ic cls names → x.holds args s none s [] = true := fun x hx => h x hx
  obtain ⟨T, Z0, L, -, Y⟩ := ThrowableC.of_atoms (args := args) hown1 hfin hpl (fun x hx => h x (by simp [Bundle.ownAtoms, hx]))
  obtain ⟨Z, M, LZ, LM, hnZ⟩ := Init0T.ofS_atoms (args := args) hpl L Y (fun x hx => h x (by simp [Bundle.ownAtoms, hx]))
  obtain ⟨P1, Ps, hlen, L1, hL, hP1m, hlink1, hlink⟩ := Bundle.chainS (args := args) hpl hnZ names cls hcls hnames (fun x hx => h x (by simp [Bundle.ownAtoms, hx]))
  have hfound : s.vm.findClass cls = some P1.m.cls := findClass_of_methodNamed hP1m
  cases Option.some.inj (hfoundX.symm.trans hfound)
  obtain ⟨c1, kX', hc1, hk, hord, -, -, hn6⟩ := Cond.instantiable_spec (at0 (.instantiable cls 6) (by simp [Bundle.ownAtoms]))
  cases Option.some.inj (hc1.symm.trans hfound)
  cases Option.some.inj (hkX.symm.trans hk)
  have hsel0 : selectMethod e.platform s.vm P1.m.cls T.fill0 = .method T.fill0 := by
    obtain ⟨c2, r2, m2, q1, q2, q3, q4, -⟩ := Cond.selects_spec (at0 (.selects cls Bundle.tFill0 Bundle.tFill0) (by simp [Bundle.ownAtoms]))
    cases Option.some.inj (q1.symm.trans hfound)
    cases Option.some.inj (q2.symm.trans (State.methodFound?_of_named Y.fill0 (by decide)))
    cases Option.some.inj (q3.symm.trans Y.fill0)
    rw [Launch.admits_selectMethod X.admits]
    exact q4
  have hselF : selectMethod e.platform s.vm P1.m.cls T.fill = .method T.fill := by
    obtain ⟨c2, r2, m2, q1, q2, q3, q4, -⟩ := Cond.selects_spec (at0 (.selects cls Bundle.tFill Bundle.tFill) (by simp [Bundle.ownAtoms]))
    cases Option.some.inj (q1.symm.trans hfound)
    cases Option.some.inj (q2.symm.trans (State.methodFound?_of_named Y.fill (by decide)))
    cases Option.some.inj (q3.symm.trans Y.fill)
    rw [Launch.admits_selectMethod X.admits]
    exact q4
  obtain ⟨cellS0, hcS0, hiss⟩ := Y.statics
  obtain ⟨u0, hu0⟩ := Cond.staticRefV Y.unassigned L.unassignedStatic L.statics hcS0 hiss (at0 (.isRef (.static Bundle.tN "UNASSIGNED_STACK" Bundle.steD)) (by simp [Bundle.ownAtoms]))
  obtain ⟨sen, hsen⟩ := Cond.staticRefV Y.sentinel L.sentinelStatic L.statics hcS0 hiss (at0 (.isRef (.static Bundle.tN "SUPPRESSED_SENTINEL" Bundle.listD)) (by simp [Bundle.ownAtoms]))
  obtain ⟨ci198, i198, fB, hk198, hg198, ha198, hsB, -, hnB, htB, hffB⟩ := Cond.ownField (t := .object "java/lang/Object") Y.found L.cls (by decide +kernel) (at0 (.fieldLink Bundle.tN 198 Bundle.tN "backtrace" "Ljava/lang/Object;") (by simp [Bundle.ownAtoms])) (at0 (.lays Bundle.tN Bundle.tN "backtrace" "Ljava/lang/Object;") (by simp [Bundle.ownAtoms])) e.platform hpl
  obtain ⟨cellS, hcS', heS, -, hkeep⟩ := X.same.2.2.2.2.2 T.aS cellS0 hcS0
  have hcellS : W0.heap[T.aS]? = some cellS := hcS'
  have haB : T.aS ≤ B := hB _ _ _ Y.found L.cls L.statics
  have hout' : ∀ i, (⟨T.aS, i⟩ : Loc) ∉ locs := fun i hmem => by
    have h1 := hlocs _ hmem
    exact absurd haB (Nat.not_le.mpr h1)
  have hknownS : cellS.vm ≠ .unknown := by
    rw [heS]
    intro hu
    rw [show cellS0.vm = .unknown from hu] at hiss
    cases hiss
  have hneS : T.aS ≠ a := Nat.ne_of_lt (Nat.lt_of_lt_of_le (Array.getElem?_eq_some_iff.mp hcS0).1 hnew)
  obtain ⟨iM, hffM⟩ := Y.msg
  obtain ⟨tyC, dC, hdC, hdnC⟩ := Cond.laysAt hfound hk Y.cause (at0 (.lays cls Bundle.tN "cause" "Ljava/lang/Throwable;") (by simp [Bundle.ownAtoms]))
  obtain ⟨tyS, dS, hdS, hdnS⟩ := Cond.laysAt hfound hk Y.stack (at0 (.lays cls Bundle.tN "stackTrace" Bundle.steD) (by simp [Bundle.ownAtoms]))
  obtain ⟨tyP, dP, hdP, hdnP⟩ := Cond.laysAt hfound hk Y.supp (at0 (.lays cls Bundle.tN "suppressedExceptions" Bundle.listD) (by simp [Bundle.ownAtoms]))
  obtain ⟨tyM, dM, hdM, hdnM⟩ := Cond.laysAt hfound hk hffM (at0 (.lays cls Bundle.tN "detailMessage" "Ljava/lang/String;") (by simp [Bundle.ownAtoms]))
  obtain ⟨tyB, dB, hdB, hdnB⟩ := Cond.laysAt hfound hk hffB (at0 (.lays cls Bundle.tN "backtrace" "Ljava/lang/Object;") (by simp [Bundle.ownAtoms]))
  have bC := Cond.laysApart hdB hdC hdnB hdnC (by rw [hnB, Y.causeName]; decide)
  have bS := Cond.laysApart hdB hdS hdnB hdnS (by rw [hnB, Y.stackName]; decide)
  have bP := Cond.laysApart hdB hdP hdnB hdnP (by rw [hnB, Y.suppName]; decide)
  have hskip : SkipFacts T e.platform s (fun u => u) u0 ((preparedCellV T.toThrowableT (freshCell P1.m.cls kX) a u0 sen).withEntry W0.cur) :=
    ⟨{ ci198 := ci198, i198 := i198, fBack := fB }, ⟨hk198, hg198, ha198, hsB⟩, by
      have := fresh_default (c := P1.m.cls) tyB
      rw [htB] at this
      simpa [preparedCellV, Cell.setSlot, Cell.withEntry, Array.getElem?_setIfInBounds, bC, bS, bP, bC.symm, bS.symm, bP.symm, defaultValue] using this, fun _ _ => rfl⟩
  obtain ⟨tm, methC, cdC, kC, vm₁, hnC, -, -, -, -, -, -, -, hW₁, st1⟩ := Steps.initColdS (tb := p.tables) (e := e) (below := below) (s := s) (U := W0) X.here hexec X.warmed hpl hown (t := Bundle.initS cls) rfl rfl (Bundle.fit_spec hcls).2
    (at0 (.methodLink own ic (Bundle.initS cls)) (by simp [Bundle.ownAtoms])) (h (.instanceMethod (Bundle.initS cls)) (by cases names <;> simp [Bundle.ownAtoms, Bundle.chainSAtoms, Bundle.passSAtoms])) (bytes := Bundle.six) (maxL := 2) (h (.code (Bundle.initS cls) Bundle.six 2 none) (by cases names <;> simp [Bundle.ownAtoms, Bundle.chainSAtoms, Bundle.passSAtoms]))
    (f := g) hg (a := a) (msg := msg) (rest := rest) hstack hd6
  cases Option.some.inj (hnC.symm.trans hP1m)
  have X₁ := X.noted hW₁
  obtain ⟨vm₂, X₂, st2⟩ := X₁.ctorMessageOffV hexec (g := { g with stack := rest }) hg hsize T L Z LZ M LM (P1 :: Ps)
    (fun P hP => by rcases List.mem_cons.mp hP with rfl | hP; exact L1; exact hL P hP) ⟨hlink1, hlink⟩ (u0 := u0) (sen := sen) (self := a) hmsg (cell := freshCell P1.m.cls kX) (cellS := cellS)
    hcell (fun _ => by simp) (by simp) rfl rfl hsel0 hselF hcellS hneS hknownS (by rw [hkeep _ (hout' _)]; exact hu0) (by rw [hkeep _ (hout' _)]; exact hsen)
    (Takes.of_laid hk hord tyC (by rw [Y.causeType]; rfl)) (Takes.of_laid hk hord tyS (by rw [Y.stackType]; exact fits_refV_array _ u0)) (Takes.of_laid hk hord tyP (by rw [Y.suppType]; exact fits_refV_object _ sen))
    (Takes.of_laid hk hord tyM (by rw [Y.msgType]; exact fits_refV_object _ ⟨msg, hmsg⟩)) Y.objLocals hskip htr [] hd6
    (by simp only [List.length_cons, hlen]; omega) (by simp only [List.length_cons, hlen]; exact hRlocals)
  refine ⟨vm₂, plainBareV T.toThrowableT (freshCell P1.m.cls kX) a u0 sen msg, _, rfl, rfl, ?_, X₂, fun target hrest => st1 _ (fun acts => ?_)⟩
  · intro q hq
    simp only [List.mem_cons, List.not_mem_nil, or_false] at hq
    rcases hq with rfl | rfl | rfl | rfl | rfl <;> rfl
  · rw [doInvoke_state]
    exact st2 _ hrest
end EX
section EY
variable {p : Program} {l : Launch} {e : Env} {R : Room} {s : State} {m : MethodId} {args : Array Value} {below : List Frame} {meth : Method} {c : Code} {H : Heap} {locs : List Loc} {cells slots : Nat}
variable {P : eP} {N : eW} {G : eG} {X : Nat × (Nat → Int32)} {k pc c0 s0 : Nat} {ls : Array Slot} {lo : eLo} {st : List Value} {h : eH}
theorem es_throw {q : Nat × Nat × Nat × Nat} (cx : eCx P N G X p s m args meth c k) (ga : gAll P N G.cl) (gh : gThr P N G.cl) (htr : l.stackTraces = false) (ht : P.thr k pc = some q) (hh : eHs P k = []) (hcat : eCat st ≤ 8) (b : eBa P G s k c0 s0 lo h H locs cells slots ls)
    (hfr : 12 ≤ R.frames ∧ 700 ≤ R.locals) (hc : h.2.1 + 1 ≤ R.cells + c0) (hs : h.2.2 + (P.bla q.1).2 ≤ R.slots + s0) :
    W p l e R s m args below meth c H locs cells slots (eZ G s below (.inr h.2.1) (eNew h (.inr (q.1, (P.bla q.1).1)) (P.bla q.1).2) (cells + 1) (slots + (P.bla q.1).2)) (F0 m pc ls (st.map (eVal G))) := by
  obtain ⟨⟨d1, d2, d3, d4, d5⟩, hcls, hfit, ⟨T0, hcl0⟩, hatoms⟩ := gh k pc q ht
  have gn := ga.2.2.2.2.1
  obtain ⟨C, T, n, ty0, hcl1, hw1, hw2, hw3, hin, hty, hdf, hbl⟩ := gn.2.2 _ _ _ hcls
  cases hcl0.symm.trans hcl1
  have hts := cx.2.2.2.2.1
  have b4 := b.2.2.2.1
  have b5 := b.2.2.2.2
  have hKn := cx.2.2.2.2.2.1.1 q.1 _ hcl1
  have hFx := cx.2.2.2.2.2.2.2.1
  obtain ⟨⟨tx, sa, hZ⟩, hsp⟩ := hFx.1.2 k pc q ht
  refine W.newcK cx.1 cx.2.1 cx.2.2.2.1 (hts _ hw1) (hts _ hw2) (hts _ hw3) rfl d1 (by omega) (by omega) hKn.2.1 rfl fun H1 kC hkC e1 z1 o1 => ?_
  have hat : va_at G.D G.cl (H.size, eCo G (.inr (q.1, (P.bla q.1).1))) H1 := ⟨_, hcl1, (u_born ty0 hts hin hKn hkC e1 hty).to (fun j hj => absurd hj (Nat.not_lt_zero j))⟩
  have b1 := b.new (n := (P.bla q.1).2) z1 o1 hat
  refine lv_dup cx.1 cx.2.1 d2 rfl ?_
  refine va_ldcS cx.1 cx.2.1 cx.2.2.2.1 hZ d3 ?_
  intro T1 hT1 X1
  have hadm : e.platform.stackTraces = false := by
    rw [X1.admits.platform]
    exact htr
  have hnx : H.size = eAd G h.2.1 := b.2.1.next.symm
  obtain ⟨vm', cell', L, g1, g2, g3, X2, stp⟩ := e_ctor (g := F0 m (pc + 6) ls (.ref sa :: .ref H.size :: .ref H.size :: st.map (eVal G))) (names := ["java/lang/RuntimeException", "java/lang/Exception"]) (msg := .ref sa) (rest := .ref H.size :: st.map (eVal G)) (B := G.B) X1 cx.1 hadm cx.2.2.2.1 hfit (by decide +kernel) (fun w hw => by
      rcases hatoms w hw with h1 | h1
      · exact hts _ h1
      · exact exSp_any h1 (hsp w h1)) hFx.1.1 (fun x hx => b1.2.2.1.2.2 x hx) hKn.2.1 hkC (by rw [hT1]; exact e1) b.2.2.1.1 rfl rfl (b.1.2.1.trans cx.2.2.1.symm) rfl (by rw [cx.2.1]; exact d4) (by show 2 + 3 < R.frames; omega) (by
      have := e_cat (G := G) hcat
      show 2 * 0 + (1 + ((st.map (eVal G)).map fun v => v.category).sum) + (13 * (2 + 1) + 42) ≤ R.locals
      omega)
  have hlt : H.size < T1.heap.size := by rw [hT1, z1]; omega
  have e2 : ((T1.setVm vm').setCell H.size cell').heap[H.size]? = some cell' := heapAt_setCell_self (s := T1.setVm vm') cell' hlt
  have z2 : ((T1.setVm vm').setCell H.size cell').heap.size = H1.size := by
    rw [size_setCell]
    show T1.heap.size = H1.size
    rw [hT1]
  have o2 : ∀ z, z ≠ H.size → ((T1.setVm vm').setCell H.size cell').heap[z]? = H1[z]? := fun z hz => by
    rw [heapAt_setCell_ne _ (Ne.symm hz)]
    show T1.heap[z]? = H1[z]?
    rw [hT1]
  have hnz : ¬ h.2.1 = 0 := by have := b.2.1.2.1; omega
  have b2 : eBa P G s k c0 s0 lo (eNew h (.inr (q.1, (P.bla q.1).1)) (P.bla q.1).2) ((T1.setVm vm').setCell H.size cell').heap (locs ++ L) (cells + 1) (slots + (P.bla q.1).2) ls := by
    have hcellnx : (eNew h (.inr (q.1, (P.bla q.1).1)) (P.bla q.1).2).1 h.2.1 = some (.inr (q.1, (P.bla q.1).1)) := by
      show (if h.2.1 = h.2.1 then some _ else _) = _
      rw [if_pos rfl]
    have zz := b1.2.1.set (x := .inr (q.1, (P.bla q.1).1)) hnz hcellnx z2 (fun z hz => o2 z (by rw [hnx]; exact hz)) (by
      refine ⟨_, hcl1, cell', ?_, g1, g2, fun j hj => absurd hj (Nat.not_lt_zero j)⟩
      show ((T1.setVm vm').setCell H.size cell').heap[eAd G h.2.1]? = some cell'
      rw [← hnx]
      exact e2)
    have hsame : eSetH (eNew h (.inr (q.1, (P.bla q.1).1)) (P.bla q.1).2) h.2.1 (.inr (q.1, (P.bla q.1).1)) = eNew h (.inr (q.1, (P.bla q.1).1)) (P.bla q.1).2 := by
      unfold eSetH
      refine Prod.ext (funext fun z => ?_) rfl
      show (if z = h.2.1 then some _ else (if z = h.2.1 then some _ else h.1 z)) = (if z = h.2.1 then some _ else h.1 z)
      by_cases hz : z = h.2.1
      · rw [if_pos hz, if_pos hz]
      · rw [if_neg hz]
    rw [hsame] at zz
    refine ⟨b1.1, zz, ⟨by rw [z2]; exact b1.2.2.1.1, fun z h1 h2 => ?_, fun z hz => ?_⟩, b1.2.2.2⟩
    · rw [o2 z (fun hz => h2 (by rw [hz, hnx]; exact eA0_ad hnz))]
      exact b1.2.2.1.2.1 z h1 h2
    · rcases List.mem_append.mp hz with h1 | h1
      · exact b1.2.2.1.2.2 z h1
      · rw [g3 z h1, hnx]
        exact eA0_ad hnz
  have zW := e_athrow (l := l) (R := R) (e := e) (below := below) (y := h.2.1) (rs := st.map (eVal G)) cx d5 hh b2
  rw [← hnx] at zW
  obtain ⟨t, a1, bb⟩ := zW _ rfl X2
  exact ⟨t, stp t a1, bb⟩
end EY
end
section
def gHan (P : eP) (N : eW) : Prop := ∀ k, ¬ eHs P k = [] → ∃ raw, Cond.codeWith (N.mn k) (N.cd k) (eNL P k) (eRt P k) raw ∈ lw_gd ∧ raw.length = (eHs P k).length ∧
  ∀ (j : Nat) (q g : Nat × Nat × Nat × Nat), raw[j]? = some q → (eHs P k)[j]? = some g → q.1 = g.1 ∧ q.2.1 = g.2.1 ∧ q.2.2.1 = g.2.2.1 ∧ ¬ q.2.2.2 = 0 ∧ Cond.classLink (N.cn (eOwn P k)) q.2.2.2 (N.cn g.2.2.2) ∈ lw_gd
section EC
variable {E : CtlPost} {e : Env} {d : Bool} {acts : List Action} {s : State} {f : JFrame} {a : Addr} {Q : Handler → Pre}
theorem e_goCold {x : ExceptionTableEntry} {t : List ExceptionTableEntry} {c : ClassId} {cell : Cell} {vm' : Vm} (hx : covers x f.pc = true) (h0 : x.catchType ≠ 0)
    (hg : (Jvm.resolveClass f.method.cls x.catchType).Gives e.toSetting s.vm (.ok c) vm') (hsz : vm'.classes.size ≤ s.vm.classes.size) (hcell : s.heap[a]? = some cell) (hobj : ∀ k, cell.vm ≠ .statics k)
    (hk : ∃ k, vm'.classes[cell.cls]? = some k) (hc : ∃ k, vm'.classes[c]? = some k) :
    Sem.wp (findHandler.go f a (x :: t)) Q E e d acts s ↔ if vm'.assignable cell.cls c = true then Q (.found x.handlerPc) d acts (s.setVm vm') else Sem.wp (findHandler.go f a t) Q E e d acts (s.setVm vm') := by
  simp only [covers] at hx
  obtain ⟨ha, ht⟩ := hg.op (op := VmOp.resolveClass f.method.cls x.catchType) rfl
  cases hfit : vm'.assignable cell.cls c <;>
    simp [findHandler.go, hx, h0, ha, ht, hsz, hcell, hobj, hk, hc, hfit, VmOp.dirties, VmOp.acts]
theorem e_stepCatch {r : List Frame} {pc : Nat} {vm' : Vm} (hfind : ∀ (Q : Handler → Pre) (E : CtlPost) (d : Bool) (acts : List Action), Sem.wp (findHandler f a) Q E e d acts s ↔ Q (.found pc) d acts (s.setVm vm')) :
    (stepThrowing e s a (.java f :: r)).Is ((s.setVm vm').setFrames (.java { f with pc := pc, stack := [.ref a] } :: r)) [] := by
  simp only [stepThrowing, searchFrame, vmDo]
  generalize hr : Sem.go _ e false [] s = res
  obtain ⟨as, rfl, ha⟩ := Sem.eq_ok_of hr (a := Handler.found pc) (s' := s.setVm vm') (acts' := []) (by simp [hfind _ _ _ _])
  exact ⟨rfl, ha⟩
end EC
theorem e_len3 {i : Instr} {kd ix len : Nat} (hk : eKd i = (1, kd, ix)) (hlen : eIl i = 0 ∨ len = eIl i) : len = 3 ∧ (kd = 0 → i = .invokestatic ix) ∧ (kd = 1 → i = .invokevirtual ix) ∧ (kd = 2 → i = .invokespecial ix) := by
  cases i <;> first
    | (cases hk; done)
    | (cases hk
       refine ⟨by simpa [eIl] using hlen, fun z => ?_, fun z => ?_, fun z => ?_⟩ <;> first | rfl | cases z)
section ES9
variable {p : Program} {l : Launch} {e : Env} {R : Room} {s : State} {m : MethodId} {args : Array Value} {below : List Frame} {meth : Method} {c : Code}
variable {P : eP} {N : eW} {G : eG} {X : Nat × (Nat → Int32)} {k c0 s0 : Nat}
theorem e_find {T : State} {g : JFrame} {y c1 t : Nat} {fs : List Value} {locs : List Loc} {cells slots : Nat} (cx : eCx P N G X p s m args meth c k) (gl : gCl N G.cl) (X1 : Stand p l e R s m args below meth c T locs cells slots) (hg : g.method = m) (hy : ¬ y = 0) (hat : va_at G.D G.cl (eAd G y, eCo G (.inr (c1, fs))) T.heap) :
    ∀ (xs : List ExceptionTableEntry) (hs : List (Nat × Nat × Nat × Nat)), xs.length = hs.length → (∀ q ∈ hs, q ∈ eHs P k) →
      (∀ (j : Nat) (x : ExceptionTableEntry) (q : Nat × Nat × Nat × Nat), xs[j]? = some x → hs[j]? = some q → x.startPc = q.1 ∧ x.endPc = q.2.1 ∧ x.handlerPc = q.2.2.1 ∧ ¬ x.catchType = 0 ∧ Cond.classLink (N.cn (eOwn P k)) x.catchType (N.cn q.2.2.2) ∈ lw_gd) →
      eHan hs g.pc c1 = some t → ∀ (vm : Vm), s.WarmedH vm → ∃ vm', s.WarmedH vm' ∧ ∀ (Q : Handler → Pre) (E : CtlPost) (d : Bool) (acts : List Action),
        Sem.wp (findHandler.go g (eAd G y) xs) Q E e d acts (((T.setTop g).pushFrame (.throwing (eAd G y))).setVm vm) ↔ Q (.found t) d acts (((T.setTop g).pushFrame (.throwing (eAd G y))).setVm vm') := by
  obtain ⟨r1, hr1, cell, q1, q2, q3, -⟩ := hat
  have hK1 := cx.2.2.2.2.2.1.1 c1 r1 hr1
  intro xs
  induction xs with
  | nil =>
    intro hs hlen hmem hrel hhan
    cases hs with
    | nil => cases hhan
    | cons q hs => cases hlen
  | cons x xs ih =>
    intro hs hlen hmem hrel hhan vm hW
    cases hs with
    | nil => cases hlen
    | cons q hs =>
      obtain ⟨a, b, t', c'⟩ := q
      obtain ⟨e1, e2, e3, e4, e5⟩ := hrel 0 x (a, b, t', c') rfl rfl
      have hrel' : ∀ (j : Nat) (x : ExceptionTableEntry) (q : Nat × Nat × Nat × Nat), xs[j]? = some x → hs[j]? = some q → x.startPc = q.1 ∧ x.endPc = q.2.1 ∧ x.handlerPc = q.2.2.1 ∧ ¬ x.catchType = 0 ∧ Cond.classLink (N.cn (eOwn P k)) x.catchType (N.cn q.2.2.2) ∈ lw_gd := fun j x q h1 h2 => hrel (j + 1) x q (by simpa using h1) (by simpa using h2)
      have hmem' : ∀ q ∈ hs, q ∈ eHs P k := fun q hq => hmem q (List.mem_cons_of_mem _ hq)
      have hlen' : xs.length = hs.length := by simpa using hlen
      simp only [eHan] at hhan
      by_cases hcov : a ≤ g.pc ∧ g.pc < b
      · have hx : covers x g.pc = true := by
          simp only [covers, Bool.and_eq_true, decide_eq_true_eq]
          exact ⟨by rw [e1]; exact hcov.1, by rw [e2]; exact hcov.2⟩
        have hpl : e.platform.magicAccessors = ({} : Platform).magicAccessors := by rw [X1.admits.platform]
        obtain ⟨cH, hfc, hlk⟩ := Cond.classLink_spec (s := s) cx.2.2.2.1 (cx.2.2.2.2.1 _ e5) e.platform hpl
        obtain ⟨dk, _, _, _, hdk, _, _, _, _, _, _, hres⟩ := hlk.here
        have hW1 : s.WarmedH (vm.noted m.cls x.catchType (.cls cH)) := hW.noted hdk hres (State.rightAt_cls hlk)
        have hgv : (Jvm.resolveClass g.method.cls x.catchType).Gives e.toSetting vm (.ok cH) (vm.noted m.cls x.catchType (.cls cH)) := by
          rw [hg]
          exact resolveClass_links e.toSetting (hW.classLinks hlk)
        have hcl1 : ∃ k, (vm.noted m.cls x.catchType (.cls cH)).classes[cell.cls]? = some k := by
          obtain ⟨kC, hkC, -⟩ := hK1.2.2
          obtain ⟨k2, hk2, -⟩ := hW1.alike.2.2 _ _ hkC
          exact ⟨k2, by rw [q2]; exact hk2⟩
        have hcl2 : ∃ k, (vm.noted m.cls x.catchType (.cls cH)).classes[cH]? = some k := by
          obtain ⟨kC, hkC⟩ := Vm.classAt_of_findClass hfc
          obtain ⟨k2, hk2, -⟩ := hW1.alike.2.2 _ _ hkC
          exact ⟨k2, hk2⟩
        have key := fun (Q : Handler → Pre) (E : CtlPost) (d : Bool) (acts : List Action) => e_goCold (t := xs) (Q := Q) (E := E) (d := d) (acts := acts) (f := g) (a := eAd G y) (s := ((T.setTop g).pushFrame (.throwing (eAd G y))).setVm vm) (cell := cell) hx e4 hgv (by rw [Vm.size_note]; exact Nat.le_refl _) (by
          show ((T.setTop g).pushFrame (.throwing (eAd G y))).heap[eAd G y]? = some cell
          rw [Stand.throwing_heap]
          exact q1) (fun z hz => by rw [q3] at hz; cases hz) hcl1 hcl2
        by_cases hc : c' = c1
        · rw [if_pos ⟨hcov.1, hcov.2, hc⟩] at hhan
          cases hhan
          refine ⟨_, hW1, fun Q E d acts => (key Q E d acts).trans ?_⟩
          have hasg : (vm.noted m.cls x.catchType (.cls cH)).assignable cell.cls cH = true := by
            rw [hW1.alike.assignable, q2]
            have hcH : cH = G.D.1 c1 := by
              have h1 := hK1.2.1
              rw [gl c1 r1 hr1] at h1
              have h2 : s.vm.findClass (N.cn c1) = some cH := by rw [← hc]; exact hfc
              exact Option.some.inj (h2.symm.trans h1)
            rw [hcH]
            exact va_assign hK1.2
          rw [if_pos hasg, e3]
          exact Iff.rfl
        · rw [if_neg (fun z => hc z.2.2)] at hhan
          obtain ⟨vm', hW', hrest⟩ := ih hs hlen' hmem' hrel' hhan _ hW1
          refine ⟨vm', hW', fun Q E d acts => (key Q E d acts).trans ?_⟩
          have hasg : (vm.noted m.cls x.catchType (.cls cH)).assignable cell.cls cH = false := by
            rw [hW1.alike.assignable, q2]
            obtain ⟨c2, t2, n1, n2, n3⟩ := cx.2.2.2.2.2.2.2.1.2.2.2 k (a, b, t', c') (hmem _ List.mem_cons_self) c1 r1 hr1 hc
            have h1 := hK1.2.1
            rw [gl c1 r1 hr1] at h1
            cases n1.symm.trans h1
            cases n2.symm.trans hfc
            exact n3
          rw [if_neg (by rw [hasg]; decide)]
          exact hrest Q E d acts
      · have hx : covers x g.pc = false := by
          cases hz : covers x g.pc with
          | false => rfl
          | true =>
            simp only [covers, Bool.and_eq_true, decide_eq_true_eq] at hz
            rw [e1, e2] at hz
            exact absurd hz hcov
        rw [if_neg (fun z => hcov ⟨z.1, z.2.1⟩)] at hhan
        obtain ⟨vm', hW', hrest⟩ := ih hs hlen' hmem' hrel' hhan vm hW
        exact ⟨vm', hW', fun Q E d acts => (W.findHandler_go_skip hx).trans (hrest Q E d acts)⟩
theorem e_catch {T : State} {pc y c1 t : Nat} {ls : Array Slot} {rs fs : List Value} {locs : List Loc} {cells slots : Nat} (cx : eCx P N G X p s m args meth c k) (gk : gHan P N) (gl : gCl N G.cl) (X1 : Stand p l e R s m args below meth c T locs cells slots) (hy : ¬ y = 0) (hat : va_at G.D G.cl (eAd G y, eCo G (.inr (c1, fs))) T.heap) (ht : eHan (eHs P k) pc c1 = some t) :
    ∃ vm', Stand p l e R s m args below meth c (T.setVm vm') locs cells slots ∧ ∀ target, Steps p.tables e below ((T.setVm vm').setTop (F0 m t ls [.ref (eAd G y)])) target → Steps p.tables e below ((T.setTop (F0 m pc ls rs)).pushFrame (.throwing (eAd G y))) target := by
  have hne : ¬ eHs P k = [] := fun z => by rw [z] at ht; cases ht
  obtain ⟨raw, hraw, hlen, hrel⟩ := gk k hne
  have htab := cx.2.2.2.2.2.2.2.2.2.2.2.2 raw hraw
  have hl1 : c.exceptionTable.toList.length = (eHs P k).length := by rw [← hlen, ← htab, List.length_map]
  obtain ⟨vm', hW', hfind⟩ := e_find (g := F0 m pc ls rs) cx gl X1 rfl hy hat c.exceptionTable.toList (eHs P k) hl1 (fun q hq => hq) (fun j x q h1 h2 => hrel j (x.startPc, x.endPc, x.handlerPc, x.catchType) q (by rw [← htab, List.getElem?_map, h1]; rfl) h2) ht T.vm X1.warmed
  refine ⟨vm', X1.noted hW', fun target hrest => ?_⟩
  have h : At T (F0 m pc ls rs).method c below := X1.here
  obtain ⟨hgo, hw⟩ := h.throwing (eAd G y)
  refine Steps.head hgo hw ?_
  have hm0 : ((T.setTop (F0 m pc ls rs)).pushFrame (.throwing (eAd G y))).vm.method? (F0 m pc ls rs).method = some meth := by
    rw [Stand.throwing_vm]
    exact X1.method'
  have hv : ((T.setTop (F0 m pc ls rs)).pushFrame (.throwing (eAd G y))).setVm T.vm = (T.setTop (F0 m pc ls rs)).pushFrame (.throwing (eAd G y)) := by
    rw [← Stand.throwing_vm T (F0 m pc ls rs) (eAd G y)]
    exact State.setVm_self _
  have hf2 : ∀ (Q : Handler → Pre) (E : CtlPost) (d : Bool) (acts : List Action), Sem.wp (findHandler (F0 m pc ls rs) (eAd G y)) Q E e d acts ((T.setTop (F0 m pc ls rs)).pushFrame (.throwing (eAd G y))) ↔ Q (.found t) d acts (((T.setTop (F0 m pc ls rs)).pushFrame (.throwing (eAd G y))).setVm vm') := fun Q E d acts => by
    refine (W.findHandler_eq hm0 X1.code).trans ?_
    have z := hfind Q E d acts
    rw [hv] at z
    exact z
  have hstep := e_stepCatch (r := T.frames.tail) hf2
  rw [stepThread_throwing (frames_entered h.top _), hstep.1]
  obtain ⟨g₀, hg⟩ := Option.isSome_iff_exists.mp h.top
  obtain ⟨r, hr⟩ := State.topJava?_eq_some.mp hg
  have hr' : (T.setVm vm').frames = .java g₀ :: r := hr
  rw [State.setTop_of_frames _ hr'] at hrest
  rw [hr]
  have hfin : (((T.setTop (F0 m pc ls rs)).pushFrame (.throwing (eAd G y))).setVm vm').setFrames (.java (F0 m t ls [.ref (eAd G y)]) :: r) = (T.setVm vm').setFrames (.java (F0 m t ls [.ref (eAd G y)]) :: r) := by
    rw [State.pushFrame, State.setTop_of_frames _ hr]
    show (((T.setVm vm').setFrames _).setFrames _).setFrames _ = _
    rw [State.setFrames_setFrames, State.setFrames_setFrames]
  show Steps p.tables e below ((((T.setTop (F0 m pc ls rs)).pushFrame (.throwing (eAd G y))).setVm vm').setFrames (.java (F0 m t ls [.ref (eAd G y)]) :: r)) target
  rw [hfin]
  exact hrest
theorem e_go {call : Nat → List Value → eH → Option (eR × eH)} {d : Nat} {r : eR} {hE : eH} (cx : eCx P N G X p s m args meth c k) (ga : gAll P N G.cl) (gh : gThr P N G.cl) (htr : l.stackTraces = false) (gk : gHan P N)
    (hmono : ∀ k' as h1 r1 h2, call k' as h1 = some (r1, h2) → h1.2.1 ≤ h2.2.1 ∧ h1.2.2 ≤ h2.2.2) (hcall : ∀ k' as h1 r1 h2, gCode P N k' → gName P N k' → call k' as h1 = some (r1, h2) → eMet l P N G X d k' as h1 r1 h2)
    (hfr : d + 13 ≤ R.frames ∧ (d + 13) * 64 ≤ R.locals) (hRc : hE.2.1 ≤ R.cells + c0) (hRs : hE.2.2 ≤ R.slots + s0) :
    ∀ (n : Nat) (pc : Nat) (lo : eLo) (st : List Value) (h : eH), eGo P X call k n (pc, lo, st, h) = some (r, hE) → ∀ (H : Heap) (locs : List Loc) (cells slots : Nat) (ls : Array Slot), eBa P G s k c0 s0 lo h H locs cells slots ls →
      W p l e R s m args below meth c H locs cells slots (eZ G s below r hE (hE.2.1 - c0) (hE.2.2 - s0)) (F0 m pc ls (st.map (eVal G))) := by
  have hfr2 : 12 ≤ R.frames ∧ 700 ≤ R.locals := ⟨by omega, by omega⟩
  intro n
  induction n with
  | zero => intro pc lo st h hgo; cases hgo
  | succ n ih =>
    intro pc lo st h hgo H locs cells slots ls b
    have b4 := b.2.2.2.1
    have b5 := b.2.2.2.2
    have hM0 := eGo_mono hmono _ _ _ _ _ hgo
    simp only [eGo] at hgo
    split at hgo
    · split at hgo
      · cases hgo
      · rename_i q ht
        split at hgo
        · rename_i hq
          cases hgo
          have zW := es_throw (e := e) (R := R) (below := below) cx ga gh htr ht hq.1 hq.2 b hfr2 hRc hRs
          rw [show (eNew h (Sum.inr (q.1, (P.bla q.1).1)) (P.bla q.1).2).2.1 - c0 = cells + 1 by show h.2.1 + 1 - c0 = cells + 1; omega, show (eNew h (Sum.inr (q.1, (P.bla q.1).1)) (P.bla q.1).2).2.2 - s0 = slots + (P.bla q.1).2 by show h.2.2 + (P.bla q.1).2 - s0 = _; omega]
          exact zW
        · cases hgo
    · rename_i i len hi
      obtain ⟨hd, hlen⟩ := ga.1 _ _ _ _ hi
      split at hgo
      · split at hgo
        · cases hgo
        · rename_i x hz
          obtain ⟨x1, x2, x3, x4⟩ := x
          have hm := eGo_mono hmono _ _ _ _ _ hgo
          exact (e_step cx ga hd hlen hz b).2 (Nat.le_trans hm.1 hRc) (Nat.le_trans hm.2 hRs) (by omega) (by omega) (fun H1 locs1 cells1 slots1 ls1 b1 => ih _ _ _ _ hgo H1 locs1 cells1 slots1 ls1 b1)
      · rename_i kd ix hk
        obtain ⟨hl3, hk0, hk1, hk2⟩ := e_len3 hk hlen
        subst hl3
        split at hgo
        · cases hgo
        · rename_i kind k' na hm
          split at hgo
          · cases hgo
          · rename_i hrs
            split at hgo
            · split at hgo
              · cases hgo
              · rename_i x hz
                obtain ⟨x1, x2, x3, x4⟩ := x
                exact e_own cx ga hk hm hd hrs hz b hfr2 (Nat.le_trans hM0.1 hRc) (Nat.le_trans hM0.2 hRs) (fun H1 locs1 cells1 slots1 ls1 b1 => ih _ _ _ _ hgo H1 locs1 cells1 slots1 ls1 b1)
            · rename_i h3
              have h3 : kind < 3 := Nat.not_le.mp h3
              obtain ⟨gAll1, gA2, gA3, gA4, gA5, -⟩ := ga.2.2.2.2.2.1 _ _ _ _ _ hm
              obtain ⟨gcd, gnm⟩ := gAll1 h3
              split at hgo
              · cases hgo
              · rename_i as rs ha
                obtain ⟨hst, hrs1, hal, hkk, hcase⟩ := eArgs_some (fun z => hrs (Or.inl z)) ha
                subst hkk
                have hrs2 : eCat rs ≤ 8 := by rw [hrs1]; exact Nat.not_lt.mp fun z => hrs (Or.inr z)
                split at hgo
                · cases hgo
                · rename_i v h' hc
                  have hM := hcall _ _ _ _ _ gcd gnm hc
                  have hm1 := hmono _ _ _ _ _ hc
                  have hm2 := eGo_mono hmono _ _ _ _ _ hgo
                  have hc1 := Nat.le_trans hm2.1 hRc
                  have hs1 := Nat.le_trans hm2.2 hRs
                  have kk : eNext P G p l e R s m args below meth c (eZ G s below r hE (hE.2.1 - c0) (hE.2.2 - s0)) k c0 s0 (pc + 3, lo, v.toList ++ rs, h') := fun H1 locs1 cells1 slots1 ls1 b1 => ih _ _ _ _ hgo H1 locs1 cells1 slots1 ls1 b1
                  rcases hcase with rfl | ⟨rfl, a, as', fs, rfl, h1, h2⟩ | ⟨rfl, a, as', rfl⟩
                  · rw [hk0 rfl] at hd
                    obtain ⟨g1, g2⟩ := gA3 rfl
                    exact e_back b hm1 (e_runS cx lw_gd_good b hM gcd gnm (gA2 (by omega)) g1 (by rw [hal]; exact g2) hrs2 hd hfr hc1 hs1 hm1 hst) kk
                  · rw [hk1 rfl] at hd
                    obtain ⟨g1, g2, g3, g4⟩ := gA4 rfl
                    rcases gcd with ⟨-, gcd⟩ | ⟨g5, -⟩
                    · exact e_back b hm1 (e_runV cx lw_gd_good ga.2.2.2.1 b hM gcd gnm (gA2 (by omega)) g1 g2 h1 h2 (by rw [show as'.length + 1 = na from hal]; exact g4) hrs2 hd hfr hc1 hs1 hm1 (by rw [hst]; simp)) kk
                    · exact absurd g3 g5
                  · rw [hk2 rfl] at hd
                    obtain ⟨g1, g2, g3, g4, g5, g6⟩ := gA5 rfl
                    rcases gcd with ⟨-, gcd⟩ | ⟨g7, -⟩
                    · rw [g5] at gcd
                      exact e_back b hm1 (e_runI cx lw_gd_good b hM gcd gnm (cx.2.2.2.2.2.2.2.1.2.2.1 _ _ _ _ hm) g1 g2 (by rw [show as'.length + 1 = na from hal]; exact g6) hrs2 hd hfr hc1 hs1 hm1 (by rw [hst]; simp)) kk
                    · exact absurd g4 g7
                · rename_i y h' hc
                  have hM := hcall _ _ _ _ _ gcd gnm hc
                  have hm1 := hmono _ _ _ _ _ hc
                  split at hgo
                  · cases hgo
                  · rename_i hno
                    have hy0 : ¬ y = 0 := fun z => hno (Or.inl z)
                    have hhs : eHs P k' = [] := Decidable.of_not_not fun z => hno (Or.inr (Or.inl z))
                    have gcd2 : Cond.code (N.mn k') (N.cd k') (eNL P k') (eRt P k') ∈ lw_gd := by
                      rcases gcd with ⟨-, gcd⟩ | ⟨g7, -⟩
                      · exact gcd
                      · exact absurd hhs g7
                    split at hgo
                    · rename_i c1 fs1 hcell
                      have key : (hE.2.1 ≥ h'.2.1 ∧ hE.2.2 ≥ h'.2.2) ∧ eTh P G p l e R s m args below meth c (eZ G s below r hE (hE.2.1 - c0) (hE.2.2 - s0)) k c0 s0 pc lo ls rs y h' := by
                        split at hgo
                        · rename_i t ht
                          refine ⟨eGo_mono hmono _ _ _ _ _ hgo, fun T locs1 cells1 slots1 X1 b1 => ?_⟩
                          obtain ⟨vm', X2, hst2⟩ := e_catch (pc := pc) (ls := ls) (rs := rs.map (eVal G)) cx gk ga.2.2.2.1 X1 hy0 (b1.2.1.at hy0 hcell) ht
                          obtain ⟨t2, a1, bb⟩ := ih _ _ _ _ hgo T.heap locs1 cells1 slots1 ls b1 (T.setVm vm') rfl X2
                          exact ⟨t2, hst2 t2 a1, bb⟩
                        · split at hgo
                          · rename_i hh
                            cases hgo
                            refine ⟨⟨Nat.le_refl _, Nat.le_refl _⟩, fun T locs1 cells1 slots1 X1 b1 => ?_⟩
                            obtain ⟨q1, q2, q3, q4, q5⟩ := X1.leaveThrown (eAd G y) (g := F0 m pc ls (rs.map (eVal G))) rfl rfl rfl (fun x hx => by rw [cx.2.2.2.2.2.2.2.2.2.2.2.1 hh] at hx; exact absurd hx List.not_mem_nil) (hlocks := cx.2.2.2.2.2.2.2.2.2.2.1)
                            have c4 := b1.2.2.2.1
                            have c5 := b1.2.2.2.2
                            rw [show hE.2.1 - c0 = cells1 by omega, show hE.2.2 - s0 = slots1 by omega]
                            exact ⟨_, q1, q2, q3, b1.2.1, q4, ⟨b1.2.2.1.1, b1.2.2.1.2.1⟩, locs1, q5, b1.2.2.1.2.2⟩
                          · cases hgo
                      obtain ⟨hm2, kk⟩ := key
                      have hc1 := Nat.le_trans hm2.1 hRc
                      have hs1 := Nat.le_trans hm2.2 hRs
                      rcases hcase with rfl | ⟨rfl, a, as', fs, rfl, h1, h2⟩ | ⟨rfl, a, as', rfl⟩
                      · rw [hk0 rfl] at hd
                        obtain ⟨g1, g2⟩ := gA3 rfl
                        exact e_thrS cx lw_gd_good b hM gcd2 gnm (gA2 (by omega)) g1 (by rw [hal]; exact g2) hrs2 hd hfr hc1 hs1 hm1 hst kk
                      · rw [hk1 rfl] at hd
                        obtain ⟨g1, g2, g3, g4⟩ := gA4 rfl
                        exact e_thrV cx lw_gd_good ga.2.2.2.1 b hM gcd2 gnm (gA2 (by omega)) g1 g2 h1 h2 (by rw [show as'.length + 1 = na from hal]; exact g4) hrs2 hd hfr hc1 hs1 hm1 (by rw [hst]; simp) kk
                      · exact absurd (Or.inr (Or.inr (gA5 rfl).2.2.1)) hno
                    · cases hgo
      · obtain ⟨rfl, z⟩ := e_end (below := below) (e := e) (l := l) (R := R) cx hd hlen hgo b
        rw [show hE.2.1 - c0 = cells by omega, show hE.2.2 - s0 = slots by omega]
        exact z
end ES9
end
section
theorem eAs_args (G : eG) : ∀ (as : List Value) (i n : Nat), eAs (eVal G) i (eArg as ++ List.replicate n none) = lv_args i (as.map (eVal G)) := by
  intro as
  induction as with
  | nil =>
    intro i n
    show eAs (eVal G) i (List.replicate n none) = []
    induction n generalizing i with
    | zero => rfl
    | succ n ih => exact ih (i + 1)
  | cons v r ih =>
    intro i n
    by_cases hc : v.category = 2
    · have h1 : eArg (v :: r) = some v :: none :: eArg r := by simp [eArg, hc]
      have h2 : lv_args i ((v :: r).map (eVal G)) = (i, eVal G v) :: lv_args (i + 2) (r.map (eVal G)) := by simp [lv_args, eVal_cat, hc]
      rw [h1, h2, ← ih (i + 2) n]
      rfl
    · have h1 : eArg (v :: r) = some v :: eArg r := by simp [eArg, hc]
      have h2 : lv_args i ((v :: r).map (eVal G)) = (i, eVal G v) :: lv_args (i + 1) (r.map (eVal G)) := by simp [lv_args, eVal_cat, hc]
      rw [h1, h2, ← ih (i + 1) n]
      rfl
theorem eArg_len (G : eG) : ∀ (as : List Value), (lg_sl (as.map (eVal G))).length = (eArg as).length := by
  intro as
  induction as with
  | nil => rfl
  | cons v r ih =>
    by_cases hc : v.category = 2
    · have h1 : eArg (v :: r) = some v :: none :: eArg r := by simp [eArg, hc]
      have h2 : lg_sl ((v :: r).map (eVal G)) = .val (eVal G v) :: .second :: lg_sl (r.map (eVal G)) := by simp [lg_sl, eVal_cat, hc]
      rw [h1, h2]
      simp [ih]
    · have h1 : eArg (v :: r) = some v :: eArg r := by simp [eArg, hc]
      have h2 : lg_sl ((v :: r).map (eVal G)) = .val (eVal G v) :: lg_sl (r.map (eVal G)) := by simp [lg_sl, eVal_cat, hc]
      rw [h1, h2]
      simp [ih]
theorem e_met {l : Launch} {P : eP} {N : eW} {G : eG} {X : Nat × (Nat → Int32)} {n : Nat} (ga : gAll P N G.cl) (gh : gThr P N G.cl) (htr : l.stackTraces = false) (gk : gHan P N) :
    ∀ (d k : Nat) (as : List Value) (h : eH) (r : eR) (h' : eH), gCode P N k → gName P N k → eRun P X n d k as h = some (r, h') → eMet l P N G X d k as h r h' := by
  intro d
  induction d with
  | zero => intro k as h r h' _ _ hx; cases hx
  | succ d ih =>
    intro k as h r h' hcode hname hx
    have hmm := eRun_mono _ _ _ _ _ _ hx
    simp only [eRun] at hx
    split at hx
    · cases hx
    · rename_i hnl
      unfold eMet
      refine MetFree.of_bodyS (code := N.cd k) (maxLocals := eNL P k) (ret := eRt P k) hname.1 ?_ ?_
      · intro args s m hpre hn
        have hts : ∀ w ∈ lw_gd, w.before args s = true := atoms_spec (ws := lw_gd) hpre
        rcases hcode with ⟨-, hcode⟩ | ⟨-, hs, hcode⟩
        · obtain ⟨meth, c, h1, h2, h3, h4, h5, h6, -, -⟩ := Cond.code_spec hn (hts _ hcode)
          exact ⟨meth, c, h1, h2, h3, h4, h5, h6⟩
        · obtain ⟨m', meth, c, h0, h1, h2, h3, h4, -, h5, h6, -⟩ := Cond.codeWith_spec (hts _ hcode)
          cases hn.symm.trans h0
          exact ⟨meth, c, h1, h2, h3, h4, h5, h6⟩
      · intro p e s m args below meth c s₁ B hml hP _
        obtain ⟨rfl, hK, hR, ⟨hX, hb⟩, hFx⟩ := hP
        have hts : ∀ w ∈ lw_gd, w.before (as.map (eVal G)).toArray s = true := atoms_spec (ws := lw_gd) B.pre
        have X0 := Stand.of_body B
        have hh0 : s₁.heap = s.heap := by rw [B.state]; rfl
        have hown : s.vm.findClass (N.cn (eOwn P k)) = some m.cls := by
          rw [← hname.2.2.1]
          exact findClass_of_methodNamed B.named
        have hnm : meth.name = (N.mn k).name := (name_of_methodNamed B.named B.method).1
        have hexc1 : eHs P k = [] → c.exceptionTable.toList = [] := fun hz => by
          rcases hcode with ⟨-, hcode⟩ | ⟨hn2, -⟩
          · obtain ⟨meth', c', h1, h2, -, -, -, -, h7, -⟩ := Cond.code_spec B.named (hts _ hcode)
            cases B.method.symm.trans h1
            cases X0.code.symm.trans h2
            simpa using h7
          · exact absurd hz hn2
        have hexc2 : ∀ raw, Cond.codeWith (N.mn k) (N.cd k) (eNL P k) (eRt P k) raw ∈ lw_gd → c.exceptionTable.toList.map (fun h => (h.startPc, h.endPc, h.handlerPc, h.catchType)) = raw := fun raw hraw => by
          obtain ⟨m', meth', c', h0, h1, h2, -, -, h5, -⟩ := Cond.codeWith_spec (hts _ hraw)
          cases B.named.symm.trans h0
          cases B.method.symm.trans h1
          cases X0.code.symm.trans h2
          exact h5
        have hsz : G.B < s.heap.size := by rw [hR.1]; have := hR.2.1; omega
        have cx : eCx P N G X p s m (as.map (eVal G)).toArray meth c k := ⟨B.exec, B.bytes, hml, hown, hts, hK, ⟨hX, hb, hsz⟩, hFx, fun hz => by rw [hnm]; exact hname.2.2.2.2.1 hz, B.returns, B.notSynchronized, hexc1, hexc2⟩
        have hle : (lg_sl (as.map (eVal G))).length ≤ eNL P k := by rw [eArg_len]; exact Nat.not_lt.mp hnl
        have hb0 : eBa P G s k h.2.1 h.2.2 (eEntry (eNL P k) as) h s.heap [] 0 0 ((lg_sl (as.map (eVal G)) ++ List.replicate (eNL P k - (lg_sl (as.map (eVal G))).length) Slot.unset).toArray) := by
          refine ⟨⟨?_, ?_⟩, hR, ⟨Nat.le_refl _, fun _ _ _ => rfl, fun q hq => absurd hq List.not_mem_nil⟩, by omega, by omega⟩
          · unfold eEntry
            rw [List.length_append, List.length_replicate]
            have := Nat.not_lt.mp hnl
            omega
          · unfold eEntry
            rw [eAs_args]
            exact lv_entry (as.map (eVal G)) hle
        have z := e_go (e := e) (below := below) (R := eRm (d + 1) (h'.2.1 - h.2.1) (h'.2.2 - h.2.2)) cx ga gh htr gk (fun k' as' h1 r1 h2 hc => eRun_mono _ _ _ _ _ _ hc) (fun k' as' h1 r1 h2 g1 g2 hc => ih k' as' h1 r1 h2 g1 g2 hc) ⟨by show d + 13 ≤ d + 1 + 12; omega, by show (d + 13) * 64 ≤ (d + 1 + 12) * 64; omega⟩
          (by show h'.2.1 ≤ h'.2.1 - h.2.1 + h.2.1; omega) (by show h'.2.2 ≤ h'.2.2 - h.2.2 + h.2.2; omega) n _ _ _ _ hx s.heap [] 0 0 _ hb0
        rw [lg_entry_eq]
        obtain ⟨t, a1, q1, q2, q3, q4, q5, q6⟩ := z s₁ hh0 X0
        exact ⟨t, eO G r, a1, q1, q2, ⟨rfl, q3, q5⟩, q4, q6⟩
end
