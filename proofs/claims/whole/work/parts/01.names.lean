-- ===== PART A: goes FIRST, ahead of the names: the tables' words, and 'selects' of the private methods out of them =====
/-- a private method of a class that the tables say can be made, by its rows of tables_1 -/
def lw_okq (q : MethodName × Nat) : Prop := (q.1.cls ≠ "java/lang/invoke/MethodHandle" ∧ q.1.cls ≠ "java/lang/invoke/VarHandle") ∧ Cond.instantiable q.1.cls q.2 ∈ tables_1 ∧ Cond.privateMethod q.1 ∈ tables_1 ∧ Cond.instanceMethod q.1 ∈ tables_1
theorem lw_p0 : lw_okq (⟨"DrivenRuns$Node", "addBelow", "(LDrivenRuns$Node;)V"⟩, 19) := ⟨⟨by decide +kernel, by decide +kernel⟩, List.mem_of_getElem? (i := 205) (by decide +kernel), List.mem_of_getElem? (i := 221) (by decide +kernel), List.mem_of_getElem? (i := 222) (by decide +kernel)⟩
theorem lw_p1 : lw_okq (⟨"DrivenRuns$Tree", "clear", "()V"⟩, 14) := ⟨⟨by decide +kernel, by decide +kernel⟩, List.mem_of_getElem? (i := 198) (by decide +kernel), List.mem_of_getElem? (i := 324) (by decide +kernel), List.mem_of_getElem? (i := 325) (by decide +kernel)⟩
theorem lw_p2 : lw_okq (⟨"DrivenRuns$Reader", "readClause", "(LDrivenRuns$Program;)Z"⟩, 8) := ⟨⟨by decide +kernel, by decide +kernel⟩, List.mem_of_getElem? (i := 25) (by decide +kernel), List.mem_of_getElem? (i := 569) (by decide +kernel), List.mem_of_getElem? (i := 570) (by decide +kernel)⟩
theorem lw_p3 : lw_okq (⟨"DrivenRuns$Reader", "peek", "()I"⟩, 8) := ⟨⟨by decide +kernel, by decide +kernel⟩, List.mem_of_getElem? (i := 25) (by decide +kernel), List.mem_of_getElem? (i := 585) (by decide +kernel), List.mem_of_getElem? (i := 586) (by decide +kernel)⟩
theorem lw_p4 : lw_okq (⟨"DrivenRuns$Reader", "fail", "(I)Z"⟩, 8) := ⟨⟨by decide +kernel, by decide +kernel⟩, List.mem_of_getElem? (i := 25) (by decide +kernel), List.mem_of_getElem? (i := 592) (by decide +kernel), List.mem_of_getElem? (i := 593) (by decide +kernel)⟩
theorem lw_p5 : lw_okq (⟨"DrivenRuns$Reader", "readName", "(I)I"⟩, 8) := ⟨⟨by decide +kernel, by decide +kernel⟩, List.mem_of_getElem? (i := 25) (by decide +kernel), List.mem_of_getElem? (i := 596) (by decide +kernel), List.mem_of_getElem? (i := 597) (by decide +kernel)⟩
theorem lw_p6 : lw_okq (⟨"DrivenRuns$Reader", "expect", "(I)Z"⟩, 8) := ⟨⟨by decide +kernel, by decide +kernel⟩, List.mem_of_getElem? (i := 25) (by decide +kernel), List.mem_of_getElem? (i := 603) (by decide +kernel), List.mem_of_getElem? (i := 604) (by decide +kernel)⟩
theorem lw_p7 : lw_okq (⟨"DrivenRuns$Reader", "readPatterns", "(LDrivenRuns$Clause;)I"⟩, 8) := ⟨⟨by decide +kernel, by decide +kernel⟩, List.mem_of_getElem? (i := 25) (by decide +kernel), List.mem_of_getElem? (i := 607) (by decide +kernel), List.mem_of_getElem? (i := 608) (by decide +kernel)⟩
theorem lw_p8 : lw_okq (⟨"DrivenRuns$Reader", "readCase", "(LDrivenRuns$Clause;)Z"⟩, 8) := ⟨⟨by decide +kernel, by decide +kernel⟩, List.mem_of_getElem? (i := 25) (by decide +kernel), List.mem_of_getElem? (i := 614) (by decide +kernel), List.mem_of_getElem? (i := 615) (by decide +kernel)⟩
theorem lw_p9 : lw_okq (⟨"DrivenRuns$Reader", "readLeftVar", "(LDrivenRuns$Clause;)Z"⟩, 8) := ⟨⟨by decide +kernel, by decide +kernel⟩, List.mem_of_getElem? (i := 25) (by decide +kernel), List.mem_of_getElem? (i := 621) (by decide +kernel), List.mem_of_getElem? (i := 622) (by decide +kernel)⟩
theorem lw_p10 : lw_okq (⟨"DrivenRuns$Reader", "readExpr", "(LDrivenRuns$Expr;LDrivenRuns$Clause;Z)Z"⟩, 8) := ⟨⟨by decide +kernel, by decide +kernel⟩, List.mem_of_getElem? (i := 25) (by decide +kernel), List.mem_of_getElem? (i := 655) (by decide +kernel), List.mem_of_getElem? (i := 656) (by decide +kernel)⟩
theorem lw_p11 : lw_okq (⟨"DrivenRuns$Reader", "readCon", "(LDrivenRuns$Expr;)I"⟩, 8) := ⟨⟨by decide +kernel, by decide +kernel⟩, List.mem_of_getElem? (i := 25) (by decide +kernel), List.mem_of_getElem? (i := 660) (by decide +kernel), List.mem_of_getElem? (i := 661) (by decide +kernel)⟩
theorem lw_p12 : lw_okq (⟨"DrivenRuns$Reader", "openThing", "(LDrivenRuns$Expr;)I"⟩, 8) := ⟨⟨by decide +kernel, by decide +kernel⟩, List.mem_of_getElem? (i := 25) (by decide +kernel), List.mem_of_getElem? (i := 665) (by decide +kernel), List.mem_of_getElem? (i := 666) (by decide +kernel)⟩
theorem lw_p13 : lw_okq (⟨"DrivenRuns$Reader", "readThing", "(LDrivenRuns$Expr;LDrivenRuns$Clause;)I"⟩, 8) := ⟨⟨by decide +kernel, by decide +kernel⟩, List.mem_of_getElem? (i := 25) (by decide +kernel), List.mem_of_getElem? (i := 669) (by decide +kernel), List.mem_of_getElem? (i := 670) (by decide +kernel)⟩
theorem lw_p14 : lw_okq (⟨"DrivenRuns$Reader", "readVar", "(LDrivenRuns$Expr;LDrivenRuns$Clause;)I"⟩, 8) := ⟨⟨by decide +kernel, by decide +kernel⟩, List.mem_of_getElem? (i := 25) (by decide +kernel), List.mem_of_getElem? (i := 673) (by decide +kernel), List.mem_of_getElem? (i := 674) (by decide +kernel)⟩
theorem lw_p15 : lw_okq (⟨"DrivenRuns$Reader", "readCall", "(LDrivenRuns$Expr;)I"⟩, 8) := ⟨⟨by decide +kernel, by decide +kernel⟩, List.mem_of_getElem? (i := 25) (by decide +kernel), List.mem_of_getElem? (i := 677) (by decide +kernel), List.mem_of_getElem? (i := 678) (by decide +kernel)⟩
def lw_privs_1 : List (MethodName × Nat) := [(⟨"DrivenRuns$Node", "addBelow", "(LDrivenRuns$Node;)V"⟩, 19), (⟨"DrivenRuns$Tree", "clear", "()V"⟩, 14), (⟨"DrivenRuns$Reader", "readClause", "(LDrivenRuns$Program;)Z"⟩, 8), (⟨"DrivenRuns$Reader", "peek", "()I"⟩, 8), (⟨"DrivenRuns$Reader", "fail", "(I)Z"⟩, 8), (⟨"DrivenRuns$Reader", "readName", "(I)I"⟩, 8), (⟨"DrivenRuns$Reader", "expect", "(I)Z"⟩, 8), (⟨"DrivenRuns$Reader", "readPatterns", "(LDrivenRuns$Clause;)I"⟩, 8), (⟨"DrivenRuns$Reader", "readCase", "(LDrivenRuns$Clause;)Z"⟩, 8), (⟨"DrivenRuns$Reader", "readLeftVar", "(LDrivenRuns$Clause;)Z"⟩, 8), (⟨"DrivenRuns$Reader", "readExpr", "(LDrivenRuns$Expr;LDrivenRuns$Clause;Z)Z"⟩, 8), (⟨"DrivenRuns$Reader", "readCon", "(LDrivenRuns$Expr;)I"⟩, 8), (⟨"DrivenRuns$Reader", "openThing", "(LDrivenRuns$Expr;)I"⟩, 8), (⟨"DrivenRuns$Reader", "readThing", "(LDrivenRuns$Expr;LDrivenRuns$Clause;)I"⟩, 8), (⟨"DrivenRuns$Reader", "readVar", "(LDrivenRuns$Expr;LDrivenRuns$Clause;)I"⟩, 8), (⟨"DrivenRuns$Reader", "readCall", "(LDrivenRuns$Expr;)I"⟩, 8)]
theorem lw_r1 : ∀ q ∈ lw_privs_1, lw_okq q := List.forall_mem_cons.mpr ⟨lw_p0, List.forall_mem_cons.mpr ⟨lw_p1, List.forall_mem_cons.mpr ⟨lw_p2, List.forall_mem_cons.mpr ⟨lw_p3, List.forall_mem_cons.mpr ⟨lw_p4, List.forall_mem_cons.mpr ⟨lw_p5, List.forall_mem_cons.mpr ⟨lw_p6, List.forall_mem_cons.mpr ⟨lw_p7, List.forall_mem_cons.mpr ⟨lw_p8, List.forall_mem_cons.mpr ⟨lw_p9, List.forall_mem_cons.mpr ⟨lw_p10, List.forall_mem_cons.mpr ⟨lw_p11, List.forall_mem_cons.mpr ⟨lw_p12, List.forall_mem_cons.mpr ⟨lw_p13, List.forall_mem_cons.mpr ⟨lw_p14, List.forall_mem_cons.mpr ⟨lw_p15, fun _ h => absurd h List.not_mem_nil⟩⟩⟩⟩⟩⟩⟩⟩⟩⟩⟩⟩⟩⟩⟩⟩
theorem lw_p16 : lw_okq (⟨"DrivenRuns$Reader", "closeThings", "(LDrivenRuns$Expr;)I"⟩, 8) := ⟨⟨by decide +kernel, by decide +kernel⟩, List.mem_of_getElem? (i := 25) (by decide +kernel), List.mem_of_getElem? (i := 682) (by decide +kernel), List.mem_of_getElem? (i := 683) (by decide +kernel)⟩
theorem lw_p17 : lw_okq (⟨"DrivenRuns", "emptyTape", "(Z)Z"⟩, 17) := ⟨⟨by decide +kernel, by decide +kernel⟩, List.mem_of_getElem? (i := 17) (by decide +kernel), List.mem_of_getElem? (i := 711) (by decide +kernel), List.mem_of_getElem? (i := 712) (by decide +kernel)⟩
theorem lw_p18 : lw_okq (⟨"DrivenRuns$Reader", "readBinding", "(LDrivenRuns$Bound;)Z"⟩, 8) := ⟨⟨by decide +kernel, by decide +kernel⟩, List.mem_of_getElem? (i := 25) (by decide +kernel), List.mem_of_getElem? (i := 746) (by decide +kernel), List.mem_of_getElem? (i := 747) (by decide +kernel)⟩
theorem lw_p19 : lw_okq (⟨"DrivenRuns", "runGoal", "(I)Z"⟩, 17) := ⟨⟨by decide +kernel, by decide +kernel⟩, List.mem_of_getElem? (i := 17) (by decide +kernel), List.mem_of_getElem? (i := 820) (by decide +kernel), List.mem_of_getElem? (i := 821) (by decide +kernel)⟩
theorem lw_p20 : lw_okq (⟨"DrivenRuns$Runner", "stateOf", "(LDrivenRuns$Program;)I"⟩, 10) := ⟨⟨by decide +kernel, by decide +kernel⟩, List.mem_of_getElem? (i := 152) (by decide +kernel), List.mem_of_getElem? (i := 836) (by decide +kernel), List.mem_of_getElem? (i := 837) (by decide +kernel)⟩
theorem lw_p21 : lw_okq (⟨"DrivenRuns$Runner", "undoneState", "(LDrivenRuns$Program;)I"⟩, 10) := ⟨⟨by decide +kernel, by decide +kernel⟩, List.mem_of_getElem? (i := 152) (by decide +kernel), List.mem_of_getElem? (i := 840) (by decide +kernel), List.mem_of_getElem? (i := 841) (by decide +kernel)⟩
theorem lw_p22 : lw_okq (⟨"DrivenRuns$Runner", "replaceNext", "()V"⟩, 10) := ⟨⟨by decide +kernel, by decide +kernel⟩, List.mem_of_getElem? (i := 152) (by decide +kernel), List.mem_of_getElem? (i := 863) (by decide +kernel), List.mem_of_getElem? (i := 864) (by decide +kernel)⟩
theorem lw_p23 : lw_okq (⟨"DrivenRuns$Runner", "addRight", "(LDrivenRuns$Expr;LDrivenRuns$Clause;LDrivenRuns$Expr;)V"⟩, 10) := ⟨⟨by decide +kernel, by decide +kernel⟩, List.mem_of_getElem? (i := 152) (by decide +kernel), List.mem_of_getElem? (i := 877) (by decide +kernel), List.mem_of_getElem? (i := 878) (by decide +kernel)⟩
theorem lw_p24 : lw_okq (⟨"DrivenRuns", "writeExpr", "(LDrivenRuns$Expr;)I"⟩, 17) := ⟨⟨by decide +kernel, by decide +kernel⟩, List.mem_of_getElem? (i := 17) (by decide +kernel), List.mem_of_getElem? (i := 891) (by decide +kernel), List.mem_of_getElem? (i := 892) (by decide +kernel)⟩
theorem lw_p25 : lw_okq (⟨"DrivenRuns$Writer", "putThing", "(I)V"⟩, 3) := ⟨⟨by decide +kernel, by decide +kernel⟩, List.mem_of_getElem? (i := 86) (by decide +kernel), List.mem_of_getElem? (i := 904) (by decide +kernel), List.mem_of_getElem? (i := 905) (by decide +kernel)⟩
theorem lw_p26 : lw_okq (⟨"DrivenRuns$Writer", "putName", "(II)V"⟩, 3) := ⟨⟨by decide +kernel, by decide +kernel⟩, List.mem_of_getElem? (i := 86) (by decide +kernel), List.mem_of_getElem? (i := 909) (by decide +kernel), List.mem_of_getElem? (i := 910) (by decide +kernel)⟩
theorem lw_p27 : lw_okq (⟨"DrivenRuns$Writer", "closeThings", "(I)I"⟩, 3) := ⟨⟨by decide +kernel, by decide +kernel⟩, List.mem_of_getElem? (i := 86) (by decide +kernel), List.mem_of_getElem? (i := 919) (by decide +kernel), List.mem_of_getElem? (i := 920) (by decide +kernel)⟩
theorem lw_p28 : lw_okq (⟨"DrivenRuns$Matcher", "arePartsCoupled", "(LDrivenRuns$Expr;ILDrivenRuns$Expr;I)Z"⟩, 11) := ⟨⟨by decide +kernel, by decide +kernel⟩, List.mem_of_getElem? (i := 104) (by decide +kernel), List.mem_of_getElem? (i := 936) (by decide +kernel), List.mem_of_getElem? (i := 937) (by decide +kernel)⟩
theorem lw_p29 : lw_okq (⟨"DrivenRuns$Matcher", "isInArgument", "(ILDrivenRuns$Expr;I)Z"⟩, 11) := ⟨⟨by decide +kernel, by decide +kernel⟩, List.mem_of_getElem? (i := 104) (by decide +kernel), List.mem_of_getElem? (i := 943) (by decide +kernel), List.mem_of_getElem? (i := 944) (by decide +kernel)⟩
theorem lw_p30 : lw_okq (⟨"DrivenRuns$Matcher", "pairVars", "(II)Z"⟩, 11) := ⟨⟨by decide +kernel, by decide +kernel⟩, List.mem_of_getElem? (i := 104) (by decide +kernel), List.mem_of_getElem? (i := 951) (by decide +kernel), List.mem_of_getElem? (i := 952) (by decide +kernel)⟩
theorem lw_p31 : lw_okq (⟨"DrivenRuns$Matcher", "standFor", "(ILDrivenRuns$Expr;I)Z"⟩, 11) := ⟨⟨by decide +kernel, by decide +kernel⟩, List.mem_of_getElem? (i := 104) (by decide +kernel), List.mem_of_getElem? (i := 960) (by decide +kernel), List.mem_of_getElem? (i := 961) (by decide +kernel)⟩
def lw_privs_2 : List (MethodName × Nat) := [(⟨"DrivenRuns$Reader", "closeThings", "(LDrivenRuns$Expr;)I"⟩, 8), (⟨"DrivenRuns", "emptyTape", "(Z)Z"⟩, 17), (⟨"DrivenRuns$Reader", "readBinding", "(LDrivenRuns$Bound;)Z"⟩, 8), (⟨"DrivenRuns", "runGoal", "(I)Z"⟩, 17), (⟨"DrivenRuns$Runner", "stateOf", "(LDrivenRuns$Program;)I"⟩, 10), (⟨"DrivenRuns$Runner", "undoneState", "(LDrivenRuns$Program;)I"⟩, 10), (⟨"DrivenRuns$Runner", "replaceNext", "()V"⟩, 10), (⟨"DrivenRuns$Runner", "addRight", "(LDrivenRuns$Expr;LDrivenRuns$Clause;LDrivenRuns$Expr;)V"⟩, 10), (⟨"DrivenRuns", "writeExpr", "(LDrivenRuns$Expr;)I"⟩, 17), (⟨"DrivenRuns$Writer", "putThing", "(I)V"⟩, 3), (⟨"DrivenRuns$Writer", "putName", "(II)V"⟩, 3), (⟨"DrivenRuns$Writer", "closeThings", "(I)I"⟩, 3), (⟨"DrivenRuns$Matcher", "arePartsCoupled", "(LDrivenRuns$Expr;ILDrivenRuns$Expr;I)Z"⟩, 11), (⟨"DrivenRuns$Matcher", "isInArgument", "(ILDrivenRuns$Expr;I)Z"⟩, 11), (⟨"DrivenRuns$Matcher", "pairVars", "(II)Z"⟩, 11), (⟨"DrivenRuns$Matcher", "standFor", "(ILDrivenRuns$Expr;I)Z"⟩, 11)]
theorem lw_r2 : ∀ q ∈ lw_privs_2, lw_okq q := List.forall_mem_cons.mpr ⟨lw_p16, List.forall_mem_cons.mpr ⟨lw_p17, List.forall_mem_cons.mpr ⟨lw_p18, List.forall_mem_cons.mpr ⟨lw_p19, List.forall_mem_cons.mpr ⟨lw_p20, List.forall_mem_cons.mpr ⟨lw_p21, List.forall_mem_cons.mpr ⟨lw_p22, List.forall_mem_cons.mpr ⟨lw_p23, List.forall_mem_cons.mpr ⟨lw_p24, List.forall_mem_cons.mpr ⟨lw_p25, List.forall_mem_cons.mpr ⟨lw_p26, List.forall_mem_cons.mpr ⟨lw_p27, List.forall_mem_cons.mpr ⟨lw_p28, List.forall_mem_cons.mpr ⟨lw_p29, List.forall_mem_cons.mpr ⟨lw_p30, List.forall_mem_cons.mpr ⟨lw_p31, fun _ h => absurd h List.not_mem_nil⟩⟩⟩⟩⟩⟩⟩⟩⟩⟩⟩⟩⟩⟩⟩⟩
theorem lw_p32 : lw_okq (⟨"DrivenRuns$Matcher", "indexOfPair", "(LDrivenRuns$Expr;ILDrivenRuns$Expr;I)I"⟩, 11) := ⟨⟨by decide +kernel, by decide +kernel⟩, List.mem_of_getElem? (i := 104) (by decide +kernel), List.mem_of_getElem? (i := 978) (by decide +kernel), List.mem_of_getElem? (i := 979) (by decide +kernel)⟩
theorem lw_p33 : lw_okq (⟨"DrivenRuns$Tree", "addNode", "(LDrivenRuns$Node;LDrivenRuns$Expr;)I"⟩, 14) := ⟨⟨by decide +kernel, by decide +kernel⟩, List.mem_of_getElem? (i := 198) (by decide +kernel), List.mem_of_getElem? (i := 1017) (by decide +kernel), List.mem_of_getElem? (i := 1018) (by decide +kernel)⟩
theorem lw_p34 : lw_okq (⟨"DrivenRuns$Tree", "indexOf", "(LDrivenRuns$Node;)I"⟩, 14) := ⟨⟨by decide +kernel, by decide +kernel⟩, List.mem_of_getElem? (i := 198) (by decide +kernel), List.mem_of_getElem? (i := 1027) (by decide +kernel), List.mem_of_getElem? (i := 1028) (by decide +kernel)⟩
theorem lw_p35 : lw_okq (⟨"DrivenRuns$Tree", "findKind", "(LDrivenRuns$Node;)I"⟩, 14) := ⟨⟨by decide +kernel, by decide +kernel⟩, List.mem_of_getElem? (i := 198) (by decide +kernel), List.mem_of_getElem? (i := 1031) (by decide +kernel), List.mem_of_getElem? (i := 1032) (by decide +kernel)⟩
theorem lw_p36 : lw_okq (⟨"DrivenRuns$Tree", "findKindOfCall", "(LDrivenRuns$Node;)I"⟩, 14) := ⟨⟨by decide +kernel, by decide +kernel⟩, List.mem_of_getElem? (i := 198) (by decide +kernel), List.mem_of_getElem? (i := 1036) (by decide +kernel), List.mem_of_getElem? (i := 1037) (by decide +kernel)⟩
theorem lw_p37 : lw_okq (⟨"DrivenRuns$Tree", "nearestRenamed", "(LDrivenRuns$Node;I)LDrivenRuns$Node;"⟩, 14) := ⟨⟨by decide +kernel, by decide +kernel⟩, List.mem_of_getElem? (i := 198) (by decide +kernel), List.mem_of_getElem? (i := 1041) (by decide +kernel), List.mem_of_getElem? (i := 1042) (by decide +kernel)⟩
theorem lw_p38 : lw_okq (⟨"DrivenRuns$Tree", "nearestCoupled", "(LDrivenRuns$Node;I)LDrivenRuns$Node;"⟩, 14) := ⟨⟨by decide +kernel, by decide +kernel⟩, List.mem_of_getElem? (i := 198) (by decide +kernel), List.mem_of_getElem? (i := 1046) (by decide +kernel), List.mem_of_getElem? (i := 1047) (by decide +kernel)⟩
theorem lw_p39 : lw_okq (⟨"DrivenRuns$Tree", "addBelow", "(LDrivenRuns$Node;)I"⟩, 14) := ⟨⟨by decide +kernel, by decide +kernel⟩, List.mem_of_getElem? (i := 198) (by decide +kernel), List.mem_of_getElem? (i := 1052) (by decide +kernel), List.mem_of_getElem? (i := 1053) (by decide +kernel)⟩
theorem lw_p40 : lw_okq (⟨"DrivenRuns$Tree", "addArguments", "(LDrivenRuns$Node;)I"⟩, 14) := ⟨⟨by decide +kernel, by decide +kernel⟩, List.mem_of_getElem? (i := 198) (by decide +kernel), List.mem_of_getElem? (i := 1056) (by decide +kernel), List.mem_of_getElem? (i := 1057) (by decide +kernel)⟩
theorem lw_p41 : lw_okq (⟨"DrivenRuns$Tree", "addStepped", "(LDrivenRuns$Node;)I"⟩, 14) := ⟨⟨by decide +kernel, by decide +kernel⟩, List.mem_of_getElem? (i := 198) (by decide +kernel), List.mem_of_getElem? (i := 1064) (by decide +kernel), List.mem_of_getElem? (i := 1065) (by decide +kernel)⟩
theorem lw_p42 : lw_okq (⟨"DrivenRuns$Tree", "addCases", "(LDrivenRuns$Node;)I"⟩, 14) := ⟨⟨by decide +kernel, by decide +kernel⟩, List.mem_of_getElem? (i := 198) (by decide +kernel), List.mem_of_getElem? (i := 1069) (by decide +kernel), List.mem_of_getElem? (i := 1070) (by decide +kernel)⟩
theorem lw_p43 : lw_okq (⟨"DrivenRuns$Tree", "fillSplit", "(LDrivenRuns$Node;I)V"⟩, 14) := ⟨⟨by decide +kernel, by decide +kernel⟩, List.mem_of_getElem? (i := 198) (by decide +kernel), List.mem_of_getElem? (i := 1074) (by decide +kernel), List.mem_of_getElem? (i := 1075) (by decide +kernel)⟩
theorem lw_p44 : lw_okq (⟨"DrivenRuns$Tree", "addLet", "(LDrivenRuns$Node;)I"⟩, 14) := ⟨⟨by decide +kernel, by decide +kernel⟩, List.mem_of_getElem? (i := 198) (by decide +kernel), List.mem_of_getElem? (i := 1080) (by decide +kernel), List.mem_of_getElem? (i := 1081) (by decide +kernel)⟩
theorem lw_p45 : lw_okq (⟨"DrivenRuns$Tree", "addParts", "(LDrivenRuns$Node;LDrivenRuns$Expr;)I"⟩, 14) := ⟨⟨by decide +kernel, by decide +kernel⟩, List.mem_of_getElem? (i := 198) (by decide +kernel), List.mem_of_getElem? (i := 1085) (by decide +kernel), List.mem_of_getElem? (i := 1086) (by decide +kernel)⟩
theorem lw_p46 : lw_okq (⟨"DrivenRuns$Tree", "removeBelow", "(LDrivenRuns$Node;)V"⟩, 14) := ⟨⟨by decide +kernel, by decide +kernel⟩, List.mem_of_getElem? (i := 198) (by decide +kernel), List.mem_of_getElem? (i := 1090) (by decide +kernel), List.mem_of_getElem? (i := 1091) (by decide +kernel)⟩
theorem lw_p47 : lw_okq (⟨"DrivenRuns$Tree", "numberNodes", "()V"⟩, 14) := ⟨⟨by decide +kernel, by decide +kernel⟩, List.mem_of_getElem? (i := 198) (by decide +kernel), List.mem_of_getElem? (i := 1095) (by decide +kernel), List.mem_of_getElem? (i := 1096) (by decide +kernel)⟩
def lw_privs_3 : List (MethodName × Nat) := [(⟨"DrivenRuns$Matcher", "indexOfPair", "(LDrivenRuns$Expr;ILDrivenRuns$Expr;I)I"⟩, 11), (⟨"DrivenRuns$Tree", "addNode", "(LDrivenRuns$Node;LDrivenRuns$Expr;)I"⟩, 14), (⟨"DrivenRuns$Tree", "indexOf", "(LDrivenRuns$Node;)I"⟩, 14), (⟨"DrivenRuns$Tree", "findKind", "(LDrivenRuns$Node;)I"⟩, 14), (⟨"DrivenRuns$Tree", "findKindOfCall", "(LDrivenRuns$Node;)I"⟩, 14), (⟨"DrivenRuns$Tree", "nearestRenamed", "(LDrivenRuns$Node;I)LDrivenRuns$Node;"⟩, 14), (⟨"DrivenRuns$Tree", "nearestCoupled", "(LDrivenRuns$Node;I)LDrivenRuns$Node;"⟩, 14), (⟨"DrivenRuns$Tree", "addBelow", "(LDrivenRuns$Node;)I"⟩, 14), (⟨"DrivenRuns$Tree", "addArguments", "(LDrivenRuns$Node;)I"⟩, 14), (⟨"DrivenRuns$Tree", "addStepped", "(LDrivenRuns$Node;)I"⟩, 14), (⟨"DrivenRuns$Tree", "addCases", "(LDrivenRuns$Node;)I"⟩, 14), (⟨"DrivenRuns$Tree", "fillSplit", "(LDrivenRuns$Node;I)V"⟩, 14), (⟨"DrivenRuns$Tree", "addLet", "(LDrivenRuns$Node;)I"⟩, 14), (⟨"DrivenRuns$Tree", "addParts", "(LDrivenRuns$Node;LDrivenRuns$Expr;)I"⟩, 14), (⟨"DrivenRuns$Tree", "removeBelow", "(LDrivenRuns$Node;)V"⟩, 14), (⟨"DrivenRuns$Tree", "numberNodes", "()V"⟩, 14)]
theorem lw_r3 : ∀ q ∈ lw_privs_3, lw_okq q := List.forall_mem_cons.mpr ⟨lw_p32, List.forall_mem_cons.mpr ⟨lw_p33, List.forall_mem_cons.mpr ⟨lw_p34, List.forall_mem_cons.mpr ⟨lw_p35, List.forall_mem_cons.mpr ⟨lw_p36, List.forall_mem_cons.mpr ⟨lw_p37, List.forall_mem_cons.mpr ⟨lw_p38, List.forall_mem_cons.mpr ⟨lw_p39, List.forall_mem_cons.mpr ⟨lw_p40, List.forall_mem_cons.mpr ⟨lw_p41, List.forall_mem_cons.mpr ⟨lw_p42, List.forall_mem_cons.mpr ⟨lw_p43, List.forall_mem_cons.mpr ⟨lw_p44, List.forall_mem_cons.mpr ⟨lw_p45, List.forall_mem_cons.mpr ⟨lw_p46, List.forall_mem_cons.mpr ⟨lw_p47, fun _ h => absurd h List.not_mem_nil⟩⟩⟩⟩⟩⟩⟩⟩⟩⟩⟩⟩⟩⟩⟩⟩
theorem lw_p48 : lw_okq (⟨"DrivenRuns$Residue", "nameFunctions", "(LDrivenRuns$Tree;)I"⟩, 4) := ⟨⟨by decide +kernel, by decide +kernel⟩, List.mem_of_getElem? (i := 375) (by decide +kernel), List.mem_of_getElem? (i := 1103) (by decide +kernel), List.mem_of_getElem? (i := 1104) (by decide +kernel)⟩
theorem lw_p49 : lw_okq (⟨"DrivenRuns$Residue", "findComing", "(LDrivenRuns$Node;)I"⟩, 4) := ⟨⟨by decide +kernel, by decide +kernel⟩, List.mem_of_getElem? (i := 375) (by decide +kernel), List.mem_of_getElem? (i := 1115) (by decide +kernel), List.mem_of_getElem? (i := 1116) (by decide +kernel)⟩
theorem lw_p50 : lw_okq (⟨"DrivenRuns$Residue", "fillComing", "(LDrivenRuns$Node;)V"⟩, 4) := ⟨⟨by decide +kernel, by decide +kernel⟩, List.mem_of_getElem? (i := 375) (by decide +kernel), List.mem_of_getElem? (i := 1120) (by decide +kernel), List.mem_of_getElem? (i := 1121) (by decide +kernel)⟩
theorem lw_p51 : lw_okq (⟨"DrivenRuns$Residue", "addBelow", "(LDrivenRuns$Node;)V"⟩, 4) := ⟨⟨by decide +kernel, by decide +kernel⟩, List.mem_of_getElem? (i := 375) (by decide +kernel), List.mem_of_getElem? (i := 1126) (by decide +kernel), List.mem_of_getElem? (i := 1127) (by decide +kernel)⟩
theorem lw_p52 : lw_okq (⟨"DrivenRuns$Residue", "addCall", "(LDrivenRuns$Node;I)V"⟩, 4) := ⟨⟨by decide +kernel, by decide +kernel⟩, List.mem_of_getElem? (i := 375) (by decide +kernel), List.mem_of_getElem? (i := 1131) (by decide +kernel), List.mem_of_getElem? (i := 1132) (by decide +kernel)⟩
theorem lw_p53 : lw_okq (⟨"DrivenRuns$Residue", "listArguments", "(LDrivenRuns$Node;)V"⟩, 4) := ⟨⟨by decide +kernel, by decide +kernel⟩, List.mem_of_getElem? (i := 375) (by decide +kernel), List.mem_of_getElem? (i := 1135) (by decide +kernel), List.mem_of_getElem? (i := 1136) (by decide +kernel)⟩
theorem lw_p54 : lw_okq (⟨"DrivenRuns$Residue", "addArgument", "(I)V"⟩, 4) := ⟨⟨by decide +kernel, by decide +kernel⟩, List.mem_of_getElem? (i := 375) (by decide +kernel), List.mem_of_getElem? (i := 1139) (by decide +kernel), List.mem_of_getElem? (i := 1140) (by decide +kernel)⟩
theorem lw_p55 : lw_okq (⟨"DrivenRuns$Residue", "listOthers", "(LDrivenRuns$Node;)V"⟩, 4) := ⟨⟨by decide +kernel, by decide +kernel⟩, List.mem_of_getElem? (i := 375) (by decide +kernel), List.mem_of_getElem? (i := 1143) (by decide +kernel), List.mem_of_getElem? (i := 1144) (by decide +kernel)⟩
theorem lw_p56 : lw_okq (⟨"DrivenRuns$Residue", "addLet", "(LDrivenRuns$Node;)V"⟩, 4) := ⟨⟨by decide +kernel, by decide +kernel⟩, List.mem_of_getElem? (i := 375) (by decide +kernel), List.mem_of_getElem? (i := 1148) (by decide +kernel), List.mem_of_getElem? (i := 1149) (by decide +kernel)⟩
theorem lw_p57 : lw_okq (⟨"DrivenRuns$Residue", "makeClauses", "(LDrivenRuns$Tree;LDrivenRuns$Program;)V"⟩, 4) := ⟨⟨by decide +kernel, by decide +kernel⟩, List.mem_of_getElem? (i := 375) (by decide +kernel), List.mem_of_getElem? (i := 1156) (by decide +kernel), List.mem_of_getElem? (i := 1157) (by decide +kernel)⟩
theorem lw_p58 : lw_okq (⟨"DrivenRuns$Residue", "makeClause", "(LDrivenRuns$Node;LDrivenRuns$Node;LDrivenRuns$Program;)V"⟩, 4) := ⟨⟨by decide +kernel, by decide +kernel⟩, List.mem_of_getElem? (i := 375) (by decide +kernel), List.mem_of_getElem? (i := 1161) (by decide +kernel), List.mem_of_getElem? (i := 1162) (by decide +kernel)⟩
theorem lw_p59 : lw_okq (⟨"DrivenRuns$Residue", "listLeftVars", "(LDrivenRuns$Node;LDrivenRuns$Node;)V"⟩, 4) := ⟨⟨by decide +kernel, by decide +kernel⟩, List.mem_of_getElem? (i := 375) (by decide +kernel), List.mem_of_getElem? (i := 1166) (by decide +kernel), List.mem_of_getElem? (i := 1167) (by decide +kernel)⟩
theorem lw_p60 : lw_okq (⟨"DrivenRuns$Tree", "rankOf", "(II)I"⟩, 14) := ⟨⟨by decide +kernel, by decide +kernel⟩, List.mem_of_getElem? (i := 198) (by decide +kernel), List.mem_of_getElem? (i := 1218) (by decide +kernel), List.mem_of_getElem? (i := 1219) (by decide +kernel)⟩
theorem lw_p61 : lw_okq (⟨"DrivenRuns$Writer", "putLeft", "(LDrivenRuns$Clause;)V"⟩, 3) := ⟨⟨by decide +kernel, by decide +kernel⟩, List.mem_of_getElem? (i := 86) (by decide +kernel), List.mem_of_getElem? (i := 1231) (by decide +kernel), List.mem_of_getElem? (i := 1232) (by decide +kernel)⟩
theorem lw_p62 : lw_okq (⟨"DrivenRuns$Writer", "putVars", "(LDrivenRuns$Clause;II)V"⟩, 3) := ⟨⟨by decide +kernel, by decide +kernel⟩, List.mem_of_getElem? (i := 86) (by decide +kernel), List.mem_of_getElem? (i := 1236) (by decide +kernel), List.mem_of_getElem? (i := 1237) (by decide +kernel)⟩
theorem lw_p63 : lw_okq (⟨"DrivenRunsModel", "four", "(I)V"⟩, 93) := ⟨⟨by decide +kernel, by decide +kernel⟩, List.mem_of_getElem? (i := 1267) (by decide +kernel), List.mem_of_getElem? (i := 1265) (by decide +kernel), List.mem_of_getElem? (i := 1266) (by decide +kernel)⟩
def lw_privs_4 : List (MethodName × Nat) := [(⟨"DrivenRuns$Residue", "nameFunctions", "(LDrivenRuns$Tree;)I"⟩, 4), (⟨"DrivenRuns$Residue", "findComing", "(LDrivenRuns$Node;)I"⟩, 4), (⟨"DrivenRuns$Residue", "fillComing", "(LDrivenRuns$Node;)V"⟩, 4), (⟨"DrivenRuns$Residue", "addBelow", "(LDrivenRuns$Node;)V"⟩, 4), (⟨"DrivenRuns$Residue", "addCall", "(LDrivenRuns$Node;I)V"⟩, 4), (⟨"DrivenRuns$Residue", "listArguments", "(LDrivenRuns$Node;)V"⟩, 4), (⟨"DrivenRuns$Residue", "addArgument", "(I)V"⟩, 4), (⟨"DrivenRuns$Residue", "listOthers", "(LDrivenRuns$Node;)V"⟩, 4), (⟨"DrivenRuns$Residue", "addLet", "(LDrivenRuns$Node;)V"⟩, 4), (⟨"DrivenRuns$Residue", "makeClauses", "(LDrivenRuns$Tree;LDrivenRuns$Program;)V"⟩, 4), (⟨"DrivenRuns$Residue", "makeClause", "(LDrivenRuns$Node;LDrivenRuns$Node;LDrivenRuns$Program;)V"⟩, 4), (⟨"DrivenRuns$Residue", "listLeftVars", "(LDrivenRuns$Node;LDrivenRuns$Node;)V"⟩, 4), (⟨"DrivenRuns$Tree", "rankOf", "(II)I"⟩, 14), (⟨"DrivenRuns$Writer", "putLeft", "(LDrivenRuns$Clause;)V"⟩, 3), (⟨"DrivenRuns$Writer", "putVars", "(LDrivenRuns$Clause;II)V"⟩, 3), (⟨"DrivenRunsModel", "four", "(I)V"⟩, 93)]
theorem lw_r4 : ∀ q ∈ lw_privs_4, lw_okq q := List.forall_mem_cons.mpr ⟨lw_p48, List.forall_mem_cons.mpr ⟨lw_p49, List.forall_mem_cons.mpr ⟨lw_p50, List.forall_mem_cons.mpr ⟨lw_p51, List.forall_mem_cons.mpr ⟨lw_p52, List.forall_mem_cons.mpr ⟨lw_p53, List.forall_mem_cons.mpr ⟨lw_p54, List.forall_mem_cons.mpr ⟨lw_p55, List.forall_mem_cons.mpr ⟨lw_p56, List.forall_mem_cons.mpr ⟨lw_p57, List.forall_mem_cons.mpr ⟨lw_p58, List.forall_mem_cons.mpr ⟨lw_p59, List.forall_mem_cons.mpr ⟨lw_p60, List.forall_mem_cons.mpr ⟨lw_p61, List.forall_mem_cons.mpr ⟨lw_p62, List.forall_mem_cons.mpr ⟨lw_p63, fun _ h => absurd h List.not_mem_nil⟩⟩⟩⟩⟩⟩⟩⟩⟩⟩⟩⟩⟩⟩⟩⟩
theorem lw_p64 : lw_okq (⟨"DrivenRunsModel", "readProgram", "()Z"⟩, 93) := ⟨⟨by decide +kernel, by decide +kernel⟩, List.mem_of_getElem? (i := 1267) (by decide +kernel), List.mem_of_getElem? (i := 1281) (by decide +kernel), List.mem_of_getElem? (i := 1282) (by decide +kernel)⟩
theorem lw_p65 : lw_okq (⟨"DrivenRunsModel", "beginText", "(Z)V"⟩, 93) := ⟨⟨by decide +kernel, by decide +kernel⟩, List.mem_of_getElem? (i := 1267) (by decide +kernel), List.mem_of_getElem? (i := 1285) (by decide +kernel), List.mem_of_getElem? (i := 1286) (by decide +kernel)⟩
theorem lw_p66 : lw_okq (⟨"DrivenRunsModel", "readClause", "()Z"⟩, 93) := ⟨⟨by decide +kernel, by decide +kernel⟩, List.mem_of_getElem? (i := 1267) (by decide +kernel), List.mem_of_getElem? (i := 1289) (by decide +kernel), List.mem_of_getElem? (i := 1290) (by decide +kernel)⟩
theorem lw_p67 : lw_okq (⟨"DrivenRunsModel", "here", "()I"⟩, 93) := ⟨⟨by decide +kernel, by decide +kernel⟩, List.mem_of_getElem? (i := 1267) (by decide +kernel), List.mem_of_getElem? (i := 1293) (by decide +kernel), List.mem_of_getElem? (i := 1294) (by decide +kernel)⟩
theorem lw_p68 : lw_okq (⟨"DrivenRunsModel", "fails", "(I)Z"⟩, 93) := ⟨⟨by decide +kernel, by decide +kernel⟩, List.mem_of_getElem? (i := 1267) (by decide +kernel), List.mem_of_getElem? (i := 1300) (by decide +kernel), List.mem_of_getElem? (i := 1301) (by decide +kernel)⟩
theorem lw_p69 : lw_okq (⟨"DrivenRunsModel", "readName", "()I"⟩, 93) := ⟨⟨by decide +kernel, by decide +kernel⟩, List.mem_of_getElem? (i := 1267) (by decide +kernel), List.mem_of_getElem? (i := 1304) (by decide +kernel), List.mem_of_getElem? (i := 1305) (by decide +kernel)⟩
theorem lw_p70 : lw_okq (⟨"DrivenRunsModel", "takes", "(I)Z"⟩, 93) := ⟨⟨by decide +kernel, by decide +kernel⟩, List.mem_of_getElem? (i := 1267) (by decide +kernel), List.mem_of_getElem? (i := 1311) (by decide +kernel), List.mem_of_getElem? (i := 1312) (by decide +kernel)⟩
theorem lw_p71 : lw_okq (⟨"DrivenRunsModel", "readPatterns", "()Z"⟩, 93) := ⟨⟨by decide +kernel, by decide +kernel⟩, List.mem_of_getElem? (i := 1267) (by decide +kernel), List.mem_of_getElem? (i := 1315) (by decide +kernel), List.mem_of_getElem? (i := 1316) (by decide +kernel)⟩
theorem lw_p72 : lw_okq (⟨"DrivenRunsModel", "readLeftVar", "()Z"⟩, 93) := ⟨⟨by decide +kernel, by decide +kernel⟩, List.mem_of_getElem? (i := 1267) (by decide +kernel), List.mem_of_getElem? (i := 1322) (by decide +kernel), List.mem_of_getElem? (i := 1323) (by decide +kernel)⟩
theorem lw_p73 : lw_okq (⟨"DrivenRunsModel", "leftPlace", "(I)I"⟩, 93) := ⟨⟨by decide +kernel, by decide +kernel⟩, List.mem_of_getElem? (i := 1267) (by decide +kernel), List.mem_of_getElem? (i := 1329) (by decide +kernel), List.mem_of_getElem? (i := 1330) (by decide +kernel)⟩
theorem lw_p74 : lw_okq (⟨"DrivenRunsModel", "readVars", "(II)I"⟩, 93) := ⟨⟨by decide +kernel, by decide +kernel⟩, List.mem_of_getElem? (i := 1267) (by decide +kernel), List.mem_of_getElem? (i := 1333) (by decide +kernel), List.mem_of_getElem? (i := 1334) (by decide +kernel)⟩
theorem lw_p75 : lw_okq (⟨"DrivenRunsModel", "isFree", "(I)Z"⟩, 93) := ⟨⟨by decide +kernel, by decide +kernel⟩, List.mem_of_getElem? (i := 1267) (by decide +kernel), List.mem_of_getElem? (i := 1340) (by decide +kernel), List.mem_of_getElem? (i := 1341) (by decide +kernel)⟩
theorem lw_p76 : lw_okq (⟨"DrivenRunsModel", "readExpression", "()Z"⟩, 93) := ⟨⟨by decide +kernel, by decide +kernel⟩, List.mem_of_getElem? (i := 1267) (by decide +kernel), List.mem_of_getElem? (i := 1344) (by decide +kernel), List.mem_of_getElem? (i := 1345) (by decide +kernel)⟩
theorem lw_p77 : lw_okq (⟨"DrivenRunsModel", "readThing", "()Z"⟩, 93) := ⟨⟨by decide +kernel, by decide +kernel⟩, List.mem_of_getElem? (i := 1267) (by decide +kernel), List.mem_of_getElem? (i := 1348) (by decide +kernel), List.mem_of_getElem? (i := 1349) (by decide +kernel)⟩
theorem lw_p78 : lw_okq (⟨"DrivenRunsModel", "mayVar", "(I)Z"⟩, 93) := ⟨⟨by decide +kernel, by decide +kernel⟩, List.mem_of_getElem? (i := 1267) (by decide +kernel), List.mem_of_getElem? (i := 1352) (by decide +kernel), List.mem_of_getElem? (i := 1353) (by decide +kernel)⟩
theorem lw_p79 : lw_okq (⟨"DrivenRunsModel", "hasMore", "()Z"⟩, 93) := ⟨⟨by decide +kernel, by decide +kernel⟩, List.mem_of_getElem? (i := 1267) (by decide +kernel), List.mem_of_getElem? (i := 1356) (by decide +kernel), List.mem_of_getElem? (i := 1357) (by decide +kernel)⟩
def lw_privs_5 : List (MethodName × Nat) := [(⟨"DrivenRunsModel", "readProgram", "()Z"⟩, 93), (⟨"DrivenRunsModel", "beginText", "(Z)V"⟩, 93), (⟨"DrivenRunsModel", "readClause", "()Z"⟩, 93), (⟨"DrivenRunsModel", "here", "()I"⟩, 93), (⟨"DrivenRunsModel", "fails", "(I)Z"⟩, 93), (⟨"DrivenRunsModel", "readName", "()I"⟩, 93), (⟨"DrivenRunsModel", "takes", "(I)Z"⟩, 93), (⟨"DrivenRunsModel", "readPatterns", "()Z"⟩, 93), (⟨"DrivenRunsModel", "readLeftVar", "()Z"⟩, 93), (⟨"DrivenRunsModel", "leftPlace", "(I)I"⟩, 93), (⟨"DrivenRunsModel", "readVars", "(II)I"⟩, 93), (⟨"DrivenRunsModel", "isFree", "(I)Z"⟩, 93), (⟨"DrivenRunsModel", "readExpression", "()Z"⟩, 93), (⟨"DrivenRunsModel", "readThing", "()Z"⟩, 93), (⟨"DrivenRunsModel", "mayVar", "(I)Z"⟩, 93), (⟨"DrivenRunsModel", "hasMore", "()Z"⟩, 93)]
theorem lw_r5 : ∀ q ∈ lw_privs_5, lw_okq q := List.forall_mem_cons.mpr ⟨lw_p64, List.forall_mem_cons.mpr ⟨lw_p65, List.forall_mem_cons.mpr ⟨lw_p66, List.forall_mem_cons.mpr ⟨lw_p67, List.forall_mem_cons.mpr ⟨lw_p68, List.forall_mem_cons.mpr ⟨lw_p69, List.forall_mem_cons.mpr ⟨lw_p70, List.forall_mem_cons.mpr ⟨lw_p71, List.forall_mem_cons.mpr ⟨lw_p72, List.forall_mem_cons.mpr ⟨lw_p73, List.forall_mem_cons.mpr ⟨lw_p74, List.forall_mem_cons.mpr ⟨lw_p75, List.forall_mem_cons.mpr ⟨lw_p76, List.forall_mem_cons.mpr ⟨lw_p77, List.forall_mem_cons.mpr ⟨lw_p78, List.forall_mem_cons.mpr ⟨lw_p79, fun _ h => absurd h List.not_mem_nil⟩⟩⟩⟩⟩⟩⟩⟩⟩⟩⟩⟩⟩⟩⟩⟩
theorem lw_p80 : lw_okq (⟨"DrivenRunsModel", "readWhole", "()Z"⟩, 93) := ⟨⟨by decide +kernel, by decide +kernel⟩, List.mem_of_getElem? (i := 1267) (by decide +kernel), List.mem_of_getElem? (i := 1656) (by decide +kernel), List.mem_of_getElem? (i := 1657) (by decide +kernel)⟩
theorem lw_p81 : lw_okq (⟨"DrivenRunsModel", "readBounds", "()Z"⟩, 93) := ⟨⟨by decide +kernel, by decide +kernel⟩, List.mem_of_getElem? (i := 1267) (by decide +kernel), List.mem_of_getElem? (i := 1668) (by decide +kernel), List.mem_of_getElem? (i := 1669) (by decide +kernel)⟩
theorem lw_p82 : lw_okq (⟨"DrivenRunsModel", "readBound", "()Z"⟩, 93) := ⟨⟨by decide +kernel, by decide +kernel⟩, List.mem_of_getElem? (i := 1267) (by decide +kernel), List.mem_of_getElem? (i := 1672) (by decide +kernel), List.mem_of_getElem? (i := 1673) (by decide +kernel)⟩
theorem lw_p83 : lw_okq (⟨"DrivenRunsModel", "functionsTold", "(Z)I"⟩, 93) := ⟨⟨by decide +kernel, by decide +kernel⟩, List.mem_of_getElem? (i := 1267) (by decide +kernel), List.mem_of_getElem? (i := 1684) (by decide +kernel), List.mem_of_getElem? (i := 1685) (by decide +kernel)⟩
theorem lw_p84 : lw_okq (⟨"DrivenRunsModel", "layOrder", "([III)I"⟩, 93) := ⟨⟨by decide +kernel, by decide +kernel⟩, List.mem_of_getElem? (i := 1267) (by decide +kernel), List.mem_of_getElem? (i := 1688) (by decide +kernel), List.mem_of_getElem? (i := 1689) (by decide +kernel)⟩
theorem lw_p85 : lw_okq (⟨"DrivenRunsModel", "orderMore", "([III)V"⟩, 93) := ⟨⟨by decide +kernel, by decide +kernel⟩, List.mem_of_getElem? (i := 1267) (by decide +kernel), List.mem_of_getElem? (i := 1692) (by decide +kernel), List.mem_of_getElem? (i := 1693) (by decide +kernel)⟩
theorem lw_p86 : lw_okq (⟨"DrivenRunsModel", "orderPlace", "(I)I"⟩, 93) := ⟨⟨by decide +kernel, by decide +kernel⟩, List.mem_of_getElem? (i := 1267) (by decide +kernel), List.mem_of_getElem? (i := 1699) (by decide +kernel), List.mem_of_getElem? (i := 1700) (by decide +kernel)⟩
theorem lw_p87 : lw_okq (⟨"DrivenRunsModel", "isRun", "(I)Z"⟩, 93) := ⟨⟨by decide +kernel, by decide +kernel⟩, List.mem_of_getElem? (i := 1267) (by decide +kernel), List.mem_of_getElem? (i := 1717) (by decide +kernel), List.mem_of_getElem? (i := 1718) (by decide +kernel)⟩
theorem lw_p88 : lw_okq (⟨"DrivenRunsModel", "runGoal", "(I)V"⟩, 93) := ⟨⟨by decide +kernel, by decide +kernel⟩, List.mem_of_getElem? (i := 1267) (by decide +kernel), List.mem_of_getElem? (i := 1721) (by decide +kernel), List.mem_of_getElem? (i := 1722) (by decide +kernel)⟩
theorem lw_p89 : lw_okq (⟨"DrivenRunsModel", "runNow", "(I[III)V"⟩, 93) := ⟨⟨by decide +kernel, by decide +kernel⟩, List.mem_of_getElem? (i := 1267) (by decide +kernel), List.mem_of_getElem? (i := 1725) (by decide +kernel), List.mem_of_getElem? (i := 1726) (by decide +kernel)⟩
theorem lw_p90 : lw_okq (⟨"DrivenRunsModel", "layBound", "([III[I)I"⟩, 93) := ⟨⟨by decide +kernel, by decide +kernel⟩, List.mem_of_getElem? (i := 1267) (by decide +kernel), List.mem_of_getElem? (i := 1729) (by decide +kernel), List.mem_of_getElem? (i := 1730) (by decide +kernel)⟩
theorem lw_p91 : lw_okq (⟨"DrivenRunsModel", "boundPlace", "(I)I"⟩, 93) := ⟨⟨by decide +kernel, by decide +kernel⟩, List.mem_of_getElem? (i := 1267) (by decide +kernel), List.mem_of_getElem? (i := 1733) (by decide +kernel), List.mem_of_getElem? (i := 1734) (by decide +kernel)⟩
theorem lw_p92 : lw_okq (⟨"DrivenRunsModel", "look", "(I[I)I"⟩, 93) := ⟨⟨by decide +kernel, by decide +kernel⟩, List.mem_of_getElem? (i := 1267) (by decide +kernel), List.mem_of_getElem? (i := 1740) (by decide +kernel), List.mem_of_getElem? (i := 1741) (by decide +kernel)⟩
theorem lw_p93 : lw_okq (⟨"DrivenRunsModel", "firstOpen", "([II)I"⟩, 93) := ⟨⟨by decide +kernel, by decide +kernel⟩, List.mem_of_getElem? (i := 1267) (by decide +kernel), List.mem_of_getElem? (i := 1744) (by decide +kernel), List.mem_of_getElem? (i := 1745) (by decide +kernel)⟩
theorem lw_p94 : lw_okq (⟨"DrivenRunsModel", "lookCall", "(I[I)I"⟩, 93) := ⟨⟨by decide +kernel, by decide +kernel⟩, List.mem_of_getElem? (i := 1267) (by decide +kernel), List.mem_of_getElem? (i := 1751) (by decide +kernel), List.mem_of_getElem? (i := 1752) (by decide +kernel)⟩
theorem lw_p95 : lw_okq (⟨"DrivenRunsModel", "toldAs", "(II)I"⟩, 93) := ⟨⟨by decide +kernel, by decide +kernel⟩, List.mem_of_getElem? (i := 1267) (by decide +kernel), List.mem_of_getElem? (i := 1755) (by decide +kernel), List.mem_of_getElem? (i := 1756) (by decide +kernel)⟩
def lw_privs_6 : List (MethodName × Nat) := [(⟨"DrivenRunsModel", "readWhole", "()Z"⟩, 93), (⟨"DrivenRunsModel", "readBounds", "()Z"⟩, 93), (⟨"DrivenRunsModel", "readBound", "()Z"⟩, 93), (⟨"DrivenRunsModel", "functionsTold", "(Z)I"⟩, 93), (⟨"DrivenRunsModel", "layOrder", "([III)I"⟩, 93), (⟨"DrivenRunsModel", "orderMore", "([III)V"⟩, 93), (⟨"DrivenRunsModel", "orderPlace", "(I)I"⟩, 93), (⟨"DrivenRunsModel", "isRun", "(I)Z"⟩, 93), (⟨"DrivenRunsModel", "runGoal", "(I)V"⟩, 93), (⟨"DrivenRunsModel", "runNow", "(I[III)V"⟩, 93), (⟨"DrivenRunsModel", "layBound", "([III[I)I"⟩, 93), (⟨"DrivenRunsModel", "boundPlace", "(I)I"⟩, 93), (⟨"DrivenRunsModel", "look", "(I[I)I"⟩, 93), (⟨"DrivenRunsModel", "firstOpen", "([II)I"⟩, 93), (⟨"DrivenRunsModel", "lookCall", "(I[I)I"⟩, 93), (⟨"DrivenRunsModel", "toldAs", "(II)I"⟩, 93)]
theorem lw_r6 : ∀ q ∈ lw_privs_6, lw_okq q := List.forall_mem_cons.mpr ⟨lw_p80, List.forall_mem_cons.mpr ⟨lw_p81, List.forall_mem_cons.mpr ⟨lw_p82, List.forall_mem_cons.mpr ⟨lw_p83, List.forall_mem_cons.mpr ⟨lw_p84, List.forall_mem_cons.mpr ⟨lw_p85, List.forall_mem_cons.mpr ⟨lw_p86, List.forall_mem_cons.mpr ⟨lw_p87, List.forall_mem_cons.mpr ⟨lw_p88, List.forall_mem_cons.mpr ⟨lw_p89, List.forall_mem_cons.mpr ⟨lw_p90, List.forall_mem_cons.mpr ⟨lw_p91, List.forall_mem_cons.mpr ⟨lw_p92, List.forall_mem_cons.mpr ⟨lw_p93, List.forall_mem_cons.mpr ⟨lw_p94, List.forall_mem_cons.mpr ⟨lw_p95, fun _ h => absurd h List.not_mem_nil⟩⟩⟩⟩⟩⟩⟩⟩⟩⟩⟩⟩⟩⟩⟩⟩
theorem lw_p96 : lw_okq (⟨"DrivenRunsModel", "clauseOf", "(III)I"⟩, 93) := ⟨⟨by decide +kernel, by decide +kernel⟩, List.mem_of_getElem? (i := 1267) (by decide +kernel), List.mem_of_getElem? (i := 1759) (by decide +kernel), List.mem_of_getElem? (i := 1760) (by decide +kernel)⟩
theorem lw_p97 : lw_okq (⟨"DrivenRunsModel", "stepOf", "([II[I)I"⟩, 93) := ⟨⟨by decide +kernel, by decide +kernel⟩, List.mem_of_getElem? (i := 1267) (by decide +kernel), List.mem_of_getElem? (i := 1763) (by decide +kernel), List.mem_of_getElem? (i := 1764) (by decide +kernel)⟩
theorem lw_p98 : lw_okq (⟨"DrivenRunsModel", "layArguments", "([III)V"⟩, 93) := ⟨⟨by decide +kernel, by decide +kernel⟩, List.mem_of_getElem? (i := 1267) (by decide +kernel), List.mem_of_getElem? (i := 1767) (by decide +kernel), List.mem_of_getElem? (i := 1768) (by decide +kernel)⟩
theorem lw_p99 : lw_okq (⟨"DrivenRunsModel", "leftOf", "(II)I"⟩, 93) := ⟨⟨by decide +kernel, by decide +kernel⟩, List.mem_of_getElem? (i := 1267) (by decide +kernel), List.mem_of_getElem? (i := 1774) (by decide +kernel), List.mem_of_getElem? (i := 1775) (by decide +kernel)⟩
theorem lw_p100 : lw_okq (⟨"DrivenRunsModel", "beginWriting", "()V"⟩, 93) := ⟨⟨by decide +kernel, by decide +kernel⟩, List.mem_of_getElem? (i := 1267) (by decide +kernel), List.mem_of_getElem? (i := 1782) (by decide +kernel), List.mem_of_getElem? (i := 1783) (by decide +kernel)⟩
theorem lw_p101 : lw_okq (⟨"DrivenRunsModel", "writeRow", "([IIIZ)V"⟩, 93) := ⟨⟨by decide +kernel, by decide +kernel⟩, List.mem_of_getElem? (i := 1267) (by decide +kernel), List.mem_of_getElem? (i := 1786) (by decide +kernel), List.mem_of_getElem? (i := 1787) (by decide +kernel)⟩
theorem lw_p102 : lw_okq (⟨"DrivenRunsModel", "writeThings", "([IIIZ)V"⟩, 93) := ⟨⟨by decide +kernel, by decide +kernel⟩, List.mem_of_getElem? (i := 1267) (by decide +kernel), List.mem_of_getElem? (i := 1790) (by decide +kernel), List.mem_of_getElem? (i := 1791) (by decide +kernel)⟩
theorem lw_p103 : lw_okq (⟨"DrivenRunsModel", "putVar", "(IZ)V"⟩, 93) := ⟨⟨by decide +kernel, by decide +kernel⟩, List.mem_of_getElem? (i := 1267) (by decide +kernel), List.mem_of_getElem? (i := 1794) (by decide +kernel), List.mem_of_getElem? (i := 1795) (by decide +kernel)⟩
theorem lw_p104 : lw_okq (⟨"DrivenRunsModel", "putName", "(I)V"⟩, 93) := ⟨⟨by decide +kernel, by decide +kernel⟩, List.mem_of_getElem? (i := 1267) (by decide +kernel), List.mem_of_getElem? (i := 1798) (by decide +kernel), List.mem_of_getElem? (i := 1799) (by decide +kernel)⟩
theorem lw_p105 : lw_okq (⟨"DrivenRunsModel", "put", "(I)V"⟩, 93) := ⟨⟨by decide +kernel, by decide +kernel⟩, List.mem_of_getElem? (i := 1267) (by decide +kernel), List.mem_of_getElem? (i := 1802) (by decide +kernel), List.mem_of_getElem? (i := 1803) (by decide +kernel)⟩
theorem lw_p106 : lw_okq (⟨"DrivenRunsModel", "putNumber", "(I)V"⟩, 93) := ⟨⟨by decide +kernel, by decide +kernel⟩, List.mem_of_getElem? (i := 1267) (by decide +kernel), List.mem_of_getElem? (i := 1806) (by decide +kernel), List.mem_of_getElem? (i := 1807) (by decide +kernel)⟩
theorem lw_p107 : lw_okq (⟨"DrivenRunsModel", "closeAll", "(I)I"⟩, 93) := ⟨⟨by decide +kernel, by decide +kernel⟩, List.mem_of_getElem? (i := 1267) (by decide +kernel), List.mem_of_getElem? (i := 1810) (by decide +kernel), List.mem_of_getElem? (i := 1811) (by decide +kernel)⟩
theorem lw_p108 : lw_okq (⟨"DrivenRunsModel", "isTold", "(I)Z"⟩, 93) := ⟨⟨by decide +kernel, by decide +kernel⟩, List.mem_of_getElem? (i := 1267) (by decide +kernel), List.mem_of_getElem? (i := 1818) (by decide +kernel), List.mem_of_getElem? (i := 1819) (by decide +kernel)⟩
theorem lw_p109 : lw_okq (⟨"DrivenRunsModel", "stepLong", "([II)I"⟩, 93) := ⟨⟨by decide +kernel, by decide +kernel⟩, List.mem_of_getElem? (i := 1267) (by decide +kernel), List.mem_of_getElem? (i := 1826) (by decide +kernel), List.mem_of_getElem? (i := 1827) (by decide +kernel)⟩
theorem lw_p110 : lw_okq (⟨"DrivenRunsModel", "isRenaming", "([II[II)Z"⟩, 93) := ⟨⟨by decide +kernel, by decide +kernel⟩, List.mem_of_getElem? (i := 1267) (by decide +kernel), List.mem_of_getElem? (i := 1842) (by decide +kernel), List.mem_of_getElem? (i := 1843) (by decide +kernel)⟩
theorem lw_p111 : lw_okq (⟨"DrivenRunsModel", "isInstance", "([II[II)Z"⟩, 93) := ⟨⟨by decide +kernel, by decide +kernel⟩, List.mem_of_getElem? (i := 1267) (by decide +kernel), List.mem_of_getElem? (i := 1846) (by decide +kernel), List.mem_of_getElem? (i := 1847) (by decide +kernel)⟩
def lw_privs_7 : List (MethodName × Nat) := [(⟨"DrivenRunsModel", "clauseOf", "(III)I"⟩, 93), (⟨"DrivenRunsModel", "stepOf", "([II[I)I"⟩, 93), (⟨"DrivenRunsModel", "layArguments", "([III)V"⟩, 93), (⟨"DrivenRunsModel", "leftOf", "(II)I"⟩, 93), (⟨"DrivenRunsModel", "beginWriting", "()V"⟩, 93), (⟨"DrivenRunsModel", "writeRow", "([IIIZ)V"⟩, 93), (⟨"DrivenRunsModel", "writeThings", "([IIIZ)V"⟩, 93), (⟨"DrivenRunsModel", "putVar", "(IZ)V"⟩, 93), (⟨"DrivenRunsModel", "putName", "(I)V"⟩, 93), (⟨"DrivenRunsModel", "put", "(I)V"⟩, 93), (⟨"DrivenRunsModel", "putNumber", "(I)V"⟩, 93), (⟨"DrivenRunsModel", "closeAll", "(I)I"⟩, 93), (⟨"DrivenRunsModel", "isTold", "(I)Z"⟩, 93), (⟨"DrivenRunsModel", "stepLong", "([II)I"⟩, 93), (⟨"DrivenRunsModel", "isRenaming", "([II[II)Z"⟩, 93), (⟨"DrivenRunsModel", "isInstance", "([II[II)Z"⟩, 93)]
theorem lw_r7 : ∀ q ∈ lw_privs_7, lw_okq q := List.forall_mem_cons.mpr ⟨lw_p96, List.forall_mem_cons.mpr ⟨lw_p97, List.forall_mem_cons.mpr ⟨lw_p98, List.forall_mem_cons.mpr ⟨lw_p99, List.forall_mem_cons.mpr ⟨lw_p100, List.forall_mem_cons.mpr ⟨lw_p101, List.forall_mem_cons.mpr ⟨lw_p102, List.forall_mem_cons.mpr ⟨lw_p103, List.forall_mem_cons.mpr ⟨lw_p104, List.forall_mem_cons.mpr ⟨lw_p105, List.forall_mem_cons.mpr ⟨lw_p106, List.forall_mem_cons.mpr ⟨lw_p107, List.forall_mem_cons.mpr ⟨lw_p108, List.forall_mem_cons.mpr ⟨lw_p109, List.forall_mem_cons.mpr ⟨lw_p110, List.forall_mem_cons.mpr ⟨lw_p111, fun _ h => absurd h List.not_mem_nil⟩⟩⟩⟩⟩⟩⟩⟩⟩⟩⟩⟩⟩⟩⟩⟩
theorem lw_p112 : lw_okq (⟨"DrivenRunsModel", "layEmbedded", "([II[II)V"⟩, 93) := ⟨⟨by decide +kernel, by decide +kernel⟩, List.mem_of_getElem? (i := 1267) (by decide +kernel), List.mem_of_getElem? (i := 1853) (by decide +kernel), List.mem_of_getElem? (i := 1854) (by decide +kernel)⟩
theorem lw_p113 : lw_okq (⟨"DrivenRunsModel", "coupledAt", "([III[III)Z"⟩, 93) := ⟨⟨by decide +kernel, by decide +kernel⟩, List.mem_of_getElem? (i := 1267) (by decide +kernel), List.mem_of_getElem? (i := 1857) (by decide +kernel), List.mem_of_getElem? (i := 1858) (by decide +kernel)⟩
theorem lw_p114 : lw_okq (⟨"DrivenRunsModel", "isCoupled", "([II[II)Z"⟩, 93) := ⟨⟨by decide +kernel, by decide +kernel⟩, List.mem_of_getElem? (i := 1267) (by decide +kernel), List.mem_of_getElem? (i := 1861) (by decide +kernel), List.mem_of_getElem? (i := 1862) (by decide +kernel)⟩
theorem lw_p115 : lw_okq (⟨"DrivenRunsModel", "layCommon", "([II[III)V"⟩, 93) := ⟨⟨by decide +kernel, by decide +kernel⟩, List.mem_of_getElem? (i := 1267) (by decide +kernel), List.mem_of_getElem? (i := 1870) (by decide +kernel), List.mem_of_getElem? (i := 1871) (by decide +kernel)⟩
theorem lw_p116 : lw_okq (⟨"DrivenRunsModel", "pairOf", "([II[II)I"⟩, 93) := ⟨⟨by decide +kernel, by decide +kernel⟩, List.mem_of_getElem? (i := 1267) (by decide +kernel), List.mem_of_getElem? (i := 1874) (by decide +kernel), List.mem_of_getElem? (i := 1875) (by decide +kernel)⟩
theorem lw_p117 : lw_okq (⟨"DrivenRunsModel", "driveTree", "()V"⟩, 93) := ⟨⟨by decide +kernel, by decide +kernel⟩, List.mem_of_getElem? (i := 1267) (by decide +kernel), List.mem_of_getElem? (i := 1904) (by decide +kernel), List.mem_of_getElem? (i := 1905) (by decide +kernel)⟩
theorem lw_p118 : lw_okq (⟨"DrivenRunsModel", "make", "([IIIII)Z"⟩, 93) := ⟨⟨by decide +kernel, by decide +kernel⟩, List.mem_of_getElem? (i := 1267) (by decide +kernel), List.mem_of_getElem? (i := 1908) (by decide +kernel), List.mem_of_getElem? (i := 1909) (by decide +kernel)⟩
theorem lw_p119 : lw_okq (⟨"DrivenRunsModel", "breaks", "(I)Z"⟩, 93) := ⟨⟨by decide +kernel, by decide +kernel⟩, List.mem_of_getElem? (i := 1267) (by decide +kernel), List.mem_of_getElem? (i := 1912) (by decide +kernel), List.mem_of_getElem? (i := 1913) (by decide +kernel)⟩
theorem lw_p120 : lw_okq (⟨"DrivenRunsModel", "lookAt", "(I)V"⟩, 93) := ⟨⟨by decide +kernel, by decide +kernel⟩, List.mem_of_getElem? (i := 1267) (by decide +kernel), List.mem_of_getElem? (i := 1916) (by decide +kernel), List.mem_of_getElem? (i := 1917) (by decide +kernel)⟩
theorem lw_p121 : lw_okq (⟨"DrivenRunsModel", "makeBelow", "(I[III)Z"⟩, 93) := ⟨⟨by decide +kernel, by decide +kernel⟩, List.mem_of_getElem? (i := 1267) (by decide +kernel), List.mem_of_getElem? (i := 1920) (by decide +kernel), List.mem_of_getElem? (i := 1921) (by decide +kernel)⟩
theorem lw_p122 : lw_okq (⟨"DrivenRunsModel", "lookBelow", "(II)V"⟩, 93) := ⟨⟨by decide +kernel, by decide +kernel⟩, List.mem_of_getElem? (i := 1267) (by decide +kernel), List.mem_of_getElem? (i := 1924) (by decide +kernel), List.mem_of_getElem? (i := 1925) (by decide +kernel)⟩
theorem lw_p123 : lw_okq (⟨"DrivenRunsModel", "nearest", "(IIZ)I"⟩, 93) := ⟨⟨by decide +kernel, by decide +kernel⟩, List.mem_of_getElem? (i := 1267) (by decide +kernel), List.mem_of_getElem? (i := 1928) (by decide +kernel), List.mem_of_getElem? (i := 1929) (by decide +kernel)⟩
theorem lw_p124 : lw_okq (⟨"DrivenRunsModel", "goBelow", "(II)V"⟩, 93) := ⟨⟨by decide +kernel, by decide +kernel⟩, List.mem_of_getElem? (i := 1267) (by decide +kernel), List.mem_of_getElem? (i := 1932) (by decide +kernel), List.mem_of_getElem? (i := 1933) (by decide +kernel)⟩
theorem lw_p125 : lw_okq (⟨"DrivenRunsModel", "stepBelow", "(I[II)Z"⟩, 93) := ⟨⟨by decide +kernel, by decide +kernel⟩, List.mem_of_getElem? (i := 1267) (by decide +kernel), List.mem_of_getElem? (i := 1936) (by decide +kernel), List.mem_of_getElem? (i := 1937) (by decide +kernel)⟩
theorem lw_p126 : lw_okq (⟨"DrivenRunsModel", "splitBelow", "(II)Z"⟩, 93) := ⟨⟨by decide +kernel, by decide +kernel⟩, List.mem_of_getElem? (i := 1267) (by decide +kernel), List.mem_of_getElem? (i := 1940) (by decide +kernel), List.mem_of_getElem? (i := 1941) (by decide +kernel)⟩
theorem lw_p127 : lw_okq (⟨"DrivenRunsModel", "letBelow", "(II)V"⟩, 93) := ⟨⟨by decide +kernel, by decide +kernel⟩, List.mem_of_getElem? (i := 1267) (by decide +kernel), List.mem_of_getElem? (i := 1944) (by decide +kernel), List.mem_of_getElem? (i := 1945) (by decide +kernel)⟩
def lw_privs_8 : List (MethodName × Nat) := [(⟨"DrivenRunsModel", "layEmbedded", "([II[II)V"⟩, 93), (⟨"DrivenRunsModel", "coupledAt", "([III[III)Z"⟩, 93), (⟨"DrivenRunsModel", "isCoupled", "([II[II)Z"⟩, 93), (⟨"DrivenRunsModel", "layCommon", "([II[III)V"⟩, 93), (⟨"DrivenRunsModel", "pairOf", "([II[II)I"⟩, 93), (⟨"DrivenRunsModel", "driveTree", "()V"⟩, 93), (⟨"DrivenRunsModel", "make", "([IIIII)Z"⟩, 93), (⟨"DrivenRunsModel", "breaks", "(I)Z"⟩, 93), (⟨"DrivenRunsModel", "lookAt", "(I)V"⟩, 93), (⟨"DrivenRunsModel", "makeBelow", "(I[III)Z"⟩, 93), (⟨"DrivenRunsModel", "lookBelow", "(II)V"⟩, 93), (⟨"DrivenRunsModel", "nearest", "(IIZ)I"⟩, 93), (⟨"DrivenRunsModel", "goBelow", "(II)V"⟩, 93), (⟨"DrivenRunsModel", "stepBelow", "(I[II)Z"⟩, 93), (⟨"DrivenRunsModel", "splitBelow", "(II)Z"⟩, 93), (⟨"DrivenRunsModel", "letBelow", "(II)V"⟩, 93)]
theorem lw_r8 : ∀ q ∈ lw_privs_8, lw_okq q := List.forall_mem_cons.mpr ⟨lw_p112, List.forall_mem_cons.mpr ⟨lw_p113, List.forall_mem_cons.mpr ⟨lw_p114, List.forall_mem_cons.mpr ⟨lw_p115, List.forall_mem_cons.mpr ⟨lw_p116, List.forall_mem_cons.mpr ⟨lw_p117, List.forall_mem_cons.mpr ⟨lw_p118, List.forall_mem_cons.mpr ⟨lw_p119, List.forall_mem_cons.mpr ⟨lw_p120, List.forall_mem_cons.mpr ⟨lw_p121, List.forall_mem_cons.mpr ⟨lw_p122, List.forall_mem_cons.mpr ⟨lw_p123, List.forall_mem_cons.mpr ⟨lw_p124, List.forall_mem_cons.mpr ⟨lw_p125, List.forall_mem_cons.mpr ⟨lw_p126, List.forall_mem_cons.mpr ⟨lw_p127, fun _ h => absurd h List.not_mem_nil⟩⟩⟩⟩⟩⟩⟩⟩⟩⟩⟩⟩⟩⟩⟩⟩
theorem lw_p128 : lw_okq (⟨"DrivenRunsModel", "turnUp", "(II)V"⟩, 93) := ⟨⟨by decide +kernel, by decide +kernel⟩, List.mem_of_getElem? (i := 1267) (by decide +kernel), List.mem_of_getElem? (i := 1948) (by decide +kernel), List.mem_of_getElem? (i := 1949) (by decide +kernel)⟩
theorem lw_p129 : lw_okq (⟨"DrivenRunsModel", "firstNew", "()I"⟩, 93) := ⟨⟨by decide +kernel, by decide +kernel⟩, List.mem_of_getElem? (i := 1267) (by decide +kernel), List.mem_of_getElem? (i := 1952) (by decide +kernel), List.mem_of_getElem? (i := 1953) (by decide +kernel)⟩
theorem lw_p130 : lw_okq (⟨"DrivenRunsModel", "nextNode", "(I)I"⟩, 93) := ⟨⟨by decide +kernel, by decide +kernel⟩, List.mem_of_getElem? (i := 1267) (by decide +kernel), List.mem_of_getElem? (i := 1956) (by decide +kernel), List.mem_of_getElem? (i := 1957) (by decide +kernel)⟩
theorem lw_p131 : lw_okq (⟨"DrivenRunsModel", "number", "()V"⟩, 93) := ⟨⟨by decide +kernel, by decide +kernel⟩, List.mem_of_getElem? (i := 1267) (by decide +kernel), List.mem_of_getElem? (i := 1960) (by decide +kernel), List.mem_of_getElem? (i := 1961) (by decide +kernel)⟩
theorem lw_p132 : lw_okq (⟨"DrivenRunsModel", "isFoldedTo", "(I)Z"⟩, 93) := ⟨⟨by decide +kernel, by decide +kernel⟩, List.mem_of_getElem? (i := 1267) (by decide +kernel), List.mem_of_getElem? (i := 1964) (by decide +kernel), List.mem_of_getElem? (i := 1965) (by decide +kernel)⟩
theorem lw_p133 : lw_okq (⟨"DrivenRunsModel", "layResidue", "()V"⟩, 93) := ⟨⟨by decide +kernel, by decide +kernel⟩, List.mem_of_getElem? (i := 1267) (by decide +kernel), List.mem_of_getElem? (i := 1968) (by decide +kernel), List.mem_of_getElem? (i := 1969) (by decide +kernel)⟩
theorem lw_p134 : lw_okq (⟨"DrivenRunsModel", "laySides", "(I)V"⟩, 93) := ⟨⟨by decide +kernel, by decide +kernel⟩, List.mem_of_getElem? (i := 1267) (by decide +kernel), List.mem_of_getElem? (i := 1972) (by decide +kernel), List.mem_of_getElem? (i := 1973) (by decide +kernel)⟩
theorem lw_p135 : lw_okq (⟨"DrivenRunsModel", "clausesOf", "(I)I"⟩, 93) := ⟨⟨by decide +kernel, by decide +kernel⟩, List.mem_of_getElem? (i := 1267) (by decide +kernel), List.mem_of_getElem? (i := 1976) (by decide +kernel), List.mem_of_getElem? (i := 1977) (by decide +kernel)⟩
theorem lw_p136 : lw_okq (⟨"DrivenRunsModel", "layComes", "(I)V"⟩, 93) := ⟨⟨by decide +kernel, by decide +kernel⟩, List.mem_of_getElem? (i := 1267) (by decide +kernel), List.mem_of_getElem? (i := 1980) (by decide +kernel), List.mem_of_getElem? (i := 1981) (by decide +kernel)⟩
theorem lw_p137 : lw_okq (⟨"DrivenRunsModel", "layCall", "(II)V"⟩, 93) := ⟨⟨by decide +kernel, by decide +kernel⟩, List.mem_of_getElem? (i := 1267) (by decide +kernel), List.mem_of_getElem? (i := 1984) (by decide +kernel), List.mem_of_getElem? (i := 1985) (by decide +kernel)⟩
theorem lw_p138 : lw_okq (⟨"DrivenRunsModel", "nameOfFunction", "(I)I"⟩, 93) := ⟨⟨by decide +kernel, by decide +kernel⟩, List.mem_of_getElem? (i := 1267) (by decide +kernel), List.mem_of_getElem? (i := 1988) (by decide +kernel), List.mem_of_getElem? (i := 1989) (by decide +kernel)⟩
theorem lw_p139 : lw_okq (⟨"DrivenRunsModel", "layLet", "(I)V"⟩, 93) := ⟨⟨by decide +kernel, by decide +kernel⟩, List.mem_of_getElem? (i := 1267) (by decide +kernel), List.mem_of_getElem? (i := 1992) (by decide +kernel), List.mem_of_getElem? (i := 1993) (by decide +kernel)⟩
theorem lw_p140 : lw_okq (⟨"DrivenRunsModel", "comesMore", "(II)V"⟩, 93) := ⟨⟨by decide +kernel, by decide +kernel⟩, List.mem_of_getElem? (i := 1267) (by decide +kernel), List.mem_of_getElem? (i := 1996) (by decide +kernel), List.mem_of_getElem? (i := 1997) (by decide +kernel)⟩
theorem lw_p141 : lw_okq (⟨"DrivenRunsModel", "comesOne", "(II)V"⟩, 93) := ⟨⟨by decide +kernel, by decide +kernel⟩, List.mem_of_getElem? (i := 1267) (by decide +kernel), List.mem_of_getElem? (i := 2000) (by decide +kernel), List.mem_of_getElem? (i := 2001) (by decide +kernel)⟩
theorem lw_p142 : lw_okq (⟨"DrivenRunsModel", "layClauses", "(I)V"⟩, 93) := ⟨⟨by decide +kernel, by decide +kernel⟩, List.mem_of_getElem? (i := 1267) (by decide +kernel), List.mem_of_getElem? (i := 2004) (by decide +kernel), List.mem_of_getElem? (i := 2005) (by decide +kernel)⟩
theorem lw_p143 : lw_okq (⟨"DrivenRunsModel", "conBelow", "(II)I"⟩, 93) := ⟨⟨by decide +kernel, by decide +kernel⟩, List.mem_of_getElem? (i := 1267) (by decide +kernel), List.mem_of_getElem? (i := 2008) (by decide +kernel), List.mem_of_getElem? (i := 2009) (by decide +kernel)⟩
def lw_privs_9 : List (MethodName × Nat) := [(⟨"DrivenRunsModel", "turnUp", "(II)V"⟩, 93), (⟨"DrivenRunsModel", "firstNew", "()I"⟩, 93), (⟨"DrivenRunsModel", "nextNode", "(I)I"⟩, 93), (⟨"DrivenRunsModel", "number", "()V"⟩, 93), (⟨"DrivenRunsModel", "isFoldedTo", "(I)Z"⟩, 93), (⟨"DrivenRunsModel", "layResidue", "()V"⟩, 93), (⟨"DrivenRunsModel", "laySides", "(I)V"⟩, 93), (⟨"DrivenRunsModel", "clausesOf", "(I)I"⟩, 93), (⟨"DrivenRunsModel", "layComes", "(I)V"⟩, 93), (⟨"DrivenRunsModel", "layCall", "(II)V"⟩, 93), (⟨"DrivenRunsModel", "nameOfFunction", "(I)I"⟩, 93), (⟨"DrivenRunsModel", "layLet", "(I)V"⟩, 93), (⟨"DrivenRunsModel", "comesMore", "(II)V"⟩, 93), (⟨"DrivenRunsModel", "comesOne", "(II)V"⟩, 93), (⟨"DrivenRunsModel", "layClauses", "(I)V"⟩, 93), (⟨"DrivenRunsModel", "conBelow", "(II)I"⟩, 93)]
theorem lw_r9 : ∀ q ∈ lw_privs_9, lw_okq q := List.forall_mem_cons.mpr ⟨lw_p128, List.forall_mem_cons.mpr ⟨lw_p129, List.forall_mem_cons.mpr ⟨lw_p130, List.forall_mem_cons.mpr ⟨lw_p131, List.forall_mem_cons.mpr ⟨lw_p132, List.forall_mem_cons.mpr ⟨lw_p133, List.forall_mem_cons.mpr ⟨lw_p134, List.forall_mem_cons.mpr ⟨lw_p135, List.forall_mem_cons.mpr ⟨lw_p136, List.forall_mem_cons.mpr ⟨lw_p137, List.forall_mem_cons.mpr ⟨lw_p138, List.forall_mem_cons.mpr ⟨lw_p139, List.forall_mem_cons.mpr ⟨lw_p140, List.forall_mem_cons.mpr ⟨lw_p141, List.forall_mem_cons.mpr ⟨lw_p142, List.forall_mem_cons.mpr ⟨lw_p143, fun _ h => absurd h List.not_mem_nil⟩⟩⟩⟩⟩⟩⟩⟩⟩⟩⟩⟩⟩⟩⟩⟩
theorem lw_p144 : lw_okq (⟨"DrivenRunsModel", "countKind", "(I)I"⟩, 93) := ⟨⟨by decide +kernel, by decide +kernel⟩, List.mem_of_getElem? (i := 1267) (by decide +kernel), List.mem_of_getElem? (i := 2019) (by decide +kernel), List.mem_of_getElem? (i := 2020) (by decide +kernel)⟩
theorem lw_p145 : lw_okq (⟨"DrivenRunsModel", "greatest", "(Z)I"⟩, 93) := ⟨⟨by decide +kernel, by decide +kernel⟩, List.mem_of_getElem? (i := 1267) (by decide +kernel), List.mem_of_getElem? (i := 2023) (by decide +kernel), List.mem_of_getElem? (i := 2024) (by decide +kernel)⟩
theorem lw_p146 : lw_okq (⟨"DrivenRunsModel", "isNumber", "(I)Z"⟩, 93) := ⟨⟨by decide +kernel, by decide +kernel⟩, List.mem_of_getElem? (i := 1267) (by decide +kernel), List.mem_of_getElem? (i := 2031) (by decide +kernel), List.mem_of_getElem? (i := 2032) (by decide +kernel)⟩
theorem lw_p147 : lw_okq (⟨"DrivenRunsModel", "varsOf", "(I)I"⟩, 93) := ⟨⟨by decide +kernel, by decide +kernel⟩, List.mem_of_getElem? (i := 1267) (by decide +kernel), List.mem_of_getElem? (i := 2035) (by decide +kernel), List.mem_of_getElem? (i := 2036) (by decide +kernel)⟩
theorem lw_p148 : lw_okq (⟨"DrivenRunsModel", "rankOf", "(II)I"⟩, 93) := ⟨⟨by decide +kernel, by decide +kernel⟩, List.mem_of_getElem? (i := 1267) (by decide +kernel), List.mem_of_getElem? (i := 2047) (by decide +kernel), List.mem_of_getElem? (i := 2048) (by decide +kernel)⟩
theorem lw_p149 : lw_okq (⟨"DrivenRunsModel", "writeProgram", "(I)V"⟩, 93) := ⟨⟨by decide +kernel, by decide +kernel⟩, List.mem_of_getElem? (i := 1267) (by decide +kernel), List.mem_of_getElem? (i := 2055) (by decide +kernel), List.mem_of_getElem? (i := 2056) (by decide +kernel)⟩
theorem lw_p150 : lw_okq (⟨"DrivenRunsModel", "writeLeft", "(I)V"⟩, 93) := ⟨⟨by decide +kernel, by decide +kernel⟩, List.mem_of_getElem? (i := 1267) (by decide +kernel), List.mem_of_getElem? (i := 2059) (by decide +kernel), List.mem_of_getElem? (i := 2060) (by decide +kernel)⟩
def lw_privs_10 : List (MethodName × Nat) := [(⟨"DrivenRunsModel", "countKind", "(I)I"⟩, 93), (⟨"DrivenRunsModel", "greatest", "(Z)I"⟩, 93), (⟨"DrivenRunsModel", "isNumber", "(I)Z"⟩, 93), (⟨"DrivenRunsModel", "varsOf", "(I)I"⟩, 93), (⟨"DrivenRunsModel", "rankOf", "(II)I"⟩, 93), (⟨"DrivenRunsModel", "writeProgram", "(I)V"⟩, 93), (⟨"DrivenRunsModel", "writeLeft", "(I)V"⟩, 93)]
theorem lw_r10 : ∀ q ∈ lw_privs_10, lw_okq q := List.forall_mem_cons.mpr ⟨lw_p144, List.forall_mem_cons.mpr ⟨lw_p145, List.forall_mem_cons.mpr ⟨lw_p146, List.forall_mem_cons.mpr ⟨lw_p147, List.forall_mem_cons.mpr ⟨lw_p148, List.forall_mem_cons.mpr ⟨lw_p149, List.forall_mem_cons.mpr ⟨lw_p150, fun _ h => absurd h List.not_mem_nil⟩⟩⟩⟩⟩⟩⟩
def lw_privs : List (MethodName × Nat) := lw_privs_1 ++ (lw_privs_2 ++ (lw_privs_3 ++ (lw_privs_4 ++ (lw_privs_5 ++ (lw_privs_6 ++ (lw_privs_7 ++ (lw_privs_8 ++ (lw_privs_9 ++ (lw_privs_10)))))))))
def lw_tbl : List Cond := k2_sels lw_privs ++ tables_1
theorem lw_privs_ok : ∀ q ∈ lw_privs, lw_okq q := by
  show ∀ q ∈ lw_privs_1 ++ (lw_privs_2 ++ (lw_privs_3 ++ (lw_privs_4 ++ (lw_privs_5 ++ (lw_privs_6 ++ (lw_privs_7 ++ (lw_privs_8 ++ (lw_privs_9 ++ (lw_privs_10))))))))), lw_okq q
  exact List.forall_mem_append.mpr ⟨lw_r1, List.forall_mem_append.mpr ⟨lw_r2, List.forall_mem_append.mpr ⟨lw_r3, List.forall_mem_append.mpr ⟨lw_r4, List.forall_mem_append.mpr ⟨lw_r5, List.forall_mem_append.mpr ⟨lw_r6, List.forall_mem_append.mpr ⟨lw_r7, List.forall_mem_append.mpr ⟨lw_r8, List.forall_mem_append.mpr ⟨lw_r9, lw_r10⟩⟩⟩⟩⟩⟩⟩⟩⟩
-- ===== end of PART A; then your names; then what follows =====

def RX0 : String := "DrivenRuns$Bound"
def TX0 : u_T := fun k => match k with
  | 0 => ("DrivenRuns$Bound", "vars", "[I", true)
  | 1 => ("DrivenRuns$Bound", "stops", "[I", true)
  | 2 => ("DrivenRuns$Bound", "values", "LDrivenRuns$Expr;", true)
  | _ => ("DrivenRuns$Bound", "count", "I", false)
def tyX0 : Nat → FieldType := fun k => match k with
  | 0 => .array .int
  | 1 => .array .int
  | 2 => .object "DrivenRuns$Expr"
  | _ => .int
abbrev wsX00 : List Cond := u_ws RX0 TX0 4
theorem nmX0 : ∀ a, a < 4 → ∀ b, b < 4 → a ≠ b → (TX0 a).2.1 ≠ (TX0 b).2.1 := by decide +kernel
theorem tyX0_ok : ∀ k, k < 4 → parseFieldDescriptor (TX0 k).2.2.1 = some (tyX0 k) := by decide +kernel
abbrev cX0_init : ByteArray := prog_2_method_1_code
def yX0_init : MethodName := ⟨RX0, "<init>", "()V"⟩
abbrev cX0_clear : ByteArray := prog_2_method_2_code
def yX0_clear : MethodName := ⟨RX0, "clear", "()V"⟩
abbrev cX0_has : ByteArray := prog_2_method_3_code
def yX0_has : MethodName := ⟨RX0, "has", "(I)Z"⟩
abbrev cX0_add : ByteArray := prog_2_method_4_code
def yX0_add : MethodName := ⟨RX0, "add", "(ILDrivenRuns$Expr;)V"⟩
abbrev cX0_fill : ByteArray := prog_2_method_5_code
def yX0_fill : MethodName := ⟨RX0, "fill", "(LDrivenRuns$Expr;LDrivenRuns$Expr;)V"⟩
def RX1 : String := "DrivenRuns$Clause"
def TX1 : u_T := fun k => match k with
  | 0 => ("DrivenRuns$Clause", "vars", "[I", true)
  | 1 => ("DrivenRuns$Clause", "right", "LDrivenRuns$Expr;", true)
  | 2 => ("DrivenRuns$Clause", "varCount", "I", false)
  | 3 => ("DrivenRuns$Clause", "function", "I", false)
  | _ => ("DrivenRuns$Clause", "con", "I", false)
def tyX1 : Nat → FieldType := fun k => match k with
  | 0 => .array .int
  | 1 => .object "DrivenRuns$Expr"
  | 2 => .int
  | 3 => .int
  | _ => .int
abbrev wsX10 : List Cond := u_ws RX1 TX1 5
theorem nmX1 : ∀ a, a < 5 → ∀ b, b < 5 → a ≠ b → (TX1 a).2.1 ≠ (TX1 b).2.1 := by decide +kernel
theorem tyX1_ok : ∀ k, k < 5 → parseFieldDescriptor (TX1 k).2.2.1 = some (tyX1 k) := by decide +kernel
abbrev cX1_init : ByteArray := prog_3_method_1_code
def yX1_init : MethodName := ⟨RX1, "<init>", "()V"⟩
abbrev cX1_clear : ByteArray := prog_3_method_2_code
def yX1_clear : MethodName := ⟨RX1, "clear", "()V"⟩
abbrev cX1_isCase : ByteArray := prog_3_method_3_code
def yX1_isCase : MethodName := ⟨RX1, "isCase", "()Z"⟩
abbrev cX1_indexOfVar : ByteArray := prog_3_method_4_code
def yX1_indexOfVar : MethodName := ⟨RX1, "indexOfVar", "(I)I"⟩
abbrev cX1_addVar : ByteArray := prog_3_method_5_code
def yX1_addVar : MethodName := ⟨RX1, "addVar", "(I)V"⟩
def RX2 : String := "DrivenRuns$Expr"
def TX2 : u_T := fun k => match k with
  | 0 => ("DrivenRuns$Expr", "cells", "[I", true)
  | _ => ("DrivenRuns$Expr", "size", "I", false)
def tyX2 : Nat → FieldType := fun k => match k with
  | 0 => .array .int
  | _ => .int
abbrev wsX20 : List Cond := u_ws RX2 TX2 2
theorem nmX2 : ∀ a, a < 2 → ∀ b, b < 2 → a ≠ b → (TX2 a).2.1 ≠ (TX2 b).2.1 := by decide +kernel
theorem tyX2_ok : ∀ k, k < 2 → parseFieldDescriptor (TX2 k).2.2.1 = some (tyX2 k) := by decide +kernel
abbrev cX2_init : ByteArray := prog_4_method_1_code
def yX2_init : MethodName := ⟨RX2, "<init>", "(I)V"⟩
abbrev cX2_cell : ByteArray := prog_4_method_2_code
def yX2_cell : MethodName := ⟨RX2, "cell", "(III)I"⟩
abbrev cX2_kind : ByteArray := prog_4_method_3_code
def yX2_kind : MethodName := ⟨RX2, "kind", "(I)I"⟩
abbrev cX2_arity : ByteArray := prog_4_method_4_code
def yX2_arity : MethodName := ⟨RX2, "arity", "(I)I"⟩
abbrev cX2_symbol : ByteArray := prog_4_method_5_code
def yX2_symbol : MethodName := ⟨RX2, "symbol", "(I)I"⟩
abbrev cX2_indexOf : ByteArray := prog_4_method_6_code
def yX2_indexOf : MethodName := ⟨RX2, "indexOf", "(I[II)I"⟩
abbrev cX2_cellAt : ByteArray := prog_4_method_7_code
def yX2_cellAt : MethodName := ⟨RX2, "cellAt", "(I)I"⟩
abbrev cX2_kindAt : ByteArray := prog_4_method_8_code
def yX2_kindAt : MethodName := ⟨RX2, "kindAt", "(I)I"⟩
abbrev cX2_clear : ByteArray := prog_4_method_9_code
def yX2_clear : MethodName := ⟨RX2, "clear", "()V"⟩
abbrev cX2_add : ByteArray := prog_4_method_10_code
def yX2_add : MethodName := ⟨RX2, "add", "(I)V"⟩
abbrev cX2_addPart : ByteArray := prog_4_method_11_code
def yX2_addPart : MethodName := ⟨RX2, "addPart", "(LDrivenRuns$Expr;II)V"⟩
abbrev cX2_addAll : ByteArray := prog_4_method_12_code
def yX2_addAll : MethodName := ⟨RX2, "addAll", "(LDrivenRuns$Expr;)V"⟩
abbrev cX2_addRenamed : ByteArray := prog_4_method_13_code
def yX2_addRenamed : MethodName := ⟨RX2, "addRenamed", "(LDrivenRuns$Expr;[II)V"⟩
abbrev cX2_become : ByteArray := prog_4_method_14_code
def yX2_become : MethodName := ⟨RX2, "become", "(LDrivenRuns$Expr;)V"⟩
abbrev cX2_setArity : ByteArray := prog_4_method_15_code
def yX2_setArity : MethodName := ⟨RX2, "setArity", "(II)V"⟩
abbrev cX2_behind : ByteArray := prog_4_method_16_code
def yX2_behind : MethodName := ⟨RX2, "behind", "(I)I"⟩
abbrev cX2_samePart : ByteArray := prog_4_method_17_code
def yX2_samePart : MethodName := ⟨RX2, "samePart", "(ILDrivenRuns$Expr;I)Z"⟩
abbrev cX2_firstUndone : ByteArray := prog_4_method_18_code
def yX2_firstUndone : MethodName := ⟨RX2, "firstUndone", "()I"⟩
abbrev cX2_deepAt : ByteArray := prog_4_method_19_code
def yX2_deepAt : MethodName := ⟨RX2, "deepAt", "(I)I"⟩
abbrev cX2_countNested : ByteArray := prog_4_method_20_code
def yX2_countNested : MethodName := ⟨RX2, "countNested", "()I"⟩
abbrev cX2_countCalls : ByteArray := prog_4_method_21_code
def yX2_countCalls : MethodName := ⟨RX2, "countCalls", "()I"⟩
abbrev cX2_countVars : ByteArray := prog_4_method_22_code
def yX2_countVars : MethodName := ⟨RX2, "countVars", "()I"⟩
abbrev cX2_listVars : ByteArray := prog_4_method_23_code
def yX2_listVars : MethodName := ⟨RX2, "listVars", "([I)I"⟩
def RX3 : String := "DrivenRuns$Matcher"
def TX3 : u_T := fun k => match k with
  | 0 => ("DrivenRuns$Matcher", "vars", "[I", true)
  | 1 => ("DrivenRuns$Matcher", "others", "[I", true)
  | 2 => ("DrivenRuns$Matcher", "starts", "[I", true)
  | 3 => ("DrivenRuns$Matcher", "stops", "[I", true)
  | 4 => ("DrivenRuns$Matcher", "behindOne", "[I", true)
  | 5 => ("DrivenRuns$Matcher", "behindOther", "[I", true)
  | 6 => ("DrivenRuns$Matcher", "coupled", "[Z", true)
  | 7 => ("DrivenRuns$Matcher", "embedded", "[Z", true)
  | 8 => ("DrivenRuns$Matcher", "isCoupled", "Z", false)
  | 9 => ("DrivenRuns$Matcher", "isEmbedded", "Z", false)
  | _ => ("DrivenRuns$Matcher", "count", "I", false)
def tyX3 : Nat → FieldType := fun k => match k with
  | 0 => .array .int
  | 1 => .array .int
  | 2 => .array .int
  | 3 => .array .int
  | 4 => .array .int
  | 5 => .array .int
  | 6 => .array .boolean
  | 7 => .array .boolean
  | 8 => .boolean
  | 9 => .boolean
  | _ => .int
abbrev wsX30 : List Cond := u_ws RX3 TX3 11
theorem nmX3 : ∀ a, a < 11 → ∀ b, b < 11 → a ≠ b → (TX3 a).2.1 ≠ (TX3 b).2.1 := by decide +kernel
theorem tyX3_ok : ∀ k, k < 11 → parseFieldDescriptor (TX3 k).2.2.1 = some (tyX3 k) := by decide +kernel
abbrev cX3_init : ByteArray := prog_5_method_1_code
def yX3_init : MethodName := ⟨RX3, "<init>", "()V"⟩
abbrev cX3_isRenaming : ByteArray := prog_5_method_2_code
def yX3_isRenaming : MethodName := ⟨RX3, "isRenaming", "(LDrivenRuns$Expr;LDrivenRuns$Expr;)Z"⟩
abbrev cX3_isInstance : ByteArray := prog_5_method_3_code
def yX3_isInstance : MethodName := ⟨RX3, "isInstance", "(LDrivenRuns$Expr;LDrivenRuns$Expr;)Z"⟩
abbrev cX3_makeCommon : ByteArray := prog_5_method_4_code
def yX3_makeCommon : MethodName := ⟨RX3, "makeCommon", "(LDrivenRuns$Expr;LDrivenRuns$Expr;LDrivenRuns$Expr;I)V"⟩
abbrev cX3_pairVars : ByteArray := prog_5_method_5_code
def yX3_pairVars : MethodName := ⟨RX3, "pairVars", "(II)Z"⟩
abbrev cX3_standFor : ByteArray := prog_5_method_6_code
def yX3_standFor : MethodName := ⟨RX3, "standFor", "(ILDrivenRuns$Expr;I)Z"⟩
abbrev cX3_indexOfPair : ByteArray := prog_5_method_7_code
def yX3_indexOfPair : MethodName := ⟨RX3, "indexOfPair", "(LDrivenRuns$Expr;ILDrivenRuns$Expr;I)I"⟩
abbrev cX3_compare : ByteArray := prog_5_method_8_code
def yX3_compare : MethodName := ⟨RX3, "compare", "(LDrivenRuns$Expr;LDrivenRuns$Expr;)V"⟩
abbrev cX3_arePartsCoupled : ByteArray := prog_5_method_9_code
def yX3_arePartsCoupled : MethodName := ⟨RX3, "arePartsCoupled", "(LDrivenRuns$Expr;ILDrivenRuns$Expr;I)Z"⟩
abbrev cX3_isInArgument : ByteArray := prog_5_method_10_code
def yX3_isInArgument : MethodName := ⟨RX3, "isInArgument", "(ILDrivenRuns$Expr;I)Z"⟩
def RX4 : String := "DrivenRuns$Node"
def TX4 : u_T := fun k => match k with
  | 0 => ("DrivenRuns$Node", "expr", "LDrivenRuns$Expr;", true)
  | 1 => ("DrivenRuns$Node", "vars", "[I", true)
  | 2 => ("DrivenRuns$Node", "coming", "LDrivenRuns$Expr;", true)
  | 3 => ("DrivenRuns$Node", "varCount", "I", false)
  | 4 => ("DrivenRuns$Node", "kind", "I", false)
  | 5 => ("DrivenRuns$Node", "which", "I", false)
  | 6 => ("DrivenRuns$Node", "deep", "I", false)
  | 7 => ("DrivenRuns$Node", "number", "I", false)
  | 8 => ("DrivenRuns$Node", "below", "I", false)
  | 9 => ("DrivenRuns$Node", "function", "I", false)
  | 10 => ("DrivenRuns$Node", "blocking", "I", false)
  | 11 => ("DrivenRuns$Node", "con", "I", false)
  | 12 => ("DrivenRuns$Node", "conVar", "I", false)
  | 13 => ("DrivenRuns$Node", "isFoldedTo", "Z", false)
  | 14 => ("DrivenRuns$Node", "fold", "LDrivenRuns$Node;", false)
  | 15 => ("DrivenRuns$Node", "up", "LDrivenRuns$Node;", false)
  | 16 => ("DrivenRuns$Node", "first", "LDrivenRuns$Node;", false)
  | 17 => ("DrivenRuns$Node", "last", "LDrivenRuns$Node;", false)
  | _ => ("DrivenRuns$Node", "next", "LDrivenRuns$Node;", false)
def tyX4 : Nat → FieldType := fun k => match k with
  | 0 => .object "DrivenRuns$Expr"
  | 1 => .array .int
  | 2 => .object "DrivenRuns$Expr"
  | 3 => .int
  | 4 => .int
  | 5 => .int
  | 6 => .int
  | 7 => .int
  | 8 => .int
  | 9 => .int
  | 10 => .int
  | 11 => .int
  | 12 => .int
  | 13 => .boolean
  | 14 => .object "DrivenRuns$Node"
  | 15 => .object "DrivenRuns$Node"
  | 16 => .object "DrivenRuns$Node"
  | 17 => .object "DrivenRuns$Node"
  | _ => .object "DrivenRuns$Node"
abbrev wsX40 : List Cond := u_ws RX4 TX4 19
theorem nmX4 : ∀ a, a < 19 → ∀ b, b < 19 → a ≠ b → (TX4 a).2.1 ≠ (TX4 b).2.1 := by decide +kernel
theorem tyX4_ok : ∀ k, k < 19 → parseFieldDescriptor (TX4 k).2.2.1 = some (tyX4 k) := by decide +kernel
abbrev cX4_init : ByteArray := prog_6_method_1_code
def yX4_init : MethodName := ⟨RX4, "<init>", "()V"⟩
abbrev cX4_begin : ByteArray := prog_6_method_2_code
def yX4_begin : MethodName := ⟨RX4, "begin", "(LDrivenRuns$Node;)V"⟩
abbrev cX4_dropBelow : ByteArray := prog_6_method_3_code
def yX4_dropBelow : MethodName := ⟨RX4, "dropBelow", "()V"⟩
abbrev cX4_measure : ByteArray := prog_6_method_4_code
def yX4_measure : MethodName := ⟨RX4, "measure", "(I)I"⟩
abbrev cX4_addBelow : ByteArray := prog_6_method_5_code
def yX4_addBelow : MethodName := ⟨RX4, "addBelow", "(LDrivenRuns$Node;)V"⟩
def RX5 : String := "DrivenRuns$Program"
def TX5 : u_T := fun k => match k with
  | 0 => ("DrivenRuns$Program", "clauses", "[LDrivenRuns$Clause;", true)
  | _ => ("DrivenRuns$Program", "count", "I", false)
def tyX5 : Nat → FieldType := fun k => match k with
  | 0 => .array (.object "DrivenRuns$Clause")
  | _ => .int
abbrev wsX50 : List Cond := u_ws RX5 TX5 2
theorem nmX5 : ∀ a, a < 2 → ∀ b, b < 2 → a ≠ b → (TX5 a).2.1 ≠ (TX5 b).2.1 := by decide +kernel
theorem tyX5_ok : ∀ k, k < 2 → parseFieldDescriptor (TX5 k).2.2.1 = some (tyX5 k) := by decide +kernel
abbrev cX5_init : ByteArray := prog_7_method_1_code
def yX5_init : MethodName := ⟨RX5, "<init>", "()V"⟩
abbrev cX5_clear : ByteArray := prog_7_method_2_code
def yX5_clear : MethodName := ⟨RX5, "clear", "()V"⟩
abbrev cX5_clauseAt : ByteArray := prog_7_method_3_code
def yX5_clauseAt : MethodName := ⟨RX5, "clauseAt", "(I)LDrivenRuns$Clause;"⟩
abbrev cX5_spareClause : ByteArray := prog_7_method_4_code
def yX5_spareClause : MethodName := ⟨RX5, "spareClause", "()LDrivenRuns$Clause;"⟩
abbrev cX5_keepSpare : ByteArray := prog_7_method_5_code
def yX5_keepSpare : MethodName := ⟨RX5, "keepSpare", "()V"⟩
abbrev cX5_firstOf : ByteArray := prog_7_method_6_code
def yX5_firstOf : MethodName := ⟨RX5, "firstOf", "(I)LDrivenRuns$Clause;"⟩
abbrev cX5_caseOf : ByteArray := prog_7_method_7_code
def yX5_caseOf : MethodName := ⟨RX5, "caseOf", "(II)LDrivenRuns$Clause;"⟩
abbrev cX5_contradicts : ByteArray := prog_7_method_8_code
def yX5_contradicts : MethodName := ⟨RX5, "contradicts", "(LDrivenRuns$Clause;)Z"⟩
abbrev cX5_countFunctions : ByteArray := prog_7_method_9_code
def yX5_countFunctions : MethodName := ⟨RX5, "countFunctions", "()I"⟩
abbrev cX5_countAtOnce : ByteArray := prog_7_method_10_code
def yX5_countAtOnce : MethodName := ⟨RX5, "countAtOnce", "()I"⟩
abbrev cX5_countRight : ByteArray := prog_7_method_11_code
def yX5_countRight : MethodName := ⟨RX5, "countRight", "()I"⟩
def RX6 : String := "DrivenRuns$Reader"
def TX6 : u_T := fun k => match k with
  | 0 => ("DrivenRuns$Reader", "tape", "[B", true)
  | 1 => ("DrivenRuns$Reader", "heads", "[I", true)
  | 2 => ("DrivenRuns$Reader", "counts", "[I", true)
  | 3 => ("DrivenRuns$Reader", "value", "LDrivenRuns$Expr;", true)
  | 4 => ("DrivenRuns$Reader", "length", "I", false)
  | 5 => ("DrivenRuns$Reader", "at", "I", false)
  | 6 => ("DrivenRuns$Reader", "open", "I", false)
  | _ => ("DrivenRuns$Reader", "faultAt", "I", false)
def tyX6 : Nat → FieldType := fun k => match k with
  | 0 => .array .byte
  | 1 => .array .int
  | 2 => .array .int
  | 3 => .object "DrivenRuns$Expr"
  | 4 => .int
  | 5 => .int
  | 6 => .int
  | _ => .int
abbrev wsX60 : List Cond := u_ws RX6 TX6 8
theorem nmX6 : ∀ a, a < 8 → ∀ b, b < 8 → a ≠ b → (TX6 a).2.1 ≠ (TX6 b).2.1 := by decide +kernel
theorem tyX6_ok : ∀ k, k < 8 → parseFieldDescriptor (TX6 k).2.2.1 = some (tyX6 k) := by decide +kernel
abbrev cX6_init : ByteArray := prog_8_method_1_code
def yX6_init : MethodName := ⟨RX6, "<init>", "()V"⟩
abbrev cX6_addWord : ByteArray := prog_8_method_2_code
def yX6_addWord : MethodName := ⟨RX6, "addWord", "(I)V"⟩
abbrev cX6_cut : ByteArray := prog_8_method_3_code
def yX6_cut : MethodName := ⟨RX6, "cut", "(I)Z"⟩
abbrev cX6_readProgram : ByteArray := prog_8_method_4_code
def yX6_readProgram : MethodName := ⟨RX6, "readProgram", "(LDrivenRuns$Program;)Z"⟩
abbrev cX6_readWhole : ByteArray := prog_8_method_5_code
def yX6_readWhole : MethodName := ⟨RX6, "readWhole", "(LDrivenRuns$Expr;)Z"⟩
abbrev cX6_readBound : ByteArray := prog_8_method_6_code
def yX6_readBound : MethodName := ⟨RX6, "readBound", "(LDrivenRuns$Bound;)Z"⟩
abbrev cX6_readBinding : ByteArray := prog_8_method_7_code
def yX6_readBinding : MethodName := ⟨RX6, "readBinding", "(LDrivenRuns$Bound;)Z"⟩
abbrev cX6_readClause : ByteArray := prog_8_method_8_code
def yX6_readClause : MethodName := ⟨RX6, "readClause", "(LDrivenRuns$Program;)Z"⟩
abbrev cX6_readPatterns : ByteArray := prog_8_method_9_code
def yX6_readPatterns : MethodName := ⟨RX6, "readPatterns", "(LDrivenRuns$Clause;)I"⟩
abbrev cX6_readCase : ByteArray := prog_8_method_10_code
def yX6_readCase : MethodName := ⟨RX6, "readCase", "(LDrivenRuns$Clause;)Z"⟩
abbrev cX6_readLeftVar : ByteArray := prog_8_method_11_code
def yX6_readLeftVar : MethodName := ⟨RX6, "readLeftVar", "(LDrivenRuns$Clause;)Z"⟩
abbrev cX6_readExpr : ByteArray := prog_8_method_12_code
def yX6_readExpr : MethodName := ⟨RX6, "readExpr", "(LDrivenRuns$Expr;LDrivenRuns$Clause;Z)Z"⟩
abbrev cX6_readThing : ByteArray := prog_8_method_13_code
def yX6_readThing : MethodName := ⟨RX6, "readThing", "(LDrivenRuns$Expr;LDrivenRuns$Clause;)I"⟩
abbrev cX6_readVar : ByteArray := prog_8_method_14_code
def yX6_readVar : MethodName := ⟨RX6, "readVar", "(LDrivenRuns$Expr;LDrivenRuns$Clause;)I"⟩
abbrev cX6_readCon : ByteArray := prog_8_method_15_code
def yX6_readCon : MethodName := ⟨RX6, "readCon", "(LDrivenRuns$Expr;)I"⟩
abbrev cX6_readCall : ByteArray := prog_8_method_16_code
def yX6_readCall : MethodName := ⟨RX6, "readCall", "(LDrivenRuns$Expr;)I"⟩
abbrev cX6_openThing : ByteArray := prog_8_method_17_code
def yX6_openThing : MethodName := ⟨RX6, "openThing", "(LDrivenRuns$Expr;)I"⟩
abbrev cX6_closeThings : ByteArray := prog_8_method_18_code
def yX6_closeThings : MethodName := ⟨RX6, "closeThings", "(LDrivenRuns$Expr;)I"⟩
abbrev cX6_readName : ByteArray := prog_8_method_19_code
def yX6_readName : MethodName := ⟨RX6, "readName", "(I)I"⟩
abbrev cX6_peek : ByteArray := prog_8_method_20_code
def yX6_peek : MethodName := ⟨RX6, "peek", "()I"⟩
abbrev cX6_expect : ByteArray := prog_8_method_21_code
def yX6_expect : MethodName := ⟨RX6, "expect", "(I)Z"⟩
abbrev cX6_fail : ByteArray := prog_8_method_22_code
def yX6_fail : MethodName := ⟨RX6, "fail", "(I)Z"⟩
abbrev cX6_isFunctionLetter : ByteArray := prog_8_method_23_code
def yX6_isFunctionLetter : MethodName := ⟨RX6, "isFunctionLetter", "(I)Z"⟩
abbrev cX6_isVarLetter : ByteArray := prog_8_method_24_code
def yX6_isVarLetter : MethodName := ⟨RX6, "isVarLetter", "(I)Z"⟩
abbrev cX6_isConLetter : ByteArray := prog_8_method_25_code
def yX6_isConLetter : MethodName := ⟨RX6, "isConLetter", "(I)Z"⟩
abbrev cX6_isDigit : ByteArray := prog_8_method_26_code
def yX6_isDigit : MethodName := ⟨RX6, "isDigit", "(I)Z"⟩
def RX7 : String := "DrivenRuns$Residue"
def TX7 : u_T := fun k => match k with
  | 0 => ("DrivenRuns$Residue", "coming", "LDrivenRuns$Expr;", true)
  | 1 => ("DrivenRuns$Residue", "arguments", "[I", true)
  | 2 => ("DrivenRuns$Residue", "argumentCount", "I", false)
  | _ => ("DrivenRuns$Residue", "functions", "I", false)
def tyX7 : Nat → FieldType := fun k => match k with
  | 0 => .object "DrivenRuns$Expr"
  | 1 => .array .int
  | 2 => .int
  | _ => .int
abbrev wsX70 : List Cond := u_ws RX7 TX7 4
theorem nmX7 : ∀ a, a < 4 → ∀ b, b < 4 → a ≠ b → (TX7 a).2.1 ≠ (TX7 b).2.1 := by decide +kernel
theorem tyX7_ok : ∀ k, k < 4 → parseFieldDescriptor (TX7 k).2.2.1 = some (tyX7 k) := by decide +kernel
abbrev cX7_init : ByteArray := prog_9_method_1_code
def yX7_init : MethodName := ⟨RX7, "<init>", "()V"⟩
abbrev cX7_make : ByteArray := prog_9_method_2_code
def yX7_make : MethodName := ⟨RX7, "make", "(LDrivenRuns$Tree;LDrivenRuns$Program;)I"⟩
abbrev cX7_goalOf : ByteArray := prog_9_method_3_code
def yX7_goalOf : MethodName := ⟨RX7, "goalOf", "(LDrivenRuns$Tree;)LDrivenRuns$Expr;"⟩
abbrev cX7_nameFunctions : ByteArray := prog_9_method_4_code
def yX7_nameFunctions : MethodName := ⟨RX7, "nameFunctions", "(LDrivenRuns$Tree;)I"⟩
abbrev cX7_isFunction : ByteArray := prog_9_method_5_code
def yX7_isFunction : MethodName := ⟨RX7, "isFunction", "(LDrivenRuns$Node;)Z"⟩
abbrev cX7_findComing : ByteArray := prog_9_method_6_code
def yX7_findComing : MethodName := ⟨RX7, "findComing", "(LDrivenRuns$Node;)I"⟩
abbrev cX7_fillComing : ByteArray := prog_9_method_7_code
def yX7_fillComing : MethodName := ⟨RX7, "fillComing", "(LDrivenRuns$Node;)V"⟩
abbrev cX7_addBelow : ByteArray := prog_9_method_8_code
def yX7_addBelow : MethodName := ⟨RX7, "addBelow", "(LDrivenRuns$Node;)V"⟩
abbrev cX7_addCall : ByteArray := prog_9_method_9_code
def yX7_addCall : MethodName := ⟨RX7, "addCall", "(LDrivenRuns$Node;I)V"⟩
abbrev cX7_addLet : ByteArray := prog_9_method_10_code
def yX7_addLet : MethodName := ⟨RX7, "addLet", "(LDrivenRuns$Node;)V"⟩
abbrev cX7_listArguments : ByteArray := prog_9_method_11_code
def yX7_listArguments : MethodName := ⟨RX7, "listArguments", "(LDrivenRuns$Node;)V"⟩
abbrev cX7_listLeftVars : ByteArray := prog_9_method_12_code
def yX7_listLeftVars : MethodName := ⟨RX7, "listLeftVars", "(LDrivenRuns$Node;LDrivenRuns$Node;)V"⟩
abbrev cX7_listOthers : ByteArray := prog_9_method_13_code
def yX7_listOthers : MethodName := ⟨RX7, "listOthers", "(LDrivenRuns$Node;)V"⟩
abbrev cX7_addArgument : ByteArray := prog_9_method_14_code
def yX7_addArgument : MethodName := ⟨RX7, "addArgument", "(I)V"⟩
abbrev cX7_makeClauses : ByteArray := prog_9_method_15_code
def yX7_makeClauses : MethodName := ⟨RX7, "makeClauses", "(LDrivenRuns$Tree;LDrivenRuns$Program;)V"⟩
abbrev cX7_makeClause : ByteArray := prog_9_method_16_code
def yX7_makeClause : MethodName := ⟨RX7, "makeClause", "(LDrivenRuns$Node;LDrivenRuns$Node;LDrivenRuns$Program;)V"⟩
def RX8 : String := "DrivenRuns$Runner"
def TX8 : u_T := fun k => match k with
  | 0 => ("DrivenRuns$Runner", "starts", "[I", true)
  | 1 => ("DrivenRuns$Runner", "now", "LDrivenRuns$Expr;", false)
  | 2 => ("DrivenRuns$Runner", "spare", "LDrivenRuns$Expr;", false)
  | 3 => ("DrivenRuns$Runner", "nextAt", "I", false)
  | 4 => ("DrivenRuns$Runner", "nextClause", "LDrivenRuns$Clause;", false)
  | 5 => ("DrivenRuns$Runner", "blocking", "I", false)
  | 6 => ("DrivenRuns$Runner", "ended", "I", false)
  | 7 => ("DrivenRuns$Runner", "steps", "I", false)
  | 8 => ("DrivenRuns$Runner", "greatest", "I", false)
  | _ => ("DrivenRuns$Runner", "deepest", "I", false)
def tyX8 : Nat → FieldType := fun k => match k with
  | 0 => .array .int
  | 1 => .object "DrivenRuns$Expr"
  | 2 => .object "DrivenRuns$Expr"
  | 3 => .int
  | 4 => .object "DrivenRuns$Clause"
  | 5 => .int
  | 6 => .int
  | 7 => .int
  | 8 => .int
  | _ => .int
abbrev wsX80 : List Cond := u_ws RX8 TX8 10
theorem nmX8 : ∀ a, a < 10 → ∀ b, b < 10 → a ≠ b → (TX8 a).2.1 ≠ (TX8 b).2.1 := by decide +kernel
theorem tyX8_ok : ∀ k, k < 10 → parseFieldDescriptor (TX8 k).2.2.1 = some (tyX8 k) := by decide +kernel
abbrev cX8_init : ByteArray := prog_10_method_1_code
def yX8_init : MethodName := ⟨RX8, "<init>", "()V"⟩
abbrev cX8_perform : ByteArray := prog_10_method_2_code
def yX8_perform : MethodName := ⟨RX8, "perform", "(LDrivenRuns$Program;LDrivenRuns$Expr;LDrivenRuns$Bound;)V"⟩
abbrev cX8_performOne : ByteArray := prog_10_method_3_code
def yX8_performOne : MethodName := ⟨RX8, "performOne", "(LDrivenRuns$Program;LDrivenRuns$Expr;LDrivenRuns$Bound;)I"⟩
abbrev cX8_answer : ByteArray := prog_10_method_4_code
def yX8_answer : MethodName := ⟨RX8, "answer", "(I)I"⟩
abbrev cX8_findNext : ByteArray := prog_10_method_5_code
def yX8_findNext : MethodName := ⟨RX8, "findNext", "(LDrivenRuns$Program;LDrivenRuns$Expr;I)I"⟩
abbrev cX8_makeStep : ByteArray := prog_10_method_6_code
def yX8_makeStep : MethodName := ⟨RX8, "makeStep", "(LDrivenRuns$Expr;ILDrivenRuns$Clause;LDrivenRuns$Expr;)V"⟩
abbrev cX8_addRight : ByteArray := prog_10_method_7_code
def yX8_addRight : MethodName := ⟨RX8, "addRight", "(LDrivenRuns$Expr;LDrivenRuns$Clause;LDrivenRuns$Expr;)V"⟩
abbrev cX8_stateOf : ByteArray := prog_10_method_8_code
def yX8_stateOf : MethodName := ⟨RX8, "stateOf", "(LDrivenRuns$Program;)I"⟩
abbrev cX8_undoneState : ByteArray := prog_10_method_9_code
def yX8_undoneState : MethodName := ⟨RX8, "undoneState", "(LDrivenRuns$Program;)I"⟩
abbrev cX8_replaceNext : ByteArray := prog_10_method_10_code
def yX8_replaceNext : MethodName := ⟨RX8, "replaceNext", "()V"⟩
def RX9 : String := "DrivenRuns$Tree"
def TX9 : u_T := fun k => match k with
  | 0 => ("DrivenRuns$Tree", "runner", "LDrivenRuns$Runner;", true)
  | 1 => ("DrivenRuns$Tree", "matcher", "LDrivenRuns$Matcher;", true)
  | 2 => ("DrivenRuns$Tree", "pool", "[LDrivenRuns$Node;", true)
  | 3 => ("DrivenRuns$Tree", "line", "[LDrivenRuns$Node;", true)
  | 4 => ("DrivenRuns$Tree", "part", "LDrivenRuns$Expr;", true)
  | 5 => ("DrivenRuns$Tree", "made", "LDrivenRuns$Expr;", true)
  | 6 => ("DrivenRuns$Tree", "program", "LDrivenRuns$Program;", false)
  | 7 => ("DrivenRuns$Tree", "grown", "LDrivenRuns$Node;", false)
  | 8 => ("DrivenRuns$Tree", "count", "I", false)
  | 9 => ("DrivenRuns$Tree", "madeCount", "I", false)
  | 10 => ("DrivenRuns$Tree", "looked", "I", false)
  | 11 => ("DrivenRuns$Tree", "generalized", "I", false)
  | 12 => ("DrivenRuns$Tree", "nextLook", "I", false)
  | _ => ("DrivenRuns$Tree", "nextVar", "I", false)
def tyX9 : Nat → FieldType := fun k => match k with
  | 0 => .object "DrivenRuns$Runner"
  | 1 => .object "DrivenRuns$Matcher"
  | 2 => .array (.object "DrivenRuns$Node")
  | 3 => .array (.object "DrivenRuns$Node")
  | 4 => .object "DrivenRuns$Expr"
  | 5 => .object "DrivenRuns$Expr"
  | 6 => .object "DrivenRuns$Program"
  | 7 => .object "DrivenRuns$Node"
  | 8 => .int
  | 9 => .int
  | 10 => .int
  | 11 => .int
  | 12 => .int
  | _ => .int
abbrev wsX90 : List Cond := u_ws RX9 TX9 14
theorem nmX9 : ∀ a, a < 14 → ∀ b, b < 14 → a ≠ b → (TX9 a).2.1 ≠ (TX9 b).2.1 := by decide +kernel
theorem tyX9_ok : ∀ k, k < 14 → parseFieldDescriptor (TX9 k).2.2.1 = some (tyX9 k) := by decide +kernel
abbrev cX9_init : ByteArray := prog_11_method_1_code
def yX9_init : MethodName := ⟨RX9, "<init>", "(LDrivenRuns$Runner;LDrivenRuns$Matcher;)V"⟩
abbrev cX9_grow : ByteArray := prog_11_method_2_code
def yX9_grow : MethodName := ⟨RX9, "grow", "(LDrivenRuns$Program;LDrivenRuns$Expr;)I"⟩
abbrev cX9_nodeAt : ByteArray := prog_11_method_3_code
def yX9_nodeAt : MethodName := ⟨RX9, "nodeAt", "(I)LDrivenRuns$Node;"⟩
abbrev cX9_countKind : ByteArray := prog_11_method_4_code
def yX9_countKind : MethodName := ⟨RX9, "countKind", "(I)I"⟩
abbrev cX9_greatest : ByteArray := prog_11_method_5_code
def yX9_greatest : MethodName := ⟨RX9, "greatest", "(I)I"⟩
abbrev cX9_numberAtRank : ByteArray := prog_11_method_6_code
def yX9_numberAtRank : MethodName := ⟨RX9, "numberAtRank", "(II)I"⟩
abbrev cX9_rankOf : ByteArray := prog_11_method_7_code
def yX9_rankOf : MethodName := ⟨RX9, "rankOf", "(II)I"⟩
abbrev cX9_clear : ByteArray := prog_11_method_8_code
def yX9_clear : MethodName := ⟨RX9, "clear", "()V"⟩
abbrev cX9_numberNodes : ByteArray := prog_11_method_9_code
def yX9_numberNodes : MethodName := ⟨RX9, "numberNodes", "()V"⟩
abbrev cX9_findKind : ByteArray := prog_11_method_10_code
def yX9_findKind : MethodName := ⟨RX9, "findKind", "(LDrivenRuns$Node;)I"⟩
abbrev cX9_findKindOfCall : ByteArray := prog_11_method_11_code
def yX9_findKindOfCall : MethodName := ⟨RX9, "findKindOfCall", "(LDrivenRuns$Node;)I"⟩
abbrev cX9_nearestRenamed : ByteArray := prog_11_method_12_code
def yX9_nearestRenamed : MethodName := ⟨RX9, "nearestRenamed", "(LDrivenRuns$Node;I)LDrivenRuns$Node;"⟩
abbrev cX9_nearestCoupled : ByteArray := prog_11_method_13_code
def yX9_nearestCoupled : MethodName := ⟨RX9, "nearestCoupled", "(LDrivenRuns$Node;I)LDrivenRuns$Node;"⟩
abbrev cX9_addBelow : ByteArray := prog_11_method_14_code
def yX9_addBelow : MethodName := ⟨RX9, "addBelow", "(LDrivenRuns$Node;)I"⟩
abbrev cX9_addLet : ByteArray := prog_11_method_15_code
def yX9_addLet : MethodName := ⟨RX9, "addLet", "(LDrivenRuns$Node;)I"⟩
abbrev cX9_addParts : ByteArray := prog_11_method_16_code
def yX9_addParts : MethodName := ⟨RX9, "addParts", "(LDrivenRuns$Node;LDrivenRuns$Expr;)I"⟩
abbrev cX9_addArguments : ByteArray := prog_11_method_17_code
def yX9_addArguments : MethodName := ⟨RX9, "addArguments", "(LDrivenRuns$Node;)I"⟩
abbrev cX9_addStepped : ByteArray := prog_11_method_18_code
def yX9_addStepped : MethodName := ⟨RX9, "addStepped", "(LDrivenRuns$Node;)I"⟩
abbrev cX9_addCases : ByteArray := prog_11_method_19_code
def yX9_addCases : MethodName := ⟨RX9, "addCases", "(LDrivenRuns$Node;)I"⟩
abbrev cX9_fillSplit : ByteArray := prog_11_method_20_code
def yX9_fillSplit : MethodName := ⟨RX9, "fillSplit", "(LDrivenRuns$Node;I)V"⟩
abbrev cX9_addNode : ByteArray := prog_11_method_21_code
def yX9_addNode : MethodName := ⟨RX9, "addNode", "(LDrivenRuns$Node;LDrivenRuns$Expr;)I"⟩
abbrev cX9_removeBelow : ByteArray := prog_11_method_22_code
def yX9_removeBelow : MethodName := ⟨RX9, "removeBelow", "(LDrivenRuns$Node;)V"⟩
abbrev cX9_indexOf : ByteArray := prog_11_method_23_code
def yX9_indexOf : MethodName := ⟨RX9, "indexOf", "(LDrivenRuns$Node;)I"⟩
def RX10 : String := "DrivenRuns$Writer"
def TX10 : u_T := fun k => match k with
  | 0 => ("DrivenRuns$Writer", "bytes", "[B", true)
  | 1 => ("DrivenRuns$Writer", "lacking", "[I", true)
  | _ => ("DrivenRuns$Writer", "count", "I", false)
def tyX10 : Nat → FieldType := fun k => match k with
  | 0 => .array .byte
  | 1 => .array .int
  | _ => .int
abbrev wsX100 : List Cond := u_ws RX10 TX10 3
theorem nmX10 : ∀ a, a < 3 → ∀ b, b < 3 → a ≠ b → (TX10 a).2.1 ≠ (TX10 b).2.1 := by decide +kernel
theorem tyX10_ok : ∀ k, k < 3 → parseFieldDescriptor (TX10 k).2.2.1 = some (tyX10 k) := by decide +kernel
abbrev cX10_init : ByteArray := prog_12_method_1_code
def yX10_init : MethodName := ⟨RX10, "<init>", "()V"⟩
abbrev cX10_byteAt : ByteArray := prog_12_method_2_code
def yX10_byteAt : MethodName := ⟨RX10, "byteAt", "(I)I"⟩
abbrev cX10_clear : ByteArray := prog_12_method_3_code
def yX10_clear : MethodName := ⟨RX10, "clear", "()V"⟩
abbrev cX10_put : ByteArray := prog_12_method_4_code
def yX10_put : MethodName := ⟨RX10, "put", "(I)V"⟩
abbrev cX10_putProgram : ByteArray := prog_12_method_5_code
def yX10_putProgram : MethodName := ⟨RX10, "putProgram", "(LDrivenRuns$Program;)V"⟩
abbrev cX10_putExpr : ByteArray := prog_12_method_6_code
def yX10_putExpr : MethodName := ⟨RX10, "putExpr", "(LDrivenRuns$Expr;)V"⟩
abbrev cX10_closeThings : ByteArray := prog_12_method_7_code
def yX10_closeThings : MethodName := ⟨RX10, "closeThings", "(I)I"⟩
abbrev cX10_putLeft : ByteArray := prog_12_method_8_code
def yX10_putLeft : MethodName := ⟨RX10, "putLeft", "(LDrivenRuns$Clause;)V"⟩
abbrev cX10_putVars : ByteArray := prog_12_method_9_code
def yX10_putVars : MethodName := ⟨RX10, "putVars", "(LDrivenRuns$Clause;II)V"⟩
abbrev cX10_putThing : ByteArray := prog_12_method_10_code
def yX10_putThing : MethodName := ⟨RX10, "putThing", "(I)V"⟩
abbrev cX10_putName : ByteArray := prog_12_method_11_code
def yX10_putName : MethodName := ⟨RX10, "putName", "(II)V"⟩
def RX11 : String := "DrivenRuns"
def TX11 : u_T := fun k => match k with
  | 0 => ("DrivenRuns", "reader", "LDrivenRuns$Reader;", true)
  | 1 => ("DrivenRuns", "writer", "LDrivenRuns$Writer;", true)
  | 2 => ("DrivenRuns", "matcher", "LDrivenRuns$Matcher;", true)
  | 3 => ("DrivenRuns", "runner", "LDrivenRuns$Runner;", true)
  | 4 => ("DrivenRuns", "tree", "LDrivenRuns$Tree;", true)
  | 5 => ("DrivenRuns", "residue", "LDrivenRuns$Residue;", true)
  | 6 => ("DrivenRuns", "expressions", "[LDrivenRuns$Expr;", true)
  | 7 => ("DrivenRuns", "goal", "LDrivenRuns$Expr;", true)
  | 8 => ("DrivenRuns", "newGoal", "LDrivenRuns$Expr;", true)
  | 9 => ("DrivenRuns", "scratch", "LDrivenRuns$Expr;", true)
  | 10 => ("DrivenRuns", "program", "LDrivenRuns$Program;", false)
  | 11 => ("DrivenRuns", "newProgram", "LDrivenRuns$Program;", false)
  | 12 => ("DrivenRuns", "spareProgram", "LDrivenRuns$Program;", false)
  | 13 => ("DrivenRuns", "bound", "LDrivenRuns$Bound;", false)
  | 14 => ("DrivenRuns", "spareBound", "LDrivenRuns$Bound;", false)
  | 15 => ("DrivenRuns", "driven", "Z", false)
  | _ => ("DrivenRuns", "fault", "I", false)
def tyX11 : Nat → FieldType := fun k => match k with
  | 0 => .object "DrivenRuns$Reader"
  | 1 => .object "DrivenRuns$Writer"
  | 2 => .object "DrivenRuns$Matcher"
  | 3 => .object "DrivenRuns$Runner"
  | 4 => .object "DrivenRuns$Tree"
  | 5 => .object "DrivenRuns$Residue"
  | 6 => .array (.object "DrivenRuns$Expr")
  | 7 => .object "DrivenRuns$Expr"
  | 8 => .object "DrivenRuns$Expr"
  | 9 => .object "DrivenRuns$Expr"
  | 10 => .object "DrivenRuns$Program"
  | 11 => .object "DrivenRuns$Program"
  | 12 => .object "DrivenRuns$Program"
  | 13 => .object "DrivenRuns$Bound"
  | 14 => .object "DrivenRuns$Bound"
  | 15 => .boolean
  | _ => .int
abbrev wsX110 : List Cond := u_ws RX11 TX11 17
theorem nmX11 : ∀ a, a < 17 → ∀ b, b < 17 → a ≠ b → (TX11 a).2.1 ≠ (TX11 b).2.1 := by decide +kernel
theorem tyX11_ok : ∀ k, k < 17 → parseFieldDescriptor (TX11 k).2.2.1 = some (tyX11 k) := by decide +kernel
abbrev cX11_init : ByteArray := prog_1_method_1_code
def yX11_init : MethodName := ⟨RX11, "<init>", "()V"⟩
abbrev cX11_feed : ByteArray := prog_1_method_2_code
def yX11_feed : MethodName := ⟨RX11, "feed", "(IIIII)I"⟩
abbrev cX11_end : ByteArray := prog_1_method_3_code
def yX11_end : MethodName := ⟨RX11, "end", "(I)I"⟩
abbrev cX11_program : ByteArray := prog_1_method_4_code
def yX11_program : MethodName := ⟨RX11, "program", "()I"⟩
abbrev cX11_goal : ByteArray := prog_1_method_5_code
def yX11_goal : MethodName := ⟨RX11, "goal", "()I"⟩
abbrev cX11_bind : ByteArray := prog_1_method_6_code
def yX11_bind : MethodName := ⟨RX11, "bind", "()I"⟩
abbrev cX11_expression : ByteArray := prog_1_method_7_code
def yX11_expression : MethodName := ⟨RX11, "expression", "(I)I"⟩
abbrev cX11_fault : ByteArray := prog_1_method_8_code
def yX11_fault : MethodName := ⟨RX11, "fault", "()I"⟩
abbrev cX11_is : ByteArray := prog_1_method_9_code
def yX11_is : MethodName := ⟨RX11, "is", "(I)I"⟩
abbrev cX11_clause : ByteArray := prog_1_method_10_code
def yX11_clause : MethodName := ⟨RX11, "clause", "(II)I"⟩
abbrev cX11_run : ByteArray := prog_1_method_11_code
def yX11_run : MethodName := ⟨RX11, "run", "(II)I"⟩
abbrev cX11_result : ByteArray := prog_1_method_12_code
def yX11_result : MethodName := ⟨RX11, "result", "(I)I"⟩
abbrev cX11_runOf : ByteArray := prog_1_method_13_code
def yX11_runOf : MethodName := ⟨RX11, "runOf", "(II)I"⟩
abbrev cX11_relation : ByteArray := prog_1_method_14_code
def yX11_relation : MethodName := ⟨RX11, "relation", "(III)I"⟩
abbrev cX11_common : ByteArray := prog_1_method_15_code
def yX11_common : MethodName := ⟨RX11, "common", "(II)I"⟩
abbrev cX11_commonOf : ByteArray := prog_1_method_16_code
def yX11_commonOf : MethodName := ⟨RX11, "commonOf", "(III)I"⟩
abbrev cX11_step : ByteArray := prog_1_method_17_code
def yX11_step : MethodName := ⟨RX11, "step", "(II)I"⟩
abbrev cX11_write : ByteArray := prog_1_method_18_code
def yX11_write : MethodName := ⟨RX11, "write", "(I)I"⟩
abbrev cX11_of : ByteArray := prog_1_method_19_code
def yX11_of : MethodName := ⟨RX11, "of", "(II)I"⟩
abbrev cX11_drive : ByteArray := prog_1_method_20_code
def yX11_drive : MethodName := ⟨RX11, "drive", "()I"⟩
abbrev cX11_tree : ByteArray := prog_1_method_21_code
def yX11_tree : MethodName := ⟨RX11, "tree", "(I)I"⟩
abbrev cX11_node : ByteArray := prog_1_method_22_code
def yX11_node : MethodName := ⟨RX11, "node", "(II)I"⟩
abbrev cX11_writeNode : ByteArray := prog_1_method_23_code
def yX11_writeNode : MethodName := ⟨RX11, "writeNode", "(I)I"⟩
abbrev cX11_ranked : ByteArray := prog_1_method_24_code
def yX11_ranked : MethodName := ⟨RX11, "ranked", "(II)I"⟩
abbrev cX11_text : ByteArray := prog_1_method_25_code
def yX11_text : MethodName := ⟨RX11, "text", "(I)I"⟩
abbrev cX11_octet : ByteArray := prog_1_method_26_code
def yX11_octet : MethodName := ⟨RX11, "octet", "(I)I"⟩
abbrev cX11_take : ByteArray := prog_1_method_27_code
def yX11_take : MethodName := ⟨RX11, "take", "()I"⟩
abbrev cX11_saved : ByteArray := prog_1_method_28_code
def yX11_saved : MethodName := ⟨RX11, "saved", "()I"⟩
abbrev cX11_deepest : ByteArray := prog_1_method_29_code
def yX11_deepest : MethodName := ⟨RX11, "deepest", "()I"⟩
abbrev cX11_isExpression : ByteArray := prog_1_method_30_code
def yX11_isExpression : MethodName := ⟨RX11, "isExpression", "(I)Z"⟩
abbrev cX11_emptyTape : ByteArray := prog_1_method_31_code
def yX11_emptyTape : MethodName := ⟨RX11, "emptyTape", "(Z)Z"⟩
abbrev cX11_runGoal : ByteArray := prog_1_method_32_code
def yX11_runGoal : MethodName := ⟨RX11, "runGoal", "(I)Z"⟩
abbrev cX11_writeExpr : ByteArray := prog_1_method_33_code
def yX11_writeExpr : MethodName := ⟨RX11, "writeExpr", "(LDrivenRuns$Expr;)I"⟩
def RX12 : String := "DrivenRunsModel"
def TX12 : u_T := fun k => match k with
  | 0 => ("DrivenRunsModel", "tape", "[B", true)
  | 1 => ("DrivenRunsModel", "taped", "I", false)
  | 2 => ("DrivenRunsModel", "at", "I", false)
  | 3 => ("DrivenRunsModel", "faultPlace", "I", false)
  | 4 => ("DrivenRunsModel", "open", "[I", true)
  | 5 => ("DrivenRunsModel", "had", "[I", true)
  | 6 => ("DrivenRunsModel", "read", "[I", true)
  | 7 => ("DrivenRunsModel", "readLong", "I", false)
  | 8 => ("DrivenRunsModel", "opened", "I", false)
  | 9 => ("DrivenRunsModel", "isRight", "Z", false)
  | 10 => ("DrivenRunsModel", "isPlain", "Z", false)
  | 11 => ("DrivenRunsModel", "function", "[I", true)
  | 12 => ("DrivenRunsModel", "caseOf", "[I", true)
  | 13 => ("DrivenRunsModel", "leftMany", "[I", true)
  | 14 => ("DrivenRunsModel", "left", "[I", true)
  | 15 => ("DrivenRunsModel", "rightLong", "[I", true)
  | 16 => ("DrivenRunsModel", "rights", "[I", true)
  | 17 => ("DrivenRunsModel", "clauses", "[I", true)
  | 18 => ("DrivenRunsModel", "leftNow", "[I", true)
  | 19 => ("DrivenRunsModel", "leftNowMany", "I", false)
  | 20 => ("DrivenRunsModel", "newCase", "I", false)
  | 21 => ("DrivenRunsModel", "newMany", "I", false)
  | 22 => ("DrivenRunsModel", "newFunction", "[I", true)
  | 23 => ("DrivenRunsModel", "newCases", "[I", true)
  | 24 => ("DrivenRunsModel", "newLeftMany", "[I", true)
  | 25 => ("DrivenRunsModel", "newLeft", "[I", true)
  | 26 => ("DrivenRunsModel", "newLong", "[I", true)
  | 27 => ("DrivenRunsModel", "newRights", "[I", true)
  | 28 => ("DrivenRunsModel", "newClauses", "I", false)
  | 29 => ("DrivenRunsModel", "goal", "[I", true)
  | 30 => ("DrivenRunsModel", "bound", "[I", true)
  | 31 => ("DrivenRunsModel", "boundAt", "[I", true)
  | 32 => ("DrivenRunsModel", "bounds", "[I", true)
  | 33 => ("DrivenRunsModel", "told", "[I", true)
  | 34 => ("DrivenRunsModel", "toldLong", "[I", true)
  | 35 => ("DrivenRunsModel", "goalLong", "I", false)
  | 36 => ("DrivenRunsModel", "boundMany", "I", false)
  | 37 => ("DrivenRunsModel", "newBound", "[I", true)
  | 38 => ("DrivenRunsModel", "newBoundAt", "[I", true)
  | 39 => ("DrivenRunsModel", "newBounds", "[I", true)
  | 40 => ("DrivenRunsModel", "newBoundMany", "I", false)
  | 41 => ("DrivenRunsModel", "newBoundsLong", "I", false)
  | 42 => ("DrivenRunsModel", "order", "[I", true)
  | 43 => ("DrivenRunsModel", "ordered", "I", false)
  | 44 => ("DrivenRunsModel", "now", "[I", true)
  | 45 => ("DrivenRunsModel", "then", "[I", true)
  | 46 => ("DrivenRunsModel", "nowLong", "I", false)
  | 47 => ("DrivenRunsModel", "next", "I", false)
  | 48 => ("DrivenRunsModel", "deepHere", "I", false)
  | 49 => ("DrivenRunsModel", "clauseHere", "I", false)
  | 50 => ("DrivenRunsModel", "argAt", "[I", true)
  | 51 => ("DrivenRunsModel", "ran", "[I", true)
  | 52 => ("DrivenRunsModel", "deepest", "I", false)
  | 53 => ("DrivenRunsModel", "pairName", "[I", true)
  | 54 => ("DrivenRunsModel", "pairAt", "[I", true)
  | 55 => ("DrivenRunsModel", "pairBt", "[I", true)
  | 56 => ("DrivenRunsModel", "pairs", "I", false)
  | 57 => ("DrivenRunsModel", "embedded", "[Z", true)
  | 58 => ("DrivenRunsModel", "form", "[I", true)
  | 59 => ("DrivenRunsModel", "formLong", "I", false)
  | 60 => ("DrivenRunsModel", "written", "[B", true)
  | 61 => ("DrivenRunsModel", "writtenLong", "I", false)
  | 62 => ("DrivenRunsModel", "still", "[I", true)
  | 63 => ("DrivenRunsModel", "rows", "[I", true)
  | 64 => ("DrivenRunsModel", "rowLong", "[I", true)
  | 65 => ("DrivenRunsModel", "above", "[I", true)
  | 66 => ("DrivenRunsModel", "which", "[I", true)
  | 67 => ("DrivenRunsModel", "kids", "[I", true)
  | 68 => ("DrivenRunsModel", "firstKid", "[I", true)
  | 69 => ("DrivenRunsModel", "kind", "[I", true)
  | 70 => ("DrivenRunsModel", "foldTo", "[I", true)
  | 71 => ("DrivenRunsModel", "blockedBy", "[I", true)
  | 72 => ("DrivenRunsModel", "made", "I", false)
  | 73 => ("DrivenRunsModel", "looked", "I", false)
  | 74 => ("DrivenRunsModel", "turned", "I", false)
  | 75 => ("DrivenRunsModel", "fresh", "I", false)
  | 76 => ("DrivenRunsModel", "broken", "I", false)
  | 77 => ("DrivenRunsModel", "isTree", "Z", false)
  | 78 => ("DrivenRunsModel", "work", "[I", true)
  | 79 => ("DrivenRunsModel", "split", "[I", true)
  | 80 => ("DrivenRunsModel", "byNumber", "[I", true)
  | 81 => ("DrivenRunsModel", "numberOf", "[I", true)
  | 82 => ("DrivenRunsModel", "depthOf", "[I", true)
  | 83 => ("DrivenRunsModel", "functionOf", "[I", true)
  | 84 => ("DrivenRunsModel", "numbered", "I", false)
  | 85 => ("DrivenRunsModel", "functions", "I", false)
  | 86 => ("DrivenRunsModel", "comes", "[I", true)
  | 87 => ("DrivenRunsModel", "comesLong", "[I", true)
  | 88 => ("DrivenRunsModel", "newGoal", "[I", true)
  | 89 => ("DrivenRunsModel", "sides", "[I", true)
  | 90 => ("DrivenRunsModel", "newGoalLong", "I", false)
  | 91 => ("DrivenRunsModel", "sideMany", "I", false)
  | _ => ("DrivenRunsModel", "freshAt", "[I", true)
def tyX12 : Nat → FieldType := fun k => match k with
  | 0 => .array .byte
  | 1 => .int
  | 2 => .int
  | 3 => .int
  | 4 => .array .int
  | 5 => .array .int
  | 6 => .array .int
  | 7 => .int
  | 8 => .int
  | 9 => .boolean
  | 10 => .boolean
  | 11 => .array .int
  | 12 => .array .int
  | 13 => .array .int
  | 14 => .array .int
  | 15 => .array .int
  | 16 => .array .int
  | 17 => .array .int
  | 18 => .array .int
  | 19 => .int
  | 20 => .int
  | 21 => .int
  | 22 => .array .int
  | 23 => .array .int
  | 24 => .array .int
  | 25 => .array .int
  | 26 => .array .int
  | 27 => .array .int
  | 28 => .int
  | 29 => .array .int
  | 30 => .array .int
  | 31 => .array .int
  | 32 => .array .int
  | 33 => .array .int
  | 34 => .array .int
  | 35 => .int
  | 36 => .int
  | 37 => .array .int
  | 38 => .array .int
  | 39 => .array .int
  | 40 => .int
  | 41 => .int
  | 42 => .array .int
  | 43 => .int
  | 44 => .array .int
  | 45 => .array .int
  | 46 => .int
  | 47 => .int
  | 48 => .int
  | 49 => .int
  | 50 => .array .int
  | 51 => .array .int
  | 52 => .int
  | 53 => .array .int
  | 54 => .array .int
  | 55 => .array .int
  | 56 => .int
  | 57 => .array .boolean
  | 58 => .array .int
  | 59 => .int
  | 60 => .array .byte
  | 61 => .int
  | 62 => .array .int
  | 63 => .array .int
  | 64 => .array .int
  | 65 => .array .int
  | 66 => .array .int
  | 67 => .array .int
  | 68 => .array .int
  | 69 => .array .int
  | 70 => .array .int
  | 71 => .array .int
  | 72 => .int
  | 73 => .int
  | 74 => .int
  | 75 => .int
  | 76 => .int
  | 77 => .boolean
  | 78 => .array .int
  | 79 => .array .int
  | 80 => .array .int
  | 81 => .array .int
  | 82 => .array .int
  | 83 => .array .int
  | 84 => .int
  | 85 => .int
  | 86 => .array .int
  | 87 => .array .int
  | 88 => .array .int
  | 89 => .array .int
  | 90 => .int
  | 91 => .int
  | _ => .array .int
abbrev wsX120 : List Cond := u_ws RX12 TX12 93
theorem nmX12 : ∀ a, a < 93 → ∀ b, b < 93 → a ≠ b → (TX12 a).2.1 ≠ (TX12 b).2.1 := by decide +kernel
theorem tyX12_ok : ∀ k, k < 93 → parseFieldDescriptor (TX12 k).2.2.1 = some (tyX12 k) := by decide +kernel
abbrev cX12_thing : ByteArray := prog_14_method_1_code
def yX12_thing : MethodName := ⟨RX12, "thing", "(III)I"⟩
abbrev cX12_sortOf : ByteArray := prog_14_method_2_code
def yX12_sortOf : MethodName := ⟨RX12, "sortOf", "(I)I"⟩
abbrev cX12_manyOf : ByteArray := prog_14_method_3_code
def yX12_manyOf : MethodName := ⟨RX12, "manyOf", "(I)I"⟩
abbrev cX12_nameOf : ByteArray := prog_14_method_4_code
def yX12_nameOf : MethodName := ⟨RX12, "nameOf", "(I)I"⟩
abbrev cX12_isIn : ByteArray := prog_14_method_5_code
def yX12_isIn : MethodName := ⟨RX12, "isIn", "(III)Z"⟩
abbrev cX12_behind : ByteArray := prog_14_method_6_code
def yX12_behind : MethodName := ⟨RX12, "behind", "([II)I"⟩
abbrev cX12_argument : ByteArray := prog_14_method_7_code
def yX12_argument : MethodName := ⟨RX12, "argument", "([III)I"⟩
abbrev cX12_isDone : ByteArray := prog_14_method_8_code
def yX12_isDone : MethodName := ⟨RX12, "isDone", "([II)Z"⟩
abbrev cX12_areLike : ByteArray := prog_14_method_9_code
def yX12_areLike : MethodName := ⟨RX12, "areLike", "([II[II)Z"⟩
abbrev cX12_copy : ByteArray := prog_14_method_10_code
def yX12_copy : MethodName := ⟨RX12, "copy", "([III[II)V"⟩
abbrev cX12_four : ByteArray := prog_14_method_11_code
def yX12_four : MethodName := ⟨RX12, "four", "(I)V"⟩
abbrev cX12_feed : ByteArray := prog_14_method_12_code
def yX12_feed : MethodName := ⟨RX12, "feed", "(IIIII)I"⟩
abbrev cX12_end : ByteArray := prog_14_method_13_code
def yX12_end : MethodName := ⟨RX12, "end", "(I)I"⟩
abbrev cX12_here : ByteArray := prog_14_method_14_code
def yX12_here : MethodName := ⟨RX12, "here", "()I"⟩
abbrev cX12_isFigure : ByteArray := prog_14_method_15_code
def yX12_isFigure : MethodName := ⟨RX12, "isFigure", "(I)Z"⟩
abbrev cX12_isVarLetter : ByteArray := prog_14_method_16_code
def yX12_isVarLetter : MethodName := ⟨RX12, "isVarLetter", "(I)Z"⟩
abbrev cX12_isFunctionLetter : ByteArray := prog_14_method_17_code
def yX12_isFunctionLetter : MethodName := ⟨RX12, "isFunctionLetter", "(I)Z"⟩
abbrev cX12_isConLetter : ByteArray := prog_14_method_18_code
def yX12_isConLetter : MethodName := ⟨RX12, "isConLetter", "(I)Z"⟩
abbrev cX12_fails : ByteArray := prog_14_method_19_code
def yX12_fails : MethodName := ⟨RX12, "fails", "(I)Z"⟩
abbrev cX12_takes : ByteArray := prog_14_method_20_code
def yX12_takes : MethodName := ⟨RX12, "takes", "(I)Z"⟩
abbrev cX12_readName : ByteArray := prog_14_method_21_code
def yX12_readName : MethodName := ⟨RX12, "readName", "()I"⟩
abbrev cX12_mayVar : ByteArray := prog_14_method_22_code
def yX12_mayVar : MethodName := ⟨RX12, "mayVar", "(I)Z"⟩
abbrev cX12_readExpression : ByteArray := prog_14_method_23_code
def yX12_readExpression : MethodName := ⟨RX12, "readExpression", "()Z"⟩
abbrev cX12_readThing : ByteArray := prog_14_method_24_code
def yX12_readThing : MethodName := ⟨RX12, "readThing", "()Z"⟩
abbrev cX12_hasMore : ByteArray := prog_14_method_25_code
def yX12_hasMore : MethodName := ⟨RX12, "hasMore", "()Z"⟩
abbrev cX12_leftPlace : ByteArray := prog_14_method_26_code
def yX12_leftPlace : MethodName := ⟨RX12, "leftPlace", "(I)I"⟩
abbrev cX12_readLeftVar : ByteArray := prog_14_method_27_code
def yX12_readLeftVar : MethodName := ⟨RX12, "readLeftVar", "()Z"⟩
abbrev cX12_readVars : ByteArray := prog_14_method_28_code
def yX12_readVars : MethodName := ⟨RX12, "readVars", "(II)I"⟩
abbrev cX12_readPatterns : ByteArray := prog_14_method_29_code
def yX12_readPatterns : MethodName := ⟨RX12, "readPatterns", "()Z"⟩
abbrev cX12_isFree : ByteArray := prog_14_method_30_code
def yX12_isFree : MethodName := ⟨RX12, "isFree", "(I)Z"⟩
abbrev cX12_readClause : ByteArray := prog_14_method_31_code
def yX12_readClause : MethodName := ⟨RX12, "readClause", "()Z"⟩
abbrev cX12_readProgram : ByteArray := prog_14_method_32_code
def yX12_readProgram : MethodName := ⟨RX12, "readProgram", "()Z"⟩
abbrev cX12_beginText : ByteArray := prog_14_method_33_code
def yX12_beginText : MethodName := ⟨RX12, "beginText", "(Z)V"⟩
abbrev cX12_program : ByteArray := prog_14_method_34_code
def yX12_program : MethodName := ⟨RX12, "program", "()I"⟩
abbrev cX12_readWhole : ByteArray := prog_14_method_35_code
def yX12_readWhole : MethodName := ⟨RX12, "readWhole", "()Z"⟩
abbrev cX12_init : ByteArray := prog_14_method_36_code
def yX12_init : MethodName := ⟨RX12, "<init>", "()V"⟩
abbrev cX12_goal : ByteArray := prog_14_method_37_code
def yX12_goal : MethodName := ⟨RX12, "goal", "()I"⟩
abbrev cX12_expression : ByteArray := prog_14_method_38_code
def yX12_expression : MethodName := ⟨RX12, "expression", "(I)I"⟩
abbrev cX12_readBound : ByteArray := prog_14_method_39_code
def yX12_readBound : MethodName := ⟨RX12, "readBound", "()Z"⟩
abbrev cX12_readBounds : ByteArray := prog_14_method_40_code
def yX12_readBounds : MethodName := ⟨RX12, "readBounds", "()Z"⟩
abbrev cX12_bind : ByteArray := prog_14_method_41_code
def yX12_bind : MethodName := ⟨RX12, "bind", "()I"⟩
abbrev cX12_fault : ByteArray := prog_14_method_42_code
def yX12_fault : MethodName := ⟨RX12, "fault", "()I"⟩
abbrev cX12_orderPlace : ByteArray := prog_14_method_43_code
def yX12_orderPlace : MethodName := ⟨RX12, "orderPlace", "(I)I"⟩
abbrev cX12_orderMore : ByteArray := prog_14_method_44_code
def yX12_orderMore : MethodName := ⟨RX12, "orderMore", "([III)V"⟩
abbrev cX12_layOrder : ByteArray := prog_14_method_45_code
def yX12_layOrder : MethodName := ⟨RX12, "layOrder", "([III)I"⟩
abbrev cX12_callsIn : ByteArray := prog_14_method_46_code
def yX12_callsIn : MethodName := ⟨RX12, "callsIn", "([III)I"⟩
abbrev cX12_functionsTold : ByteArray := prog_14_method_47_code
def yX12_functionsTold : MethodName := ⟨RX12, "functionsTold", "(Z)I"⟩
abbrev cX12_is : ByteArray := prog_14_method_48_code
def yX12_is : MethodName := ⟨RX12, "is", "(I)I"⟩
abbrev cX12_clause : ByteArray := prog_14_method_49_code
def yX12_clause : MethodName := ⟨RX12, "clause", "(II)I"⟩
abbrev cX12_toldAs : ByteArray := prog_14_method_50_code
def yX12_toldAs : MethodName := ⟨RX12, "toldAs", "(II)I"⟩
abbrev cX12_clauseOf : ByteArray := prog_14_method_51_code
def yX12_clauseOf : MethodName := ⟨RX12, "clauseOf", "(III)I"⟩
abbrev cX12_firstOpen : ByteArray := prog_14_method_52_code
def yX12_firstOpen : MethodName := ⟨RX12, "firstOpen", "([II)I"⟩
abbrev cX12_look : ByteArray := prog_14_method_53_code
def yX12_look : MethodName := ⟨RX12, "look", "(I[I)I"⟩
abbrev cX12_lookCall : ByteArray := prog_14_method_54_code
def yX12_lookCall : MethodName := ⟨RX12, "lookCall", "(I[I)I"⟩
abbrev cX12_layArguments : ByteArray := prog_14_method_55_code
def yX12_layArguments : MethodName := ⟨RX12, "layArguments", "([III)V"⟩
abbrev cX12_leftOf : ByteArray := prog_14_method_56_code
def yX12_leftOf : MethodName := ⟨RX12, "leftOf", "(II)I"⟩
abbrev cX12_stepOf : ByteArray := prog_14_method_57_code
def yX12_stepOf : MethodName := ⟨RX12, "stepOf", "([II[I)I"⟩
abbrev cX12_stepLong : ByteArray := prog_14_method_58_code
def yX12_stepLong : MethodName := ⟨RX12, "stepLong", "([II)I"⟩
abbrev cX12_layBound : ByteArray := prog_14_method_59_code
def yX12_layBound : MethodName := ⟨RX12, "layBound", "([III[I)I"⟩
abbrev cX12_boundPlace : ByteArray := prog_14_method_60_code
def yX12_boundPlace : MethodName := ⟨RX12, "boundPlace", "(I)I"⟩
abbrev cX12_runNow : ByteArray := prog_14_method_61_code
def yX12_runNow : MethodName := ⟨RX12, "runNow", "(I[III)V"⟩
abbrev cX12_isRun : ByteArray := prog_14_method_62_code
def yX12_isRun : MethodName := ⟨RX12, "isRun", "(I)Z"⟩
abbrev cX12_runGoal : ByteArray := prog_14_method_63_code
def yX12_runGoal : MethodName := ⟨RX12, "runGoal", "(I)V"⟩
abbrev cX12_run : ByteArray := prog_14_method_64_code
def yX12_run : MethodName := ⟨RX12, "run", "(II)I"⟩
abbrev cX12_result : ByteArray := prog_14_method_65_code
def yX12_result : MethodName := ⟨RX12, "result", "(I)I"⟩
abbrev cX12_isTold : ByteArray := prog_14_method_66_code
def yX12_isTold : MethodName := ⟨RX12, "isTold", "(I)Z"⟩
abbrev cX12_runOf : ByteArray := prog_14_method_67_code
def yX12_runOf : MethodName := ⟨RX12, "runOf", "(II)I"⟩
abbrev cX12_step : ByteArray := prog_14_method_68_code
def yX12_step : MethodName := ⟨RX12, "step", "(II)I"⟩
abbrev cX12_saved : ByteArray := prog_14_method_69_code
def yX12_saved : MethodName := ⟨RX12, "saved", "()I"⟩
abbrev cX12_deepest : ByteArray := prog_14_method_70_code
def yX12_deepest : MethodName := ⟨RX12, "deepest", "()I"⟩
abbrev cX12_isInstance : ByteArray := prog_14_method_71_code
def yX12_isInstance : MethodName := ⟨RX12, "isInstance", "([II[II)Z"⟩
abbrev cX12_isRenaming : ByteArray := prog_14_method_72_code
def yX12_isRenaming : MethodName := ⟨RX12, "isRenaming", "([II[II)Z"⟩
abbrev cX12_coupledAt : ByteArray := prog_14_method_73_code
def yX12_coupledAt : MethodName := ⟨RX12, "coupledAt", "([III[III)Z"⟩
abbrev cX12_layEmbedded : ByteArray := prog_14_method_74_code
def yX12_layEmbedded : MethodName := ⟨RX12, "layEmbedded", "([II[II)V"⟩
abbrev cX12_isCoupled : ByteArray := prog_14_method_75_code
def yX12_isCoupled : MethodName := ⟨RX12, "isCoupled", "([II[II)Z"⟩
abbrev cX12_layCommon : ByteArray := prog_14_method_76_code
def yX12_layCommon : MethodName := ⟨RX12, "layCommon", "([II[III)V"⟩
abbrev cX12_pairOf : ByteArray := prog_14_method_77_code
def yX12_pairOf : MethodName := ⟨RX12, "pairOf", "([II[II)I"⟩
abbrev cX12_isSameAt : ByteArray := prog_14_method_78_code
def yX12_isSameAt : MethodName := ⟨RX12, "isSameAt", "([III)Z"⟩
abbrev cX12_relation : ByteArray := prog_14_method_79_code
def yX12_relation : MethodName := ⟨RX12, "relation", "(III)I"⟩
abbrev cX12_common : ByteArray := prog_14_method_80_code
def yX12_common : MethodName := ⟨RX12, "common", "(II)I"⟩
abbrev cX12_commonOf : ByteArray := prog_14_method_81_code
def yX12_commonOf : MethodName := ⟨RX12, "commonOf", "(III)I"⟩
abbrev cX12_beginWriting : ByteArray := prog_14_method_82_code
def yX12_beginWriting : MethodName := ⟨RX12, "beginWriting", "()V"⟩
abbrev cX12_put : ByteArray := prog_14_method_83_code
def yX12_put : MethodName := ⟨RX12, "put", "(I)V"⟩
abbrev cX12_putNumber : ByteArray := prog_14_method_84_code
def yX12_putNumber : MethodName := ⟨RX12, "putNumber", "(I)V"⟩
abbrev cX12_putName : ByteArray := prog_14_method_85_code
def yX12_putName : MethodName := ⟨RX12, "putName", "(I)V"⟩
abbrev cX12_putVar : ByteArray := prog_14_method_86_code
def yX12_putVar : MethodName := ⟨RX12, "putVar", "(IZ)V"⟩
abbrev cX12_writeRow : ByteArray := prog_14_method_87_code
def yX12_writeRow : MethodName := ⟨RX12, "writeRow", "([IIIZ)V"⟩
abbrev cX12_writeThings : ByteArray := prog_14_method_88_code
def yX12_writeThings : MethodName := ⟨RX12, "writeThings", "([IIIZ)V"⟩
abbrev cX12_closeAll : ByteArray := prog_14_method_89_code
def yX12_closeAll : MethodName := ⟨RX12, "closeAll", "(I)I"⟩
abbrev cX12_write : ByteArray := prog_14_method_90_code
def yX12_write : MethodName := ⟨RX12, "write", "(I)I"⟩
abbrev cX12_octet : ByteArray := prog_14_method_91_code
def yX12_octet : MethodName := ⟨RX12, "octet", "(I)I"⟩
abbrev cX12_deepIn : ByteArray := prog_14_method_92_code
def yX12_deepIn : MethodName := ⟨RX12, "deepIn", "([III)I"⟩
abbrev cX12_of : ByteArray := prog_14_method_93_code
def yX12_of : MethodName := ⟨RX12, "of", "(II)I"⟩
abbrev cX12_make : ByteArray := prog_14_method_94_code
def yX12_make : MethodName := ⟨RX12, "make", "([IIIII)Z"⟩
abbrev cX12_breaks : ByteArray := prog_14_method_95_code
def yX12_breaks : MethodName := ⟨RX12, "breaks", "(I)Z"⟩
abbrev cX12_makeBelow : ByteArray := prog_14_method_96_code
def yX12_makeBelow : MethodName := ⟨RX12, "makeBelow", "(I[III)Z"⟩
abbrev cX12_nextNode : ByteArray := prog_14_method_97_code
def yX12_nextNode : MethodName := ⟨RX12, "nextNode", "(I)I"⟩
abbrev cX12_firstNew : ByteArray := prog_14_method_98_code
def yX12_firstNew : MethodName := ⟨RX12, "firstNew", "()I"⟩
abbrev cX12_nearest : ByteArray := prog_14_method_99_code
def yX12_nearest : MethodName := ⟨RX12, "nearest", "(IIZ)I"⟩
abbrev cX12_lookAt : ByteArray := prog_14_method_100_code
def yX12_lookAt : MethodName := ⟨RX12, "lookAt", "(I)V"⟩
abbrev cX12_lookBelow : ByteArray := prog_14_method_101_code
def yX12_lookBelow : MethodName := ⟨RX12, "lookBelow", "(II)V"⟩
abbrev cX12_letBelow : ByteArray := prog_14_method_102_code
def yX12_letBelow : MethodName := ⟨RX12, "letBelow", "(II)V"⟩
abbrev cX12_turnUp : ByteArray := prog_14_method_103_code
def yX12_turnUp : MethodName := ⟨RX12, "turnUp", "(II)V"⟩
abbrev cX12_goBelow : ByteArray := prog_14_method_104_code
def yX12_goBelow : MethodName := ⟨RX12, "goBelow", "(II)V"⟩
abbrev cX12_stepBelow : ByteArray := prog_14_method_105_code
def yX12_stepBelow : MethodName := ⟨RX12, "stepBelow", "(I[II)Z"⟩
abbrev cX12_splitBelow : ByteArray := prog_14_method_106_code
def yX12_splitBelow : MethodName := ⟨RX12, "splitBelow", "(II)Z"⟩
abbrev cX12_driveTree : ByteArray := prog_14_method_107_code
def yX12_driveTree : MethodName := ⟨RX12, "driveTree", "()V"⟩
abbrev cX12_drive : ByteArray := prog_14_method_108_code
def yX12_drive : MethodName := ⟨RX12, "drive", "()I"⟩
abbrev cX12_isFoldedTo : ByteArray := prog_14_method_109_code
def yX12_isFoldedTo : MethodName := ⟨RX12, "isFoldedTo", "(I)Z"⟩
abbrev cX12_number : ByteArray := prog_14_method_110_code
def yX12_number : MethodName := ⟨RX12, "number", "()V"⟩
abbrev cX12_laySides : ByteArray := prog_14_method_111_code
def yX12_laySides : MethodName := ⟨RX12, "laySides", "(I)V"⟩
abbrev cX12_clausesOf : ByteArray := prog_14_method_112_code
def yX12_clausesOf : MethodName := ⟨RX12, "clausesOf", "(I)I"⟩
abbrev cX12_layResidue : ByteArray := prog_14_method_113_code
def yX12_layResidue : MethodName := ⟨RX12, "layResidue", "()V"⟩
abbrev cX12_nameOfFunction : ByteArray := prog_14_method_114_code
def yX12_nameOfFunction : MethodName := ⟨RX12, "nameOfFunction", "(I)I"⟩
abbrev cX12_layCall : ByteArray := prog_14_method_115_code
def yX12_layCall : MethodName := ⟨RX12, "layCall", "(II)V"⟩
abbrev cX12_layComes : ByteArray := prog_14_method_116_code
def yX12_layComes : MethodName := ⟨RX12, "layComes", "(I)V"⟩
abbrev cX12_comesMore : ByteArray := prog_14_method_117_code
def yX12_comesMore : MethodName := ⟨RX12, "comesMore", "(II)V"⟩
abbrev cX12_layLet : ByteArray := prog_14_method_118_code
def yX12_layLet : MethodName := ⟨RX12, "layLet", "(I)V"⟩
abbrev cX12_comesOne : ByteArray := prog_14_method_119_code
def yX12_comesOne : MethodName := ⟨RX12, "comesOne", "(II)V"⟩
abbrev cX12_layClauses : ByteArray := prog_14_method_120_code
def yX12_layClauses : MethodName := ⟨RX12, "layClauses", "(I)V"⟩
abbrev cX12_varAt : ByteArray := prog_14_method_121_code
def yX12_varAt : MethodName := ⟨RX12, "varAt", "(I)I"⟩
abbrev cX12_conBelow : ByteArray := prog_14_method_122_code
def yX12_conBelow : MethodName := ⟨RX12, "conBelow", "(II)I"⟩
abbrev cX12_countKind : ByteArray := prog_14_method_123_code
def yX12_countKind : MethodName := ⟨RX12, "countKind", "(I)I"⟩
abbrev cX12_greatest : ByteArray := prog_14_method_124_code
def yX12_greatest : MethodName := ⟨RX12, "greatest", "(Z)I"⟩
abbrev cX12_tree : ByteArray := prog_14_method_125_code
def yX12_tree : MethodName := ⟨RX12, "tree", "(I)I"⟩
abbrev cX12_isNumber : ByteArray := prog_14_method_126_code
def yX12_isNumber : MethodName := ⟨RX12, "isNumber", "(I)Z"⟩
abbrev cX12_varsOf : ByteArray := prog_14_method_127_code
def yX12_varsOf : MethodName := ⟨RX12, "varsOf", "(I)I"⟩
abbrev cX12_node : ByteArray := prog_14_method_128_code
def yX12_node : MethodName := ⟨RX12, "node", "(II)I"⟩
abbrev cX12_writeNode : ByteArray := prog_14_method_129_code
def yX12_writeNode : MethodName := ⟨RX12, "writeNode", "(I)I"⟩
abbrev cX12_rankOf : ByteArray := prog_14_method_130_code
def yX12_rankOf : MethodName := ⟨RX12, "rankOf", "(II)I"⟩
abbrev cX12_ranked : ByteArray := prog_14_method_131_code
def yX12_ranked : MethodName := ⟨RX12, "ranked", "(II)I"⟩
abbrev cX12_writeLeft : ByteArray := prog_14_method_132_code
def yX12_writeLeft : MethodName := ⟨RX12, "writeLeft", "(I)V"⟩
abbrev cX12_writeProgram : ByteArray := prog_14_method_133_code
def yX12_writeProgram : MethodName := ⟨RX12, "writeProgram", "(I)V"⟩
abbrev cX12_text : ByteArray := prog_14_method_134_code
def yX12_text : MethodName := ⟨RX12, "text", "(I)I"⟩
abbrev cX12_take : ByteArray := prog_14_method_135_code
def yX12_take : MethodName := ⟨RX12, "take", "()I"⟩
def RJ9 : String := "java/lang/Math"
def TJ9 : u_T := fun k => match k with
  | _ => ("", "", "", false)
def tyJ9 : Nat → FieldType := fun k => match k with
  | _ => .int
abbrev wsJ90 : List Cond := u_ws RJ9 TJ9 0
theorem nmJ9 : ∀ a, a < 0 → ∀ b, b < 0 → a ≠ b → (TJ9 a).2.1 ≠ (TJ9 b).2.1 := by decide +kernel
theorem tyJ9_ok : ∀ k, k < 0 → parseFieldDescriptor (TJ9 k).2.2.1 = some (tyJ9 k) := by decide +kernel
abbrev cJ9_max_7cf53 : ByteArray := prog_15_method_65_code
def yJ9_max_7cf53 : MethodName := ⟨RJ9, "max", "(II)I"⟩
abbrev cJ9_min_7cf53 : ByteArray := prog_15_method_69_code
def yJ9_min_7cf53 : MethodName := ⟨RJ9, "min", "(II)I"⟩
def RJ10 : String := "java/lang/System"
def TJ10 : u_T := fun k => match k with
  | _ => ("", "", "", false)
def tyJ10 : Nat → FieldType := fun k => match k with
  | _ => .int
abbrev wsJ100 : List Cond := u_ws RJ10 TJ10 0
theorem nmJ10 : ∀ a, a < 0 → ∀ b, b < 0 → a ≠ b → (TJ10 a).2.1 ≠ (TJ10 b).2.1 := by decide +kernel
theorem tyJ10_ok : ∀ k, k < 0 → parseFieldDescriptor (TJ10 k).2.2.1 = some (tyJ10 k) := by decide +kernel
def RL : String := "DrivenRunsLaw"
abbrev cL_law : ByteArray := code
def yL_law : MethodName := ⟨RL, "law", "([I)Z"⟩
abbrev vwCl : List vw_C := [(RX0, TX0, 4), (RX1, TX1, 5), (RX2, TX2, 2), (RX3, TX3, 11), (RX4, TX4, 19), (RX5, TX5, 2), (RX6, TX6, 8), (RX7, TX7, 4), (RX8, TX8, 10), (RX9, TX9, 14), (RX10, TX10, 3), (RX11, TX11, 17), (RX12, TX12, 93)]
